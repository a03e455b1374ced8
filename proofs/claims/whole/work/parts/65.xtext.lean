/-! text of the class: all lines, text() -/
theorem t_dn_tk {D : sp_T} {dt : Nat → Bool} {dv : Nat → Nat} (hk : dkk D dt dv) : tk (t_dn D dt dv) := by
  obtain ⟨⟨h0, h6, h9, h10, hg, hc, hs⟩, _, _, hv⟩ := hk
  refine ⟨h0, h6, h9, h10, fun g hgg => ?_, hc, hs⟩
  have hgg : g < D 0 0 := hgg
  have h := hg g hgg
  refine ⟨h.1, h.2.1, h.2.2.1, h.2.2.2.1, ?_⟩
  show (t_dn D dt dv) 5 g ≤ 20
  unfold t_dn
  rw [tf_eq]
  split
  · rename_i hd
    exact hv g (by omega) hd
  · omega
theorem dkk_0 : dkk t_0 (fun _ => false) (fun _ => 0) := ⟨⟨by decide, by decide, by decide, by decide, fun g hg => absurd hg (Nat.not_lt_zero _), fun c hc => absurd hc (Nat.not_lt_zero _), fun i hi => absurd hi (Nat.not_lt_zero _)⟩, rfl, rfl, fun _ _ h => by cases h⟩
theorem ps_tk {n : Nat} {b : Nat → Nat} (hb : ∀ i, i < n → b i ≤ 127) : ∀ m l p D dt dv l' D', p ≤ n → dkk D dt dv → ps n b m l p D dt dv = .ok (l', D') → tk D' := by
  intro m
  induction m with
  | zero => intro l p D dt dv l' D' _ _ h; cases h
  | succ m ih =>
    intro l p D dt dv l' D' hp hk h
    unfold ps at h
    cases htk : tk1 n b p with
    | error e => rw [htk] at h; cases h
    | ok t =>
      obtain ⟨s, st, pl, v⟩ := t
      rw [htk] at h
      dsimp only at h
      split at h
      · split at h
        · cases h
        · injection h with h; injection h with e1 e2
          subst e2
          exact t_dn_tk hk
      · cases hl : ln1 n b D dt dv s st pl with
        | error e => rw [hl] at h; cases h
        | ok q =>
          obtain ⟨D2, dt2, dv2, p2⟩ := q
          rw [hl] at h
          have ho := ln1_ok hb hp htk hk hl
          exact ih (l + 1) p2 D2 dt2 dv2 l' D' ho.2.1 ho.2.2 h
theorem s_txt_tk {n l : Nat} {b : Nat → Nat} {D : sp_T} (hb : ∀ i, i < n → b i ≤ 127) (h : s_txt n b = .ok (l, D)) : tk D := ps_tk hb _ _ _ _ _ _ _ _ (by omega) dkk_0 h
theorem cx_takeAll {σ : hs_St} {K : Int32 → hs_St → Prop} {n : Nat} {b : Nat → Nat} (hp : xp σ n b) (hn : n ≤ 160) (hb : ∀ i, i < n → b i ≤ 127)
    (hKe : ∀ f a, 1 ≤ f → f ≤ 6 → s_txt n b = .error (f, a) → ∀ r τ, hs_fr SB σ τ → τ.1 21 7 = nI f → τ.1 21 8 = nI a → K r τ)
    (hKo : ∀ l D, s_txt n b = .ok (l, D) → ∀ τ, hs_fr SB σ τ → τ.1 21 7 = nI 0 → xt 22 τ D → K (nI l) τ) : OkI m_X0_takeAll [.ref 21] σ K := by
  have loop : ∀ m l p D dt dv (τ : hs_St), n - p < m → l + m = 161 → p ≤ n → hs_fr SB σ τ → τ.1 21 3 = nI p → τ.1 21 7 = nI 0 → xdr τ D dt dv → dkk D dt dv → (∀ g, g < D 0 0 → D 5 g = 0) → s_txt n b = ps n b m l p D dt dv → RnI m_X0_takeAll 44 [(0, .ref 21), (1, .int (nI l))] [] τ K := by
    intro m
    induction m with
    | zero => intro l p D dt dv τ hm; omega
    | succ m ih =>
      intro l p D dt dv τ hm hlm hpn hf c3 c7 hd hk h5 hs
      have hxp := xp_fr hp hf (by decide) (by decide)
      refine vc_X0_takeAll_44 ⟨fun h => ?_, fun _ => ?_⟩
      · rw [nl_160, ilt (by omega) (by omega)] at h; omega
      · refine cx_nextToken hxp hn hb hpn c3 (fun τ1 hf1 ht => ?_)
        have f1 : hs_fr SB σ τ1 := hf.tr (hf1.up (by decide))
        unfold ps at hs
        cases htk : tk1 n b p with
        | error e =>
          obtain ⟨f, a⟩ := e
          rw [htk] at ht hs
          have h1 := tk1_er hpn htk
          exact ⟨fun h => absurd h Bool.false_ne_true, fun _ => hKe f a (by omega) (by omega) hs _ τ1 f1 ht.1 ht.2⟩
        | ok t =>
          obtain ⟨s, st, pl, v⟩ := t
          rw [htk] at ht hs
          have h0 := tk1_ok hb hpn htk
          dsimp only at hs
          obtain ⟨d4, d5, d3, _, _, d7⟩ := ht
          have d7 : τ1.1 21 7 = nI 0 := d7.trans c7
          have hd1 := hd.f hf1
          refine ⟨fun _ => ?_, fun h => absurd h (fun z : true = false => Bool.noConfusion z)⟩
          rw [d4, nl_0, ieq (by omega) (by omega)]
          refine ⟨fun hs0 => ?_, fun hs0 => ?_⟩
          · rw [if_neg hs0] at hs
            refine cx_takeLine (xp_fr hp f1 (by decide) (by decide)) hn hb hpn htk d4 d5 d3 hd1 hk (fun τ2 hf2 hx2 => ?_)
            have f2 := f1.tr hf2
            cases hl : ln1 n b D dt dv s st pl with
            | error e =>
              obtain ⟨f, a⟩ := e
              rw [hl] at hx2 hs
              have hfe := ln1_er hb hpn htk hk hl
              exact ⟨fun h => absurd h Bool.false_ne_true, fun _ => hKe f a hfe.1 hfe.2.1 hs _ τ2 f2 hx2.1 hx2.2⟩
            | ok q =>
              obtain ⟨D', dt', dv', p'⟩ := q
              rw [hl] at hx2 hs
              have ho := ln1_ok hb hpn htk hk hl
              refine ⟨fun _ => ?_, fun h => absurd h (fun z : true = false => Bool.noConfusion z)⟩
              rw [nI_1]
              exact ih (l + 1) p' D' dt' dv' τ2 (by omega) (by omega) ho.2.1 f2 hx2.2.1 (hx2.2.2.trans d7) hx2.1 ho.2.2 (ln1_5 h5 hl) hs
          · rw [if_pos hs0] at hs
            subst hs0
            have hst := tk1_end hpn htk
            subst hst
            refine cx_tellDone (xp_fr hp f1 (by decide) (by decide)) hd1 hk h5 d7 (fun hfar τ2 hf2 e7 e8 => ?_) (fun hfar τ2 hf2 e7 hx2 => ?_)
            · rw [if_pos hfar] at hs
              exact hKe 6 st (by omega) (by omega) hs _ τ2 (f1.tr hf2) e7 e8
            · rw [if_neg (by rw [hfar]; decide)] at hs
              exact hKo l _ hs τ2 (f1.tr hf2) e7 hx2
  have hs161 : s_txt n b = ps n b 161 0 0 t_0 (fun _ => false) (fun _ => 0) := ps_fuel hb _ _ _ _ _ _ _ (by omega) (by omega) (by omega) dkk_0
  have loop0 : ∀ m i (τ : hs_St), 4 - i = m → i ≤ 4 → hs_fr SB σ τ → τ.1 21 3 = nI 0 → τ.1 21 7 = nI 0 → xt 22 τ t_0 → (∀ g, g < i → τ.1 33 g = -1) → RnI m_X0_takeAll 24 [(0, .ref 21), (1, .int (nI i))] [] τ K := by
    intro m
    induction m with
    | zero =>
      intro i τ hm hi hf c3 c7 hx h33
      refine vc_X0_takeAll_24 ⟨fun _ => ?_, fun h => absurd (by rw [nl_4, il (by omega) (by omega)]; omega) h⟩
      rw [nl_0]
      exact loop 161 0 0 t_0 (fun _ => false) (fun _ => 0) τ (by omega) rfl (by omega) hf c3 c7 ⟨hx, fun g hg => by rw [if_neg Bool.false_ne_true]; exact h33 g (by omega)⟩ dkk_0 (fun g hg => rfl) hs161
    | succ m ih =>
      intro i τ hm hi hf c3 c7 hx h33
      refine vc_X0_takeAll_24 ⟨fun h => ?_, fun _ => ⟨vp_in_nI (by omega) (by omega), ?_⟩⟩
      · rw [nl_4, il (by omega) (by omega)] at h; omega
      · rintro _ rfl
        rw [nI_clamp (by omega), nI_1]
        refine ih (i + 1) _ (by omega) (by omega) (hf.w (by decide)) (by rw [w_ne (by decide)]; exact c3) (by rw [w_ne (by decide)]; exact c7) (xt_fr (S := [33]) (hs_fr.rf.w (by decide)) (by decide) hx) (fun g hg => ?_)
        by_cases e : g = i
        · subst e; rw [w_eq]
        · rw [w_at e]; exact h33 g (by omega)
  refine vc_X0_takeAll (cx_empty_22 (fun τ1 hf1 hx1 => ?_))
  rintro _ rfl
  rintro _ rfl
  rintro _ rfl
  rw [nl_0]
  refine loop0 4 0 _ rfl (by omega) ((((hf1.up (by decide)).w (by decide)).w (by decide)).w (by decide)) ?_ ?_ ?_ (fun g hg => by omega)
  · rw [w_at (by decide), w_at (by decide), w_eq]
  · rw [w_at (by decide), w_eq]
  · exact xt_fr (S := [21]) (((hs_fr.rf.w (by decide)).w (by decide)).w (by decide)) (by decide) hx1
abbrev SX : List Nat := [0, 8, 9, 10, 11, 12, 13, 14, 15, 16, 17, 18, 19, 21, 22, 23, 24, 25, 26, 27, 28, 29, 30, 31, 32, 33, 57]
abbrev SY : List Nat := [0, 19, 21, 22, 23, 24, 25, 26, 27, 28, 29, 30, 31, 32, 33]
theorem cx_text {σ : hs_St} {K : Int32 → hs_St → Prop} {n : Nat} {b : Nat → Nat} (hp : xp σ n b) (hn : n ≤ 160) (hb : ∀ i, i < n → b i ≤ 127)
    (hKe : ∀ f a, s_txt n b = .error (f, a) → ∀ τ, hs_fr SY σ τ → τ.1 19 1 = nI 0 → τ.1 0 8 = nI f → τ.1 0 9 = σ.1 0 9 → K (-10 - nI a) τ)
    (hKo : ∀ l D, s_txt n b = .ok (l, D) → ∀ τ, hs_fr SX σ τ → xt 8 τ D → τ.1 57 0 = 0 → τ.1 57 1 = 0 → τ.1 19 1 = nI 0 → τ.1 0 8 = nI 0 → τ.1 0 9 = σ.1 0 9 → K (nI l) τ) : OkI m_X5_text [.ref 0] σ K := by
  refine vc_X5_text (cx_takeAll hp hn hb (fun f a hf1 hf6 hs r τ1 hf c7 c8 => ?_) (fun l D hs τ1 hf c7 hx => ?_))
  · rintro _ rfl
    rintro _ rfl
    have e7 : (hs_w (hs_w τ1 19 1 0) 0 8 ((hs_w τ1 19 1 0).1 21 7)).1 21 7 = nI f := by rw [w_ne (by decide), w_ne (by decide)]; exact c7
    have e8 : (hs_w (hs_w τ1 19 1 0) 0 8 ((hs_w τ1 19 1 0).1 21 7)).1 21 8 = nI a := by rw [w_ne (by decide), w_ne (by decide)]; exact c8
    rw [e7, e8]
    refine ⟨fun h => ?_, fun _ => hKe f a hs _ (((hf.up (by decide)).w (by decide)).w (by decide)) ?_ ?_ ?_⟩
    · rw [nl_0, ieq (by omega) (by omega)] at h; omega
    · rw [w_ne (by decide), w_eq, nl_0]
    · rw [w_eq, w_ne (by decide)]; exact c7
    · rw [w_at (by decide), w_ne (by decide), hf.2 0 (by decide)]
  · rintro _ rfl
    rintro _ rfl
    have e7 : (hs_w (hs_w τ1 19 1 0) 0 8 ((hs_w τ1 19 1 0).1 21 7)).1 21 7 = nI 0 := by rw [w_ne (by decide), w_ne (by decide)]; exact c7
    rw [e7]
    refine ⟨fun _ => ?_, fun h => absurd (by decide) h⟩
    have hD := s_txt_tk hb hs
    have hfr : hs_fr SX σ (hs_w (hs_w τ1 19 1 0) 0 8 ((hs_w τ1 19 1 0).1 21 7)) := ((hf.up (by decide)).w (by decide)).w (by decide)
    have g19 : (hs_w (hs_w τ1 19 1 0) 0 8 ((hs_w τ1 19 1 0).1 21 7)).1 19 1 = nI 0 := by rw [w_ne (by decide), w_eq, nl_0]
    have g08 : (hs_w (hs_w τ1 19 1 0) 0 8 ((hs_w τ1 19 1 0).1 21 7)).1 0 8 = nI 0 := by rw [w_eq, w_ne (by decide)]; exact c7
    have g09 : (hs_w (hs_w τ1 19 1 0) 0 8 ((hs_w τ1 19 1 0).1 21 7)).1 0 9 = σ.1 0 9 := by rw [w_at (by decide), w_ne (by decide), hf.2 0 (by decide)]
    have hx2 : xt 22 (hs_w (hs_w τ1 19 1 0) 0 8 ((hs_w τ1 19 1 0).1 21 7)) D := xt_fr (S := [0, 19]) ((hs_fr.rf.w (by decide)).w (by decide)) (by decide) hx
    generalize hs_w (hs_w τ1 19 1 0) 0 8 ((hs_w τ1 19 1 0).1 21 7) = τ2 at hfr g19 g08 g09 hx2
    refine cx_become_8_22 hx2 hD (fun τ3 hf3 hx3 => ?_)
    refine vc_X5_text_64 ⟨fun h => absurd h (by decide), fun _ => ⟨by unfold vp_in; decide, ?_⟩⟩
    rintro _ rfl
    refine vc_X5_text_64 ⟨fun h => absurd h (by decide), fun _ => ⟨by unfold vp_in; decide, ?_⟩⟩
    rintro _ rfl
    have c0 : (0 : Int32).toNatClampNeg = 0 := by decide
    have c1 : ((0 : Int32) + 1).toNatClampNeg = 1 := by decide
    rw [c0, c1]
    refine vc_X5_text_64 ⟨fun _ => hKo l D hs _ (((hfr.tr (hf3.up (by decide))).w (by decide)).w (by decide)) (xt_fr (S := [57]) ((hs_fr.rf.w (by decide)).w (by decide)) (by decide) hx3) ?_ w_eq ?_ ?_ ?_, fun h => absurd (by decide) h⟩
    · rw [w_at (by decide), w_eq]
    · rw [w_ne (by decide), w_ne (by decide), hf3.2 19 (by decide)]; exact g19
    · rw [w_ne (by decide), w_ne (by decide), hf3.2 0 (by decide)]; exact g08
    · rw [w_ne (by decide), w_ne (by decide), hf3.2 0 (by decide)]; exact g09
