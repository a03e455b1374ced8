/-! text: all of it, and the model's -/
def far (D : sp_T) (dt : Nat → Bool) : Bool := (dt 0 && decide (D 0 0 ≤ 0)) || (dt 1 && decide (D 0 0 ≤ 1)) || (dt 2 && decide (D 0 0 ≤ 2)) || (dt 3 && decide (D 0 0 ≤ 3))
theorem far_ex {D : sp_T} {dt : Nat → Bool} : far D dt = true ↔ ∃ g, g < 4 ∧ dt g = true ∧ D 0 0 ≤ g := by
  unfold far
  simp only [Bool.or_eq_true, Bool.and_eq_true, decide_eq_true_eq]
  constructor
  · rintro (((h | h) | h) | h)
    · exact ⟨0, by omega, h⟩
    · exact ⟨1, by omega, h⟩
    · exact ⟨2, by omega, h⟩
    · exact ⟨3, by omega, h⟩
  · rintro ⟨g, hg, h⟩
    rcases (show g = 0 ∨ g = 1 ∨ g = 2 ∨ g = 3 by omega) with rfl | rfl | rfl | rfl
    · exact Or.inl (Or.inl (Or.inl h))
    · exact Or.inl (Or.inl (Or.inr h))
    · exact Or.inl (Or.inr h)
    · exact Or.inr h
def t_dn (D : sp_T) (dt : Nat → Bool) (dv : Nat → Nat) : sp_T := tf D 5 (fun g => if dt g = true then dv g else 0)
def ps (n : Nat) (b : Nat → Nat) : Nat → Nat → Nat → sp_T → (Nat → Bool) → (Nat → Nat) → Except (Nat × Nat) (Nat × sp_T)
  | 0, _, _, _, _, _ => .error (0, 0)
  | m + 1, l, p, D, dt, dv =>
    match tk1 n b p with
    | .error e => .error e
    | .ok (s, st, pl, _) => if s = 0 then (if far D dt = true then .error (6, st) else .ok (l, t_dn D dt dv)) else
      match ln1 n b D dt dv s st pl with
      | .error e => .error e
      | .ok (D', dt', dv', p') => ps n b m (l + 1) p' D' dt' dv'
def t_0 : sp_T := fun _ _ => 0
def s_txt (n : Nat) (b : Nat → Nat) : Except (Nat × Nat) (Nat × sp_T) := ps n b (n + 1) 0 0 t_0 (fun _ => false) (fun _ => 0)
theorem ln1_er {n p s st pl v f a : Nat} {b : Nat → Nat} {D : sp_T} {dt : Nat → Bool} {dv : Nat → Nat} (hb : ∀ i, i < n → b i ≤ 127) (hp : p ≤ n) (ht : tk1 n b p = .ok (s, st, pl, v)) (hk : dkk D dt dv) (h : ln1 n b D dt dv s st pl = .error (f, a)) : 1 ≤ f ∧ f ≤ 6 ∧ a ≤ n := by
  have h0 := tk1_ok hb hp ht
  have hkl := knd_le (b := b) (st := st) (pl := pl)
  unfold ln1 at h
  split at h
  · rename_i h1
    split at h
    · rename_i hc
      cases hbd : bd n b D dt dv (knd b st pl) pl with
      | error e =>
        obtain ⟨f2, a2⟩ := e
        rw [hbd] at h
        injection h with h; injection h with e1 e2
        subst e1 e2
        exact bd_er hb h0.2.2.1 hbd
      | ok q =>
        obtain ⟨D', dt', dv', p'⟩ := q
        rw [hbd] at h
        have ho := bd_ok hb h0.2.2.1 (by have := h1.2; omega) hk hc hbd
        dsimp only at h
        cases hs : smi n b p' with
        | error e =>
          obtain ⟨f2, a2⟩ := e
          rw [hs] at h
          injection h with h; injection h with e1 e2
          subst e1 e2
          exact smi_er hb ho.2.1 hs
        | ok q => rw [hs] at h; cases h
    · injection h with h; injection h with e1 e2; omega
  · injection h with h; injection h with e1 e2; omega
theorem ln1_ok {n p s st pl v p' : Nat} {b : Nat → Nat} {D D' : sp_T} {dt dt' : Nat → Bool} {dv dv' : Nat → Nat} (hb : ∀ i, i < n → b i ≤ 127) (hp : p ≤ n) (ht : tk1 n b p = .ok (s, st, pl, v)) (hk : dkk D dt dv) (h : ln1 n b D dt dv s st pl = .ok (D', dt', dv', p')) : p < p' ∧ p' ≤ n ∧ dkk D' dt' dv' := by
  have h0 := tk1_ok hb hp ht
  have hkl := knd_le (b := b) (st := st) (pl := pl)
  unfold ln1 at h
  split at h
  · rename_i h1
    split at h
    · rename_i hc
      cases hbd : bd n b D dt dv (knd b st pl) pl with
      | error e => rw [hbd] at h; cases h
      | ok q =>
        obtain ⟨D2, dt2, dv2, p2⟩ := q
        rw [hbd] at h
        have ho := bd_ok hb h0.2.2.1 (by have := h1.2; omega) hk hc hbd
        dsimp only at h
        cases hs : smi n b p2 with
        | error e => rw [hs] at h; cases h
        | ok q =>
          rw [hs] at h
          have h5 := smi_ok hb ho.2.1 hs
          injection h with h; injection h with e1 h; injection h with e2 h; injection h with e3 e4
          subst e1 e2 e3 e4
          exact ⟨by omega, h5.2, ho.2.2⟩
    · cases h
  · cases h
theorem cm_firstDraft {σ : hs_St} {K : hs_St → Prop} (hK : ∀ τ, mg [67] [5, 6, 8] σ τ → mdr τ t_0 (fun _ => false) (fun _ => 0) → K τ) : OkV m_X6_firstDraft [.ref 63] σ K := by
  have loop : ∀ m i (τ : hs_St), 47 - i = m → i ≤ 47 → mg [67] [5, 6, 8] σ τ → (∀ j, j < i → τ.1 67 j = nI 0) → RnV m_X6_firstDraft 2 [(0, .ref 63), (1, .int (nI i))] [] τ K := by
    intro m
    induction m with
    | zero =>
      intro i τ hm hi hg h67
      have : i = 47 := by omega
      subst this
      refine vc_X6_firstDraft_2 ⟨fun _ => ?_, fun h => absurd (by rw [nl_47, il (by omega) (by omega)]; omega) h⟩
      rintro _ rfl
      rintro _ rfl
      rintro _ rfl
      refine hK _ (((hg.z (by decide)).z (by decide)).z (by decide)) ⟨?_, ?_, ?_, ?_, fun g _ h => absurd h Bool.false_ne_true, fun g hg4 => ?_⟩
      · rw [w_ne (by decide), w_ne (by decide), w_ne (by decide)]
        exact ⟨h67 _ (by omega), h67 _ (by omega), h67 _ (by omega), fun g hg => absurd hg (Nat.not_lt_zero _), fun c hc => absurd hc (Nat.not_lt_zero _), fun i hi => absurd hi (Nat.not_lt_zero _)⟩
      · rw [w_at (by decide), w_at (by decide), w_eq]; exact nl_0
      · rw [w_at (by decide), w_eq]; exact nl_0
      · rw [w_eq]; exact Or.inl ⟨rfl, fun _ _ => rfl⟩
      · rw [w_ne (by decide), w_ne (by decide), w_ne (by decide)]; exact h67 _ (by omega)
    | succ m ih =>
      intro i τ hm hi hg h67
      refine vc_X6_firstDraft_2 ⟨fun h => ?_, fun _ => ⟨vp_in_nI (by omega) (by omega), ?_⟩⟩
      · rw [nl_47, il (by omega) (by omega)] at h; omega
      · rintro _ rfl
        rw [nI_clamp (by omega), nI_1]
        refine ih (i + 1) _ (by omega) (by omega) (hg.w (by decide) (by decide)) (fun j hj => ?_)
        by_cases e : j = i
        · subst e; rw [w_eq, nl_0]
        · rw [w_at e]; exact h67 j (by omega)
  refine vc_X6_firstDraft ?_
  rw [nl_0]
  exact loop 47 0 σ (by omega) (by omega) mg.rf (fun _ h => by omega)
theorem cm_keepDraft {σ : hs_St} {K : hs_St → Prop} {D : sp_T} {dt : Nat → Bool} {dv : Nat → Nat} (hd : mdr σ D dt dv) (hk : tk D) (hK : ∀ τ, mg [64, 66] [3] σ τ → mt τ (t_dn D dt dv) → τ.1 66 0 = 0 → τ.1 66 1 = 0 → K τ) : OkV m_X6_keepDraft [.ref 63] σ K := by
  have k0 := hk.1
  have k6 := hk.2.1
  have hb16 : sp_bits 4 dt < 16 := sp_bits_lt dt 4
  have loop2 : ∀ m i (τ : hs_St), D 0 0 - i = m → i ≤ D 0 0 → mg [64, 66] [3] σ τ → mt τ (tf D 5 (fun g => if g < i then (if dt g = true then dv g else 0) else D 5 g)) → RnV m_X6_keepDraft 36 [(0, .ref 63), (1, .int (nI i))] [] τ K := by
    intro m
    induction m with
    | zero =>
      intro i τ hm hi hg hmt
      have : i = D 0 0 := by omega
      subst this
      have e20 : τ.1 64 20 = nI (D 0 0) := hmt.1.1
      refine vc_X6_keepDraft_36 ⟨fun _ => ?_, fun h => absurd (by rw [e20, il (by omega) (by omega)]; exact Nat.le_refl _) h⟩
      rintro _ rfl
      rintro _ rfl
      refine hK _ ((hg.w (by decide) (by decide)).w (by decide) (by decide)) ⟨?_, ?_⟩ ?_ w_eq
      · rw [w_ne (by decide), w_ne (by decide)]
        refine mr_q hmt.1 ⟨rfl, rfl, rfl, rfl, fun g hg2 => ⟨rfl, rfl, rfl, rfl, ?_⟩, fun _ _ => ⟨rfl, rfl⟩, fun _ _ => ⟨rfl, rfl, rfl⟩⟩
        have hg2 : g < D 0 0 := hg2
        unfold t_dn
        rw [tf_eq, tf_eq, if_pos hg2]
      · rw [w_ne (by decide), w_ne (by decide)]; exact hmt.2
      · rw [w_at (by decide), w_eq]
    | succ m ih =>
      intro i τ hm hi hg hmt
      have hlt : i < D 0 0 := by omega
      have e20 : τ.1 64 20 = nI (D 0 0) := hmt.1.1
      have c6 : τ.1 63 6 = nI (sp_bits 4 dt) := by rw [hg.2 6 (by decide)]; exact hd.2.2.1
      have i4 : (5 : Int32) * nI i + 4 = nI (5 * i + 4) := by rw [nl_5, pk_mul, nl_4, nI_add]
      have next : ∀ v, v = (if dt i = true then dv i else 0) → RnV m_X6_keepDraft 36 [(0, .ref 63), (1, .int (nI (i + 1)))] [] (hs_w τ 64 (5 * i + 4) (nI v)) K := by
        intro v hv
        refine ih (i + 1) _ (by omega) (by omega) (hg.w (by decide) (by decide)) ⟨mr_q (mr_g4 (T := tf D 5 _) (g := i) (v := v) (by omega) k6 hmt.1) ?_, by rw [w_ne (by decide)]; exact hmt.2⟩
        refine ⟨rfl, rfl, rfl, rfl, fun g hg2 => ⟨rfl, rfl, rfl, rfl, ?_⟩, fun _ _ => ⟨rfl, rfl⟩, fun _ _ => ⟨rfl, rfl, rfl⟩⟩
        by_cases e : g = i
        · subst e
          rw [tu_eq, tf_eq, if_pos (by omega), hv]
        · rw [tu_at e, tf_eq, tf_eq]
          have : (g < i ↔ g < i + 1) := by omega
          simp [this]
      refine vc_X6_keepDraft_36 ⟨fun h => ?_, fun _ => ?_⟩
      · rw [e20, il (by omega) (by omega)] at h; omega
      · rw [c6, bit_16 _ hb16 i (by omega), bits_at _ _ _ (by omega), i4, nI_clamp (by omega), nI_1]
        refine ⟨fun h => ⟨vp_in_nI (by omega) (by omega), ?_⟩, fun h => ⟨vp_in_nI (by omega) (by omega), vp_in_nI (by omega) (by omega), ?_⟩⟩
        · rintro _ rfl
          rw [nl_0]
          exact next 0 (by rw [if_neg h])
        · rintro _ rfl
          have e68 : τ.1 68 (nI i).toNatClampNeg = nI (dv i) := by rw [nI_clamp (by omega), hg.1 68 (by decide) (by decide)]; exact hd.2.2.2.2.1 i (by omega) h
          rw [e68]
          exact next (dv i) (by rw [if_pos h])
  have loop1 : ∀ m i (τ : hs_St), 47 - i = m → i ≤ 47 → mg [64, 66] [3] σ τ → (∀ j, j < i → τ.1 64 j = σ.1 67 j) → RnV m_X6_keepDraft 2 [(0, .ref 63), (1, .int (nI i))] [] τ K := by
    intro m
    induction m with
    | zero =>
      intro i τ hm hi hg h64
      have : i = 47 := by omega
      subst this
      refine vc_X6_keepDraft_2 ⟨fun _ => ?_, fun h => absurd (by rw [nl_47, il (by omega) (by omega)]; omega) h⟩
      rintro _ rfl
      rw [nl_0]
      refine loop2 (D 0 0) 0 _ (by omega) (by omega) (hg.z (by decide)) ⟨?_, ?_⟩
      · rw [w_ne (by decide)]
        refine mr_q (mr_e hd.1 (mk_of hk) h64) ⟨rfl, rfl, rfl, rfl, fun g hg2 => ⟨rfl, rfl, rfl, rfl, ?_⟩, fun _ _ => ⟨rfl, rfl⟩, fun _ _ => ⟨rfl, rfl, rfl⟩⟩
        rw [tf_eq, if_neg (by omega)]
      · rw [w_eq, hg.2 5 (by decide)]; exact hd.2.1
    | succ m ih =>
      intro i τ hm hi hg h64
      refine vc_X6_keepDraft_2 ⟨fun h => ?_, fun _ => ⟨vp_in_nI (by omega) (by omega), vp_in_nI (by omega) (by omega), ?_⟩⟩
      · rw [nl_47, il (by omega) (by omega)] at h; omega
      · rintro _ rfl
        rw [nI_clamp (by omega), nI_1, hg.1 67 (by decide) (by decide)]
        refine ih (i + 1) _ (by omega) (by omega) (hg.w (by decide) (by decide)) (fun j hj => ?_)
        by_cases e : j = i
        · subst e; rw [w_eq]
        · rw [w_at e]; exact h64 j (by omega)
  refine vc_X6_keepDraft ?_
  rw [nl_0]
  exact loop1 47 0 σ (by omega) (by omega) mg.rf (fun _ h => by omega)
abbrev EZ : List Nat := [5, 6, 8, 10, 11, 12, 13, 14, 15, 16]
abbrev OZ : List Nat := [3, 5, 6, 8, 10, 11, 12, 13, 14, 15, 16]
set_option maxHeartbeats 2000000 in
theorem cm_text {σ : hs_St} {K : Int32 → hs_St → Prop} {n : Nat} {b : Nat → Nat} (hp : mp σ n b) (hn : n ≤ 160) (hb : ∀ i, i < n → b i ≤ 127)
    (hKe : ∀ f a, s_txt n b = .error (f, a) → ∀ τ, mg [67, 68] EZ σ τ → τ.1 63 10 = nI 0 → τ.1 63 15 = nI f → K (-10 - nI a) τ)
    (hKo : ∀ l D, s_txt n b = .ok (l, D) → ∀ τ, mg [64, 66, 67, 68] OZ σ τ → mt τ D → τ.1 66 0 = 0 → τ.1 66 1 = 0 → τ.1 63 10 = nI 0 → τ.1 63 15 = nI 0 → K (nI l) τ) : OkI m_X6_text [.ref 63] σ K := by
  have fend : ∀ (τ : hs_St) (a1 : Int32) (f a : Nat), 1 ≤ f → f ≤ 6 → mft τ f a → mg [67, 68] LZ σ τ → s_txt n b = .error (f, a) → RnI m_X6_text 20 [(0, .ref 63), (1, .int a1)] [] τ K := by
    intro τ a1 f a hf1 hf6 hft hg hs
    refine vc_X6_text_20 ⟨fun _ => ?_, fun h => absurd h (mft_0 hft hf1 hf6)⟩
    rintro _ rfl
    have d15 : (hs_w τ 63 10 0).1 63 15 = nI f := by rw [w_at (by decide)]; exact hft.1
    have d16 : (hs_w τ 63 10 0).1 63 16 = nI a := by rw [w_at (by decide)]; exact hft.2
    rw [d15, d16]
    exact ⟨fun h => absurd h (by rw [nl_0, il (by omega) (by omega)]; omega), fun _ => hKe f a hs _ ((hg.up (by decide) (by decide)).z (by decide)) (by rw [w_eq, nl_0]) d15⟩
  have loop : ∀ m l p D dt dv (τ : hs_St), n - p < m → p ≤ n → mg [67, 68] LZ σ τ → mtok τ (tk1 n b p) → mdr τ D dt dv → dkk D dt dv → s_txt n b = ps n b m l p D dt dv → RnI m_X6_text 20 [(0, .ref 63), (1, .int (nI l))] [] τ K := by
    intro m
    induction m with
    | zero => intro l p D dt dv τ hm; omega
    | succ m ih =>
      intro l p D dt dv τ hm hpn hg ht hd hk hs
      have hmp := hp.g hg (by decide) (by decide)
      unfold ps at hs
      cases htk : tk1 n b p with
      | error e =>
        obtain ⟨f, a⟩ := e
        rw [htk] at ht hs
        have h1 := tk1_er hpn htk
        exact fend τ _ f a (by omega) (by omega) ht hg hs
      | ok t =>
        obtain ⟨s, st, pl, v⟩ := t
        rw [htk] at ht hs
        have h0 := tk1_ok hb hpn htk
        dsimp only at hs
        have ht2 := ht
        obtain ⟨c15, c13, c12, c11, c14⟩ := ht2
        refine vc_X6_text_20 ⟨fun h => absurd (by rw [c15, nI_0]) h, fun _ => ?_⟩
        rw [c13, nl_0, ieq (by omega) (by omega)]
        refine ⟨fun hs0 => ?_, fun hs0 => ?_⟩
        · rw [if_pos hs0] at hs
          have c20 : τ.1 67 20 = nI (D 0 0) := hd.1.1
          have k0 := hk.1.1
          have hfar : ((τ.1 67 20) ≤ (τ.1 63 8)) ↔ far D dt = true := by
            rw [c20, far_ex]
            rcases hd.2.2.2.1 with ⟨hx, hno⟩ | ⟨q, hq4, hdq, hx, hmx⟩
            · rw [hx, Int32.le_iff_toInt_le, iti (by omega), show (-4 : Int32).toInt = -4 by decide]
              exact ⟨fun h => by omega, fun ⟨g, h1, h2, _⟩ => by rw [hno g h1] at h2; cases h2⟩
            · rw [hx, il (by omega) (by omega)]
              exact ⟨fun h => ⟨q, hq4, hdq, h⟩, fun ⟨g, h1, h2, h3⟩ => by have := hmx g h1 h2; omega⟩
          rw [hfar]
          refine ⟨fun hf => ?_, fun hf => ?_⟩
          · rw [if_pos hf] at hs
            have := cm_needs0 (K := fun σ19 => ∀ σ21 : hs_St, σ21 = hs_w σ19 63 10 0 → (((σ21.1 63 15) ≤ 0 → (OkV m_X6_keepDraft [.ref 63] σ21 (fun σ27 => K (nI l) σ27))) ∧ (¬ (σ21.1 63 15) ≤ 0 → (K (((-10)) - (σ21.1 63 16)) σ21)))) (f := 6) c15 c12 (fun υ hg2 d1 d2 _ => by
              rintro _ rfl
              have d15 : (hs_w υ 63 10 0).1 63 15 = nI 6 := by rw [w_at (by decide)]; exact d1
              have d16 : (hs_w υ 63 10 0).1 63 16 = nI st := by rw [w_at (by decide)]; exact d2
              rw [d15, d16]
              exact ⟨fun h => absurd h (by decide), fun _ => hKe 6 st hs _ (((hg.tr (hg2.up (by decide) (by decide))).up (by decide) (by decide)).z (by decide)) (by rw [w_eq, nl_0]) d15⟩)
            exact this
          · rw [if_neg hf] at hs
            refine cm_needs1 ?_
            rintro _ rfl
            have d15 : (hs_w τ 63 10 (nI 0)).1 63 15 = nI 0 := by rw [w_at (by decide)]; exact c15
            rw [d15]
            refine ⟨fun _ => ?_, fun h => absurd (by decide) h⟩
            have hd2 : mdr (hs_w τ 63 10 (nI 0)) D dt dv := by
              unfold mdr
              rw [w_ne (k' := 67) (by decide), w_ne (k' := 68) (by decide), w_at (j := 5) (by decide), w_at (j := 6) (by decide), w_at (j := 8) (by decide)]
              exact hd
            refine cm_keepDraft hd2 hk.1 (fun υ hg2 hmt h66 h67 => hKo l _ hs υ ((((hg.up (by decide) (by decide)).z (by decide))).tr (hg2.up (by decide) (by decide))) hmt h66 h67 ?_ ?_)
            · rw [hg2.2 10 (by decide), w_eq]
            · rw [hg2.2 15 (by decide)]; exact d15
        · rw [if_neg hs0] at hs
          refine cm_readLine hmp hn hb hpn htk ht hd hk (fun υ hg2 hm2 => ?_)
          rw [nI_1]
          cases hl : ln1 n b D dt dv s st pl with
          | error e =>
            obtain ⟨f, a⟩ := e
            rw [hl] at hm2 hs
            have hf := ln1_er hb hpn htk hk hl
            exact fend υ _ f a hf.1 hf.2.1 hm2 (hg.tr hg2) hs
          | ok q =>
            obtain ⟨D', dt', dv', p'⟩ := q
            rw [hl] at hm2 hs
            have ho := ln1_ok hb hpn htk hk hl
            exact ih (l + 1) p' D' dt' dv' υ (by omega) ho.2.1 (hg.tr hg2) hm2.2 hm2.1 ho.2.2 hs
  refine vc_X6_text ?_
  rintro _ rfl
  rintro _ rfl
  refine cm_firstDraft (fun τ1 hg1 hd1 => ?_)
  have g1 : mg [67, 68] LZ σ τ1 := (((mg.rf (S := [67, 68]) (Z := LZ)).z (by decide)).z (by decide)).tr (hg1.up (by decide) (by decide))
  refine cm_takes (p := 0) (hp.g g1 (by decide) (by decide)) hn hb ?_ ?_ (by omega) (fun τ2 hg2 ht2 => ?_)
  · rw [hg1.2 15 (by decide), w_at (by decide), w_eq, nl_0]
  · rw [hg1.2 11 (by decide), w_eq, nl_0]
  · rw [nl_0]
    refine loop (n + 1) 0 0 t_0 (fun _ => false) (fun _ => 0) τ2 (by omega) (by omega) (g1.tr (hg2.up (by decide) (by decide))) ht2 (hd1.g hg2) ⟨⟨by decide, by decide, by decide, by decide, fun g hg => absurd hg (Nat.not_lt_zero _), fun c hc => absurd hc (Nat.not_lt_zero _), fun i hi => absurd hi (Nat.not_lt_zero _)⟩, rfl, rfl, fun _ _ h => by cases h⟩ rfl
