/-! learn, quiet, better, from -/
theorem mk_sk {T : sp_T} {c : Nat} (h : tk T) : mk (tu T 8 c (T 8 c + 1)) := by
  have hm := mk_of h
  refine ⟨hm.1, hm.2.1, hm.2.2.1, fun d hd => ⟨(hm.2.2.2.1 d hd).1, ?_⟩, hm.2.2.2.2⟩
  have h3 := h.2.2.2.2.2.1 d hd
  by_cases e : d = c
  · subst e; rw [tu_eq]; omega
  · rw [tu_at e]; omega
theorem cm_learn {σ : hs_St} {K : Int32 → hs_St → Prop} {T : sp_T} {n w : Int32} (hx : mt σ T) (hk : tk T) (hK : ∀ τ, ma σ τ → K (s_learn T n w) τ) : OkI m_X6_learn [.ref 63, .int n, .int w] σ K := by
  have hmk := mk_of hk
  have h6 := hk.2.1
  unfold s_learn at hK
  refine vc_X6_learn (cm_isJudged ⟨fun hn => ?_, fun hn => cm_isPart ⟨fun hw => ?_, fun hw => ?_⟩⟩)
  · have := hK σ ma.rf
    rw [if_pos hn] at this; exact this
  · rw [if_neg (by rw [hn]; decide), if_neg (by rw [hw]; decide)] at hK
    obtain ⟨j, hj, rfl⟩ := inr_of (hi := 20) hn
    rw [nI_clamp (by omega)] at hK
    have loop : ∀ m i (τ : hs_St), T 6 0 - i = m → i ≤ T 6 0 → ma σ τ → RnI m_X6_learn 33 [(0, .ref 63), (1, .int (nI j)), (2, .int w), (3, .int (ls (f_learn T j) (fun c => decide (T 8 c < 3)) (nI (th T j)) i).2), (4, .int (ls (f_learn T j) (fun c => decide (T 8 c < 3)) (nI (th T j)) i).1), (5, .int (nI i))] [] τ K := by
      intro m
      induction m with
      | zero =>
        intro i τ hm hi hf
        have : i = T 6 0 := by omega
        subst this
        have h2 := hK τ hf
        unfold pick at h2
        refine vc_X6_learn_33 ⟨fun _ => ⟨fun h => ⟨fun h0 => ?_, fun h0 => ?_⟩, fun h => ?_⟩, fun h => absurd (by rw [(hx.a hf).2, il (by omega) (by omega)]; omega) h⟩
        · rw [if_neg h, if_neg h0] at h2; exact h2
        · rw [if_neg h, if_pos h0] at h2; exact h2
        · rw [if_pos h] at h2; exact h2
      | succ m ih =>
        intro i τ hm hi hf
        have hx1 := hx.a hf
        have hlt : i < T 6 0 := by omega
        have hci := hx1.1.2.2.2.2.1 i hlt
        have kci := hk.2.2.2.2.2.1 i hlt
        refine vc_X6_learn_33 ⟨fun h => ?_, fun _ => ?_⟩
        · rw [hx1.2, il (by omega) (by omega)] at h; omega
        · rw [il_k, nI_clamp (by omega), hci.2]
          refine ⟨vp_in_nI (by omega) (by omega), fun h => ?_, fun h => ?_⟩
          · rw [nl_3, il (by omega) (by omega)] at h
            have := ih (i + 1) τ (by omega) (by omega) hf
            rw [ls, if_neg (fun z => by have := of_decide_eq_true z.1; omega)] at this
            rw [nI_1]; exact this
          · rw [nl_3, il (by omega) (by omega)] at h
            refine cm_starts hx1 hmk (fun υ hf2 b1 b2 b3 b4 => ⟨vp_in_nI (by omega) (by omega), ?_⟩)
            rintro _ rfl
            rw [(b1.2.2.2.2.1 i hlt).2, nI_1]
            have hw1 : mw (hs_w υ 65 (22 + 2 * i) (nI (T 8 i + 1))) (tu T 8 i (T 8 i + 1)) 0 (tw (tu T 8 i (T 8 i + 1))) (tu T 8 i (T 8 i + 1) 9 0) := mw_of (mr_c8 (by omega) hmk.1 b1) (by rw [w_ne (by decide)]; exact b2) (by rw [w_ne (by decide)]; exact b3) (fun r hr => by rw [w_ne (by decide)]; exact b4 r hr)
            refine cm_harmOf (by omega) hw1 (mk_sk hk) (by omega) (mwk_tw (mk_sk hk)) (fun ψ hf3 _ => ?_)
            have hma : ma σ ψ := hf.tr (((hf2.w (by decide) (by decide)).fr hf3 (by decide)).a (by decide))
            have := ih (i + 1) ψ (by omega) (by omega) hma
            rw [th_mi]
            refine ⟨fun h5 => cm_lesser ?_, fun h5 => cm_lesser ?_⟩
            · rw [ls, if_neg (fun z => nle.mpr z.2 h5)] at this
              rw [if_pos h5, nI_1]; exact this
            · rw [ls, if_pos ⟨decide_eq_true (by omega), nle.mp h5⟩] at this
              rw [if_neg h5, nI_1]; exact this
    refine cm_begin hx hmk (fun τ hf hw1 => cm_harmOf (by omega) hw1 hmk (by omega) (mwk_tw hmk) (fun υ hf2 hw2 => ?_))
    rw [th_mi, nl_0]
    exact loop (T 6 0) 0 υ (by omega) (by omega) ((hf.fr hf2 (by decide)).a (by decide))
  · have := hK σ ma.rf
    rw [if_neg (by rw [hn]; decide), if_pos hw] at this; exact this
theorem cm_quiet {σ : hs_St} {K : Int32 → hs_St → Prop} {T : sp_T} {n w : Int32} (hx : mt σ T) (hk : tk T) (hK : ∀ τ, ma σ τ → K (s_quiet T n w) τ) : OkI m_X6_quiet [.ref 63, .int n, .int w] σ K := by
  have hmk := mk_of hk
  unfold s_quiet at hK
  refine vc_X6_quiet (cm_isFar ⟨fun hn => ?_, fun hn => cm_isPart ⟨fun hw => ?_, fun hw => ?_⟩⟩)
  · have := hK σ ma.rf
    rw [if_pos hn] at this; exact this
  · rw [if_neg (by rw [hn]; decide), if_neg (by rw [hw]; decide)] at hK
    obtain ⟨j, hj, rfl⟩ := inr_of (hi := 60) hn
    rw [nI_clamp (by omega)] at hK
    refine cm_begin hx hmk (fun τ hf hw1 => cm_harmOf (by omega) hw1 hmk (by omega) (mwk_tw hmk) (fun υ hf2 hw2 => ?_))
    rw [run_mi] at hw2
    have hK := hK υ ((hf.fr hf2 (by decide)).a (by decide))
    have h7 := hw2.2.2.2
    have loop : ∀ m i, 5 - i = m → i ≤ 5 → RnI m_X6_quiet 31 [(0, .ref 63), (1, .int (nI j)), (2, .int w), (3, .int (bs (fun r => nI ((tr T j).2.2 r)) i).1), (4, .int (nI (i + 1)))] [] υ K := by
      intro m
      induction m with
      | zero =>
        intro i hm hi
        have : i = 5 := by omega
        subst this
        obtain ⟨q, hq1, hq2, hq3⟩ := bs_in (fun r => nI ((tr T j).2.2 r)) 5
        refine vc_X6_quiet_31 ⟨fun _ => ⟨fun h0 => ⟨?_, ?_⟩, fun h0 => ?_⟩, fun h => absurd (by rw [nl_6, il (by omega) (by omega)]; omega) h⟩
        · rw [hq2]; exact vp_in_nI (by omega) (by omega)
        · rw [if_neg h0, hq3] at hK
          rw [hq2, nI_clamp (by omega), h7 q (by omega)]; exact hK
        · rw [if_pos h0] at hK; exact hK
      | succ m ih =>
        intro i hm hi
        obtain ⟨q, hq1, hq2, hq3⟩ := bs_in (fun r => nI ((tr T j).2.2 r)) i
        have := ih (i + 1) (by omega) (by omega)
        refine vc_X6_quiet_31 ⟨fun h => ?_, fun _ => ⟨vp_in_nI (by omega) (by omega), ?_, fun h => ?_, fun h => ?_⟩⟩
        · rw [nl_6, il (by omega) (by omega)] at h; omega
        · rw [hq2]; exact vp_in_nI (by omega) (by omega)
        · rw [hq2, nI_clamp (by omega), nI_clamp (by omega), h7 q (by omega), h7 (i + 1) (by omega)] at h
          rw [bs, if_neg (by rw [hq3, ← nle]; exact fun z => z h)] at this
          rw [nI_1]; exact this
        · rw [hq2, nI_clamp (by omega), nI_clamp (by omega), h7 q (by omega), h7 (i + 1) (by omega)] at h
          rw [bs, if_pos (by rw [hq3]; exact nle.mp h)] at this
          rw [nI_1]; exact this
    rw [nl_0, nl_1]
    exact loop 5 0 (by omega) (by omega)
  · have := hK σ ma.rf
    rw [if_neg (by rw [hn]; decide), if_pos hw] at this; exact this
theorem cm_better {σ : hs_St} {K : Int32 → hs_St → Prop} {T : sp_T} {g n w : Int32} (hx : mt σ T) (hk : tk T) (hK : ∀ τ, ma σ τ → K (s_better T g n w) τ) : OkI m_X6_better [.ref 63, .int g, .int n, .int w] σ K := by
  have hmk := mk_of hk
  have h4 := hk.1
  unfold s_better at hK
  refine vc_X6_better (cm_isGhost hx hk ⟨fun hg => ?_, fun hg => cm_isJudged ⟨fun hn => ?_, fun hn => cm_isPart ⟨fun hw => ?_, fun hw => ?_⟩⟩⟩)
  · have := hK σ ma.rf
    rw [if_pos hg] at this; exact this
  · have := hK σ ma.rf
    rw [if_neg (by rw [hg]; decide), if_pos hn] at this; exact this
  · rw [if_neg (by rw [hg]; decide), if_neg (by rw [hn]; decide), if_neg (by rw [hw]; decide)] at hK
    obtain ⟨i, hi, rfl⟩ := inr_lt hg
    obtain ⟨j, hj, rfl⟩ := inr_of (hi := 20) hn
    rw [nI_clamp (by omega), nI_clamp (by omega)] at hK
    have kg := hk.2.2.2.2.1 i hi
    have step : ∀ (a4 a5 : Int32) (b : Nat) (τ : hs_St), b < 99 → ma σ τ →
        (∀ υ, ma σ υ → (a4 ≤ f_better T i j b → RnI m_X6_better 34 [(0, .ref 63), (1, .int (nI i)), (2, .int (nI j)), (3, .int w), (4, .int a4), (5, .int a5), (6, .int (nI (b + 2)))] [] υ K) ∧ (¬ a4 ≤ f_better T i j b → RnI m_X6_better 34 [(0, .ref 63), (1, .int (nI i)), (2, .int (nI j)), (3, .int w), (4, .int (f_better T i j b)), (5, .int (nI (b + 1))), (6, .int (nI (b + 2)))] [] υ K)) →
        RnI m_X6_better 34 [(0, .ref 63), (1, .int (nI i)), (2, .int (nI j)), (3, .int w), (4, .int a4), (5, .int a5), (6, .int (nI (b + 1)))] [] τ K := by
      intro a4 a5 b τ hb hm hn
      refine vc_X6_better_34 ⟨fun h => absurd h (by rw [nl_99, ilt (by omega) (by omega)]; omega), fun _ => ?_⟩
      refine cm_starts (hx.a hm) hmk (fun υ hf b1 b2 b3 b4 => ?_)
      rw [nl_2]
      refine cm_beco (by omega) ?_
      have hkb := tk_b (g := i) hk kg.1 (show 1 ≤ b + 1 by omega) (show b + 1 ≤ 99 by omega)
      have hmr : mr ((hs_w υ 65 (5 * i + 2) (nI (b + 1))).1 65) (tb T i (T 1 i) (b + 1)) := by rw [tb_own]; exact mr_g2 (by omega) hmk.2.1 b1
      have hw1 : mw (hs_w υ 65 (5 * i + 2) (nI (b + 1))) (tb T i (T 1 i) (b + 1)) 0 (tw (tb T i (T 1 i) (b + 1))) (tb T i (T 1 i) (b + 1) 9 0) := mw_of hmr (by rw [w_ne (by decide)]; exact b2) (by rw [w_ne (by decide)]; exact b3) (fun r hr => by rw [w_ne (by decide)]; exact b4 r hr)
      refine cm_harmOf (by omega) hw1 (mk_of hkb) (by omega) (mwk_tw (mk_of hkb)) (fun ψ hf3 _ => ?_)
      have hma : ma σ ψ := hm.tr (((hf.w (by decide) (by decide)).fr hf3 (by decide)).a (by decide))
      obtain ⟨n1, n2⟩ := hn ψ hma
      rw [th_mi, nI_1]
      refine ⟨fun h => cm_lesser ?_, fun h => cm_lesser ?_⟩
      · rw [if_pos h]; exact n1 h
      · rw [if_neg h]; exact n2 h
    have loop : ∀ m b (τ : hs_St), 98 - b = m → b ≤ 98 → ma σ τ → RnI m_X6_better 34 [(0, .ref 63), (1, .int (nI i)), (2, .int (nI j)), (3, .int w), (4, .int (bs (f_better T i j) b).2), (5, .int ((bs (f_better T i j) b).1 + 1)), (6, .int (nI (b + 2)))] [] τ K := by
      intro m
      induction m with
      | zero =>
        intro b τ hm hb hf
        have : b = 98 := by omega
        subst this
        have hK := hK τ hf
        refine vc_X6_better_34 ⟨fun _ => ⟨fun h0 => ?_, fun h0 => ?_⟩, fun h => absurd (by rw [nl_99, ilt (by omega) (by omega)]; omega) h⟩
        · rw [if_neg h0] at hK; exact hK
        · rw [if_pos h0] at hK; exact hK
      | succ m ih =>
        intro b τ hm hb hf
        refine step _ _ (b + 1) τ (by omega) hf (fun υ hf2 => ?_)
        have := ih (b + 1) υ (by omega) (by omega) hf2
        refine ⟨fun h => ?_, fun h => ?_⟩
        · rw [bs, if_neg (by rw [← nle]; exact fun z => z h)] at this; exact this
        · rw [bs, if_pos (nle.mp h), nI_1] at this; exact this
    have hkb := tk_b (g := i) hk kg.1 (show 1 ≤ 0 + 1 by omega) (show 0 + 1 ≤ 99 by omega)
    have hlt := th_lt (n := j) (mk_of hkb) hj
    have := step 1000000 1 0 σ (by omega) ma.rf (fun υ hf2 => ⟨fun h => absurd h (by rw [f_better, nl_1000000, il (by omega) (by omega)]; omega), fun _ => by
      have := loop _ 0 υ rfl (by omega) hf2
      rw [show (bs (f_better T i j) 0).1 + 1 = nI (0 + 1) by rw [bs, nI_1]] at this
      exact this⟩)
    rw [show nI (0 + 1) = 1 by decide] at this
    exact this
  · have := hK σ ma.rf
    rw [if_neg (by rw [hg]; decide), if_neg (by rw [hn]; decide), if_pos hw] at this; exact this
theorem cm_from {σ : hs_St} {K : Int32 → hs_St → Prop} {T : sp_T} {g w : Int32} (hx : mt σ T) (hk : tk T) (hK : ∀ τ, ma σ τ → K (s_from T g w) τ) : OkI m_X6_from [.ref 63, .int g, .int w] σ K := by
  have hmk := mk_of hk
  have h4 := hk.1
  unfold s_from at hK
  refine vc_X6_from (cm_isGhost hx hk ⟨fun hg => ?_, fun hg => cm_isPart ⟨fun hw => ?_, fun hw => ?_⟩⟩)
  · have := hK σ ma.rf
    rw [if_pos hg] at this; exact this
  · rw [if_neg (by rw [hg]; decide), if_neg (by rw [hw]; decide)] at hK
    obtain ⟨i, hi, rfl⟩ := inr_lt hg
    rw [nI_clamp (by omega)] at hK
    have loop : ∀ m r (τ : hs_St), 6 - r = m → r ≤ 6 → ma σ τ → RnI m_X6_from 27 [(0, .ref 63), (1, .int (nI i)), (2, .int w), (3, .int (fm (f_from T i) r).2), (4, .int (fm (f_from T i) r).1), (5, .int (nI r))] [] τ K := by
      intro m
      induction m with
      | zero =>
        intro r τ hm hr hf
        have : r = 6 := by omega
        subst this
        have h2 := hK τ hf
        unfold pick at h2
        refine vc_X6_from_27 ⟨fun _ => ⟨fun h => ⟨fun h0 => ?_, fun h0 => ?_⟩, fun h => ?_⟩, fun h => absurd (by rw [nl_6, il (by omega) (by omega)]; omega) h⟩
        · rw [if_neg h, if_neg h0] at h2; exact h2
        · rw [if_neg h, if_pos h0] at h2; exact h2
        · rw [if_pos h] at h2; exact h2
      | succ m ih =>
        intro r τ hm hr hf
        refine vc_X6_from_27 ⟨fun h => ?_, fun _ => ?_⟩
        · rw [nl_6, il (by omega) (by omega)] at h; omega
        · refine cm_starts (hx.a hf) hmk (fun υ hf2 b1 b2 b3 b4 => ?_)
          rw [nl_3]
          refine cm_beco (by omega) ?_
          have hkb := tk_room (g := i) (r := r) hk (by omega)
          have hw1 : mw (hs_w υ 65 (5 * i + 3) (nI r)) (tu T 4 i r) 0 (tw (tu T 4 i r)) (tu T 4 i r 9 0) := mw_of (mr_g3 (by omega) hmk.2.1 b1) (by rw [w_ne (by decide)]; exact b2) (by rw [w_ne (by decide)]; exact b3) (fun r hr => by rw [w_ne (by decide)]; exact b4 r hr)
          refine cm_nightsTo (T := tu T 4 i r) hi hw1 (mk_of hkb) (fun ψ hf3 => ?_)
          have hma : ma σ ψ := hf.tr (((hf2.w (by decide) (by decide)).fr hf3 (by decide)).a (by decide))
          have := ih (r + 1) ψ (by omega) (by omega) hma
          rw [nI_1]
          refine ⟨fun h => ?_, fun h => ⟨fun h5 => ?_, fun h5 => ?_⟩⟩
          · rw [fm, if_neg (fun z => z.1 h)] at this; exact this
          · rw [fm, if_neg (fun z => nle.mpr z.2 h5)] at this; exact this
          · rw [fm, if_pos ⟨h, nle.mp h5⟩] at this; exact this
    rw [nl_0]
    exact loop 6 0 σ (by omega) (by omega) ma.rf
  · have := hK σ ma.rf
    rw [if_neg (by rw [hg]; decide), if_pos hw] at this; exact this
