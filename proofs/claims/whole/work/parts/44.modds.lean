/-! the model: odds -/
theorem wl_1 {σ : hs_St} {i : Nat} {v : Int64} : (hs_wl σ i v).1 = σ.1 := rfl
theorem wl_eq {σ : hs_St} {i : Nat} {v : Int64} : (hs_wl σ i v).2 i = v := by simp [hs_wl, vp_updL]
theorem wl_ne {σ : hs_St} {i j : Nat} {v : Int64} (h : j ≠ i) : (hs_wl σ i v).2 j = σ.2 j := by simp [hs_wl, vp_updL, h]
theorem cm_common {σ : hs_St} {K : Int64 → hs_St → Prop} {a b : Nat} (ha : a < 2 ^ 40) (hb : b < 2 ^ 40) (hK : K (lN (Nat.gcd a b)) σ) : OkL m_X6_common [.long (lN a), .long (lN b)] σ K := by
  have loop : ∀ n x y c d, y ≤ n → x < 2 ^ 40 → y < 2 ^ 40 → K (lN (Nat.gcd x y)) σ → RnL m_X6_common 6 [(0, .long c), (2, .long d), (4, .long (lN x)), (6, .long (lN y))] [] σ K := by
    intro n
    induction n with
    | zero =>
      intro x y c d hy hx hy2 hK
      have : y = 0 := Nat.le_zero.mp hy
      subst this
      rw [Nat.gcd_zero_right] at hK
      exact vc_X6_common_6 ⟨fun _ => hK, fun h => absurd rfl h⟩
    | succ n ih =>
      intro x y c d hy hx hy2 hK
      refine vc_X6_common_6 ⟨fun h => ?_, fun h => ⟨h, ?_⟩⟩
      · rw [ll_0, pk_lEQ (by omega) (by omega)] at h
        subst h
        rw [Nat.gcd_zero_right] at hK; exact hK
      · rw [ll_0, pk_lEQ (by omega) (by omega)] at h
        have hy0 : 0 < y := by omega
        have hm := Nat.mod_lt x hy0
        rintro _ rfl
        rw [pk_lRem (by omega) hy0 (by omega)]
        rw [gcd_step] at hK
        exact ih y (x % y) c d (by omega) (by omega) (by omega) hK
  exact vc_X6_common (loop b a b _ _ (Nat.le_refl _) ha hb hK)
theorem cm_told {σ : hs_St} {K : Int64 → hs_St → Prop} {A B : Nat} {w : Int32} (ha : A < 2 ^ 40) (hb : B < 2 ^ 40) (hb0 : 0 < B) (hK : K (s_frac A B w) σ) : OkL m_X6_told [.long (lN A), .long (lN B), .int w] σ K := by
  have hg : 0 < Nat.gcd A B := Nat.gcd_pos_of_pos_right A hb0
  have hg2 : Nat.gcd A B ≤ B := Nat.gcd_le_right A hb0
  have hnz : ¬ lN (Nat.gcd A B) = 0 := by rw [ll_0, pk_lEQ (by omega) (by omega)]; omega
  unfold s_frac at hK
  refine vc_X6_told (cm_common hb ha ?_)
  rw [Nat.gcd_comm]
  refine ⟨fun h0 => ⟨hnz, ?_⟩, fun h0 => ⟨hnz, ?_⟩⟩
  · rw [pk_lDiv (by omega) hg (by omega)]
    rw [if_neg h0] at hK; exact hK
  · rw [pk_lDiv (by omega) hg (by omega)]
    rw [if_pos h0] at hK; exact hK
theorem ll_1 : (1 : Int64) = lN 1 := by decide
theorem ll_10 : (10 : Int64) = lN 10 := by decide
theorem bit_16 : ∀ x, x < 16 → ∀ c, c < 4 → (((nI x >>> (nI c &&& 31)) &&& 1) = 1 ↔ x.testBit c = true) := by decide +kernel
set_option maxHeartbeats 1000000 in
theorem cm_findOdds {σ : hs_St} {K : hs_St → Prop} {T : sp_T} {v g n : Nat} (hv : v ≤ 10) (hn : n ≤ 60) (hg4 : g < 4) (hx : mt σ T) (hk : tk T)
    (hK : ∀ τ, ma σ τ → τ.2 20 = lN (a_mean T v n (2 ^ T 6 0)) → τ.2 21 = lN (10 ^ T 6 0) → (g < T 0 0 → τ.2 19 = lN (a_luck T v g n (2 ^ T 6 0))) → K τ) : OkV m_X6_findOdds [.ref 63, .int (nI v), .int (nI g), .int (nI n)] σ K := by
  have hmk := mk_of hk
  have h4 := hk.1
  have h6 := hk.2.1
  have hp2 := pow2 h6
  have loopB : ∀ m c (τ : hs_St), 2 ^ T 6 0 - c = m → c ≤ 2 ^ T 6 0 → ma σ τ → τ.2 20 = lN (a_mean T v n c) → τ.2 21 = lN (10 ^ T 6 0) → (g < T 0 0 → τ.2 19 = lN (a_luck T v g n c)) → RnV m_X6_findOdds 48 [(0, .ref 63), (1, .int (nI v)), (2, .int (nI g)), (3, .int (nI n)), (4, .int (nI c))] [] τ K := by
    intro m
    induction m with
    | zero =>
      intro c τ hm hc hf b1 b2 b3
      have : c = 2 ^ T 6 0 := by omega
      subst this
      exact vc_X6_findOdds_48 ⟨fun _ => hK τ hf b1 b2 b3, fun h => absurd (by rw [(hx.a hf).2, sh_cl _ (by omega), il (by omega) (by omega)]; omega) h⟩
    | succ m ih =>
      intro c τ hm hc hf b1 b2 b3
      have hx1 := hx.a hf
      refine vc_X6_findOdds_48 ⟨fun h => ?_, fun _ => ?_⟩
      · rw [hx1.2, sh_cl _ (by omega), il (by omega) (by omega)] at h; omega
      · have inner : ∀ m2 k, T 6 0 - k = m2 → k ≤ T 6 0 → RnV m_X6_findOdds 65 [(0, .ref 63), (1, .int (nI v)), (2, .int (nI g)), (3, .int (nI n)), (4, .int (nI c)), (5, .long (lN (sp_wt v c k))), (7, .int (nI k))] [] τ K := by
          intro m2
          induction m2 with
          | zero =>
            intro k hm2 hk2
            have : k = T 6 0 := by omega
            subst this
            refine vc_X6_findOdds_65 ⟨fun _ => cm_starts hx1 hmk (fun υ hf2 c1 c2 c3 c4 => ?_), fun h => absurd (by rw [hx1.2, il (by omega) (by omega)]; omega) h⟩
            rintro _ rfl
            have hw1 : mw (hs_w υ 63 17 (nI c)) T c (tw T) (T 9 0) := mw_of (by rw [w_ne (by decide)]; exact c1) (by rw [w_at (by decide)]; exact c2) w_eq (fun r hr => by rw [w_ne (by decide)]; exact c4 r hr)
            refine cm_harmOf (by omega) hw1 hmk (by omega) (mwk_tw hmk) (fun φ hf3 hw3 => ?_)
            rintro _ rfl
            have hfφ : mf [65, 70] τ φ := (hf2.w17).fr hf3 (by decide)
            have hw4 : mw (hs_wl φ 20 ((hs_w υ 63 17 (nI c)).2 20 + lN (sp_wt v c (T 6 0)) * (nI (sp_tot (sp_run (mi T c) n (tw T)).2.2)).toInt64)) T c (sp_run (mi T c) n (tw T)) (T 9 0 + n) := hw3
            refine cm_resting hw4 hmk (mwk_run (mwk_tw hmk) n) ?_
            have hth : sp_tot (sp_run (mi T c) n (tw T)).2.2 = th (ti T c) n := rfl
            have hthl := th_le (ok_ill hk c) n
            have e20 : (hs_w υ 63 17 (nI c)).2 20 = lN (a_mean T v n c) := by
              show υ.2 20 = _
              rw [hf2.1, b1]
            have e19 : ∀ z, (hs_wl φ 20 z).2 19 = τ.2 19 := fun z => by rw [wl_ne (by decide), hfφ.1]
            have e21 : ∀ z : Nat, φ.2 21 = τ.2 21 := fun _ => by rw [hfφ.1]
            have hmean : a_mean T v n (c + 1) = a_mean T v n c + sp_wt v c (T 6 0) * th (ti T c) n := rfl
            rw [e20, hth, nI_l (by omega), lN_mul, lN_add, ← hmean]
            have hma : ∀ z y, ma σ (hs_wl (hs_wl φ 20 z) 19 y) := fun z y => hf.tr (hfφ.a (by decide))
            have hrs : ∀ k, sp_rs (mi T c) (sp_run (mi T c) n (tw T)) k = sp_rs (tp (ti T c)) (tr (ti T c) n) k := fun _ => rfl
            rw [bit_16 _ (bits16 _ h4) g hg4, e19]
            refine ⟨fun h => ?_, fun h => ?_⟩
            · rintro _ rfl
              rw [nI_1]
              refine ih (c + 1) _ (by omega) (by omega) (hma _ _) (by rw [wl_ne (by decide), wl_eq]) (by rw [wl_ne (by decide), wl_ne (by decide), e21 0]; exact b2) (fun hg => ?_)
              rw [wl_eq, b3 hg, Int64.add_zero]
              rw [bits_at _ _ _ hg, hrs] at h
              show _ = lN (a_luck T v g n c + (if sp_rs (tp (ti T c)) (tr (ti T c) n) g = true then sp_wt v c (T 6 0) else 0))
              rw [if_neg h, Nat.add_zero]
            · rintro _ rfl
              rw [nI_1]
              refine ih (c + 1) _ (by omega) (by omega) (hma _ _) (by rw [wl_ne (by decide), wl_eq]) (by rw [wl_ne (by decide), wl_ne (by decide), e21 0]; exact b2) (fun hg => ?_)
              rw [wl_eq, b3 hg, lN_add]
              rw [bits_at _ _ _ hg, hrs] at h
              show _ = lN (a_luck T v g n c + (if sp_rs (tp (ti T c)) (tr (ti T c) n) g = true then sp_wt v c (T 6 0) else 0))
              rw [if_pos h]
          | succ m2 ih2 =>
            intro k hm2 hk2
            have nx := ih2 (k + 1) (by omega) (by omega)
            refine vc_X6_findOdds_65 ⟨fun h => ?_, fun _ => ⟨fun h => ?_, fun h => ?_⟩⟩
            · rw [hx1.2, il (by omega) (by omega)] at h; omega
            · rw [bit_at c (by omega) k (by omega)] at h
              rintro _ rfl
              rw [sp_wt, if_neg h] at nx
              rw [nl_10, pk_sub hv, nI_l (by omega), lN_mul, nI_1]; exact nx
            · rw [bit_at c (by omega) k (by omega)] at h
              rintro _ rfl
              rw [sp_wt, if_pos h] at nx
              rw [nI_l (by omega), lN_mul, nI_1]; exact nx
        rw [ll_1, nl_0]
        exact inner (T 6 0) 0 (by omega) (by omega)
  have loopA : ∀ m k (τ : hs_St), T 6 0 - k = m → k ≤ T 6 0 → ma σ τ → τ.2 19 = lN 0 → τ.2 20 = lN 0 → τ.2 21 = lN (10 ^ k) → RnV m_X6_findOdds 18 [(0, .ref 63), (1, .int (nI v)), (2, .int (nI g)), (3, .int (nI n)), (4, .int (nI k))] [] τ K := by
    intro m
    induction m with
    | zero =>
      intro k τ hm hk2 hf b1 b2 b3
      have : k = T 6 0 := by omega
      subst this
      refine vc_X6_findOdds_18 ⟨fun _ => ?_, fun h => absurd (by rw [(hx.a hf).2, il (by omega) (by omega)]; omega) h⟩
      rw [nl_0]
      exact loopB (2 ^ T 6 0) 0 τ (by omega) (by omega) hf b2 b3 (fun _ => b1)
    | succ m ih =>
      intro k τ hm hk2 hf b1 b2 b3
      refine vc_X6_findOdds_18 ⟨fun h => ?_, fun _ => ?_⟩
      · rw [(hx.a hf).2, il (by omega) (by omega)] at h; omega
      · rintro _ rfl
        rw [b3, ll_10, lN_mul, ← Nat.pow_succ, nI_1]
        exact ih (k + 1) _ (by omega) (by omega) hf (by rw [wl_ne (by decide)]; exact b1) (by rw [wl_ne (by decide)]; exact b2) wl_eq
  refine vc_X6_findOdds ?_
  rintro _ rfl
  rintro _ rfl
  rintro _ rfl
  rw [nl_0]
  exact loopA (T 6 0) 0 _ (by omega) (by omega) ma.rf (by rw [wl_ne (by decide), wl_ne (by decide), wl_eq, ll_0]) (by rw [wl_ne (by decide), wl_eq, ll_0]) (by rw [wl_eq, ll_1])
theorem cm_luck {σ : hs_St} {K : Int64 → hs_St → Prop} {T : sp_T} {v g n w : Int32} (hx : mt σ T) (hk : tk T) (hK : ∀ τ, ma σ τ → K (s_luck T v g n w) τ) : OkL m_X6_luck [.ref 63, .int v, .int g, .int n, .int w] σ K := by
  have h4 := hk.1
  have h6 := hk.2.1
  have hp2 := pow2 h6
  have hp10 := pow10 h6
  unfold s_luck at hK
  refine vc_X6_luck (cm_inI ⟨fun hv => ?_, fun hv => cm_isGhost hx hk ⟨fun hg => ?_, fun hg => cm_isFar ⟨fun hn => ?_, fun hn => cm_isPart ⟨fun hw => ?_, fun hw => ?_⟩⟩⟩⟩)
  · change inr v 0 10 = false at hv
    have := hK σ ma.rf
    rw [if_pos hv] at this; exact this
  · change inr v 0 10 = true at hv
    have := hK σ ma.rf
    rw [if_neg (by rw [hv]; decide), if_pos hg] at this; exact this
  · change inr v 0 10 = true at hv
    have := hK σ ma.rf
    rw [if_neg (by rw [hv]; decide), if_neg (by rw [hg]; decide), if_pos hn] at this; exact this
  · change inr v 0 10 = true at hv
    rw [if_neg (by rw [hv]; decide), if_neg (by rw [hg]; decide), if_neg (by rw [hn]; decide), if_neg (by rw [hw]; decide)] at hK
    obtain ⟨q, hq, rfl⟩ := inr_of (hi := 10) hv
    obtain ⟨i, hi, rfl⟩ := inr_lt hg
    obtain ⟨j, hj, rfl⟩ := inr_of (hi := 60) hn
    rw [nI_clamp (by omega), nI_clamp (by omega), nI_clamp (by omega)] at hK
    refine cm_findOdds hq hj (by omega) hx hk (fun τ hf b1 b2 b3 => ?_)
    have := a_luck_le hk (g := i) (n := j) hq (2 ^ T 6 0)
    rw [b3 hi, b2]
    exact cm_told (by omega) (by omega) (by omega) (hK τ hf)
  · change inr v 0 10 = true at hv
    have := hK σ ma.rf
    rw [if_neg (by rw [hv]; decide), if_neg (by rw [hg]; decide), if_neg (by rw [hn]; decide), if_pos hw] at this; exact this
theorem cm_mean {σ : hs_St} {K : Int64 → hs_St → Prop} {T : sp_T} {v n w : Int32} (hx : mt σ T) (hk : tk T) (hK : ∀ τ, ma σ τ → K (s_mean T v n w) τ) : OkL m_X6_mean [.ref 63, .int v, .int n, .int w] σ K := by
  have h6 := hk.2.1
  have hp2 := pow2 h6
  have hp10 := pow10 h6
  unfold s_mean at hK
  refine vc_X6_mean (cm_inI ⟨fun hv => ?_, fun hv => cm_isFar ⟨fun hn => ?_, fun hn => cm_isPart ⟨fun hw => ?_, fun hw => ?_⟩⟩⟩)
  · change inr v 0 10 = false at hv
    have := hK σ ma.rf
    rw [if_pos hv] at this; exact this
  · change inr v 0 10 = true at hv
    have := hK σ ma.rf
    rw [if_neg (by rw [hv]; decide), if_pos hn] at this; exact this
  · change inr v 0 10 = true at hv
    rw [if_neg (by rw [hv]; decide), if_neg (by rw [hn]; decide), if_neg (by rw [hw]; decide)] at hK
    obtain ⟨q, hq, rfl⟩ := inr_of (hi := 10) hv
    obtain ⟨j, hj, rfl⟩ := inr_of (hi := 60) hn
    rw [nI_clamp (by omega), nI_clamp (by omega)] at hK
    have e0 : (0 : Int32) = nI 0 := nl_0
    rw [e0]
    refine cm_findOdds (g := 0) hq hj (by omega) hx hk (fun τ hf b1 b2 b3 => ?_)
    have := a_mean_le hk hq hj (2 ^ T 6 0)
    rw [b1, b2]
    exact cm_told (by omega) (by omega) (by omega) (hK τ hf)
  · change inr v 0 10 = true at hv
    have := hK σ ma.rf
    rw [if_neg (by rw [hv]; decide), if_neg (by rw [hn]; decide), if_pos hw] at this; exact this
