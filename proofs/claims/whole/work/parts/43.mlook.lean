/-! the model: look -/
theorem mx_le {a b : Nat} (ha : a < 2147483648) (hb : b < 2147483648) : (if nI a ≤ nI b then nI b else nI a) = nI (max b a) := by
  by_cases h : a ≤ b
  · rw [if_pos (by rw [il ha hb]; exact h), Nat.max_eq_left h]
  · rw [if_neg (by rw [il ha hb]; exact h), Nat.max_eq_right (by omega)]
set_option maxHeartbeats 1000000 in
theorem cm_look {σ : hs_St} {K : Int32 → hs_St → Prop} {T : sp_T} {g w : Int32} (hx : mt σ T) (hk : tk T) (hK : ∀ τ, ma σ τ → K (s_look T g w) τ) : OkI m_X6_look [.ref 63, .int g, .int w] σ K := by
  have h4 := hk.1
  unfold s_look at hK
  refine vc_X6_look (cm_isGhost hx hk ⟨fun hg => ?_, fun hg => cm_isPart ⟨fun hw => ?_, fun hw => ?_⟩⟩)
  · have := hK σ ma.rf
    rw [if_pos hg] at this; exact this
  · rw [if_neg (by rw [hg]; decide), if_neg (by rw [hw]; decide)] at hK
    obtain ⟨i, hi, rfl⟩ := inr_lt hg
    rw [nI_clamp (by omega)] at hK
    have kg := hk.2.2.2.2.1 i hi
    generalize hP : (fun b => sp_so (tb T i (T 1 i) b)) = P at hK
    have hPb : ∀ b, sp_so (tb T i (T 1 i) b) = P b := fun b => by rw [← hP]
    -- the last stage
    have loopD : ∀ (τ : hs_St), ma σ τ → (∀ n r, n ≤ 20 → r < 6 → τ.1 72 (6 * n + r) = nI (sp_cnt (sp_by T i n r) 99)) → ∀ m n, 21 - n = m → n ≤ 21 → RnI m_X6_look 122 [(0, .ref 63), (1, .int (nI i)), (2, .int w), (3, .int (ls (f_look T i) (fun _ => true) (nI (sp_cnt P 99)) n).2), (4, .int (ls (f_look T i) (fun _ => true) (nI (sp_cnt P 99)) n).1), (5, .int (nI n))] [] τ K := by
      intro τ hf h72 m
      induction m with
      | zero =>
        intro n hm hn
        have : n = 21 := by omega
        subst this
        have h2 := hK τ hf
        unfold pick at h2
        refine vc_X6_look_122 ⟨fun _ => ⟨fun h => ⟨fun h0 => ?_, fun h0 => ?_⟩, fun h => ?_⟩, fun h => absurd (by rw [nl_20, ilt (by omega) (by omega)]; omega) h⟩
        · rw [if_neg h, if_neg h0] at h2; exact h2
        · rw [if_neg h, if_pos h0] at h2; exact h2
        · rw [if_pos h] at h2; exact h2
      | succ m ih =>
        intro n hm hn
        have nx := ih (n + 1) (by omega) (by omega)
        refine vc_X6_look_122 ⟨fun h => ?_, fun _ => ?_⟩
        · rw [nl_20, ilt (by omega) (by omega)] at h; omega
        · have inner : ∀ m2 r, 6 - r = m2 → r ≤ 6 → RnI m_X6_look 135 [(0, .ref 63), (1, .int (nI i)), (2, .int w), (3, .int (ls (f_look T i) (fun _ => true) (nI (sp_cnt P 99)) n).2), (4, .int (ls (f_look T i) (fun _ => true) (nI (sp_cnt P 99)) n).1), (5, .int (nI n)), (6, .int (nI (sp_wm (fun r => sp_cnt (sp_by T i n r) 99) r))), (7, .int (nI r))] [] τ K := by
            intro m2
            induction m2 with
            | zero =>
              intro r hm2 hr
              have : r = 6 := by omega
              subst this
              refine vc_X6_look_135 ⟨fun _ => ⟨fun h => cm_lesser ?_, fun h => cm_lesser ?_⟩, fun h => absurd (by rw [nl_6, il (by omega) (by omega)]; omega) h⟩
              · rw [ls, if_neg (fun z => nle.mpr z.2 h)] at nx
                rw [if_pos h, nI_1]; exact nx
              · rw [ls, if_pos ⟨rfl, nle.mp h⟩] at nx
                rw [if_neg h, nI_1]; exact nx
            | succ m2 ih2 =>
              intro r hm2 hr
              have hb1 : sp_wm (fun r => sp_cnt (sp_by T i n r) 99) r ≤ 99 := sp_wm_le (fun r => sp_cnt_le _ _) r
              have hb2 := sp_cnt_le (sp_by T i n r) 99
              have nx2 := ih2 (r + 1) (by omega) (by omega)
              refine vc_X6_look_135 ⟨fun h => ?_, fun _ => ?_⟩
              · rw [nl_6, il (by omega) (by omega)] at h; omega
              · rw [nl_6, pk_mul, nI_add, nI_clamp (by omega), h72 n r (by omega) (by omega), nI_1]
                refine ⟨vp_in_nI (by omega) (by omega), fun h => ?_, fun h => ?_⟩
                · rw [il (by omega) (by omega)] at h
                  rw [sp_wm, Nat.max_eq_left h] at nx2; exact nx2
                · rw [il (by omega) (by omega)] at h
                  rintro _ rfl
                  rw [sp_wm, Nat.max_eq_right (by omega)] at nx2; exact nx2
          rw [nl_0]
          exact inner 6 0 (by omega) (by omega)
    -- every second number
    have loopB : ∀ m b (τ : hs_St), 99 - b = m → b ≤ 99 → ma σ τ → (∀ n r, n ≤ 20 → r < 6 → τ.1 72 (6 * n + r) = nI (sp_cnt (sp_by T i n r) b)) → RnI m_X6_look 50 [(0, .ref 63), (1, .int (nI i)), (2, .int w), (3, .int (nI (sp_cnt P b))), (4, .int (-4)), (5, .int (nI (b + 1)))] [] τ K := by
      intro m
      induction m with
      | zero =>
        intro b τ hm hb hf h72
        have : b = 99 := by omega
        subst this
        refine vc_X6_look_50 ⟨fun _ => ?_, fun h => absurd (by rw [nl_99, ilt (by omega) (by omega)]; omega) h⟩
        rw [nl_0]
        exact loopD τ hf h72 21 0 (by omega) (by omega)
      | succ m ih =>
        intro b τ hm hb hf h72
        have hkb := tk_b (g := i) hk kg.1 (show 1 ≤ b + 1 by omega) (show b + 1 ≤ 99 by omega)
        refine vc_X6_look_50 ⟨fun h => ?_, fun _ => cm_isSo2 hi (by omega) (by omega) (hx.a hf) hk (fun υ hf2 h71 => ?_)⟩
        · rw [nl_99, ilt (by omega) (by omega)] at h; omega
        · rw [hPb]
          have hma := hf.tr (hf2.a (by decide))
          have e72 : υ.1 72 = τ.1 72 := hf2.2.1 72 (by decide) (by decide)
          refine ⟨fun h => ?_, fun h => ?_⟩
          · rw [nI_1]
            have := ih (b + 1) υ (by omega) (by omega) hma (fun n r hn hr => by
              rw [e72, h72 n r hn hr]
              simp only [sp_cnt, sp_by, hPb, h, Bool.false_and]
              rfl)
            rw [sp_cnt, if_neg (by rw [h]; decide), Nat.add_zero] at this
            exact this
          · have inner : ∀ m2 n (φ : hs_St), 21 - n = m2 → n ≤ 21 → ma σ φ → mt71 φ (tb T i (T 1 i) (b + 1)) 21 → (∀ n' r, n' ≤ 20 → r < 6 → φ.1 72 (6 * n' + r) = nI (sp_cnt (sp_by T i n' r) b + (if n' < n ∧ (tr (tb T i (T 1 i) (b + 1)) n').1 i = r then 1 else 0))) → RnI m_X6_look 74 [(0, .ref 63), (1, .int (nI i)), (2, .int w), (3, .int (nI (sp_cnt P b + 1))), (4, .int (-4)), (5, .int (nI (b + 1))), (6, .int (nI n))] [] φ K := by
              intro m2
              induction m2 with
              | zero =>
                intro n φ hm2 hn hf3 h71 h72
                have : n = 21 := by omega
                subst this
                refine vc_X6_look_74 ⟨fun _ => ?_, fun h => absurd (by rw [nl_20, ilt (by omega) (by omega)]; omega) h⟩
                rw [nI_1]
                have := ih (b + 1) φ (by omega) (by omega) hf3 (fun n r hn hr => by
                  rw [h72 n r hn hr]
                  have hn21 : n < 21 := by omega
                  simp only [sp_cnt, sp_by, hPb, h, hn21, true_and, Bool.true_and, decide_eq_true_eq])
                rw [sp_cnt, if_pos h] at this
                exact this
              | succ m2 ih2 =>
                intro n φ hm2 hn hf3 h71 h72
                have hr6 := run_rm hkb n i hi
                have e71 : φ.1 71 (4 * n + i) = nI ((tr (tb T i (T 1 i) (b + 1)) n).1 i) := h71 n i (by omega) hi
                refine vc_X6_look_74 ⟨fun h => ?_, fun _ => ?_⟩
                · rw [nl_20, ilt (by omega) (by omega)] at h; omega
                · rw [nl_4, pk_mul, nI_add, nI_clamp (by omega), e71, nl_6, pk_mul, nI_add, nI_clamp (by omega), h72 n _ (by omega) hr6, nI_1, nI_1]
                  refine ⟨vp_in_nI (by omega) (by omega), vp_in_nI (by omega) (by omega), ?_⟩
                  rintro _ rfl
                  refine ih2 (n + 1) _ (by omega) (by omega) ⟨fun k h1 h2 => ?_, fun j hj => ?_⟩ ?_ (fun n' r h1 h2 => ?_)
                  · rw [w_ne (fun e => h1 (by rw [e]; decide))]; exact hf3.1 k h1 h2
                  · rw [w_ne (by decide)]; exact hf3.2 j hj
                  · intro m3 g3 h5 h6
                    rw [w_ne (by decide)]; exact h71 m3 g3 h5 h6
                  · by_cases e : 6 * n' + r = 6 * n + (tr (tb T i (T 1 i) (b + 1)) n).1 i
                    · have e1 : n' = n := by omega
                      subst e1
                      have e2 : r = (tr (tb T i (T 1 i) (b + 1)) n').1 i := by omega
                      subst e2
                      rw [w_eq]
                      congr 1
                      simp
                    · rw [w_at e, h72 n' r h1 h2]
                      congr 2
                      by_cases e3 : n' = n
                      · subst e3
                        have e4 : ¬ (tr (tb T i (T 1 i) (b + 1)) n').1 i = r := by omega
                        simp [e4]
                      · have e5 : (n' < n ↔ n' < n + 1) := by omega
                        simp [e5]
            rw [nI_1, nl_0]
            exact inner 21 0 υ (by omega) (by omega) hma h71 (fun n' r h1 h2 => by rw [e72, h72 n' r h1 h2]; simp)
    have loopA : ∀ m k (τ : hs_St), 126 - k = m → k ≤ 126 → ma σ τ → (∀ j, j < k → τ.1 72 j = nI 0) → RnI m_X6_look 26 [(0, .ref 63), (1, .int (nI i)), (2, .int w), (3, .int (nI 0)), (4, .int (-4)), (5, .int (nI k))] [] τ K := by
      intro m
      induction m with
      | zero =>
        intro k τ hm hk2 hf h72
        have : k = 126 := by omega
        subst this
        refine vc_X6_look_26 ⟨fun _ => ?_, fun h => absurd (by rw [nl_126, il (by omega) (by omega)]; omega) h⟩
        rw [nl_1]
        exact loopB 99 0 τ (by omega) (by omega) hf (fun n r hn hr => h72 _ (by omega))
      | succ m ih =>
        intro k τ hm hk2 hf h72
        refine vc_X6_look_26 ⟨fun h => ?_, fun _ => ⟨vp_in_nI (by omega) (by omega), ?_⟩⟩
        · rw [nl_126, il (by omega) (by omega)] at h; omega
        · rintro _ rfl
          rw [nI_1, nI_clamp (by omega)]
          refine ih (k + 1) _ (by omega) (by omega) ⟨fun k h1 h2 => ?_, fun j hj => ?_⟩ (fun j hj => ?_)
          · rw [w_ne (fun e => h1 (by rw [e]; decide))]; exact hf.1 k h1 h2
          · rw [w_ne (by decide)]; exact hf.2 j hj
          · by_cases e : j = k
            · subst e; rw [w_eq, nl_0]
            · rw [w_at e]; exact h72 j (by omega)
    have := loopA 126 0 σ (by omega) (by omega) ma.rf (fun j hj => by omega)
    rw [nI_0] at this
    exact this
  · have := hK σ ma.rf
    rw [if_neg (by rw [hg]; decide), if_pos hw] at this; exact this
