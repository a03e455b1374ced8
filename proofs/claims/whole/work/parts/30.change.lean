/-! what is changed -/
abbrev ST : List Nat := [8, 9, 10, 11, 12, 13, 14, 15, 16, 17, 18]
def mb (w v : Int32) : Bool := if w.toInt = 0 then inr v 0 3 else if w.toInt = 1 then inr v 1 99 else if w.toInt = 2 then inr v 1 99 else if w.toInt = 3 then inr v 0 5 else if w.toInt = 4 then inr v 0 20 else false
theorem cx_mayBeTold {σ : hs_St} {K : Bool → hs_St → Prop} {w v : Int32} (hK : K (mb w v) σ) : OkB m_X5_mayBeTold [.int w, .int v] σ K := by
  unfold mb at hK
  refine vc_X5_mayBeTold ⟨fun h => cx_within ?_, fun h => cx_within ?_, fun h => cx_within ?_, fun h => cx_isRoom ?_, fun h => cx_within ?_, fun h => ?_⟩
  · rw [if_pos h] at hK; exact hK
  · rw [if_neg (by omega), if_pos h] at hK; exact hK
  · rw [if_neg (by omega), if_neg (by omega), if_pos h] at hK; exact hK
  · rw [if_neg (by omega), if_neg (by omega), if_neg (by omega), if_pos h] at hK; exact hK
  · rw [if_neg (by omega), if_neg (by omega), if_neg (by omega), if_neg (by omega), if_pos h] at hK; exact hK
  · rw [if_neg (by omega), if_neg (by omega), if_neg (by omega), if_neg (by omega), if_neg (by omega)] at hK; exact hK
theorem inr_1 {x : Int32} {lo hi : Nat} (h : inr x lo hi = true) : ∃ j : Nat, lo ≤ j ∧ j ≤ hi ∧ x = nI j := by
  simp only [inr, decide_eq_true_eq] at h
  obtain ⟨j, hj, rfl⟩ := nI_of (x := x) (by rw [Int32.lt_iff_toInt_lt]; simp; omega)
  have h1 := nI_toInt hj
  rw [h1] at h
  exact ⟨j, by omega, by omega, rfl⟩
theorem mb_of {w v : Int32} (h : mb w v = true) : ∃ f j : Nat, f ≤ 4 ∧ w.toInt = f ∧ v = nI j ∧ (f = 0 → j < 4) ∧ (f = 1 → 1 ≤ j ∧ j ≤ 99) ∧ (f = 2 → 1 ≤ j ∧ j ≤ 99) ∧ (f = 3 → j < 6) ∧ (f = 4 → j ≤ 20) ∧ j ≤ 99 := by
  unfold mb at h
  split at h
  · rename_i e; obtain ⟨j, h1, h2, h3⟩ := inr_1 (lo := 0) (hi := 3) h; exact ⟨0, j, by omega, e, h3, by omega, by omega, by omega, by omega, by omega, by omega⟩
  · split at h
    · rename_i e; obtain ⟨j, h1, h2, h3⟩ := inr_1 (lo := 1) (hi := 99) h; exact ⟨1, j, by omega, e, h3, by omega, by omega, by omega, by omega, by omega, by omega⟩
    · split at h
      · rename_i e; obtain ⟨j, h1, h2, h3⟩ := inr_1 (lo := 1) (hi := 99) h; exact ⟨2, j, by omega, e, h3, by omega, by omega, by omega, by omega, by omega, by omega⟩
      · split at h
        · rename_i e; obtain ⟨j, h1, h2, h3⟩ := inr_1 (lo := 0) (hi := 5) h; exact ⟨3, j, by omega, e, h3, by omega, by omega, by omega, by omega, by omega, by omega⟩
        · split at h
          · rename_i e; obtain ⟨j, h1, h2, h3⟩ := inr_1 (lo := 0) (hi := 20) h; exact ⟨4, j, by omega, e, h3, by omega, by omega, by omega, by omega, by omega, by omega⟩
          · cases h
theorem xt_g1 {σ : hs_St} {T : sp_T} {g v : Nat} (hx : xt 8 σ T) : xt 8 (hs_w σ 9 g (nI v)) (tu T 1 g v) := by
  obtain ⟨x0, x6, x9, x10, xg, xc, xs⟩ := xt_8.mp hx
  refine xt_8.mpr ?_
  unfold xt8
  rw [tu_ne (f' := 0) (by decide)]
  rw [tu_ne (f' := 2) (by decide)]
  rw [tu_ne (f' := 3) (by decide)]
  rw [tu_ne (f' := 4) (by decide)]
  rw [tu_ne (f' := 5) (by decide)]
  rw [tu_ne (f' := 6) (by decide)]
  rw [tu_ne (f' := 7) (by decide)]
  rw [tu_ne (f' := 8) (by decide)]
  rw [tu_ne (f' := 9) (by decide)]
  rw [tu_ne (f' := 10) (by decide)]
  rw [tu_ne (f' := 11) (by decide)]
  rw [tu_ne (f' := 12) (by decide)]
  rw [tu_ne (f' := 13) (by decide)]
  rw [w_ne (k' := 8) (by decide)]
  rw [w_ne (k' := 10) (by decide)]
  rw [w_ne (k' := 11) (by decide)]
  rw [w_ne (k' := 12) (by decide)]
  rw [w_ne (k' := 13) (by decide)]
  rw [w_ne (k' := 14) (by decide)]
  rw [w_ne (k' := 15) (by decide)]
  rw [w_ne (k' := 16) (by decide)]
  rw [w_ne (k' := 17) (by decide)]
  rw [w_ne (k' := 18) (by decide)]
  refine ⟨x0, x6, x9, x10, fun j hj => ?_, xc, xs⟩
  have h := xg j hj
  by_cases e : j = g
  · subst e; rw [w_eq, tu_eq]
    exact ⟨rfl, h.2.1, h.2.2.1, h.2.2.2.1, h.2.2.2.2⟩
  · rw [w_at e, tu_at e]; exact h
theorem xt_g2 {σ : hs_St} {T : sp_T} {g v : Nat} (hx : xt 8 σ T) : xt 8 (hs_w σ 10 g (nI v)) (tu T 2 g v) := by
  obtain ⟨x0, x6, x9, x10, xg, xc, xs⟩ := xt_8.mp hx
  refine xt_8.mpr ?_
  unfold xt8
  rw [tu_ne (f' := 0) (by decide)]
  rw [tu_ne (f' := 1) (by decide)]
  rw [tu_ne (f' := 3) (by decide)]
  rw [tu_ne (f' := 4) (by decide)]
  rw [tu_ne (f' := 5) (by decide)]
  rw [tu_ne (f' := 6) (by decide)]
  rw [tu_ne (f' := 7) (by decide)]
  rw [tu_ne (f' := 8) (by decide)]
  rw [tu_ne (f' := 9) (by decide)]
  rw [tu_ne (f' := 10) (by decide)]
  rw [tu_ne (f' := 11) (by decide)]
  rw [tu_ne (f' := 12) (by decide)]
  rw [tu_ne (f' := 13) (by decide)]
  rw [w_ne (k' := 8) (by decide)]
  rw [w_ne (k' := 9) (by decide)]
  rw [w_ne (k' := 11) (by decide)]
  rw [w_ne (k' := 12) (by decide)]
  rw [w_ne (k' := 13) (by decide)]
  rw [w_ne (k' := 14) (by decide)]
  rw [w_ne (k' := 15) (by decide)]
  rw [w_ne (k' := 16) (by decide)]
  rw [w_ne (k' := 17) (by decide)]
  rw [w_ne (k' := 18) (by decide)]
  refine ⟨x0, x6, x9, x10, fun j hj => ?_, xc, xs⟩
  have h := xg j hj
  by_cases e : j = g
  · subst e; rw [w_eq, tu_eq]
    exact ⟨h.1, rfl, h.2.2.1, h.2.2.2.1, h.2.2.2.2⟩
  · rw [w_at e, tu_at e]; exact h
theorem xt_g3 {σ : hs_St} {T : sp_T} {g v : Nat} (hx : xt 8 σ T) : xt 8 (hs_w σ 11 g (nI v)) (tu T 3 g v) := by
  obtain ⟨x0, x6, x9, x10, xg, xc, xs⟩ := xt_8.mp hx
  refine xt_8.mpr ?_
  unfold xt8
  rw [tu_ne (f' := 0) (by decide)]
  rw [tu_ne (f' := 1) (by decide)]
  rw [tu_ne (f' := 2) (by decide)]
  rw [tu_ne (f' := 4) (by decide)]
  rw [tu_ne (f' := 5) (by decide)]
  rw [tu_ne (f' := 6) (by decide)]
  rw [tu_ne (f' := 7) (by decide)]
  rw [tu_ne (f' := 8) (by decide)]
  rw [tu_ne (f' := 9) (by decide)]
  rw [tu_ne (f' := 10) (by decide)]
  rw [tu_ne (f' := 11) (by decide)]
  rw [tu_ne (f' := 12) (by decide)]
  rw [tu_ne (f' := 13) (by decide)]
  rw [w_ne (k' := 8) (by decide)]
  rw [w_ne (k' := 9) (by decide)]
  rw [w_ne (k' := 10) (by decide)]
  rw [w_ne (k' := 12) (by decide)]
  rw [w_ne (k' := 13) (by decide)]
  rw [w_ne (k' := 14) (by decide)]
  rw [w_ne (k' := 15) (by decide)]
  rw [w_ne (k' := 16) (by decide)]
  rw [w_ne (k' := 17) (by decide)]
  rw [w_ne (k' := 18) (by decide)]
  refine ⟨x0, x6, x9, x10, fun j hj => ?_, xc, xs⟩
  have h := xg j hj
  by_cases e : j = g
  · subst e; rw [w_eq, tu_eq]
    exact ⟨h.1, h.2.1, rfl, h.2.2.2.1, h.2.2.2.2⟩
  · rw [w_at e, tu_at e]; exact h
theorem xt_g4 {σ : hs_St} {T : sp_T} {g v : Nat} (hx : xt 8 σ T) : xt 8 (hs_w σ 12 g (nI v)) (tu T 4 g v) := by
  obtain ⟨x0, x6, x9, x10, xg, xc, xs⟩ := xt_8.mp hx
  refine xt_8.mpr ?_
  unfold xt8
  rw [tu_ne (f' := 0) (by decide)]
  rw [tu_ne (f' := 1) (by decide)]
  rw [tu_ne (f' := 2) (by decide)]
  rw [tu_ne (f' := 3) (by decide)]
  rw [tu_ne (f' := 5) (by decide)]
  rw [tu_ne (f' := 6) (by decide)]
  rw [tu_ne (f' := 7) (by decide)]
  rw [tu_ne (f' := 8) (by decide)]
  rw [tu_ne (f' := 9) (by decide)]
  rw [tu_ne (f' := 10) (by decide)]
  rw [tu_ne (f' := 11) (by decide)]
  rw [tu_ne (f' := 12) (by decide)]
  rw [tu_ne (f' := 13) (by decide)]
  rw [w_ne (k' := 8) (by decide)]
  rw [w_ne (k' := 9) (by decide)]
  rw [w_ne (k' := 10) (by decide)]
  rw [w_ne (k' := 11) (by decide)]
  rw [w_ne (k' := 13) (by decide)]
  rw [w_ne (k' := 14) (by decide)]
  rw [w_ne (k' := 15) (by decide)]
  rw [w_ne (k' := 16) (by decide)]
  rw [w_ne (k' := 17) (by decide)]
  rw [w_ne (k' := 18) (by decide)]
  refine ⟨x0, x6, x9, x10, fun j hj => ?_, xc, xs⟩
  have h := xg j hj
  by_cases e : j = g
  · subst e; rw [w_eq, tu_eq]
    exact ⟨h.1, h.2.1, h.2.2.1, rfl, h.2.2.2.2⟩
  · rw [w_at e, tu_at e]; exact h
theorem xt_g5 {σ : hs_St} {T : sp_T} {g v : Nat} (hx : xt 8 σ T) : xt 8 (hs_w σ 13 g (nI v)) (tu T 5 g v) := by
  obtain ⟨x0, x6, x9, x10, xg, xc, xs⟩ := xt_8.mp hx
  refine xt_8.mpr ?_
  unfold xt8
  rw [tu_ne (f' := 0) (by decide)]
  rw [tu_ne (f' := 1) (by decide)]
  rw [tu_ne (f' := 2) (by decide)]
  rw [tu_ne (f' := 3) (by decide)]
  rw [tu_ne (f' := 4) (by decide)]
  rw [tu_ne (f' := 6) (by decide)]
  rw [tu_ne (f' := 7) (by decide)]
  rw [tu_ne (f' := 8) (by decide)]
  rw [tu_ne (f' := 9) (by decide)]
  rw [tu_ne (f' := 10) (by decide)]
  rw [tu_ne (f' := 11) (by decide)]
  rw [tu_ne (f' := 12) (by decide)]
  rw [tu_ne (f' := 13) (by decide)]
  rw [w_ne (k' := 8) (by decide)]
  rw [w_ne (k' := 9) (by decide)]
  rw [w_ne (k' := 10) (by decide)]
  rw [w_ne (k' := 11) (by decide)]
  rw [w_ne (k' := 12) (by decide)]
  rw [w_ne (k' := 14) (by decide)]
  rw [w_ne (k' := 15) (by decide)]
  rw [w_ne (k' := 16) (by decide)]
  rw [w_ne (k' := 17) (by decide)]
  rw [w_ne (k' := 18) (by decide)]
  refine ⟨x0, x6, x9, x10, fun j hj => ?_, xc, xs⟩
  have h := xg j hj
  by_cases e : j = g
  · subst e; rw [w_eq, tu_eq]
    exact ⟨h.1, h.2.1, h.2.2.1, h.2.2.2.1, rfl⟩
  · rw [w_at e, tu_at e]; exact h
theorem xt_c7 {σ : hs_St} {T : sp_T} {g v : Nat} (hx : xt 8 σ T) : xt 8 (hs_w σ 14 g (nI v)) (tu T 7 g v) := by
  obtain ⟨x0, x6, x9, x10, xg, xc, xs⟩ := xt_8.mp hx
  refine xt_8.mpr ?_
  unfold xt8
  rw [tu_ne (f' := 0) (by decide)]
  rw [tu_ne (f' := 1) (by decide)]
  rw [tu_ne (f' := 2) (by decide)]
  rw [tu_ne (f' := 3) (by decide)]
  rw [tu_ne (f' := 4) (by decide)]
  rw [tu_ne (f' := 5) (by decide)]
  rw [tu_ne (f' := 6) (by decide)]
  rw [tu_ne (f' := 8) (by decide)]
  rw [tu_ne (f' := 9) (by decide)]
  rw [tu_ne (f' := 10) (by decide)]
  rw [tu_ne (f' := 11) (by decide)]
  rw [tu_ne (f' := 12) (by decide)]
  rw [tu_ne (f' := 13) (by decide)]
  rw [w_ne (k' := 8) (by decide)]
  rw [w_ne (k' := 9) (by decide)]
  rw [w_ne (k' := 10) (by decide)]
  rw [w_ne (k' := 11) (by decide)]
  rw [w_ne (k' := 12) (by decide)]
  rw [w_ne (k' := 13) (by decide)]
  rw [w_ne (k' := 15) (by decide)]
  rw [w_ne (k' := 16) (by decide)]
  rw [w_ne (k' := 17) (by decide)]
  rw [w_ne (k' := 18) (by decide)]
  refine ⟨x0, x6, x9, x10, xg, fun j hj => ?_, xs⟩
  have h := xc j hj
  by_cases e : j = g
  · subst e; rw [w_eq, tu_eq]
    exact ⟨rfl, h.2⟩
  · rw [w_at e, tu_at e]; exact h
theorem xt_c8 {σ : hs_St} {T : sp_T} {g v : Nat} (hx : xt 8 σ T) : xt 8 (hs_w σ 15 g (nI v)) (tu T 8 g v) := by
  obtain ⟨x0, x6, x9, x10, xg, xc, xs⟩ := xt_8.mp hx
  refine xt_8.mpr ?_
  unfold xt8
  rw [tu_ne (f' := 0) (by decide)]
  rw [tu_ne (f' := 1) (by decide)]
  rw [tu_ne (f' := 2) (by decide)]
  rw [tu_ne (f' := 3) (by decide)]
  rw [tu_ne (f' := 4) (by decide)]
  rw [tu_ne (f' := 5) (by decide)]
  rw [tu_ne (f' := 6) (by decide)]
  rw [tu_ne (f' := 7) (by decide)]
  rw [tu_ne (f' := 9) (by decide)]
  rw [tu_ne (f' := 10) (by decide)]
  rw [tu_ne (f' := 11) (by decide)]
  rw [tu_ne (f' := 12) (by decide)]
  rw [tu_ne (f' := 13) (by decide)]
  rw [w_ne (k' := 8) (by decide)]
  rw [w_ne (k' := 9) (by decide)]
  rw [w_ne (k' := 10) (by decide)]
  rw [w_ne (k' := 11) (by decide)]
  rw [w_ne (k' := 12) (by decide)]
  rw [w_ne (k' := 13) (by decide)]
  rw [w_ne (k' := 14) (by decide)]
  rw [w_ne (k' := 16) (by decide)]
  rw [w_ne (k' := 17) (by decide)]
  rw [w_ne (k' := 18) (by decide)]
  refine ⟨x0, x6, x9, x10, xg, fun j hj => ?_, xs⟩
  have h := xc j hj
  by_cases e : j = g
  · subst e; rw [w_eq, tu_eq]
    exact ⟨h.1, rfl⟩
  · rw [w_at e, tu_at e]; exact h
theorem tk_tu {T : sp_T} {f g v : Nat} (h : tk T) (hf : 1 ≤ f) (hf5 : f ≤ 5) (h1 : f = 1 → v < 4) (h2 : f = 2 → 1 ≤ v ∧ v ≤ 99) (h3 : f = 3 → 1 ≤ v ∧ v ≤ 99) (h4 : f = 4 → v < 6) (h5 : f = 5 → v ≤ 20) : tk (tu T f g v) := by
  obtain ⟨k0, k6, k9, k10, kg, kc, ks⟩ := h
  unfold tk
  rw [tu_ne (f' := 0) (by omega)]
  rw [tu_ne (f' := 6) (by omega)]
  rw [tu_ne (f' := 7) (by omega)]
  rw [tu_ne (f' := 8) (by omega)]
  rw [tu_ne (f' := 9) (by omega)]
  rw [tu_ne (f' := 10) (by omega)]
  rw [tu_ne (f' := 11) (by omega)]
  rw [tu_ne (f' := 12) (by omega)]
  rw [tu_ne (f' := 13) (by omega)]
  refine ⟨k0, k6, k9, k10, fun j hj => ?_, kc, ks⟩
  have := kg j hj
  rcases (show f = 1 ∨ f = 2 ∨ f = 3 ∨ f = 4 ∨ f = 5 by omega) with rfl | rfl | rfl | rfl | rfl
  · rw [tu_ne (f' := 2) (by decide), tu_ne (f' := 3) (by decide), tu_ne (f' := 4) (by decide), tu_ne (f' := 5) (by decide)]
    by_cases e : j = g
    · subst e; rw [tu_eq]; simp at h1 h2 h3 h4 h5; omega
    · rw [tu_at e]; exact this
  · rw [tu_ne (f' := 1) (by decide), tu_ne (f' := 3) (by decide), tu_ne (f' := 4) (by decide), tu_ne (f' := 5) (by decide)]
    by_cases e : j = g
    · subst e; rw [tu_eq]; simp at h1 h2 h3 h4 h5; omega
    · rw [tu_at e]; exact this
  · rw [tu_ne (f' := 1) (by decide), tu_ne (f' := 2) (by decide), tu_ne (f' := 4) (by decide), tu_ne (f' := 5) (by decide)]
    by_cases e : j = g
    · subst e; rw [tu_eq]; simp at h1 h2 h3 h4 h5; omega
    · rw [tu_at e]; exact this
  · rw [tu_ne (f' := 1) (by decide), tu_ne (f' := 2) (by decide), tu_ne (f' := 3) (by decide), tu_ne (f' := 5) (by decide)]
    by_cases e : j = g
    · subst e; rw [tu_eq]; simp at h1 h2 h3 h4 h5; omega
    · rw [tu_at e]; exact this
  · rw [tu_ne (f' := 1) (by decide), tu_ne (f' := 2) (by decide), tu_ne (f' := 3) (by decide), tu_ne (f' := 4) (by decide)]
    by_cases e : j = g
    · subst e; rw [tu_eq]; simp at h1 h2 h3 h4 h5; omega
    · rw [tu_at e]; exact this
theorem cx_tell {σ : hs_St} {K : hs_St → Prop} {T : sp_T} {g f v : Nat} {w : Int32} (hw : w.toInt = f) (hf : f ≤ 4) (hg : g < T 0 0) (hx : xt 8 σ T) (hk : tk T) (hK : ∀ τ, hs_fr ST σ τ → xt 8 τ (tu T (f + 1) g v) → K τ) : OkV m_X3_tell [.ref 8, .int (nI g), .int w, .int (nI v)] σ K := by
  have h4 := hk.1
  have hvp : vp_in (nI g) 4 := vp_in_nI (by omega) (by omega)
  refine vc_X3_tell ⟨fun h => ⟨hvp, ?_⟩, fun h => ⟨hvp, ?_⟩, fun h => ⟨hvp, ?_⟩, fun h => ⟨hvp, ?_⟩, fun h => ⟨hvp, ?_⟩⟩
  · have : f = 0 := by omega
    subst this
    rintro _ rfl
    rw [nI_clamp (by omega)]
    exact hK _ (hs_fr.rf.w (by decide)) (xt_g1 hx)
  · have : f = 1 := by omega
    subst this
    rintro _ rfl
    rw [nI_clamp (by omega)]
    exact hK _ (hs_fr.rf.w (by decide)) (xt_g2 hx)
  · have : f = 2 := by omega
    subst this
    rintro _ rfl
    rw [nI_clamp (by omega)]
    exact hK _ (hs_fr.rf.w (by decide)) (xt_g3 hx)
  · have : f = 3 := by omega
    subst this
    rintro _ rfl
    rw [nI_clamp (by omega)]
    exact hK _ (hs_fr.rf.w (by decide)) (xt_g4 hx)
  · have : f = 4 := by omega
    subst this
    rintro _ rfl
    rw [nI_clamp (by omega)]
    exact hK _ (hs_fr.rf.w (by decide)) (xt_g5 hx)
def s_alter (T : sp_T) (g w v : Int32) : Int32 × sp_T := if hgh T g = true ∧ mb w v = true then (nI (T (w.toInt.toNat + 1) g.toNatClampNeg), tu T (w.toInt.toNat + 1) g.toNatClampNeg v.toNatClampNeg) else (-1, T)
theorem tk_alter {T : sp_T} {g w v : Int32} (hk : tk T) : tk (s_alter T g w v).2 := by
  unfold s_alter
  split
  · rename_i h
    obtain ⟨f, j, h1, h2, h3, h4, h5, h6, h7, h8, h9⟩ := mb_of h.2
    subst h3
    rw [h2, nI_clamp (by omega)]
    exact tk_tu hk (by omega) (by omega) (by omega) (by omega) (by omega) (by omega) (by omega)
  · exact hk
theorem cx_alter {σ : hs_St} {K : Int32 → hs_St → Prop} {T : sp_T} {g w v : Int32} (hx : xt 8 σ T) (hk : tk T) (hK : ∀ τ, hs_fr ST σ τ → xt 8 τ (s_alter T g w v).2 → K (s_alter T g w v).1 τ) : OkI m_X5_alter [.ref 0, .int g, .int w, .int v] σ K := by
  unfold s_alter at hK
  refine vc_X5_alter (cx_hasGhost hx hk ⟨fun hg => ?_, fun hg => cx_mayBeTold ⟨fun hm => ?_, fun hm => ?_⟩⟩)
  · rw [if_neg (by rw [hg]; simp)] at hK; exact hK σ hs_fr.rf hx
  · rw [if_pos ⟨hg, hm⟩] at hK
    obtain ⟨i, hi, rfl⟩ := inr_lt hg
    obtain ⟨f, j, h1, h2, h3, -, -, -, -, -, h9⟩ := mb_of hm
    subst h3
    have h4 := hk.1
    rw [nI_clamp (by omega), nI_clamp (by omega), h2] at hK
    refine cx_told (by omega) (by omega) hi hx hk (cx_tell h2 h1 hi hx hk (fun τ hf hx2 => ?_))
    rw [h2]
    exact hK τ hf hx2
  · rw [if_neg (by rw [hm]; simp)] at hK; exact hK σ hs_fr.rf hx
def s_post (T : sp_T) (c w v : Int32) : Int32 × sp_T := if hck T c = true ∧ w = 0 ∧ inr v 0 5 = true then (nI (T 7 c.toNatClampNeg), tu T 7 c.toNatClampNeg v.toNatClampNeg) else if hck T c = true ∧ w = 1 ∧ inr v 1 3 = true then (nI (T 8 c.toNatClampNeg), tu T 8 c.toNatClampNeg v.toNatClampNeg) else (-1, T)
theorem tk_c {T : sp_T} {f c v : Nat} (h : tk T) (hf : f = 7 ∧ v < 6 ∨ f = 8 ∧ 1 ≤ v ∧ v ≤ 3) : tk (tu T f c v) := by
  obtain ⟨k0, k6, k9, k10, kg, kc, ks⟩ := h
  unfold tk
  rw [tu_ne (f' := 0) (by omega)]
  rw [tu_ne (f' := 1) (by omega)]
  rw [tu_ne (f' := 2) (by omega)]
  rw [tu_ne (f' := 3) (by omega)]
  rw [tu_ne (f' := 4) (by omega)]
  rw [tu_ne (f' := 5) (by omega)]
  rw [tu_ne (f' := 6) (by omega)]
  rw [tu_ne (f' := 9) (by omega)]
  rw [tu_ne (f' := 10) (by omega)]
  rw [tu_ne (f' := 11) (by omega)]
  rw [tu_ne (f' := 12) (by omega)]
  rw [tu_ne (f' := 13) (by omega)]
  refine ⟨k0, k6, k9, k10, kg, fun j hj => ?_, ks⟩
  have := kc j hj
  rcases hf with ⟨rfl, hf⟩ | ⟨rfl, hf⟩
  · rw [tu_ne (f' := 8) (by decide)]
    by_cases e : j = c
    · subst e; rw [tu_eq]; exact ⟨hf, this.2⟩
    · rw [tu_at e]; exact this
  · rw [tu_ne (f' := 7) (by decide)]
    by_cases e : j = c
    · subst e; rw [tu_eq]; exact ⟨this.1, hf⟩
    · rw [tu_at e]; exact this
theorem tk_post {T : sp_T} {c w v : Int32} (hk : tk T) : tk (s_post T c w v).2 := by
  unfold s_post
  split
  · rename_i h
    obtain ⟨j, h1, h2, rfl⟩ := inr_1 (lo := 0) (hi := 5) h.2.2
    rw [nI_clamp (by omega)]
    exact tk_c hk (by omega)
  · split
    · rename_i h
      obtain ⟨j, h1, h2, rfl⟩ := inr_1 (lo := 1) (hi := 3) h.2.2
      rw [nI_clamp (by omega)]
      exact tk_c hk (by omega)
    · exact hk
theorem cx_post {σ : hs_St} {K : Int32 → hs_St → Prop} {T : sp_T} {c w v : Int32} (hx : xt 8 σ T) (hk : tk T) (hK : ∀ τ, hs_fr ST σ τ → xt 8 τ (s_post T c w v).2 → K (s_post T c w v).1 τ) : OkI m_X5_post [.ref 0, .int c, .int w, .int v] σ K := by
  have h6 := hk.2.1
  have e01 : ¬ (0 : Int32) = 1 := by decide
  unfold s_post at hK
  refine vc_X5_post (cx_hasClerk hx hk ⟨fun hc => ⟨fun h0 => ⟨fun h1 => ?_, fun h1 => cx_within ⟨fun hv => ?_, fun hv => ?_⟩⟩, fun h0 => cx_isRoom ⟨fun hv => ⟨fun h1 => ?_, fun h1 => ?_⟩, fun hv => ?_⟩⟩, fun hc => ?_⟩)
  · rw [if_neg (by simp [h0]), if_neg (by simp [h1])] at hK; exact hK σ hs_fr.rf hx
  · change inr v 1 3 = false at hv
    rw [if_neg (by simp [h0]), if_neg (by simp [hv])] at hK; exact hK σ hs_fr.rf hx
  · change inr v 1 3 = true at hv
    rw [if_neg (by simp [h0]), if_pos ⟨hc, h1, hv⟩] at hK
    obtain ⟨i, hi, rfl⟩ := inr_lt hc
    obtain ⟨j, h7, h8, rfl⟩ := inr_1 (lo := 1) (hi := 3) hv
    rw [nI_clamp (by omega), nI_clamp (by omega)] at hK
    refine ⟨vp_in_nI (by omega) (by omega), ?_⟩
    rintro _ rfl
    rintro _ rfl
    rw [nI_clamp (by omega), ((xt_8.mp hx).2.2.2.2.2.1 i hi).2]
    exact hK _ (hs_fr.rf.w (by decide)) (xt_c8 hx)
  · rw [if_neg (by simp [hv]), if_neg (by simp [h1])] at hK; exact hK σ hs_fr.rf hx
  · rw [h0] at h1; exact absurd h1 e01
  · rw [if_pos ⟨hc, h0, hv⟩] at hK
    obtain ⟨i, hi, rfl⟩ := inr_lt hc
    obtain ⟨j, h7, h8, rfl⟩ := inr_1 (lo := 0) (hi := 5) hv
    rw [nI_clamp (by omega), nI_clamp (by omega)] at hK
    refine ⟨vp_in_nI (by omega) (by omega), ?_⟩
    rintro _ rfl
    rintro _ rfl
    rw [nI_clamp (by omega), ((xt_8.mp hx).2.2.2.2.2.1 i hi).1]
    exact hK _ (hs_fr.rf.w (by decide)) (xt_c7 hx)
  · rw [if_neg (by simp [hc]), if_neg (by simp [hc])] at hK; exact hK σ hs_fr.rf hx
/-- a ghost more -/
def t_add (T : sp_T) (k a b r : Nat) : sp_T := fun f i => if f = 0 ∧ i = 0 then T 0 0 + 1 else if i = T 0 0 ∧ 1 ≤ f ∧ f ≤ 5 then (if f = 1 then k else if f = 2 then a else if f = 3 then b else if f = 4 then r else 0) else T f i
theorem t_add_f {T : sp_T} {k a b r f : Nat} (h : 6 ≤ f) : t_add T k a b r f = T f := by
  funext i
  unfold t_add
  rw [if_neg (by omega), if_neg (by omega)]
theorem t_add_0 {T : sp_T} {k a b r : Nat} : t_add T k a b r 0 0 = T 0 0 + 1 := by simp [t_add]
theorem t_add_n {T : sp_T} {k a b r f i : Nat} (h : i ≠ T 0 0) (h1 : 1 ≤ f) : t_add T k a b r f i = T f i := by
  unfold t_add
  rw [if_neg (by omega), if_neg (by omega)]
theorem t_add_1 {T : sp_T} {k a b r : Nat} : t_add T k a b r 1 (T 0 0) = k ∧ t_add T k a b r 2 (T 0 0) = a ∧ t_add T k a b r 3 (T 0 0) = b ∧ t_add T k a b r 4 (T 0 0) = r ∧ t_add T k a b r 5 (T 0 0) = 0 := by simp [t_add]
def s_leave (T : sp_T) (k a b r : Int32) : Int32 × sp_T := if inr k 0 3 = true ∧ inr a 1 99 = true ∧ inr b 1 99 = true ∧ inr r 0 5 = true then (if T 0 0 < 4 then (nI (T 0 0), t_add T k.toNatClampNeg a.toNatClampNeg b.toNatClampNeg r.toNatClampNeg) else (-3, T)) else (-1, T)
theorem tk_add {T : sp_T} {k a b r : Nat} (h : tk T) (h4 : T 0 0 < 4) (hk : k < 4) (ha : 1 ≤ a ∧ a ≤ 99) (hb : 1 ≤ b ∧ b ≤ 99) (hr : r < 6) : tk (t_add T k a b r) := by
  obtain ⟨k0, k6, k9, k10, kg, kc, ks⟩ := h
  unfold tk
  rw [t_add_f (f := 6) (by decide)]
  rw [t_add_f (f := 7) (by decide)]
  rw [t_add_f (f := 8) (by decide)]
  rw [t_add_f (f := 9) (by decide)]
  rw [t_add_f (f := 10) (by decide)]
  rw [t_add_f (f := 11) (by decide)]
  rw [t_add_f (f := 12) (by decide)]
  rw [t_add_f (f := 13) (by decide)]
  rw [t_add_0]
  refine ⟨by omega, k6, k9, k10, fun j hj => ?_, kc, fun i hi => ?_⟩
  · by_cases e : j = T 0 0
    · subst e
      obtain ⟨e1, e2, e3, e4, e5⟩ := t_add_1 (T := T) (k := k) (a := a) (b := b) (r := r)
      rw [e1, e2, e3, e4, e5]
      exact ⟨hk, ha, hb, hr, by omega⟩
    · rw [t_add_n e (by decide), t_add_n e (by decide), t_add_n e (by decide), t_add_n e (by decide), t_add_n e (by decide)]
      exact kg j (by omega)
  · have := ks i hi
    omega
theorem tk_leave {T : sp_T} {k a b r : Int32} (hk : tk T) : tk (s_leave T k a b r).2 := by
  unfold s_leave
  split
  · rename_i h
    split
    · rename_i h4
      obtain ⟨_, a1, a2, rfl⟩ := inr_1 (lo := 0) (hi := 3) h.1
      obtain ⟨_, b1, b2, rfl⟩ := inr_1 (lo := 1) (hi := 99) h.2.1
      obtain ⟨_, c1, c2, rfl⟩ := inr_1 (lo := 1) (hi := 99) h.2.2.1
      obtain ⟨_, d1, d2, rfl⟩ := inr_1 (lo := 0) (hi := 5) h.2.2.2
      rw [nI_clamp (by omega), nI_clamp (by omega), nI_clamp (by omega), nI_clamp (by omega)]
      exact tk_add hk h4 (by omega) ⟨b1, b2⟩ ⟨c1, c2⟩ (by omega)
    · exact hk
  · exact hk
theorem cx_addGhost {σ : hs_St} {K : hs_St → Prop} {T : sp_T} {k a b r : Nat} (h4 : T 0 0 < 4) (hx : xt 8 σ T) (hK : ∀ τ, hs_fr ST σ τ → xt 8 τ (t_add T k a b r) → K τ) : OkV m_X3_addGhost [.ref 8, .int (nI k), .int (nI a), .int (nI b), .int (nI r)] σ K := by
  obtain ⟨x0, x6, x9, x10, xg, xc, xs⟩ := xt_8.mp hx
  have hvp : ∀ v : Int32, v = nI (T 0 0) → vp_in v 4 := fun v e => by rw [e]; exact vp_in_nI h4 (by omega)
  refine vc_X3_addGhost_8 ⟨fun h => ?_, fun _ => ⟨hvp _ x0, ?_⟩⟩
  · rw [x0, show (4 : Int32) = nI 4 from nl_4, il (by omega) (by omega)] at h; omega
  · rintro _ rfl
    refine ⟨hvp _ (by rw [w_ne (by decide)]; exact x0), ?_⟩
    rintro _ rfl
    refine ⟨hvp _ (by rw [w_ne (by decide), w_ne (by decide)]; exact x0), ?_⟩
    rintro _ rfl
    refine ⟨hvp _ (by rw [w_ne (by decide), w_ne (by decide), w_ne (by decide)]; exact x0), ?_⟩
    rintro _ rfl
    refine ⟨hvp _ (by rw [w_ne (by decide), w_ne (by decide), w_ne (by decide), w_ne (by decide)]; exact x0), ?_⟩
    rintro _ rfl
    rintro _ rfl
    simp only [w_ne (show (8 : Nat) ≠ 9 by decide), w_ne (show (8 : Nat) ≠ 10 by decide), w_ne (show (8 : Nat) ≠ 11 by decide), w_ne (show (8 : Nat) ≠ 12 by decide), w_ne (show (8 : Nat) ≠ 13 by decide)]
    rw [x0, nI_clamp (by omega), nI_1, nl_0]
    refine hK _ ((((((hs_fr.rf.w (by decide)).w (by decide)).w (by decide)).w (by decide)).w (by decide)).w (by decide)) (xt_8.mpr ?_)
    unfold xt8
    rw [t_add_f (f := 6) (by decide)]
    rw [t_add_f (f := 7) (by decide)]
    rw [t_add_f (f := 8) (by decide)]
    rw [t_add_f (f := 9) (by decide)]
    rw [t_add_f (f := 10) (by decide)]
    rw [t_add_f (f := 11) (by decide)]
    rw [t_add_f (f := 12) (by decide)]
    rw [t_add_f (f := 13) (by decide)]
    rw [t_add_0]
    obtain ⟨e1, e2, e3, e4, e5⟩ := t_add_1 (T := T) (k := k) (a := a) (b := b) (r := r)
    refine ⟨by rw [w_eq], ?_, ?_, ?_, fun j hj => ?_, ?_, ?_⟩
    · rw [w_at (by decide)]; simpa [hs_w, hs_ua] using x6
    · rw [w_at (by decide)]; simpa [hs_w, hs_ua] using x9
    · rw [w_at (by decide)]; simpa [hs_w, hs_ua] using x10
    · by_cases e : j = T 0 0
      · subst e
        rw [e1, e2, e3, e4, e5]
        simp [hs_w, hs_ua, upd]
      · rw [t_add_n e (by decide), t_add_n e (by decide), t_add_n e (by decide), t_add_n e (by decide), t_add_n e (by decide)]
        simpa [hs_w, hs_ua, upd, e] using xg j (by omega)
    · simpa [hs_w, hs_ua] using xc
    · simpa [hs_w, hs_ua] using xs
theorem cx_leave {σ : hs_St} {K : Int32 → hs_St → Prop} {T : sp_T} {k a b r : Int32} (hx : xt 8 σ T) (hk : tk T) (hK : ∀ τ, hs_fr ST σ τ → xt 8 τ (s_leave T k a b r).2 → K (s_leave T k a b r).1 τ) : OkI m_X5_leave [.ref 0, .int k, .int a, .int b, .int r] σ K := by
  have k4 := hk.1
  unfold s_leave at hK
  refine vc_X5_leave (cx_within ⟨fun h1 => ?_, fun h1 => cx_within ⟨fun h2 => ?_, fun h2 => cx_within ⟨fun h3 => ?_, fun h3 => cx_isRoom ⟨fun h5 => ⟨fun h6 => ?_, fun h6 => ?_⟩, fun h5 => ?_⟩⟩⟩⟩)
  · change inr k 0 3 = false at h1
    rw [if_neg (by simp [h1])] at hK; exact hK σ hs_fr.rf hx
  · change inr a 1 99 = false at h2
    rw [if_neg (by simp [h2])] at hK; exact hK σ hs_fr.rf hx
  · change inr b 1 99 = false at h3
    rw [if_neg (by simp [h3])] at hK; exact hK σ hs_fr.rf hx
  · rw [hx.1, nl_4, ilt (by omega) (by omega)] at h6
    rw [if_pos ⟨h1, h2, h3, h5⟩, if_pos h6] at hK
    obtain ⟨_, a1, a2, rfl⟩ := inr_1 (lo := 0) (hi := 3) h1
    obtain ⟨_, b1, b2, rfl⟩ := inr_1 (lo := 1) (hi := 99) h2
    obtain ⟨_, c1, c2, rfl⟩ := inr_1 (lo := 1) (hi := 99) h3
    obtain ⟨_, d1, d2, rfl⟩ := inr_1 (lo := 0) (hi := 5) h5
    rw [nI_clamp (by omega), nI_clamp (by omega), nI_clamp (by omega), nI_clamp (by omega)] at hK
    refine cx_addGhost h6 hx (fun τ hf hx2 => ?_)
    rw [hx2.1, t_add_0, nl_1, pk_sub (by omega)]
    exact hK τ hf hx2
  · rw [hx.1, nl_4, ilt (by omega) (by omega)] at h6
    rw [if_pos ⟨h1, h2, h3, h5⟩, if_neg h6] at hK; exact hK σ hs_fr.rf hx
  · rw [if_neg (by simp [h5])] at hK; exact hK σ hs_fr.rf hx
