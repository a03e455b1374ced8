/-! the class's draft -/
abbrev SD : List Nat := [22, 23, 24, 25, 26, 27, 28, 29, 30, 31, 32]
def xt22 (σ : hs_St) (T : sp_T) : Prop :=
  σ.1 22 0 = nI (T 0 0) ∧ σ.1 22 6 = nI (T 6 0) ∧ σ.1 22 9 = nI (T 9 0) ∧ σ.1 22 10 = nI (T 10 0) ∧
  (∀ g, g < T 0 0 → σ.1 23 g = nI (T 1 g) ∧ σ.1 24 g = nI (T 2 g) ∧ σ.1 25 g = nI (T 3 g) ∧ σ.1 26 g = nI (T 4 g) ∧ σ.1 27 g = nI (T 5 g)) ∧
  (∀ c, c < T 6 0 → σ.1 28 c = nI (T 7 c) ∧ σ.1 29 c = nI (T 8 c)) ∧
  (∀ i, i < T 10 0 → σ.1 30 i = nI (T 11 i) ∧ σ.1 31 i = nI (T 12 i) ∧ σ.1 32 i = nI (T 13 i))
theorem xt_22 {σ : hs_St} {T : sp_T} : xt 22 σ T ↔ xt22 σ T := Iff.rfl
theorem cx_addGhost_22 {σ : hs_St} {K : hs_St → Prop} {T : sp_T} {k a b r : Nat} (h4 : T 0 0 < 4) (hx : xt 22 σ T) (hK : ∀ τ, hs_fr SD σ τ → xt 22 τ (t_add T k a b r) → K τ) : OkV m_X3_addGhost [.ref 22, .int (nI k), .int (nI a), .int (nI b), .int (nI r)] σ K := by
  obtain ⟨x0, x6, x9, x10, xg, xc, xs⟩ := xt_22.mp hx
  have hvp : ∀ v : Int32, v = nI (T 0 0) → vp_in v 4 := fun v e => by rw [e]; exact vp_in_nI h4 (by omega)
  refine vc_X3_addGhost_22 ⟨fun h => ?_, fun _ => ⟨hvp _ x0, ?_⟩⟩
  · rw [x0, show (4 : Int32) = nI 4 from nl_4, il (by omega) (by omega)] at h; omega
  · rintro _ rfl
    refine ⟨hvp _ (by rw [w_ne (by decide)]; exact x0), ?_⟩
    rintro _ rfl
    refine ⟨hvp _ (by rw [w_ne (by decide), w_ne (by decide)]; exact x0), ?_⟩
    rintro _ rfl
    refine ⟨hvp _ (by rw [w_ne (by decide), w_ne (by decide), w_ne (by decide)]; exact x0), ?_⟩
    rintro _ rfl
    refine ⟨hvp _ (by rw [w_ne (by decide), w_ne (by decide), w_ne (by decide), w_ne (by decide)]; exact x0), ?_⟩
    rintro _ rfl
    rintro _ rfl
    simp only [w_ne (show (22 : Nat) ≠ 23 by decide), w_ne (show (22 : Nat) ≠ 24 by decide), w_ne (show (22 : Nat) ≠ 25 by decide), w_ne (show (22 : Nat) ≠ 26 by decide), w_ne (show (22 : Nat) ≠ 27 by decide)]
    rw [x0, nI_clamp (by omega), nI_1, nl_0]
    refine hK _ ((((((hs_fr.rf.w (by decide)).w (by decide)).w (by decide)).w (by decide)).w (by decide)).w (by decide)) (xt_22.mpr ?_)
    unfold xt22
    rw [t_add_f (f := 6) (by decide)]
    rw [t_add_f (f := 7) (by decide)]
    rw [t_add_f (f := 8) (by decide)]
    rw [t_add_f (f := 9) (by decide)]
    rw [t_add_f (f := 10) (by decide)]
    rw [t_add_f (f := 11) (by decide)]
    rw [t_add_f (f := 12) (by decide)]
    rw [t_add_f (f := 13) (by decide)]
    rw [t_add_0]
    obtain ⟨e1, e2, e3, e4, e5⟩ := t_add_1 (T := T) (k := k) (a := a) (b := b) (r := r)
    refine ⟨by rw [w_eq], ?_, ?_, ?_, fun j hj => ?_, ?_, ?_⟩
    · rw [w_at (by decide)]; simpa [hs_w, hs_ua] using x6
    · rw [w_at (by decide)]; simpa [hs_w, hs_ua] using x9
    · rw [w_at (by decide)]; simpa [hs_w, hs_ua] using x10
    · by_cases e : j = T 0 0
      · subst e
        rw [e1, e2, e3, e4, e5]
        simp [hs_w, hs_ua, upd]
      · rw [t_add_n e (by decide), t_add_n e (by decide), t_add_n e (by decide), t_add_n e (by decide), t_add_n e (by decide)]
        simpa [hs_w, hs_ua, upd, e] using xg j (by omega)
    · simpa [hs_w, hs_ua] using xc
    · simpa [hs_w, hs_ua] using xs
theorem cx_addClerk_22 {σ : hs_St} {K : hs_St → Prop} {T : sp_T} {r s : Nat} (h6 : T 6 0 < 3) (hx : xt 22 σ T) (hK : ∀ τ, hs_fr SD σ τ → xt 22 τ (t_cl T r s) → K τ) : OkV m_X3_addClerk [.ref 22, .int (nI r), .int (nI s)] σ K := by
  obtain ⟨x0, x6, x9, x10, xg, xc, xs⟩ := xt_22.mp hx
  have hvp : ∀ v : Int32, v = nI (T 6 0) → vp_in v 3 := fun v e => by rw [e]; exact vp_in_nI h6 (by omega)
  refine vc_X3_addClerk_22 ⟨fun h => ?_, fun _ => ⟨hvp _ x6, ?_⟩⟩
  · rw [x6, show (3 : Int32) = nI 3 from nl_3, il (by omega) (by omega)] at h; omega
  · rintro _ rfl
    refine ⟨hvp _ (by rw [w_ne (by decide)]; exact x6), ?_⟩
    rintro _ rfl
    rintro _ rfl
    simp only [w_ne (show (22 : Nat) ≠ 28 by decide), w_ne (show (22 : Nat) ≠ 29 by decide)]
    rw [x6, nI_clamp (by omega), nI_1]
    refine hK _ (((hs_fr.rf.w (by decide)).w (by decide)).w (by decide)) (xt_22.mpr ⟨?_, ?_, ?_, ?_, ?_, fun c hc => ?_, ?_⟩)
    · rw [w_at (by decide), w_ne (by decide), w_ne (by decide)]; exact x0
    · rw [w_eq]; rfl
    · rw [w_at (by decide), w_ne (by decide), w_ne (by decide)]; exact x9
    · rw [w_at (by decide), w_ne (by decide), w_ne (by decide)]; exact x10
    · intro g hg
      exact xg g hg
    · have hc : c < T 6 0 + 1 := hc
      by_cases e : c = T 6 0
      · subst e
        have e7 : t_cl T r s 7 (T 6 0) = r := by simp [t_cl]
        have e8 : t_cl T r s 8 (T 6 0) = s := by simp [t_cl]
        rw [e7, e8]
        simp [hs_w, hs_ua, upd]
      · have e7 : t_cl T r s 7 c = T 7 c := by simp [t_cl, e]
        have e8 : t_cl T r s 8 c = T 8 c := by simp [t_cl, e]
        rw [e7, e8]
        simpa [hs_w, hs_ua, upd, e] using xc c (by omega)
    · intro i hi
      exact xs i hi
theorem cx_empty_22 {σ : hs_St} {K : hs_St → Prop} (hK : ∀ τ, hs_fr SD σ τ → xt 22 τ t_0 → K τ) : OkV m_X3_empty [.ref 22] σ K := by
  refine vc_X3_empty_22 ?_
  rintro _ rfl
  rintro _ rfl
  rintro _ rfl
  rintro _ rfl
  refine hK _ ((((hs_fr.rf.w (by decide)).w (by decide)).w (by decide)).w (by decide)) (xt_22.mpr ⟨?_, ?_, ?_, ?_, fun g hg => absurd hg (Nat.not_lt_zero _), fun g hg => absurd hg (Nat.not_lt_zero _), fun g hg => absurd hg (Nat.not_lt_zero _)⟩)
  · rw [w_at (by decide), w_at (by decide), w_at (by decide), w_eq]; exact nl_0
  · rw [w_at (by decide), w_at (by decide), w_eq]; exact nl_0
  · rw [w_at (by decide), w_eq]; exact nl_0
  · rw [w_eq]; exact nl_0
theorem cx_hasGhost_22 {σ : hs_St} {K : Bool → hs_St → Prop} {T : sp_T} {g : Int32} (hx : xt 22 σ T) (h4 : T 0 0 ≤ 4) (hK : K (hgh T g) σ) : OkB m_X3_hasGhost [.ref 22, .int g] σ K := by
  refine vc_X3_hasGhost_22 (cx_within ?_)
  rw [hx.1, sub1 (by omega)]
  exact hK
