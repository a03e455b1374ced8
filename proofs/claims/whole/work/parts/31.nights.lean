/-! seen; nights that go -/
def t_see (T : sp_T) (g n r : Nat) : sp_T := fun f i => if f = 10 ∧ i = 0 then T 10 0 + 1 else if i = T 10 0 ∧ 11 ≤ f then (if f = 11 then g else if f = 12 then n else if f = 13 then r else T f i) else T f i
theorem t_see_f {T : sp_T} {g n r f : Nat} (h : f ≤ 9) : t_see T g n r f = T f := by
  funext i
  unfold t_see
  rw [if_neg (by omega), if_neg (by omega)]
theorem t_see_0 {T : sp_T} {g n r : Nat} : t_see T g n r 10 0 = T 10 0 + 1 := by simp [t_see]
theorem t_see_n {T : sp_T} {g n r f i : Nat} (h : i ≠ T 10 0) (h1 : 11 ≤ f) : t_see T g n r f i = T f i := by
  unfold t_see
  rw [if_neg (by omega), if_neg (by omega)]
theorem t_see_1 {T : sp_T} {g n r : Nat} : t_see T g n r 11 (T 10 0) = g ∧ t_see T g n r 12 (T 10 0) = n ∧ t_see T g n r 13 (T 10 0) = r := by simp [t_see]
def s_see (T : sp_T) (g n r : Int32) : Int32 × sp_T := if hgh T g = true ∧ inr n 0 20 = true ∧ inr r 0 5 = true then (if T 10 0 < 6 then (nI (T 10 0 + 1), t_see T g.toNatClampNeg n.toNatClampNeg r.toNatClampNeg) else (-3, T)) else (-1, T)
theorem tk_seen {T : sp_T} {g n r : Nat} (h : tk T) (h6 : T 10 0 < 6) (hg : g < T 0 0) (hn : n ≤ 20) (hr : r < 6) : tk (t_see T g n r) := by
  obtain ⟨k0, k6, k9, k10, kg, kc, ks⟩ := h
  unfold tk
  rw [t_see_f (f := 0) (by decide)]
  rw [t_see_f (f := 1) (by decide)]
  rw [t_see_f (f := 2) (by decide)]
  rw [t_see_f (f := 3) (by decide)]
  rw [t_see_f (f := 4) (by decide)]
  rw [t_see_f (f := 5) (by decide)]
  rw [t_see_f (f := 6) (by decide)]
  rw [t_see_f (f := 7) (by decide)]
  rw [t_see_f (f := 8) (by decide)]
  rw [t_see_f (f := 9) (by decide)]
  rw [t_see_0]
  refine ⟨k0, k6, k9, by omega, kg, kc, fun j hj => ?_⟩
  by_cases e : j = T 10 0
  · subst e
    obtain ⟨e1, e2, e3⟩ := t_see_1 (T := T) (g := g) (n := n) (r := r)
    rw [e1, e2, e3]
    exact ⟨hg, hn, hr⟩
  · rw [t_see_n e (by decide), t_see_n e (by decide), t_see_n e (by decide)]
    exact ks j (by omega)
theorem tk_see {T : sp_T} {g n r : Int32} (hk : tk T) : tk (s_see T g n r).2 := by
  unfold s_see
  split
  · rename_i h
    split
    · rename_i h4
      obtain ⟨_, a1, rfl⟩ := inr_lt h.1
      obtain ⟨_, b1, rfl⟩ := inr_of (hi := 20) h.2.1
      obtain ⟨_, d1, rfl⟩ := inr_of (hi := 5) h.2.2
      have := hk.1
      rw [nI_clamp (by omega), nI_clamp (by omega), nI_clamp (by omega)]
      exact tk_seen hk h4 a1 b1 (by omega)
    · exact hk
  · exact hk
theorem cx_see {σ : hs_St} {K : Int32 → hs_St → Prop} {T : sp_T} {g n r : Int32} (hx : xt 8 σ T) (hk : tk T) (hK : ∀ τ, hs_fr ST σ τ → xt 8 τ (s_see T g n r).2 → K (s_see T g n r).1 τ) : OkI m_X5_see [.ref 0, .int g, .int n, .int r] σ K := by
  have k10 := hk.2.2.2.1
  have k4 := hk.1
  obtain ⟨x0, x6, x9, x10, xg, xc, xs⟩ := xt_8.mp hx
  unfold s_see at hK
  refine vc_X5_see (cx_hasGhost hx hk ⟨fun h1 => ?_, fun h1 => cx_within ⟨fun h2 => ?_, fun h2 => cx_isRoom ⟨fun h3 => ⟨fun h6 => ?_, fun h6 => ?_⟩, fun h3 => ?_⟩⟩⟩)
  · rw [if_neg (by simp [h1])] at hK; exact hK σ hs_fr.rf hx
  · change inr n 0 20 = false at h2
    rw [if_neg (by simp [h2])] at hK; exact hK σ hs_fr.rf hx
  · rw [x10, nl_6, ilt (by omega) (by omega)] at h6
    rw [if_pos ⟨h1, h2, h3⟩, if_pos h6] at hK
    obtain ⟨a, a1, rfl⟩ := inr_lt h1
    obtain ⟨b, b1, rfl⟩ := inr_of (hi := 20) h2
    obtain ⟨d, d1, rfl⟩ := inr_of (hi := 5) h3
    rw [nI_clamp (by omega), nI_clamp (by omega), nI_clamp (by omega)] at hK
    have hvp : ∀ v : Int32, v = nI (T 10 0) → vp_in v 6 := fun v e => by rw [e]; exact vp_in_nI h6 (by omega)
    refine ⟨hvp _ x10, ?_⟩
    rintro _ rfl
    refine ⟨hvp _ (by rw [w_ne (by decide)]; exact x10), ?_⟩
    rintro _ rfl
    refine ⟨hvp _ (by rw [w_ne (by decide), w_ne (by decide)]; exact x10), ?_⟩
    rintro _ rfl
    rintro _ rfl
    rw [w_eq]
    simp only [w_ne (show (8 : Nat) ≠ 16 by decide), w_ne (show (8 : Nat) ≠ 17 by decide), w_ne (show (8 : Nat) ≠ 18 by decide)]
    rw [x10, nI_clamp (by omega), nI_1]
    refine hK _ ((((hs_fr.rf.w (by decide)).w (by decide)).w (by decide)).w (by decide)) (xt_8.mpr ?_)
    show xt8 _ (t_see T a b d)
    unfold xt8
    rw [t_see_f (f := 0) (by decide)]
    rw [t_see_f (f := 1) (by decide)]
    rw [t_see_f (f := 2) (by decide)]
    rw [t_see_f (f := 3) (by decide)]
    rw [t_see_f (f := 4) (by decide)]
    rw [t_see_f (f := 5) (by decide)]
    rw [t_see_f (f := 6) (by decide)]
    rw [t_see_f (f := 7) (by decide)]
    rw [t_see_f (f := 8) (by decide)]
    rw [t_see_f (f := 9) (by decide)]
    rw [t_see_0]
    obtain ⟨e1, e2, e3⟩ := t_see_1 (T := T) (g := a) (n := b) (r := d)
    refine ⟨?_, ?_, ?_, by rw [w_eq], ?_, ?_, fun j hj => ?_⟩
    · rw [w_at (by decide)]; simpa [hs_w, hs_ua] using x0
    · rw [w_at (by decide)]; simpa [hs_w, hs_ua] using x6
    · rw [w_at (by decide)]; simpa [hs_w, hs_ua] using x9
    · simpa [hs_w, hs_ua] using xg
    · simpa [hs_w, hs_ua] using xc
    · by_cases e : j = T 10 0
      · subst e
        rw [e1, e2, e3]
        simp [hs_w, hs_ua, upd]
      · rw [t_see_n e (by decide), t_see_n e (by decide), t_see_n e (by decide)]
        simpa [hs_w, hs_ua, upd, e] using xs j (by omega)
  · rw [x10, nl_6, ilt (by omega) (by omega)] at h6
    rw [if_pos ⟨h1, h2, h3⟩, if_neg h6] at hK; exact hK σ hs_fr.rf hx
  · rw [if_neg (by simp [h3])] at hK; exact hK σ hs_fr.rf hx
def s_forget (T : sp_T) (n : Int32) : Int32 × sp_T := if inr n 0 (T 10 0 : Nat) = true then (nI (T 10 0), tu T 10 0 n.toNatClampNeg) else (-1, T)
theorem tk_10 {T : sp_T} {n : Nat} (hk : tk T) (hn : n ≤ T 10 0) : tk (tu T 10 0 n) := by
  obtain ⟨k0, k6, k9, k10, kg, kc, ks⟩ := hk
  unfold tk
  rw [tu_ne (f' := 0) (by decide)]
  rw [tu_ne (f' := 1) (by decide)]
  rw [tu_ne (f' := 2) (by decide)]
  rw [tu_ne (f' := 3) (by decide)]
  rw [tu_ne (f' := 4) (by decide)]
  rw [tu_ne (f' := 5) (by decide)]
  rw [tu_ne (f' := 6) (by decide)]
  rw [tu_ne (f' := 7) (by decide)]
  rw [tu_ne (f' := 8) (by decide)]
  rw [tu_ne (f' := 9) (by decide)]
  rw [tu_ne (f' := 11) (by decide)]
  rw [tu_ne (f' := 12) (by decide)]
  rw [tu_ne (f' := 13) (by decide)]
  rw [tu_eq]
  exact ⟨k0, k6, k9, by omega, kg, kc, fun i hi => ks i (by omega)⟩
theorem tk_forget {T : sp_T} {n : Int32} (hk : tk T) : tk (s_forget T n).2 := by
  unfold s_forget
  split
  · rename_i h
    obtain ⟨j, hj, rfl⟩ := inr_of h
    have := hk.2.2.2.1
    rw [nI_clamp (by omega)]
    exact tk_10 hk hj
  · exact hk
theorem xt_10 {σ : hs_St} {T : sp_T} {n : Nat} (hx : xt 8 σ T) (hn : n ≤ T 10 0) : xt 8 (hs_w σ 8 10 (nI n)) (tu T 10 0 n) := by
  obtain ⟨x0, x6, x9, x10, xg, xc, xs⟩ := xt_8.mp hx
  refine xt_8.mpr ?_
  unfold xt8
  rw [tu_ne (f' := 0) (by decide)]
  rw [tu_ne (f' := 1) (by decide)]
  rw [tu_ne (f' := 2) (by decide)]
  rw [tu_ne (f' := 3) (by decide)]
  rw [tu_ne (f' := 4) (by decide)]
  rw [tu_ne (f' := 5) (by decide)]
  rw [tu_ne (f' := 6) (by decide)]
  rw [tu_ne (f' := 7) (by decide)]
  rw [tu_ne (f' := 8) (by decide)]
  rw [tu_ne (f' := 9) (by decide)]
  rw [tu_ne (f' := 11) (by decide)]
  rw [tu_ne (f' := 12) (by decide)]
  rw [tu_ne (f' := 13) (by decide)]
  rw [w_ne (k' := 9) (by decide)]
  rw [w_ne (k' := 10) (by decide)]
  rw [w_ne (k' := 11) (by decide)]
  rw [w_ne (k' := 12) (by decide)]
  rw [w_ne (k' := 13) (by decide)]
  rw [w_ne (k' := 14) (by decide)]
  rw [w_ne (k' := 15) (by decide)]
  rw [w_ne (k' := 16) (by decide)]
  rw [w_ne (k' := 17) (by decide)]
  rw [w_ne (k' := 18) (by decide)]
  rw [tu_eq, w_eq, w_at (by decide), w_at (by decide), w_at (by decide)]
  exact ⟨x0, x6, x9, rfl, xg, xc, fun i hi => xs i (by omega)⟩
theorem xt_9 {σ : hs_St} {T : sp_T} {n : Nat} (hx : xt 8 σ T) : xt 8 (hs_w σ 8 9 (nI n)) (tu T 9 0 n) := by
  obtain ⟨x0, x6, x9, x10, xg, xc, xs⟩ := xt_8.mp hx
  refine xt_8.mpr ?_
  unfold xt8
  rw [tu_ne (f' := 0) (by decide)]
  rw [tu_ne (f' := 1) (by decide)]
  rw [tu_ne (f' := 2) (by decide)]
  rw [tu_ne (f' := 3) (by decide)]
  rw [tu_ne (f' := 4) (by decide)]
  rw [tu_ne (f' := 5) (by decide)]
  rw [tu_ne (f' := 6) (by decide)]
  rw [tu_ne (f' := 7) (by decide)]
  rw [tu_ne (f' := 8) (by decide)]
  rw [tu_ne (f' := 10) (by decide)]
  rw [tu_ne (f' := 11) (by decide)]
  rw [tu_ne (f' := 12) (by decide)]
  rw [tu_ne (f' := 13) (by decide)]
  rw [w_ne (k' := 9) (by decide)]
  rw [w_ne (k' := 10) (by decide)]
  rw [w_ne (k' := 11) (by decide)]
  rw [w_ne (k' := 12) (by decide)]
  rw [w_ne (k' := 13) (by decide)]
  rw [w_ne (k' := 14) (by decide)]
  rw [w_ne (k' := 15) (by decide)]
  rw [w_ne (k' := 16) (by decide)]
  rw [w_ne (k' := 17) (by decide)]
  rw [w_ne (k' := 18) (by decide)]
  rw [tu_eq, w_eq, w_at (by decide), w_at (by decide), w_at (by decide)]
  exact ⟨x0, x6, rfl, x10, xg, xc, xs⟩
theorem cx_forget {σ : hs_St} {K : Int32 → hs_St → Prop} {T : sp_T} {n : Int32} (hx : xt 8 σ T) (hk : tk T) (hK : ∀ τ, hs_fr ST σ τ → xt 8 τ (s_forget T n).2 → K (s_forget T n).1 τ) : OkI m_X5_forget [.ref 0, .int n] σ K := by
  have k10 := hk.2.2.2.1
  have x10 := hx.2.2.2.1
  unfold s_forget at hK
  have e : (σ.1 8 10).toInt = (T 10 0 : Nat) := by rw [x10]; exact nI_toInt (by omega)
  refine vc_X5_forget (cx_within ?_)
  rw [e]
  refine ⟨fun h => ?_, fun h => ?_⟩
  · change inr n 0 (T 10 0 : Nat) = true at h
    rw [if_pos h] at hK
    obtain ⟨j, hj, rfl⟩ := inr_of h
    rw [nI_clamp (by omega)] at hK
    rintro _ rfl
    rintro _ rfl
    rw [x10]
    exact hK _ (hs_fr.rf.w (by decide)) (xt_10 hx hj)
  · change inr n 0 (T 10 0 : Nat) = false at h
    rw [if_neg (by rw [h]; decide)] at hK; exact hK σ hs_fr.rf hx
/-! steps done only grow, and not above what there is to do -/
def sp_mo (gh : Nat) (st dn dn' : Nat → Nat) : Prop := ∀ g, g < gh → dn g ≤ dn' g ∧ (dn' g = dn g ∨ dn' g ≤ st g)
theorem sp_mo.rf {gh : Nat} {st dn : Nat → Nat} : sp_mo gh st dn dn := fun _ _ => ⟨Nat.le_refl _, Or.inl rfl⟩
theorem sp_mo.tr {gh : Nat} {st a b c : Nat → Nat} (h1 : sp_mo gh st a b) (h2 : sp_mo gh st b c) : sp_mo gh st a c := fun g hg => by
  have := h1 g hg
  have := h2 g hg
  omega
theorem mo_work {gh : Nat} {st rm dn : Nat → Nat} {dk sk : Nat} : sp_mo gh st dn (sp_work gh st rm dn dk sk) := by
  intro g hg
  unfold sp_work
  split
  · rename_i e
    have h := sp_f_at (sp_at st rm dn dk) gh 0 (by omega)
    rw [← e] at h
    simp only [sp_at, decide_eq_true_eq] at h
    omega
  · exact ⟨Nat.le_refl _, Or.inl rfl⟩
theorem mo_cl {gh : Nat} {st rm dk sk : Nat → Nat} : ∀ c dn, sp_mo gh st dn (sp_cl gh st rm dk sk c dn)
  | 0, _ => sp_mo.rf
  | c + 1, dn => (mo_cl c dn).tr mo_work
theorem mo_night {p : sp_P} {w : sp_W} : sp_mo p.1 p.2.2.1 w.2.1 (sp_night p w).2.1 := mo_cl _ _
theorem mo_run {p : sp_P} {w : sp_W} : ∀ n, sp_mo p.1 p.2.2.1 w.2.1 (sp_run p n w).2.1
  | 0 => sp_mo.rf
  | n + 1 => (mo_run n).tr mo_night
/-- the town whose first i ghosts are as the walk has them -/
def t_st (T : sp_T) (i : Nat) (rm dn : Nat → Nat) : sp_T := fun f g => if f = 4 ∧ g < i then rm g else if f = 5 ∧ g < i then dn g else T f g
theorem t_st_f {T : sp_T} {i f : Nat} {rm dn : Nat → Nat} (h4 : f ≠ 4) (h5 : f ≠ 5) : t_st T i rm dn f = T f := by
  funext g
  unfold t_st
  rw [if_neg (by omega), if_neg (by omega)]
theorem t_st_t {T : sp_T} {i g : Nat} {rm dn : Nat → Nat} : ta (t_st T i rm dn) g = ta T g ∧ ts (t_st T i rm dn) g = ts T g := by
  have e : ta (t_st T i rm dn) g = ta T g := by unfold ta; rw [t_st_f (by decide) (by decide), t_st_f (by decide) (by decide), t_st_f (by decide) (by decide)]
  exact ⟨e, by unfold ts; rw [e, t_st_f (by decide) (by decide)]⟩
theorem t_st_0 {T : sp_T} {rm dn : Nat → Nat} : t_st T 0 rm dn = T := by funext f g; simp [t_st]
theorem tk_st {T : sp_T} {i : Nat} {rm dn : Nat → Nat} (h : tk T) (hr : ∀ g, g < T 0 0 → rm g < 6) (hd : ∀ g, g < T 0 0 → dn g ≤ 20) : tk (t_st T i rm dn) := by
  obtain ⟨k0, k6, k9, k10, kg, kc, ks⟩ := h
  unfold tk
  rw [t_st_f (f := 0) (by decide) (by decide)]
  rw [t_st_f (f := 1) (by decide) (by decide)]
  rw [t_st_f (f := 2) (by decide) (by decide)]
  rw [t_st_f (f := 3) (by decide) (by decide)]
  rw [t_st_f (f := 6) (by decide) (by decide)]
  rw [t_st_f (f := 7) (by decide) (by decide)]
  rw [t_st_f (f := 8) (by decide) (by decide)]
  rw [t_st_f (f := 9) (by decide) (by decide)]
  rw [t_st_f (f := 10) (by decide) (by decide)]
  rw [t_st_f (f := 11) (by decide) (by decide)]
  rw [t_st_f (f := 12) (by decide) (by decide)]
  rw [t_st_f (f := 13) (by decide) (by decide)]
  refine ⟨k0, k6, k9, k10, fun g hg => ?_, kc, ks⟩
  have h1 := kg g hg
  have h2 := hr g hg
  have h3 := hd g hg
  refine ⟨h1.1, h1.2.1, h1.2.2.1, ?_, ?_⟩
  · simp only [t_st]; split <;> (try split) <;> omega
  · simp only [t_st]; split <;> (try split) <;> omega
theorem xt_st {σ τ : hs_St} {T : sp_T} {i : Nat} {rm dn : Nat → Nat} (hx : xt 8 σ (t_st T i rm dn)) (a1 : ∀ k, k ≠ 12 → k ≠ 13 → τ.1 k = σ.1 k) (a2 : ∀ j, j ≠ i → τ.1 12 j = σ.1 12 j ∧ τ.1 13 j = σ.1 13 j) (a3 : τ.1 12 i = nI (rm i)) (a4 : τ.1 13 i = nI (dn i)) : xt 8 τ (t_st T (i + 1) rm dn) := by
  obtain ⟨x0, x6, x9, x10, xg, xc, xs⟩ := xt_8.mp hx
  refine xt_8.mpr ?_
  unfold xt8
  rw [t_st_f (f := 0) (by decide) (by decide)]
  rw [t_st_f (f := 1) (by decide) (by decide)]
  rw [t_st_f (f := 2) (by decide) (by decide)]
  rw [t_st_f (f := 3) (by decide) (by decide)]
  rw [t_st_f (f := 6) (by decide) (by decide)]
  rw [t_st_f (f := 7) (by decide) (by decide)]
  rw [t_st_f (f := 8) (by decide) (by decide)]
  rw [t_st_f (f := 9) (by decide) (by decide)]
  rw [t_st_f (f := 10) (by decide) (by decide)]
  rw [t_st_f (f := 11) (by decide) (by decide)]
  rw [t_st_f (f := 12) (by decide) (by decide)]
  rw [t_st_f (f := 13) (by decide) (by decide)]
  have e : ∀ f, f ≠ 4 → f ≠ 5 → t_st T i rm dn f = T f := fun f h4 h5 => t_st_f h4 h5
  rw [e 0 (by decide) (by decide)] at x0 xg
  rw [e 6 (by decide) (by decide)] at x6 xc
  rw [e 9 (by decide) (by decide)] at x9
  rw [e 10 (by decide) (by decide)] at x10 xs
  rw [e 1 (by decide) (by decide), e 2 (by decide) (by decide), e 3 (by decide) (by decide)] at xg
  rw [e 7 (by decide) (by decide), e 8 (by decide) (by decide)] at xc
  rw [e 11 (by decide) (by decide), e 12 (by decide) (by decide), e 13 (by decide) (by decide)] at xs
  rw [a1 8 (by decide) (by decide), a1 9 (by decide) (by decide), a1 10 (by decide) (by decide), a1 11 (by decide) (by decide), a1 14 (by decide) (by decide), a1 15 (by decide) (by decide), a1 16 (by decide) (by decide), a1 17 (by decide) (by decide), a1 18 (by decide) (by decide)]
  refine ⟨x0, x6, x9, x10, fun j hj => ?_, xc, xs⟩
  have h := xg j hj
  refine ⟨h.1, h.2.1, h.2.2.1, ?_, ?_⟩
  · by_cases e2 : j = i
    · subst e2; rw [a3]; simp [t_st]
    · rw [(a2 j e2).1, h.2.2.2.1]
      congr 1
      have : (j < i ↔ j < i + 1) := by omega
      simp [t_st, this]
  · by_cases e2 : j = i
    · subst e2; rw [a4]; simp [t_st]
    · rw [(a2 j e2).2, h.2.2.2.2]
      congr 1
      have : (j < i ↔ j < i + 1) := by omega
      simp [t_st, this]
/-- the town behind n nights of a walk -/
def t_go (T : sp_T) (p : sp_P) (w : sp_W) (n : Nat) : sp_T := tu (tf (t_st T (T 0 0) w.1 w.2.1) 7 p.2.2.2.2.1) 9 0 (T 9 0 + n)
set_option maxHeartbeats 1000000 in
theorem cx_settle {σ : hs_St} {K : hs_St → Prop} {T : sp_T} {p : sp_P} {w : sp_W} {n : Nat} (hn : n ≤ 100) (hx : xt 8 σ T) (hk : tk T) (hw : xw σ p w) (hp0 : p.1 = T 0 0) (hp6 : p.2.1 = T 6 0) (hps : ∀ g, g < T 0 0 → p.2.2.1 g = ts T g) (hrm : ∀ g, g < T 0 0 → w.1 g < 6) (hm : sp_mo (T 0 0) (ts T) (T 5) w.2.1)
    (hK : ∀ τ, hs_fr ST σ τ → xt 8 τ (t_go T p w n) → K τ) : OkV m_X3_settle [.ref 8, .ref 1, .int (nI n)] σ K := by
  have k0 := hk.1
  have k6 := hk.2.1
  have k9 := hk.2.2.1
  have hd20 : ∀ g, g < T 0 0 → w.2.1 g ≤ 20 := fun g hg => by
    have h1 := hm g hg
    have h2 := ts_in T g
    have h3 := (hk.2.2.2.2.1 g hg).2.2.2.2
    omega
  have loopB : ∀ m i (τ : hs_St), T 6 0 - i = m → i ≤ T 6 0 → hs_fr ST σ τ → xt 8 τ (tf (t_st T (T 0 0) w.1 w.2.1) 7 (fun c => if c < i then p.2.2.2.2.1 c else T 7 c)) → RnV m_X3_settle 62 [(0, .ref 8), (1, .ref 1), (2, .int (nI n)), (3, .int (nI i))] [] τ K := by
    intro m
    induction m with
    | zero =>
      intro i τ hm2 hi hf hx2
      have : i = T 6 0 := by omega
      subst this
      have e6 : τ.1 8 6 = nI (T 6 0) := by have := hx2.2.1; rw [tf_ne (by decide), t_st_f (by decide) (by decide)] at this; exact this
      have e9 : τ.1 8 9 = nI (T 9 0) := by have := hx2.2.2.1; rw [tf_ne (by decide), t_st_f (by decide) (by decide)] at this; exact this
      refine vc_X3_settle_62 ⟨fun _ => ?_, fun h => absurd (by rw [e6, il (by omega) (by omega)]; omega) h⟩
      rintro _ rfl
      rw [e9, nI_add]
      refine hK _ (hf.w (by decide)) ?_
      have hx3 : xt 8 τ (tf (t_st T (T 0 0) w.1 w.2.1) 7 p.2.2.2.2.1) := by
        obtain ⟨x0, x6, x9, x10, xg, xc, xs⟩ := xt_8.mp hx2
        refine xt_8.mpr ⟨x0, x6, x9, x10, xg, fun c hc => ?_, xs⟩
        have h := xc c hc
        rw [tf_eq] at h ⊢
        have hc2 : c < T 6 0 := by rw [tf_ne (by decide), t_st_f (by decide) (by decide)] at hc; exact hc
        rw [if_pos hc2] at h
        exact h
      exact xt_9 hx3
    | succ m ih =>
      intro i τ hm2 hi hf hx2
      have e6 : τ.1 8 6 = nI (T 6 0) := by have := hx2.2.1; rw [tf_ne (by decide), t_st_f (by decide) (by decide)] at this; exact this
      refine vc_X3_settle_62 ⟨fun h => ?_, fun _ => ⟨vp_in_nI (by omega) (by omega), ?_⟩⟩
      · rw [e6, il (by omega) (by omega)] at h; omega
      · rintro _ rfl
        rw [nI_1, nI_clamp (by omega), hf.2 5 (by decide), (hw.2.2.2.2.1 i (by omega)).1]
        refine ih (i + 1) _ (by omega) (by omega) (hf.w (by decide)) ?_
        have hx3 := xt_c7 (g := i) (v := p.2.2.2.2.1 i) hx2
        refine (show xt 8 _ _ = xt 8 _ _ from ?_) ▸ hx3
        congr 1
        funext f c
        by_cases e : f = 7
        · subst e
          rw [tf_eq]
          by_cases e2 : c = i
          · subst e2; rw [tu_eq, if_pos (by omega)]
          · rw [tu_at e2, tf_eq]
            have : (c < i ↔ c < i + 1) := by omega
            simp [this]
        · rw [tu_ne e, tf_ne e, tf_ne e]
  have loopA : ∀ m i (τ : hs_St), T 0 0 - i = m → i ≤ T 0 0 → hs_fr ST σ τ → xt 8 τ (t_st T i w.1 w.2.1) → RnV m_X3_settle 2 [(0, .ref 8), (1, .ref 1), (2, .int (nI n)), (3, .int (nI i))] [] τ K := by
    intro m
    induction m with
    | zero =>
      intro i τ hm2 hi hf hx2
      have : i = T 0 0 := by omega
      subst this
      have e0 : τ.1 8 0 = nI (T 0 0) := by have := hx2.1; rw [t_st_f (by decide) (by decide)] at this; exact this
      refine vc_X3_settle_2 ⟨fun _ => ?_, fun h => absurd (by rw [e0, il (by omega) (by omega)]; omega) h⟩
      rw [nl_0]
      refine loopB (T 6 0) 0 τ (by omega) (by omega) hf ?_
      refine (show xt 8 _ _ = xt 8 _ _ from ?_) ▸ hx2
      congr 1
      funext f c
      by_cases e : f = 7
      · subst e; rw [tf_eq, t_st_f (by decide) (by decide)]; simp
      · rw [tf_ne e]
    | succ m ih =>
      intro i τ hm2 hi hf hx2
      have hlt : i < T 0 0 := by omega
      have e0 : τ.1 8 0 = nI (T 0 0) := by have := hx2.1; rw [t_st_f (by decide) (by decide)] at this; exact this
      have hk2 := tk_st (i := i) hk hrm hd20
      have hlt2 : i < t_st T i w.1 w.2.1 0 0 := by rw [t_st_f (by decide) (by decide)]; exact hlt
      have h5 : t_st T i w.1 w.2.1 5 i = T 5 i := by simp [t_st]
      have hwi := hw.2.2.2.1 i (by omega)
      have h8 := ts_in T i
      have hmi := hm i hlt
      have e3 : τ.1 3 i = nI (ts T i - w.2.1 i) := by rw [hf.2 3 (by decide), hwi.2.1, hps i hlt]
      have e2 : τ.1 2 i = nI (w.1 i) := by rw [hf.2 2 (by decide)]; exact hwi.1
      refine vc_X3_settle_2 ⟨fun h => ?_, fun _ => ⟨vp_in_nI (by omega) (by omega), cx_left (T := t_st T i w.1 w.2.1) hlt2 hx2 hk2 ?_⟩⟩
      · rw [e0, il (by omega) (by omega)] at h; omega
      · rw [t_st_t.2, h5, nI_clamp (by omega), e3, e2, nI_1]
        refine ⟨fun h => ?_, fun h => ?_⟩
        · rw [il (by omega) (by omega)] at h
          rintro _ rfl
          refine ih (i + 1) _ (by omega) (by omega) (hf.w (by decide)) (xt_st hx2 (fun k h1 h2 => w_ne h1) (fun j hj => ⟨w_at hj, by rw [w_ne (by decide)]⟩) w_eq ?_)
          rw [w_ne (by decide), ((xt_8.mp hx2).2.2.2.2.1 i hlt2).2.2.2.2, h5]
          congr 1
          omega
        · rw [il (by omega) (by omega)] at h
          refine cx_steps (T := t_st T i w.1 w.2.1) hlt2 hx2 hk2 ?_
          rintro _ rfl
          rintro _ rfl
          rw [t_st_t.2, e3, pk_sub (by omega), w_ne (by decide), e2]
          refine ih (i + 1) _ (by omega) (by omega) ((hf.w (by decide)).w (by decide)) (xt_st hx2 (fun k h1 h2 => by rw [w_ne h1, w_ne h2]) (fun j hj => ⟨by rw [w_at hj, w_ne (by decide)], by rw [w_ne (by decide), w_at hj]⟩) w_eq ?_)
          rw [w_ne (by decide), w_eq]
          congr 1
          omega
  refine vc_X3_settle ?_
  rw [nl_0]
  exact loopA (T 0 0) 0 σ (by omega) (by omega) hs_fr.rf (by rw [t_st_0]; exact hx)
def s_nights (T : sp_T) (n : Int32) : Int32 × sp_T := if inr n 0 30 = true then (if T 9 0 + n.toNatClampNeg ≤ 999 then (nI (th T n.toNatClampNeg), t_go T (tp T) (tr T n.toNatClampNeg) n.toNatClampNeg) else (-3, T)) else (-1, T)
theorem tk_go {T : sp_T} {p : sp_P} {w : sp_W} {n : Nat} (hk : tk T) (hn : T 9 0 + n ≤ 999) (hd : ∀ c, c < T 6 0 → p.2.2.2.2.1 c < 6) (hrm : ∀ g, g < T 0 0 → w.1 g < 6) (hm : sp_mo (T 0 0) (ts T) (T 5) w.2.1) : tk (t_go T p w n) := by
  have hd20 : ∀ g, g < T 0 0 → w.2.1 g ≤ 20 := fun g hg => by
    have h1 := hm g hg
    have h2 := ts_in T g
    have h3 := (hk.2.2.2.2.1 g hg).2.2.2.2
    omega
  obtain ⟨k0, k6, k9, k10, kg, kc, ks⟩ := tk_st (i := T 0 0) hk hrm hd20
  unfold t_go tk
  rw [tu_ne (f' := 0) (by decide)]
  rw [tu_ne (f' := 1) (by decide)]
  rw [tu_ne (f' := 2) (by decide)]
  rw [tu_ne (f' := 3) (by decide)]
  rw [tu_ne (f' := 4) (by decide)]
  rw [tu_ne (f' := 5) (by decide)]
  rw [tu_ne (f' := 6) (by decide)]
  rw [tu_ne (f' := 7) (by decide)]
  rw [tu_ne (f' := 8) (by decide)]
  rw [tu_ne (f' := 10) (by decide)]
  rw [tu_ne (f' := 11) (by decide)]
  rw [tu_ne (f' := 12) (by decide)]
  rw [tu_ne (f' := 13) (by decide)]
  rw [tf_ne (f' := 0) (by decide)]
  rw [tf_ne (f' := 1) (by decide)]
  rw [tf_ne (f' := 2) (by decide)]
  rw [tf_ne (f' := 3) (by decide)]
  rw [tf_ne (f' := 4) (by decide)]
  rw [tf_ne (f' := 5) (by decide)]
  rw [tf_ne (f' := 6) (by decide)]
  rw [tf_ne (f' := 8) (by decide)]
  rw [tf_ne (f' := 10) (by decide)]
  rw [tf_ne (f' := 11) (by decide)]
  rw [tf_ne (f' := 12) (by decide)]
  rw [tf_ne (f' := 13) (by decide)]
  rw [tu_eq, tf_eq]
  refine ⟨k0, k6, hn, k10, kg, fun c hc => ⟨hd c (by rw [t_st_f (by decide) (by decide)] at hc; exact hc), (kc c hc).2⟩, ks⟩
theorem run_rm {T : sp_T} (hk : tk T) (n : Nat) : ∀ g, g < T 0 0 → (tr T n).1 g < 6 := fun g hg => ((sp_ok_run (tk_ok hk) n).2.2.1 g hg).2.2
theorem tk_nights {T : sp_T} {n : Int32} (hk : tk T) : tk (s_nights T n).2 := by
  unfold s_nights
  split
  · split
    · rename_i h
      exact tk_go hk h (fun c hc => (hk.2.2.2.2.2.1 c hc).1) (run_rm hk _) (mo_run (p := tp T) (w := tw T) _)
    · exact hk
  · exact hk
theorem cx_nights {σ : hs_St} {K : Int32 → hs_St → Prop} {T : sp_T} {n : Int32} (hx : xt 8 σ T) (hk : tk T) (hK : ∀ τ, hs_fr (SW ++ ST) σ τ → xt 8 τ (s_nights T n).2 → K (s_nights T n).1 τ) : OkI m_X5_nights [.ref 0, .int n] σ K := by
  have k9 := hk.2.2.1
  unfold s_nights at hK
  refine vc_X5_nights (cx_within ⟨fun h => ⟨fun h9 => ?_, fun h9 => ?_⟩, fun h => ?_⟩)
  · change inr n 0 30 = true at h
    rw [if_pos h] at hK
    obtain ⟨j, hj, rfl⟩ := inr_of (hi := 30) h
    rw [nI_clamp (by omega)] at hK
    rw [hx.2.2.1, nI_add, nl_999, il (by omega) (by omega)] at h9
    rw [if_pos h9] at hK
    refine cx_harmOf (by omega) hx hk (fun τ hf hw => ?_)
    refine cx_settle (T := T) (p := tp T) (w := tr T j) (by omega) (xt_fr hf (by decide) hx) hk hw rfl rfl (fun g _ => rfl) (run_rm hk j) (mo_run (p := tp T) (w := tw T) j) (fun υ hf2 hx2 => ?_)
    exact hK υ ((hf.up (by decide)).tr (hf2.up (by decide))) hx2
  · change inr n 0 30 = true at h
    rw [if_pos h] at hK
    obtain ⟨j, hj, rfl⟩ := inr_of (hi := 30) h
    rw [nI_clamp (by omega)] at hK
    rw [hx.2.2.1, nI_add, nl_999, il (by omega) (by omega)] at h9
    rw [if_neg h9] at hK
    exact hK σ hs_fr.rf hx
  · change inr n 0 30 = false at h
    rw [if_neg (by rw [h]; decide)] at hK; exact hK σ hs_fr.rf hx
