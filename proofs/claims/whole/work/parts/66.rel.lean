/-! THE RELATION of class and model: one town, its images, its tape, its sheets, its faults -/
def RK (T : sp_T) (I : Nat → sp_T) (kp : Nat → Bool) (n : Nat) (b ln sz : Nat → Nat) : Prop := tk T ∧ (∀ j, kp j = true → tk (I j) ∧ I j 6 0 = T 6 0) ∧ n ≤ 160 ∧ (∀ i, i < n → b i ≤ 127) ∧ shk ln sz
def RX (σ : hs_St) (T : sp_T) (I : Nat → sp_T) (kp : Nat → Bool) (n : Nat) (b ln sz : Nat → Nat) (cs : Nat → Nat → Int32) (ft rf : Int32) : Prop := xt 8 σ T ∧ xi σ I kp ∧ xp σ n b ∧ xsh σ ln sz cs ∧ σ.1 0 8 = ft ∧ σ.1 0 9 = rf
def RM (σ : hs_St) (T : sp_T) (I : Nat → sp_T) (kp : Nat → Bool) (n : Nat) (b ln sz : Nat → Nat) (cs : Nat → Nat → Int32) (ft rf : Int32) : Prop := mt σ T ∧ mim σ I kp ∧ mp σ n b ∧ msh σ ln sz cs ∧ σ.1 63 15 = ft ∧ σ.1 63 27 = rf
def RR (σ : hs_St) : Prop := ∃ T I kp n b ln sz cs ft rf, RK T I kp n b ln sz ∧ RX σ T I kp n b ln sz cs ft rf ∧ RM σ T I kp n b ln sz cs ft rf
section RL
variable {σ τ : hs_St} {T U : sp_T} {I J : Nat → sp_T} {kp kq : Nat → Bool} {n n2 : Nat} {b b2 ln sz ln2 sz2 : Nat → Nat} {cs cs2 : Nat → Nat → Int32} {ft rf ft2 rf2 : Int32} {S Z : List Nat}
theorem xi_f (g : hs_fr S σ τ) (hs : ∀ k ∈ S, k < 35 ∨ 57 < k) (h : xi σ I kp) : xi τ I kp := by
  have e57 : τ.1 57 = σ.1 57 := g.2 57 (fun z => by have := hs 57 z; omega)
  refine ⟨by rw [e57]; exact h.1, by rw [e57]; exact h.2.1, fun z => xt_fr g (fun k hk => by have := hs k hk; omega) (h.2.2.1 z), fun z => xt_fr g (fun k hk => by have := hs k hk; omega) (h.2.2.2 z)⟩
theorem xsh_f (g : hs_fr S σ τ) (hs : ∀ k ∈ S, k < 59 ∨ 61 < k) (h : xsh σ ln sz cs) : xsh τ ln sz cs := by
  unfold xsh
  rw [g.2 59 (fun z => by have := hs 59 z; omega), g.2 60 (fun z => by have := hs 60 z; omega), g.2 61 (fun z => by have := hs 61 z; omega)]
  exact h
theorem fr_lo (g : hs_fr S σ τ) (hs : ∀ k ∈ S, k < 63) : ∀ k, 63 ≤ k → τ.1 k = σ.1 k := fun k hk => g.2 k (fun z => by have := hs k z; omega)
theorem fr_hi (g : hs_fr S σ τ) (hs : ∀ k ∈ S, 63 ≤ k) : ∀ k, k < 63 → τ.1 k = σ.1 k := fun k hk => g.2 k (fun z => by have := hs k z; omega)
theorem ma_hi (g : ma σ τ) : ∀ k, k < 63 → τ.1 k = σ.1 k := fun k hk => g.1 k (fun z => by simp only [SM, List.mem_cons, List.not_mem_nil, or_false] at z; omega) (by omega)
theorem mc_hi (g : mc σ τ) : ∀ k, k < 63 → τ.1 k = σ.1 k := fun k hk => g.1 k (fun z => by simp only [SM, List.mem_cons, List.not_mem_nil, or_false] at z; omega) (by omega) (by omega)
theorem md_hi (g : md σ τ) : ∀ k, k < 63 → τ.1 k = σ.1 k := fun k hk => g.1 k (fun z => by simp only [List.mem_cons, List.not_mem_nil, or_false] at z; omega) (by omega) (by omega)
theorem mg_hi (g : mg S Z σ τ) (hs : ∀ k ∈ S, 63 ≤ k) : ∀ k, k < 63 → τ.1 k = σ.1 k := fun k hk => g.1 k (fun z => by have := hs k z; omega) (by omega)
theorem RX.hi (h : RX σ T I kp n b ln sz cs ft rf) (e : ∀ k, k < 63 → τ.1 k = σ.1 k) : RX τ T I kp n b ln sz cs ft rf := by
  unfold RX xt xi xp xsh at h ⊢
  unfold xt at h ⊢
  simp only [e 0 (by decide), e 8 (by decide), e (8 + 1) (by decide), e (8 + 2) (by decide), e (8 + 3) (by decide), e (8 + 4) (by decide), e (8 + 5) (by decide), e (8 + 6) (by decide), e (8 + 7) (by decide), e (8 + 8) (by decide), e (8 + 9) (by decide), e (8 + 10) (by decide), e 19 (by decide), e 20 (by decide), e 57 (by decide), e 59 (by decide), e 60 (by decide), e 61 (by decide), e 35 (by decide), e (35 + 1) (by decide), e (35 + 2) (by decide), e (35 + 3) (by decide), e (35 + 4) (by decide), e (35 + 5) (by decide), e (35 + 6) (by decide), e (35 + 7) (by decide), e (35 + 8) (by decide), e (35 + 9) (by decide), e (35 + 10) (by decide), e 46 (by decide), e (46 + 1) (by decide), e (46 + 2) (by decide), e (46 + 3) (by decide), e (46 + 4) (by decide), e (46 + 5) (by decide), e (46 + 6) (by decide), e (46 + 7) (by decide), e (46 + 8) (by decide), e (46 + 9) (by decide), e (46 + 10) (by decide)]
  exact h
theorem RM.lo (h : RM σ T I kp n b ln sz cs ft rf) (e : ∀ k, 63 ≤ k → τ.1 k = σ.1 k) : RM τ T I kp n b ln sz cs ft rf := by
  unfold RM mt mim mp msh at h ⊢
  simp only [e 63 (by decide), e 64 (by decide), e 66 (by decide), e 69 (by decide), e 73 (by decide), e 74 (by decide), e 75 (by decide)]
  exact h
/-- the class: a town that has changed -/
theorem RX.st (h : RX σ T I kp n b ln sz cs ft rf) (g : hs_fr (SW ++ ST) σ τ) (hx : xt 8 τ U) : RX τ U I kp n b ln sz cs ft rf :=
  ⟨hx, xi_f g (by decide) h.2.1, xp_fr h.2.2.1 g (by decide) (by decide), xsh_f g (by decide) h.2.2.2.1, by rw [g.2 0 (by decide)]; exact h.2.2.2.2.1, by rw [g.2 0 (by decide)]; exact h.2.2.2.2.2⟩
theorem RX.sw (h : RX σ T I kp n b ln sz cs ft rf) (g : hs_fr SW σ τ) : RX τ T I kp n b ln sz cs ft rf := h.st (g.up (by decide)) (xt_fr g (by decide) h.1)
theorem RX.si (h : RX σ T I kp n b ln sz cs ft rf) (g : hs_fr SI σ τ) (hx : xi τ J kq) : RX τ T J kq n b ln sz cs ft rf :=
  ⟨xt_fr g (by decide) h.1, hx, xp_fr h.2.2.1 g (by decide) (by decide), xsh_f g (by decide) h.2.2.2.1, by rw [g.2 0 (by decide)]; exact h.2.2.2.2.1, by rw [g.2 0 (by decide)]; exact h.2.2.2.2.2⟩
theorem RX.sp (h : RX σ T I kp n b ln sz cs ft rf) (g : hs_fr [19, 20] σ τ) (hx : xp τ n2 b2) : RX τ T I kp n2 b2 ln sz cs ft rf :=
  ⟨xt_fr g (by decide) h.1, xi_f g (by decide) h.2.1, hx, xsh_f g (by decide) h.2.2.2.1, by rw [g.2 0 (by decide)]; exact h.2.2.2.2.1, by rw [g.2 0 (by decide)]; exact h.2.2.2.2.2⟩
theorem RX.ss (h : RX σ T I kp n b ln sz cs ft rf) (g : hs_fr [59, 60, 61] σ τ) (hx : xsh τ ln2 sz2 cs2) : RX τ T I kp n b ln2 sz2 cs2 ft rf :=
  ⟨xt_fr g (by decide) h.1, xi_f g (by decide) h.2.1, xp_fr h.2.2.1 g (by decide) (by decide), hx, by rw [g.2 0 (by decide)]; exact h.2.2.2.2.1, by rw [g.2 0 (by decide)]; exact h.2.2.2.2.2⟩
theorem RX.sr (h : RX σ T I kp n b ln sz cs ft rf) (g : hs_fr SR σ τ) (g0 : ∀ j, j ≠ 9 → τ.1 0 j = σ.1 0 j) (hx : xt 8 τ U) (h9 : τ.1 0 9 = rf2) : RX τ U I kp n b ln sz cs ft rf2 :=
  ⟨hx, xi_f g (by decide) h.2.1, xp_fr h.2.2.1 g (by decide) (by decide), xsh_f g (by decide) h.2.2.2.1, by rw [g0 8 (by decide)]; exact h.2.2.2.2.1, h9⟩
/-! the model -/
theorem RM.mc (h : RM σ T I kp n b ln sz cs ft rf) (g : mc σ τ) (hx : mt τ U) : RM τ U I kp n b ln sz cs ft rf := by
  obtain ⟨-, h2, h3, h4, h5, h6⟩ := h
  refine ⟨hx, fun k hk => ⟨?_, fun hkp => ?_⟩, ⟨?_, ?_⟩, ?_, ?_, ?_⟩
  · rw [g.1 66 (by decide) (by decide) (by decide)]; exact (h2 k hk).1
  · have e : (fun i => τ.1 64 (47 * (k + 1) + i)) = fun i => σ.1 64 (47 * (k + 1) + i) := by funext i; exact g.2.2 _ (by omega)
    rw [e]; exact (h2 k hk).2 hkp
  · rw [g.2.1 10 (by decide)]; exact h3.1
  · rw [g.1 69 (by decide) (by decide) (by decide)]; exact h3.2
  · unfold msh
    rw [g.1 73 (by decide) (by decide) (by decide), g.1 74 (by decide) (by decide) (by decide), g.1 75 (by decide) (by decide) (by decide)]
    exact h4
  · rw [g.2.1 15 (by decide)]; exact h5
  · rw [g.2.1 27 (by decide)]; exact h6
theorem RM.ma (h : RM σ T I kp n b ln sz cs ft rf) (g : ma σ τ) : RM τ T I kp n b ln sz cs ft rf := h.mc g.c (h.1.a g)
theorem RM.md (h : RM σ T I kp n b ln sz cs ft rf) (g : md σ τ) (hx : mt τ U) (h27 : τ.1 63 27 = rf2) : RM τ U I kp n b ln sz cs ft rf2 := by
  obtain ⟨-, h2, h3, h4, h5, h6⟩ := h
  refine ⟨hx, fun k hk => ⟨?_, fun hkp => ?_⟩, ⟨?_, ?_⟩, ?_, ?_, h27⟩
  · rw [g.1 66 (by decide) (by decide) (by decide)]; exact (h2 k hk).1
  · have e : (fun i => τ.1 64 (47 * (k + 1) + i)) = fun i => σ.1 64 (47 * (k + 1) + i) := by funext i; exact g.2.2 _ (by omega)
    rw [e]; exact (h2 k hk).2 hkp
  · rw [g.2.1 10 (by decide) (by decide)]; exact h3.1
  · rw [g.1 69 (by decide) (by decide) (by decide)]; exact h3.2
  · unfold msh
    rw [g.1 73 (by decide) (by decide) (by decide), g.1 74 (by decide) (by decide) (by decide), g.1 75 (by decide) (by decide) (by decide)]
    exact h4
  · rw [g.2.1 15 (by decide) (by decide)]; exact h5
theorem RM.mi (h : RM σ T I kp n b ln sz cs ft rf) (g : hs_fr [64, 66] σ τ) (hx : mt τ U) (hi : mim τ J kq) : RM τ U J kq n b ln sz cs ft rf := by
  obtain ⟨-, h2, h3, h4, h5, h6⟩ := h
  refine ⟨hx, hi, ⟨?_, ?_⟩, ?_, ?_, ?_⟩
  · rw [g.2 63 (by decide)]; exact h3.1
  · rw [g.2 69 (by decide)]; exact h3.2
  · unfold msh
    rw [g.2 73 (by decide), g.2 74 (by decide), g.2 75 (by decide)]
    exact h4
  · rw [g.2 63 (by decide)]; exact h5
  · rw [g.2 63 (by decide)]; exact h6
theorem RM.mp (h : RM σ T I kp n b ln sz cs ft rf) (g : mg [69] [10] σ τ) (hp : mp τ n2 b2) : RM τ T I kp n2 b2 ln sz cs ft rf := by
  obtain ⟨h1, h2, h3, h4, h5, h6⟩ := h
  refine ⟨⟨?_, ?_⟩, ?_, hp, ?_, ?_, ?_⟩
  · rw [g.1 64 (by decide) (by decide)]; exact h1.1
  · rw [g.2 3 (by decide)]; exact h1.2
  · unfold mim
    rw [g.1 66 (by decide) (by decide), g.1 64 (by decide) (by decide)]; exact h2
  · unfold msh
    rw [g.1 73 (by decide) (by decide), g.1 74 (by decide) (by decide), g.1 75 (by decide) (by decide)]
    exact h4
  · rw [g.2 15 (by decide)]; exact h5
  · rw [g.2 27 (by decide)]; exact h6
theorem RM.ms (h : RM σ T I kp n b ln sz cs ft rf) (g : hs_fr [73, 74, 75] σ τ) (hs : msh τ ln2 sz2 cs2) : RM τ T I kp n b ln2 sz2 cs2 ft rf := by
  obtain ⟨h1, h2, h3, h4, h5, h6⟩ := h
  refine ⟨⟨?_, ?_⟩, ?_, ⟨?_, ?_⟩, hs, ?_, ?_⟩
  · rw [g.2 64 (by decide)]; exact h1.1
  · rw [g.2 63 (by decide)]; exact h1.2
  · unfold mim
    rw [g.2 66 (by decide), g.2 64 (by decide)]; exact h2
  · rw [g.2 63 (by decide)]; exact h3.1
  · rw [g.2 69 (by decide)]; exact h3.2
  · rw [g.2 63 (by decide)]; exact h5
  · rw [g.2 63 (by decide)]; exact h6
/-! how many clerks there are changes by text alone -/
theorem c6_alter {g w v : Int32} : (s_alter T g w v).2 6 0 = T 6 0 := by
  unfold s_alter
  split
  · rename_i h
    obtain ⟨f, j, h1, h2, h3, -⟩ := mb_of h.2
    have : w.toInt.toNat = f := by omega
    rw [this]; exact congrFun (tu_ne (by omega)) 0
  · rfl
theorem c6_post {c w v : Int32} : (s_post T c w v).2 6 0 = T 6 0 := by
  unfold s_post
  split
  · rfl
  · split
    · rfl
    · rfl
theorem c6_leave {k a b r : Int32} : (s_leave T k a b r).2 6 0 = T 6 0 := by
  unfold s_leave
  split
  · split
    · exact congrFun (t_add_f (f := 6) (by decide)) 0
    · rfl
  · rfl
theorem c6_see {g n r : Int32} : (s_see T g n r).2 6 0 = T 6 0 := by
  unfold s_see
  split
  · split
    · exact congrFun (t_see_f (f := 6) (by decide)) 0
    · rfl
  · rfl
theorem c6_forget {n : Int32} : (s_forget T n).2 6 0 = T 6 0 := by
  unfold s_forget
  split
  · rfl
  · rfl
theorem c6_go {p : sp_P} {w : sp_W} {i : Nat} : t_go T p w i 6 0 = T 6 0 := rfl
theorem c6_nights {n : Int32} : (s_nights T n).2 6 0 = T 6 0 := by
  unfold s_nights
  split
  · split
    · rfl
    · rfl
  · rfl
theorem rdl_ok (hk : tk T) {a : Nat} {l f : Int32} : ∀ m i dk (w : sp_W), T 9 0 + i ≤ 999 → sp_ok (dp T dk) w → sp_mo (T 0 0) (ts T) (T 5) w.2.1 → ∀ q, (rdl T ln sz cs a l f m i dk w).2 = some q → tk q.1 ∧ q.1 6 0 = T 6 0 := by
  have fin : ∀ i dk (w : sp_W), T 9 0 + i ≤ 999 → sp_ok (dp T dk) w → sp_mo (T 0 0) (ts T) (T 5) w.2.1 → tk (t_go T (dp T dk) w i) ∧ t_go T (dp T dk) w i 6 0 = T 6 0 := fun i dk w h9 ho hm => ⟨tk_go hk h9 (fun c hc => (ho.2.2.2 c hc).1) (fun g hg => (ho.2.2.1 g hg).2.2) hm, c6_go⟩
  intro m
  induction m with
  | zero =>
    intro i dk w h9 ho hm q hq
    unfold rdl at hq
    cases hq
    exact fin i dk w h9 ho hm
  | succ m ih =>
    intro i dk w h9 ho hm q hq
    unfold rdl at hq
    split at hq
    · cases hq
      exact fin i dk w h9 ho hm
    · split at hq
      · rename_i h
        obtain ⟨r, hr1, hr2⟩ := inr_of (hi := 5) h.2.1
        have ho2 := ok_up (c := (cs a (f.toInt + 2 * (i : Int)).toNat).toNatClampNeg) (r := (cs a ((f.toInt + 2 * (i : Int)).toNat + 1)).toNatClampNeg) ho (by rw [hr2, nI_clamp (by omega)]; omega)
        exact ih (i + 1) _ _ (by omega) (sp_ok_night ho2) (hm.tr (mo_night (p := dp T _) (w := w))) q hq
      · cases hq
theorem tk_read (hk : tk T) {k l f n : Int32} : tk ((s_read T ln sz cs k l f n).2.getD (T, rf)).1 ∧ ((s_read T ln sz cs k l f n).2.getD (T, rf)).1 6 0 = T 6 0 := by
  cases hq : (s_read T ln sz cs k l f n).2 with
  | none => exact ⟨hk, rfl⟩
  | some q =>
    unfold s_read at hq
    split at hq
    · exact rdl_ok hk _ _ _ _ (by have := hk.2.2.1; omega) (tk_ok hk) sp_mo.rf q hq
    · cases hq
theorem RK.t (h : RK T I kp n b ln sz) (hk : tk U) (h6 : U 6 0 = T 6 0) : RK U I kp n b ln sz := ⟨hk, fun j hj => ⟨(h.2.1 j hj).1, by rw [h6]; exact (h.2.1 j hj).2⟩, h.2.2⟩
end RL
section PR
variable {σ : hs_St}
theorem pr_rule {w : Int32} {K : Int32 → Int32 → hs_St → Prop} (h : RR σ) (hK : ∀ q1 τ, RR τ → K q1 q1 τ) : OkI m_X5_rule [.ref 0, .int w] σ (fun q1 σ2 => OkI m_X6_rule [.ref 63, .int w] σ2 (fun q2 τ => K q1 q2 τ)) := by
  obtain ⟨T, I, kp, n_, b_, ln_, sz_, cs_, ft, rf, hk, hx, hm⟩ := h
  exact cx_rule hx.1 hk.1 (fun τ1 f1 => cm_rule (hm.lo (fr_lo f1 (by decide))).1 hk.1 (fun τ2 f2 => hK _ τ2 ⟨T, I, kp, n_, b_, ln_, sz_, cs_, ft, rf, hk, (hx.sw f1).hi (ma_hi f2), (hm.lo (fr_lo f1 (by decide))).ma f2⟩))
theorem pr_runs {n w : Int32} {K : Int32 → Int32 → hs_St → Prop} (h : RR σ) (hK : ∀ q1 τ, RR τ → K q1 q1 τ) : OkI m_X5_runs [.ref 0, .int n, .int w] σ (fun q1 σ2 => OkI m_X6_runs [.ref 63, .int n, .int w] σ2 (fun q2 τ => K q1 q2 τ)) := by
  obtain ⟨T, I, kp, n_, b_, ln_, sz_, cs_, ft, rf, hk, hx, hm⟩ := h
  exact cx_runs hx.1 hk.1 (fun τ1 f1 => cm_runs (hm.lo (fr_lo f1 (by decide))).1 hk.1 (fun τ2 f2 => hK _ τ2 ⟨T, I, kp, n_, b_, ln_, sz_, cs_, ft, rf, hk, (hx.sw f1).hi (ma_hi f2), (hm.lo (fr_lo f1 (by decide))).ma f2⟩))
theorem pr_ahead {g n w : Int32} {K : Int32 → Int32 → hs_St → Prop} (h : RR σ) (hK : ∀ q1 τ, RR τ → K q1 q1 τ) : OkI m_X5_ahead [.ref 0, .int g, .int n, .int w] σ (fun q1 σ2 => OkI m_X6_ahead [.ref 63, .int g, .int n, .int w] σ2 (fun q2 τ => K q1 q2 τ)) := by
  obtain ⟨T, I, kp, n_, b_, ln_, sz_, cs_, ft, rf, hk, hx, hm⟩ := h
  exact cx_ahead hx.1 hk.1 (fun τ1 f1 => cm_ahead (hm.lo (fr_lo f1 (by decide))).1 hk.1 (fun τ2 f2 => hK _ τ2 ⟨T, I, kp, n_, b_, ln_, sz_, cs_, ft, rf, hk, (hx.sw f1).hi (ma_hi f2), (hm.lo (fr_lo f1 (by decide))).ma f2⟩))
theorem pr_rests {g : Int32} {K : Int32 → Int32 → hs_St → Prop} (h : RR σ) (hK : ∀ q1 τ, RR τ → K q1 q1 τ) : OkI m_X5_rests [.ref 0, .int g] σ (fun q1 σ2 => OkI m_X6_rests [.ref 63, .int g] σ2 (fun q2 τ => K q1 q2 τ)) := by
  obtain ⟨T, I, kp, n_, b_, ln_, sz_, cs_, ft, rf, hk, hx, hm⟩ := h
  exact cx_rests hx.1 hk.1 (fun τ1 f1 => cm_rests (hm.lo (fr_lo f1 (by decide))).1 hk.1 (fun τ2 f2 => hK _ τ2 ⟨T, I, kp, n_, b_, ln_, sz_, cs_, ft, rf, hk, (hx.sw f1).hi (ma_hi f2), (hm.lo (fr_lo f1 (by decide))).ma f2⟩))
theorem pr_meets {g c : Int32} {K : Int32 → Int32 → hs_St → Prop} (h : RR σ) (hK : ∀ q1 τ, RR τ → K q1 q1 τ) : OkI m_X5_meets [.ref 0, .int g, .int c] σ (fun q1 σ2 => OkI m_X6_meets [.ref 63, .int g, .int c] σ2 (fun q2 τ => K q1 q2 τ)) := by
  obtain ⟨T, I, kp, n_, b_, ln_, sz_, cs_, ft, rf, hk, hx, hm⟩ := h
  exact cx_meets hx.1 hk.1 (fun τ1 f1 => cm_meets (hm.lo (fr_lo f1 (by decide))).1 hk.1 (fun τ2 f2 => hK _ τ2 ⟨T, I, kp, n_, b_, ln_, sz_, cs_, ft, rf, hk, (hx.sw f1).hi (ma_hi f2), (hm.lo (fr_lo f1 (by decide))).ma f2⟩))
theorem pr_harm {r n : Int32} {K : Int32 → Int32 → hs_St → Prop} (h : RR σ) (hK : ∀ q1 τ, RR τ → K q1 q1 τ) : OkI m_X5_harm [.ref 0, .int r, .int n] σ (fun q1 σ2 => OkI m_X6_harm [.ref 63, .int r, .int n] σ2 (fun q2 τ => K q1 q2 τ)) := by
  obtain ⟨T, I, kp, n_, b_, ln_, sz_, cs_, ft, rf, hk, hx, hm⟩ := h
  exact cx_harm hx.1 hk.1 (fun τ1 f1 => cm_harm (hm.lo (fr_lo f1 (by decide))).1 hk.1 (fun τ2 f2 => hK _ τ2 ⟨T, I, kp, n_, b_, ln_, sz_, cs_, ft, rf, hk, (hx.sw f1).hi (ma_hi f2), (hm.lo (fr_lo f1 (by decide))).ma f2⟩))
theorem pr_best {n w : Int32} {K : Int32 → Int32 → hs_St → Prop} (h : RR σ) (hK : ∀ q1 τ, RR τ → K q1 q1 τ) : OkI m_X5_best [.ref 0, .int n, .int w] σ (fun q1 σ2 => OkI m_X6_best [.ref 63, .int n, .int w] σ2 (fun q2 τ => K q1 q2 τ)) := by
  obtain ⟨T, I, kp, n_, b_, ln_, sz_, cs_, ft, rf, hk, hx, hm⟩ := h
  exact cx_best hx.1 hk.1 (fun τ1 f1 => cm_best (hm.lo (fr_lo f1 (by decide))).1 hk.1 (fun τ2 f2 => hK _ τ2 ⟨T, I, kp, n_, b_, ln_, sz_, cs_, ft, rf, hk, (hx.sw f1).hi (ma_hi f2), (hm.lo (fr_lo f1 (by decide))).ma f2⟩))
theorem pr_learn {n w : Int32} {K : Int32 → Int32 → hs_St → Prop} (h : RR σ) (hK : ∀ q1 τ, RR τ → K q1 q1 τ) : OkI m_X5_learn [.ref 0, .int n, .int w] σ (fun q1 σ2 => OkI m_X6_learn [.ref 63, .int n, .int w] σ2 (fun q2 τ => K q1 q2 τ)) := by
  obtain ⟨T, I, kp, n_, b_, ln_, sz_, cs_, ft, rf, hk, hx, hm⟩ := h
  exact cx_learn hx.1 hk.1 (fun τ1 f1 => cm_learn (hm.lo (fr_lo f1 (by decide))).1 hk.1 (fun τ2 f2 => hK _ τ2 ⟨T, I, kp, n_, b_, ln_, sz_, cs_, ft, rf, hk, (hx.sw f1).hi (ma_hi f2), (hm.lo (fr_lo f1 (by decide))).ma f2⟩))
theorem pr_quiet {n w : Int32} {K : Int32 → Int32 → hs_St → Prop} (h : RR σ) (hK : ∀ q1 τ, RR τ → K q1 q1 τ) : OkI m_X5_quiet [.ref 0, .int n, .int w] σ (fun q1 σ2 => OkI m_X6_quiet [.ref 63, .int n, .int w] σ2 (fun q2 τ => K q1 q2 τ)) := by
  obtain ⟨T, I, kp, n_, b_, ln_, sz_, cs_, ft, rf, hk, hx, hm⟩ := h
  exact cx_quiet hx.1 hk.1 (fun τ1 f1 => cm_quiet (hm.lo (fr_lo f1 (by decide))).1 hk.1 (fun τ2 f2 => hK _ τ2 ⟨T, I, kp, n_, b_, ln_, sz_, cs_, ft, rf, hk, (hx.sw f1).hi (ma_hi f2), (hm.lo (fr_lo f1 (by decide))).ma f2⟩))
theorem pr_better {g n w : Int32} {K : Int32 → Int32 → hs_St → Prop} (h : RR σ) (hK : ∀ q1 τ, RR τ → K q1 q1 τ) : OkI m_X5_better [.ref 0, .int g, .int n, .int w] σ (fun q1 σ2 => OkI m_X6_better [.ref 63, .int g, .int n, .int w] σ2 (fun q2 τ => K q1 q2 τ)) := by
  obtain ⟨T, I, kp, n_, b_, ln_, sz_, cs_, ft, rf, hk, hx, hm⟩ := h
  exact cx_better hx.1 hk.1 (fun τ1 f1 => cm_better (hm.lo (fr_lo f1 (by decide))).1 hk.1 (fun τ2 f2 => hK _ τ2 ⟨T, I, kp, n_, b_, ln_, sz_, cs_, ft, rf, hk, (hx.sw f1).hi (ma_hi f2), (hm.lo (fr_lo f1 (by decide))).ma f2⟩))
theorem pr_from {g w : Int32} {K : Int32 → Int32 → hs_St → Prop} (h : RR σ) (hK : ∀ q1 τ, RR τ → K q1 q1 τ) : OkI m_X5_from [.ref 0, .int g, .int w] σ (fun q1 σ2 => OkI m_X6_from [.ref 63, .int g, .int w] σ2 (fun q2 τ => K q1 q2 τ)) := by
  obtain ⟨T, I, kp, n_, b_, ln_, sz_, cs_, ft, rf, hk, hx, hm⟩ := h
  exact cx_from hx.1 hk.1 (fun τ1 f1 => cm_from (hm.lo (fr_lo f1 (by decide))).1 hk.1 (fun τ2 f2 => hK _ τ2 ⟨T, I, kp, n_, b_, ln_, sz_, cs_, ft, rf, hk, (hx.sw f1).hi (ma_hi f2), (hm.lo (fr_lo f1 (by decide))).ma f2⟩))
theorem pr_luck {v g n w : Int32} {K : Int64 → Int64 → hs_St → Prop} (h : RR σ) (hK : ∀ q1 τ, RR τ → K q1 q1 τ) : OkL m_X5_luck [.ref 0, .int v, .int g, .int n, .int w] σ (fun q1 σ2 => OkL m_X6_luck [.ref 63, .int v, .int g, .int n, .int w] σ2 (fun q2 τ => K q1 q2 τ)) := by
  obtain ⟨T, I, kp, n_, b_, ln_, sz_, cs_, ft, rf, hk, hx, hm⟩ := h
  exact cx_luck hx.1 hk.1 (fun τ1 f1 => cm_luck (hm.lo (fr_lo f1 (by decide))).1 hk.1 (fun τ2 f2 => hK _ τ2 ⟨T, I, kp, n_, b_, ln_, sz_, cs_, ft, rf, hk, (hx.sw f1).hi (ma_hi f2), (hm.lo (fr_lo f1 (by decide))).ma f2⟩))
theorem pr_mean {v n w : Int32} {K : Int64 → Int64 → hs_St → Prop} (h : RR σ) (hK : ∀ q1 τ, RR τ → K q1 q1 τ) : OkL m_X5_mean [.ref 0, .int v, .int n, .int w] σ (fun q1 σ2 => OkL m_X6_mean [.ref 63, .int v, .int n, .int w] σ2 (fun q2 τ => K q1 q2 τ)) := by
  obtain ⟨T, I, kp, n_, b_, ln_, sz_, cs_, ft, rf, hk, hx, hm⟩ := h
  exact cx_mean hx.1 hk.1 (fun τ1 f1 => cm_mean (hm.lo (fr_lo f1 (by decide))).1 hk.1 (fun τ2 f2 => hK _ τ2 ⟨T, I, kp, n_, b_, ln_, sz_, cs_, ft, rf, hk, (hx.sw f1).hi (ma_hi f2), (hm.lo (fr_lo f1 (by decide))).ma f2⟩))
theorem pr_kinds {g : Int32} {K : Int32 → Int32 → hs_St → Prop} (h : RR σ) (hK : ∀ q1 τ, RR τ → K q1 q1 τ) : OkI m_X5_kinds [.ref 0, .int g] σ (fun q1 σ2 => OkI m_X6_kinds [.ref 63, .int g] σ2 (fun q2 τ => K q1 q2 τ)) := by
  obtain ⟨T, I, kp, n_, b_, ln_, sz_, cs_, ft, rf, hk, hx, hm⟩ := h
  exact cx_kinds hx.1 hk.1 (fun τ1 f1 => cm_kinds (hm.lo (fr_lo f1 (by decide))).1 hk.1 (fun τ2 f2 => hK _ τ2 ⟨T, I, kp, n_, b_, ln_, sz_, cs_, ft, rf, hk, (hx.sw f1).hi (ma_hi f2), (hm.lo (fr_lo f1 (by decide))).ma f2⟩))
theorem pr_second {g w : Int32} {K : Int32 → Int32 → hs_St → Prop} (h : RR σ) (hK : ∀ q1 τ, RR τ → K q1 q1 τ) : OkI m_X5_second [.ref 0, .int g, .int w] σ (fun q1 σ2 => OkI m_X6_second [.ref 63, .int g, .int w] σ2 (fun q2 τ => K q1 q2 τ)) := by
  obtain ⟨T, I, kp, n_, b_, ln_, sz_, cs_, ft, rf, hk, hx, hm⟩ := h
  exact cx_second hx.1 hk.1 (fun τ1 f1 => cm_second (hm.lo (fr_lo f1 (by decide))).1 hk.1 (fun τ2 f2 => hK _ τ2 ⟨T, I, kp, n_, b_, ln_, sz_, cs_, ft, rf, hk, (hx.sw f1).hi (ma_hi f2), (hm.lo (fr_lo f1 (by decide))).ma f2⟩))
theorem pr_look {g w : Int32} {K : Int32 → Int32 → hs_St → Prop} (h : RR σ) (hK : ∀ q1 τ, RR τ → K q1 q1 τ) : OkI m_X5_look [.ref 0, .int g, .int w] σ (fun q1 σ2 => OkI m_X6_look [.ref 63, .int g, .int w] σ2 (fun q2 τ => K q1 q2 τ)) := by
  obtain ⟨T, I, kp, n_, b_, ln_, sz_, cs_, ft, rf, hk, hx, hm⟩ := h
  exact cx_look hx.1 hk.1 (fun τ1 f1 => cm_look (hm.lo (fr_lo f1 (by decide))).1 hk.1 (fun τ2 f2 => hK _ τ2 ⟨T, I, kp, n_, b_, ln_, sz_, cs_, ft, rf, hk, (hx.sw f1).hi (ma_hi f2), (hm.lo (fr_lo f1 (by decide))).ma f2⟩))
theorem pr_drift {s n w : Int32} {K : Int32 → Int32 → hs_St → Prop} (h : RR σ) (hK : ∀ q1 τ, RR τ → K q1 q1 τ) : OkI m_X5_drift [.ref 0, .int s, .int n, .int w] σ (fun q1 σ2 => OkI m_X6_drift [.ref 63, .int s, .int n, .int w] σ2 (fun q2 τ => K q1 q2 τ)) := by
  obtain ⟨T, I, kp, n_, b_, ln_, sz_, cs_, ft, rf, hk, hx, hm⟩ := h
  exact cx_drift hx.1 hk.1 (fun τ1 f1 => cm_drift (hm.lo (fr_lo f1 (by decide))).1 hk.1 (fun τ2 f2 => hK _ τ2 ⟨T, I, kp, n_, b_, ln_, sz_, cs_, ft, rf, hk, (hx.sw f1).hi (ma_hi f2), (hm.lo (fr_lo f1 (by decide))).ma f2⟩))
theorem pr_ghost {g w : Int32} {K : Int32 → Int32 → hs_St → Prop} (h : RR σ) (hK : ∀ q1 τ, RR τ → K q1 q1 τ) : OkI m_X5_ghost [.ref 0, .int g, .int w] σ (fun q1 σ2 => OkI m_X6_ghost [.ref 63, .int g, .int w] σ2 (fun q2 τ => K q1 q2 τ)) := by
  obtain ⟨T, I, kp, n_, b_, ln_, sz_, cs_, ft, rf, hk, hx, hm⟩ := h
  exact cx_ghost hx.1 hk.1 (cm_ghost hm.1 hk.1 (fun τ2 f2 => hK _ τ2 ⟨T, I, kp, n_, b_, ln_, sz_, cs_, ft, rf, hk, hx.hi (ma_hi f2), hm.ma f2⟩))
theorem pr_clerk {c w : Int32} {K : Int32 → Int32 → hs_St → Prop} (h : RR σ) (hK : ∀ q1 τ, RR τ → K q1 q1 τ) : OkI m_X5_clerk [.ref 0, .int c, .int w] σ (fun q1 σ2 => OkI m_X6_clerk [.ref 63, .int c, .int w] σ2 (fun q2 τ => K q1 q2 τ)) := by
  obtain ⟨T, I, kp, n_, b_, ln_, sz_, cs_, ft, rf, hk, hx, hm⟩ := h
  exact cx_clerk hx.1 hk.1 (cm_clerk hm.1 hk.1 (hK _ σ ⟨T, I, kp, n_, b_, ln_, sz_, cs_, ft, rf, hk, hx, hm⟩))
theorem pr_alter {g w v : Int32} {K : Int32 → Int32 → hs_St → Prop} (h : RR σ) (hK : ∀ q1 τ, RR τ → K q1 q1 τ) : OkI m_X5_alter [.ref 0, .int g, .int w, .int v] σ (fun q1 σ2 => OkI m_X6_alter [.ref 63, .int g, .int w, .int v] σ2 (fun q2 τ => K q1 q2 τ)) := by
  obtain ⟨T, I, kp, n_, b_, ln_, sz_, cs_, ft, rf, hk, hx, hm⟩ := h
  exact cx_alter hx.1 hk.1 (fun τ1 f1 hx1 => cm_alter (hm.lo (fr_lo f1 (by decide))).1 hk.1 (fun τ2 f2 hm2 => hK _ τ2 ⟨_, I, kp, n_, b_, ln_, sz_, cs_, ft, rf, hk.t (tk_alter hk.1) c6_alter, (hx.st (f1.up (by decide)) hx1).hi (mc_hi f2), (hm.lo (fr_lo f1 (by decide))).mc f2 hm2⟩))
theorem pr_post {c w v : Int32} {K : Int32 → Int32 → hs_St → Prop} (h : RR σ) (hK : ∀ q1 τ, RR τ → K q1 q1 τ) : OkI m_X5_post [.ref 0, .int c, .int w, .int v] σ (fun q1 σ2 => OkI m_X6_post [.ref 63, .int c, .int w, .int v] σ2 (fun q2 τ => K q1 q2 τ)) := by
  obtain ⟨T, I, kp, n_, b_, ln_, sz_, cs_, ft, rf, hk, hx, hm⟩ := h
  exact cx_post hx.1 hk.1 (fun τ1 f1 hx1 => cm_post (hm.lo (fr_lo f1 (by decide))).1 hk.1 (fun τ2 f2 hm2 => hK _ τ2 ⟨_, I, kp, n_, b_, ln_, sz_, cs_, ft, rf, hk.t (tk_post hk.1) c6_post, (hx.st (f1.up (by decide)) hx1).hi (mc_hi f2), (hm.lo (fr_lo f1 (by decide))).mc f2 hm2⟩))
theorem pr_leave {k a b r : Int32} {K : Int32 → Int32 → hs_St → Prop} (h : RR σ) (hK : ∀ q1 τ, RR τ → K q1 q1 τ) : OkI m_X5_leave [.ref 0, .int k, .int a, .int b, .int r] σ (fun q1 σ2 => OkI m_X6_leave [.ref 63, .int k, .int a, .int b, .int r] σ2 (fun q2 τ => K q1 q2 τ)) := by
  obtain ⟨T, I, kp, n_, b_, ln_, sz_, cs_, ft, rf, hk, hx, hm⟩ := h
  exact cx_leave hx.1 hk.1 (fun τ1 f1 hx1 => cm_leave (hm.lo (fr_lo f1 (by decide))).1 hk.1 (fun τ2 f2 hm2 => hK _ τ2 ⟨_, I, kp, n_, b_, ln_, sz_, cs_, ft, rf, hk.t (tk_leave hk.1) c6_leave, (hx.st (f1.up (by decide)) hx1).hi (mc_hi f2), (hm.lo (fr_lo f1 (by decide))).mc f2 hm2⟩))
theorem pr_see {g n r : Int32} {K : Int32 → Int32 → hs_St → Prop} (h : RR σ) (hK : ∀ q1 τ, RR τ → K q1 q1 τ) : OkI m_X5_see [.ref 0, .int g, .int n, .int r] σ (fun q1 σ2 => OkI m_X6_see [.ref 63, .int g, .int n, .int r] σ2 (fun q2 τ => K q1 q2 τ)) := by
  obtain ⟨T, I, kp, n_, b_, ln_, sz_, cs_, ft, rf, hk, hx, hm⟩ := h
  exact cx_see hx.1 hk.1 (fun τ1 f1 hx1 => cm_see (hm.lo (fr_lo f1 (by decide))).1 hk.1 (fun τ2 f2 hm2 => hK _ τ2 ⟨_, I, kp, n_, b_, ln_, sz_, cs_, ft, rf, hk.t (tk_see hk.1) c6_see, (hx.st (f1.up (by decide)) hx1).hi (mc_hi f2), (hm.lo (fr_lo f1 (by decide))).mc f2 hm2⟩))
theorem pr_forget {n : Int32} {K : Int32 → Int32 → hs_St → Prop} (h : RR σ) (hK : ∀ q1 τ, RR τ → K q1 q1 τ) : OkI m_X5_forget [.ref 0, .int n] σ (fun q1 σ2 => OkI m_X6_forget [.ref 63, .int n] σ2 (fun q2 τ => K q1 q2 τ)) := by
  obtain ⟨T, I, kp, n_, b_, ln_, sz_, cs_, ft, rf, hk, hx, hm⟩ := h
  exact cx_forget hx.1 hk.1 (fun τ1 f1 hx1 => cm_forget (hm.lo (fr_lo f1 (by decide))).1 hk.1 (fun τ2 f2 hm2 => hK _ τ2 ⟨_, I, kp, n_, b_, ln_, sz_, cs_, ft, rf, hk.t (tk_forget hk.1) c6_forget, (hx.st (f1.up (by decide)) hx1).hi (mc_hi f2), (hm.lo (fr_lo f1 (by decide))).mc f2 hm2⟩))
theorem pr_nights {n : Int32} {K : Int32 → Int32 → hs_St → Prop} (h : RR σ) (hK : ∀ q1 τ, RR τ → K q1 q1 τ) : OkI m_X5_nights [.ref 0, .int n] σ (fun q1 σ2 => OkI m_X6_nights [.ref 63, .int n] σ2 (fun q2 τ => K q1 q2 τ)) := by
  obtain ⟨T, I, kp, n_, b_, ln_, sz_, cs_, ft, rf, hk, hx, hm⟩ := h
  exact cx_nights hx.1 hk.1 (fun τ1 f1 hx1 => cm_nights (hm.lo (fr_lo f1 (by decide))).1 hk.1 (fun τ2 f2 hm2 => hK _ τ2 ⟨_, I, kp, n_, b_, ln_, sz_, cs_, ft, rf, hk.t (tk_nights hk.1) c6_nights, (hx.st (f1) hx1).hi (mc_hi f2), (hm.lo (fr_lo f1 (by decide))).mc f2 hm2⟩))
theorem pr_keep {k : Int32} {K : Int32 → Int32 → hs_St → Prop} (h : RR σ) (hK : ∀ q1 τ, RR τ → K q1 q1 τ) : OkI m_X5_keep [.ref 0, .int k] σ (fun q1 σ2 => OkI m_X6_keep [.ref 63, .int k] σ2 (fun q2 τ => K q1 q2 τ)) := by
  obtain ⟨T, I, kp, n_, b_, ln_, sz_, cs_, ft, rf, hk, hx, hm⟩ := h
  have hk2 : RK T (s_keep T I kp k).2.1 (s_keep T I kp k).2.2 n_ b_ ln_ sz_ := by
    refine ⟨hk.1, fun j hj => ?_, hk.2.2⟩
    unfold s_keep at hj ⊢
    by_cases hc : inr k 0 1 = true
    · rw [if_pos hc] at hj ⊢
      dsimp only at hj ⊢
      by_cases e : j = k.toNatClampNeg
      · subst e; rw [up1_eq]; exact ⟨hk.1, rfl⟩
      · rw [up1_ne e] at hj ⊢; exact hk.2.1 j hj
    · rw [if_neg hc] at hj ⊢; exact hk.2.1 j hj
  exact cx_keep hx.1 hk.1 hx.2.1 (fun τ1 f1 hx1 => cmk_keep (hm.lo (fr_lo f1 (by decide))).1 hk.1 (hm.lo (fr_lo f1 (by decide))).2.1 (fun j hj => (hk.2.1 j hj).1) (fun τ2 f2 hm2 hi2 => hK _ τ2 ⟨T, _, _, n_, b_, ln_, sz_, cs_, ft, rf, hk2, (hx.si f1 hx1).hi (fr_hi f2 (by decide)), (hm.lo (fr_lo f1 (by decide))).mi f2 hm2 hi2⟩))
theorem pr_back {k : Int32} {K : Int32 → Int32 → hs_St → Prop} (h : RR σ) (hK : ∀ q1 τ, RR τ → K q1 q1 τ) : OkI m_X5_back [.ref 0, .int k] σ (fun q1 σ2 => OkI m_X6_back [.ref 63, .int k] σ2 (fun q2 τ => K q1 q2 τ)) := by
  obtain ⟨T, I, kp, n_, b_, ln_, sz_, cs_, ft, rf, hk, hx, hm⟩ := h
  have hk2 : RK (s_back T I kp k).2 I kp n_ b_ ln_ sz_ := by
    unfold s_back
    by_cases hc : inr k 0 1 = true
    · rw [if_pos hc]
      by_cases hq : kp k.toNatClampNeg = true
      · rw [if_pos hq]; exact hk.t (hk.2.1 _ hq).1 (hk.2.1 _ hq).2
      · rw [if_neg hq]; exact hk
    · rw [if_neg hc]; exact hk
  exact cx_back hx.1 hx.2.1 (fun j hj => (hk.2.1 j hj).1) (fun τ1 f1 hx1 => cm_back (hm.lo (fr_lo f1 (by decide))).1 (hm.lo (fr_lo f1 (by decide))).2.1 (fun j hj => (hk.2.1 j hj).1) (fun j hj => (hk.2.1 j hj).2) (fun τ2 f2 hm2 hi2 => hK _ τ2 ⟨_, I, kp, n_, b_, ln_, sz_, cs_, ft, rf, hk2, (hx.st (f1.up (by decide)) hx1).hi (fr_hi f2 (by decide)), (hm.lo (fr_lo f1 (by decide))).mi (f2.up (by decide)) hm2 hi2⟩))
theorem pr_feed {c : Int32} {K : Int32 → Int32 → hs_St → Prop} (h : RR σ) (hK : ∀ q1 τ, RR τ → K q1 q1 τ) : OkI m_X5_feed [.ref 0, .int c] σ (fun q1 σ2 => OkI m_X6_feed [.ref 63, .int c] σ2 (fun q2 τ => K q1 q2 τ)) := by
  obtain ⟨T, I, kp, n_, b_, ln_, sz_, cs_, ft, rf, hk, hx, hm⟩ := h
  have hk2 : RK T I kp (s_feed n_ b_ c).2.1 (s_feed n_ b_ c).2.2 ln_ sz_ := by
    obtain ⟨h1, h2, h3, h4, h5⟩ := hk
    unfold s_feed
    by_cases hc : inr c 0 127 = true
    · rw [if_pos hc]
      obtain ⟨q, hq, rfl⟩ := inr_of (hi := 127) hc
      by_cases hn : n_ < 160
      · rw [if_pos hn, nI_clamp (by omega)]
        refine ⟨h1, h2, by show n_ + 1 ≤ 160; omega, fun i hi => ?_, h5⟩
        have hi : i < n_ + 1 := hi
        show up1 b_ n_ q i ≤ 127
        by_cases e : i = n_
        · subst e; rw [up1_eq]; omega
        · rw [up1_ne e]; exact h4 i (by omega)
      · rw [if_neg hn]; exact ⟨h1, h2, h3, h4, h5⟩
    · rw [if_neg hc]; exact ⟨h1, h2, h3, h4, h5⟩
  exact cx_feed hk.2.2.1 hx.2.2.1 (fun τ1 f1 hx1 => cm_feed hk.2.2.1 (hm.lo (fr_lo f1 (by decide))).2.2.1 (fun τ2 f2 hm2 => hK _ τ2 ⟨T, I, kp, _, _, ln_, sz_, cs_, ft, rf, hk2, (hx.sp f1 hx1).hi (mg_hi f2 (by decide)), (hm.lo (fr_lo f1 (by decide))).mp f2 hm2⟩))
theorem pr_end {m : Int32} {K : Int32 → Int32 → hs_St → Prop} (h : RR σ) (hK : ∀ q1 τ, RR τ → K q1 q1 τ) : OkI m_X5_end [.ref 0, .int m] σ (fun q1 σ2 => OkI m_X6_end [.ref 63, .int m] σ2 (fun q2 τ => K q1 q2 τ)) := by
  obtain ⟨T, I, kp, n_, b_, ln_, sz_, cs_, ft, rf, hk, hx, hm⟩ := h
  have hk2 : RK T I kp (s_end n_ m).2 b_ ln_ sz_ := by
    obtain ⟨h1, h2, h3, h4, h5⟩ := hk
    unfold s_end
    by_cases hc : inr m 0 (n_ : Nat) = true
    · rw [if_pos hc]
      obtain ⟨q, hq, rfl⟩ := inr_of (hi := n_) hc
      rw [nI_clamp (by omega)]
      exact ⟨h1, h2, by show q ≤ 160; omega, fun i hi => h4 i (by have hi : i < q := hi; omega), h5⟩
    · rw [if_neg hc]; exact ⟨h1, h2, h3, h4, h5⟩
  exact cx_end hk.2.2.1 hx.2.2.1 (fun τ1 f1 hx1 => cm_end hk.2.2.1 (hm.lo (fr_lo f1 (by decide))).2.2.1 (fun τ2 f2 hm2 => hK _ τ2 ⟨T, I, kp, _, _, ln_, sz_, cs_, ft, rf, hk2, (hx.sp f1 hx1).hi (mg_hi f2 (by decide)), (hm.lo (fr_lo f1 (by decide))).mp f2 hm2⟩))
theorem pr_sheet {k l n : Int32} {K : Int32 → Int32 → hs_St → Prop} (h : RR σ) (hK : ∀ q1 τ, RR τ → K q1 q1 τ) : OkI m_X5_sheet [.ref 0, .int k, .int l, .int n] σ (fun q1 σ2 => OkI m_X6_sheet [.ref 63, .int k, .int l, .int n] σ2 (fun q2 τ => K q1 q2 τ)) := by
  obtain ⟨T, I, kp, n_, b_, ln_, sz_, cs_, ft, rf, hk, hx, hm⟩ := h
  exact cx_sheet hx.2.2.2.1 hk.2.2.2.2 (fun τ1 f1 hx1 => cm_sheet (hm.lo (fr_lo f1 (by decide))).2.2.2.1 hk.2.2.2.2 (fun τ2 f2 hm2 => hK _ τ2 ⟨T, I, kp, n_, b_, _, _, _, ft, rf, ⟨hk.1, hk.2.1, hk.2.2.1, hk.2.2.2.1, shk_sheet (cs := cs_) hk.2.2.2.2⟩, (hx.ss f1 hx1).hi (fr_hi f2 (by decide)), (hm.lo (fr_lo f1 (by decide))).ms f2 hm2⟩))
theorem pr_lay {k i v : Int32} {K : Int32 → Int32 → hs_St → Prop} (h : RR σ) (hK : ∀ q1 τ, RR τ → K q1 q1 τ) : OkI m_X5_lay [.ref 0, .int k, .int i, .int v] σ (fun q1 σ2 => OkI m_X6_lay [.ref 63, .int k, .int i, .int v] σ2 (fun q2 τ => K q1 q2 τ)) := by
  obtain ⟨T, I, kp, n_, b_, ln_, sz_, cs_, ft, rf, hk, hx, hm⟩ := h
  exact cx_lay hx.2.2.2.1 hk.2.2.2.2 (fun τ1 f1 hx1 => cm_lay (hm.lo (fr_lo f1 (by decide))).2.2.2.1 hk.2.2.2.2 (fun τ2 f2 hm2 => hK _ τ2 ⟨T, I, kp, n_, b_, ln_, sz_, _, ft, rf, hk, (hx.ss f1 hx1).hi (fr_hi f2 (by decide)), (hm.lo (fr_lo f1 (by decide))).ms f2 hm2⟩))
theorem pr_read {k l f n : Int32} {K : Int32 → Int32 → hs_St → Prop} (h : RR σ) (hK : ∀ q1 τ, RR τ → K q1 q1 τ) : OkI m_X5_read [.ref 0, .int k, .int l, .int f, .int n] σ (fun q1 σ2 => OkI m_X6_read [.ref 63, .int k, .int l, .int f, .int n] σ2 (fun q2 τ => K q1 q2 τ)) := by
  obtain ⟨T, I, kp, n_, b_, ln_, sz_, cs_, ft, rf, hk, hx, hm⟩ := h
  have ht := tk_read (ln := ln_) (sz := sz_) (cs := cs_) (rf := rf) hk.1 (k := k) (l := l) (f := f) (n := n)
  exact cx_read (rf := rf) hx.1 hk.1 hx.2.2.2.1 hk.2.2.2.2 hx.2.2.2.2.2 (fun τ1 f1 g1 hx1 => cm_read (rf := rf) (hm.lo (fr_lo f1 (by decide))).1 hk.1 (hm.lo (fr_lo f1 (by decide))).2.2.2.1 hk.2.2.2.2 (hm.lo (fr_lo f1 (by decide))).2.2.2.2.2 (fun τ2 f2 hm2 h27 => hK _ τ2 ⟨_, I, kp, n_, b_, ln_, sz_, cs_, ft, _, hk.t ht.1 ht.2, (hx.sr f1 g1 hx1.1 hx1.2).hi (md_hi f2), (hm.lo (fr_lo f1 (by decide))).md f2 hm2 h27⟩))
theorem pr_count {w : Int32} {K : Int32 → Int32 → hs_St → Prop} (h : RR σ) (hK : ∀ q1 τ, RR τ → K q1 q1 τ) : OkI m_X5_count [.ref 0, .int w] σ (fun q1 σ2 => OkI m_X6_count [.ref 63, .int w] σ2 (fun q2 τ => K q1 q2 τ)) := by
  obtain ⟨T, I, kp, n_, b_, ln_, sz_, cs_, ft, rf, hk, hx, hm⟩ := h
  exact cx_count hx.1 hk.1 hx.2.1 hx.2.2.1 hx.2.2.2.1 hk.2.2.2.2 (cm_count hm.1 hk.1 hm.2.1 hm.2.2.1 hm.2.2.2.1 hk.2.2.2.2 (hK _ σ ⟨T, I, kp, n_, b_, ln_, sz_, cs_, ft, rf, hk, hx, hm⟩))
theorem pr_fault {K : Int32 → Int32 → hs_St → Prop} (h : RR σ) (hK : ∀ q1 τ, RR τ → K q1 q1 τ) : OkI m_X5_fault [.ref 0] σ (fun q1 σ2 => OkI m_X6_fault [.ref 63] σ2 (fun q2 τ => K q1 q2 τ)) := by
  obtain ⟨T, I, kp, n_, b_, ln_, sz_, cs_, ft, rf, hk, hx, hm⟩ := h
  refine vc_X5_fault (vc_X6_fault ?_)
  rw [hx.2.2.2.2.1, hm.2.2.2.2.1]
  exact hK _ σ ⟨T, I, kp, n_, b_, ln_, sz_, cs_, ft, rf, hk, hx, hm⟩
theorem pr_torn {K : Int32 → Int32 → hs_St → Prop} (h : RR σ) (hK : ∀ q1 τ, RR τ → K q1 q1 τ) : OkI m_X5_torn [.ref 0] σ (fun q1 σ2 => OkI m_X6_torn [.ref 63] σ2 (fun q2 τ => K q1 q2 τ)) := by
  obtain ⟨T, I, kp, n_, b_, ln_, sz_, cs_, ft, rf, hk, hx, hm⟩ := h
  refine vc_X5_torn (vc_X6_torn ?_)
  rw [hx.2.2.2.2.2, hm.2.2.2.2.2]
  exact hK _ σ ⟨T, I, kp, n_, b_, ln_, sz_, cs_, ft, rf, hk, hx, hm⟩
theorem pr_text {K : Int32 → Int32 → hs_St → Prop} (h : RR σ) (hK : ∀ q1 τ, RR τ → K q1 q1 τ) : OkI m_X5_text [.ref 0] σ (fun q1 σ2 => OkI m_X6_text [.ref 63] σ2 (fun q2 τ => K q1 q2 τ)) := by
  obtain ⟨T, I, kp, n_, b_, ln_, sz_, cs_, ft, rf, hk, hx, hm⟩ := h
  have hb := hk.2.2.2.1
  refine cx_text hx.2.2.1 hk.2.2.1 hb (fun f a hs τ1 f1 c19 c8 c9 => ?_) (fun l D hs τ1 f1 hx1 c57 c571 c19 c8 c9 => ?_)
  · have hm1 := hm.lo (fr_lo f1 (by decide))
    refine cm_text hm1.2.2.1 hk.2.2.1 hb (fun f2 a2 hs2 τ2 g2 e10 e15 => ?_) (fun l2 D2 hs2 => by rw [hs] at hs2; cases hs2)
    rw [hs] at hs2
    cases hs2
    have hx1 : RX τ1 T I kp 0 b_ ln_ sz_ cs_ (nI f) rf := ⟨xt_fr f1 (by decide) hx.1, xi_f f1 (by decide) hx.2.1, ⟨c19, fun i hi => by omega⟩, xsh_f f1 (by decide) hx.2.2.2.1, c8, c9.trans hx.2.2.2.2.2⟩
    obtain ⟨h1, h2, h3, h4, h5, h6⟩ := hm1
    refine hK _ τ2 ⟨T, I, kp, 0, b_, ln_, sz_, cs_, nI f, rf, ⟨hk.1, hk.2.1, by omega, fun i hi => by omega, hk.2.2.2.2⟩, hx1.hi (mg_hi g2 (by decide)), ⟨?_, ?_⟩, ?_, ⟨e10, fun i hi => by omega⟩, ?_, e15, ?_⟩
    · rw [g2.1 64 (by decide) (by decide)]; exact h1.1
    · rw [g2.2 3 (by decide)]; exact h1.2
    · unfold mim
      rw [g2.1 66 (by decide) (by decide), g2.1 64 (by decide) (by decide)]; exact h2
    · unfold msh
      rw [g2.1 73 (by decide) (by decide), g2.1 74 (by decide) (by decide), g2.1 75 (by decide) (by decide)]
      exact h4
    · rw [g2.2 27 (by decide)]; exact h6
  · have hm1 := hm.lo (fr_lo f1 (by decide))
    refine cm_text hm1.2.2.1 hk.2.2.1 hb (fun f2 a2 hs2 => by rw [hs] at hs2; cases hs2) (fun l2 D2 hs2 τ2 g2 hm2 e66 e661 e10 e15 => ?_)
    rw [hs] at hs2
    cases hs2
    have hx2 : RX τ1 D I (fun _ => false) 0 b_ ln_ sz_ cs_ (nI 0) rf := ⟨hx1, ⟨c57, c571, fun h => (by cases h), fun h => (by cases h)⟩, ⟨c19, fun i hi => by omega⟩, xsh_f f1 (by decide) hx.2.2.2.1, c8, c9.trans hx.2.2.2.2.2⟩
    obtain ⟨h1, h2, h3, h4, h5, h6⟩ := hm1
    refine hK _ τ2 ⟨D, I, fun _ => false, 0, b_, ln_, sz_, cs_, nI 0, rf, ⟨s_txt_tk hb hs, fun j hj => (by cases hj), by omega, fun i hi => by omega, hk.2.2.2.2⟩, hx2.hi (mg_hi g2 (by decide)), hm2, fun k hk2 => ⟨?_, fun h => (by cases h)⟩, ⟨e10, fun i hi => by omega⟩, ?_, e15, ?_⟩
    · rcases (show k = 0 ∨ k = 1 by omega) with rfl | rfl
      · exact e66
      · exact e661
    · unfold msh
      rw [g2.1 73 (by decide) (by decide), g2.1 74 (by decide) (by decide), g2.1 75 (by decide) (by decide)]
      exact h4
    · rw [g2.2 27 (by decide)]; exact h6
end PR
