/-! the model: leave, see, forget -/
theorem mb0 {v : Int32} : mb 0 v = inr v 0 3 := rfl
theorem mb1 {v : Int32} : mb 1 v = inr v 1 99 := rfl
theorem mb2 {v : Int32} : mb 2 v = inr v 1 99 := rfl
theorem mb3 {v : Int32} : mb 3 v = inr v 0 5 := rfl
set_option maxHeartbeats 1000000 in
theorem mr_add {σ : hs_St} {T : sp_T} {k a b r : Nat} (h4 : T 0 0 < 4) (h6 : T 6 0 ≤ 3) (hx : mr (σ.1 64) T) : mr ((hs_w (hs_w (hs_w (hs_w (hs_w (hs_w σ 64 (5 * T 0 0) (nI k)) 64 (5 * T 0 0 + 1) (nI a)) 64 (5 * T 0 0 + 2) (nI b)) 64 (5 * T 0 0 + 3) (nI r)) 64 (5 * T 0 0 + 4) (nI 0)) 64 20 (nI (T 0 0 + 1))).1 64) (t_add T k a b r) := by
  obtain ⟨x0, x9, x10, xg, xc, xs⟩ := hx
  have ta1 := t_add_1 (T := T) (k := k) (a := a) (b := b) (r := r)
  have far : ∀ {f : Nat} {v : Int32}, f ≠ 20 → f ≠ 5 * T 0 0 → f ≠ 5 * T 0 0 + 1 → f ≠ 5 * T 0 0 + 2 → f ≠ 5 * T 0 0 + 3 → f ≠ 5 * T 0 0 + 4 → σ.1 64 f = v → (hs_w (hs_w (hs_w (hs_w (hs_w (hs_w σ 64 (5 * T 0 0) (nI k)) 64 (5 * T 0 0 + 1) (nI a)) 64 (5 * T 0 0 + 2) (nI b)) 64 (5 * T 0 0 + 3) (nI r)) 64 (5 * T 0 0 + 4) (nI 0)) 64 20 (nI (T 0 0 + 1))).1 64 f = v := by
    intro f v h1 h2 h3 h4 h5 h6 h7
    rw [w_at h1, w_at h6, w_at h5, w_at h4, w_at h3, w_at h2]; exact h7
  unfold mr
  rw [t_add_0, t_add_f (f := 6) (by omega), t_add_f (f := 7) (by omega), t_add_f (f := 8) (by omega), t_add_f (f := 9) (by omega), t_add_f (f := 10) (by omega), t_add_f (f := 11) (by omega), t_add_f (f := 12) (by omega), t_add_f (f := 13) (by omega)]
  refine ⟨w_eq, far (by omega) (by omega) (by omega) (by omega) (by omega) (by omega) x9, far (by omega) (by omega) (by omega) (by omega) (by omega) (by omega) x10, fun g hg => ?_, fun c hc => ?_, fun i hi => ?_⟩
  · by_cases e : g = T 0 0
    · subst e
      rw [ta1.1, ta1.2.1, ta1.2.2.1, ta1.2.2.2.1, ta1.2.2.2.2]
      refine ⟨?_, ?_, ?_, ?_, ?_⟩
      · rw [w_at (by omega), w_at (by omega), w_at (by omega), w_at (by omega), w_at (by omega), w_eq]
      · rw [w_at (by omega), w_at (by omega), w_at (by omega), w_at (by omega), w_eq]
      · rw [w_at (by omega), w_at (by omega), w_at (by omega), w_eq]
      · rw [w_at (by omega), w_at (by omega), w_eq]
      · rw [w_at (by omega), w_eq]
    · rw [t_add_n e (by omega), t_add_n e (by omega), t_add_n e (by omega), t_add_n e (by omega), t_add_n e (by omega)]
      have h := xg g (by omega)
      exact ⟨far (by omega) (by omega) (by omega) (by omega) (by omega) (by omega) h.1, far (by omega) (by omega) (by omega) (by omega) (by omega) (by omega) h.2.1, far (by omega) (by omega) (by omega) (by omega) (by omega) (by omega) h.2.2.1, far (by omega) (by omega) (by omega) (by omega) (by omega) (by omega) h.2.2.2.1, far (by omega) (by omega) (by omega) (by omega) (by omega) (by omega) h.2.2.2.2⟩
  · have h := xc c hc
    exact ⟨far (by omega) (by omega) (by omega) (by omega) (by omega) (by omega) h.1, far (by omega) (by omega) (by omega) (by omega) (by omega) (by omega) h.2⟩
  · have h := xs i hi
    exact ⟨far (by omega) (by omega) (by omega) (by omega) (by omega) (by omega) h.1, far (by omega) (by omega) (by omega) (by omega) (by omega) (by omega) h.2.1, far (by omega) (by omega) (by omega) (by omega) (by omega) (by omega) h.2.2⟩
theorem cm_leave {σ : hs_St} {K : Int32 → hs_St → Prop} {T : sp_T} {k a b r : Int32} (hx : mt σ T) (hk : tk T) (hK : ∀ τ, mc σ τ → mt τ (s_leave T k a b r).2 → K (s_leave T k a b r).1 τ) : OkI m_X6_leave [.ref 63, .int k, .int a, .int b, .int r] σ K := by
  have h4 := hk.1
  have h6 := hk.2.1
  unfold s_leave at hK
  have no : ¬ (inr k 0 3 = true ∧ inr a 1 99 = true ∧ inr b 1 99 = true ∧ inr r 0 5 = true) → K (-1) σ := fun n => by
    rw [if_neg n] at hK; exact hK σ mc.rf hx
  refine vc_X6_leave (cm_canBe ?_)
  rw [mb0]
  refine ⟨fun h1 => no (fun z => by rw [h1] at z; exact absurd z.1 (by decide)), fun h1 => cm_canBe ?_⟩
  rw [mb1]
  refine ⟨fun h2 => no (fun z => by rw [h2] at z; exact absurd z.2.1 (by decide)), fun h2 => cm_canBe ?_⟩
  rw [mb2]
  refine ⟨fun h3 => no (fun z => by rw [h3] at z; exact absurd z.2.2.1 (by decide)), fun h3 => cm_canBe ?_⟩
  rw [mb3]
  refine ⟨fun h5 => ⟨fun h7 => ?_, fun h7 => ?_⟩, fun h5 => no (fun z => by rw [h5] at z; exact absurd z.2.2.2 (by decide))⟩
  · rw [hx.1.1, nl_4, ieq (by omega) (by omega)] at h7
    rw [if_pos ⟨h1, h2, h3, h5⟩, if_pos (by omega)] at hK
    obtain ⟨k', hk', rfl⟩ := inr_of (hi := 3) h1
    obtain ⟨a', ha1, ha, rfl⟩ := inr_1 (lo := 1) (hi := 99) h2
    obtain ⟨b', hb1, hb, rfl⟩ := inr_1 (lo := 1) (hi := 99) h3
    obtain ⟨r', hr, rfl⟩ := inr_of (hi := 5) h5
    rw [nI_clamp (by omega), nI_clamp (by omega), nI_clamp (by omega), nI_clamp (by omega)] at hK
    intro x28 e28
    have e28 : x28 = nI (5 * T 0 0) := by rw [e28, hx.1.1, nl_5, pk_mul]
    subst e28
    have i0 : nI (5 * T 0 0) + 0 = nI (5 * T 0 0) := Int32.add_zero _
    have i1 : nI (5 * T 0 0) + 1 = nI (5 * T 0 0 + 1) := nI_1 _
    have i2 : nI (5 * T 0 0) + 2 = nI (5 * T 0 0 + 2) := by rw [nl_2, nI_add]
    have i3 : nI (5 * T 0 0) + 3 = nI (5 * T 0 0 + 3) := by rw [nl_3, nI_add]
    have i4 : nI (5 * T 0 0) + 4 = nI (5 * T 0 0 + 4) := by rw [nl_4, nI_add]
    rw [i0, i1, i2, i3, i4, nI_clamp (by omega), nI_clamp (by omega), nI_clamp (by omega), nI_clamp (by omega), nI_clamp (by omega)]
    refine ⟨vp_in_nI (by omega) (by omega), ?_⟩
    rintro _ rfl
    refine ⟨vp_in_nI (by omega) (by omega), ?_⟩
    rintro _ rfl
    refine ⟨vp_in_nI (by omega) (by omega), ?_⟩
    rintro _ rfl
    refine ⟨vp_in_nI (by omega) (by omega), ?_⟩
    rintro _ rfl
    refine ⟨vp_in_nI (by omega) (by omega), ?_⟩
    rintro _ rfl
    rintro _ rfl
    rw [w_eq, w_at (by omega), w_at (by omega), w_at (by omega), w_at (by omega), w_at (by omega), hx.1.1, nI_1, nl_1, pk_sub (by omega), nl_0]
    refine hK _ ((((((mc.rf.w (by omega)).w (by omega)).w (by omega)).w (by omega)).w (by omega)).w (by omega)) ⟨mr_add (by omega) h6 hx.1, ?_⟩
    rw [w_ne (by decide), w_ne (by decide), w_ne (by decide), w_ne (by decide), w_ne (by decide), w_ne (by decide)]
    show _ = nI (t_add T k' a' b' r' 6 0)
    rw [t_add_f (by omega)]
    exact hx.2
  · rw [hx.1.1, nl_4, ieq (by omega) (by omega)] at h7
    rw [if_pos ⟨h1, h2, h3, h5⟩, if_neg (by omega)] at hK
    exact hK σ mc.rf hx
theorem mr_see {σ : hs_St} {T : sp_T} {g n r : Nat} (h4 : T 0 0 ≤ 4) (h6 : T 6 0 ≤ 3) (hx : mr (σ.1 64) T) : mr ((hs_w (hs_w (hs_w (hs_w σ 64 (29 + 3 * T 10 0) (nI g)) 64 (30 + 3 * T 10 0) (nI n)) 64 (31 + 3 * T 10 0) (nI r)) 64 28 (nI (T 10 0 + 1))).1 64) (t_see T g n r) := by
  obtain ⟨x0, x9, x10, xg, xc, xs⟩ := hx
  have ts1 := t_see_1 (T := T) (g := g) (n := n) (r := r)
  have far : ∀ {f : Nat} {v : Int32}, f ≠ 28 → f ≠ 29 + 3 * T 10 0 → f ≠ 30 + 3 * T 10 0 → f ≠ 31 + 3 * T 10 0 → σ.1 64 f = v → (hs_w (hs_w (hs_w (hs_w σ 64 (29 + 3 * T 10 0) (nI g)) 64 (30 + 3 * T 10 0) (nI n)) 64 (31 + 3 * T 10 0) (nI r)) 64 28 (nI (T 10 0 + 1))).1 64 f = v := by
    intro f v h1 h2 h3 h4 h7
    rw [w_at h1, w_at h4, w_at h3, w_at h2]; exact h7
  unfold mr
  rw [t_see_0, t_see_f (f := 0) (by omega), t_see_f (f := 1) (by omega), t_see_f (f := 2) (by omega), t_see_f (f := 3) (by omega), t_see_f (f := 4) (by omega), t_see_f (f := 5) (by omega), t_see_f (f := 6) (by omega), t_see_f (f := 7) (by omega), t_see_f (f := 8) (by omega), t_see_f (f := 9) (by omega)]
  refine ⟨far (by omega) (by omega) (by omega) (by omega) x0, far (by omega) (by omega) (by omega) (by omega) x9, w_eq, fun g hg => ?_, fun c hc => ?_, fun i hi => ?_⟩
  · have h := xg g hg
    exact ⟨far (by omega) (by omega) (by omega) (by omega) h.1, far (by omega) (by omega) (by omega) (by omega) h.2.1, far (by omega) (by omega) (by omega) (by omega) h.2.2.1, far (by omega) (by omega) (by omega) (by omega) h.2.2.2.1, far (by omega) (by omega) (by omega) (by omega) h.2.2.2.2⟩
  · have h := xc c hc
    exact ⟨far (by omega) (by omega) (by omega) (by omega) h.1, far (by omega) (by omega) (by omega) (by omega) h.2⟩
  · by_cases e : i = T 10 0
    · subst e
      rw [ts1.1, ts1.2.1, ts1.2.2]
      refine ⟨?_, ?_, ?_⟩
      · rw [w_at (by omega), w_at (by omega), w_at (by omega), w_eq]
      · rw [w_at (by omega), w_at (by omega), w_eq]
      · rw [w_at (by omega), w_eq]
    · rw [t_see_n e (by omega), t_see_n e (by omega), t_see_n e (by omega)]
      have h := xs i (by omega)
      exact ⟨far (by omega) (by omega) (by omega) (by omega) h.1, far (by omega) (by omega) (by omega) (by omega) h.2.1, far (by omega) (by omega) (by omega) (by omega) h.2.2⟩
theorem cm_see {σ : hs_St} {K : Int32 → hs_St → Prop} {T : sp_T} {g n r : Int32} (hx : mt σ T) (hk : tk T) (hK : ∀ τ, mc σ τ → mt τ (s_see T g n r).2 → K (s_see T g n r).1 τ) : OkI m_X6_see [.ref 63, .int g, .int n, .int r] σ K := by
  have h4 := hk.1
  have h6 := hk.2.1
  have h10 := hk.2.2.2.1
  unfold s_see at hK
  have no : ¬ (hgh T g = true ∧ inr n 0 20 = true ∧ inr r 0 5 = true) → K (-1) σ := fun z => by
    rw [if_neg z] at hK; exact hK σ mc.rf hx
  refine vc_X6_see (cm_isGhost hx hk ⟨fun h1 => no (fun z => by rw [h1] at z; exact absurd z.1 (by decide)), fun h1 => cm_inI ⟨fun h2 => no (fun z => ?_), fun h2 => cm_inI ⟨fun h3 => ⟨fun h7 => ?_, fun h7 => ?_⟩, fun h3 => no (fun z => ?_)⟩⟩⟩)
  · change inr n 0 20 = false at h2; rw [h2] at z; exact absurd z.2.1 (by decide)
  · change inr n 0 20 = true at h2
    change inr r 0 5 = true at h3
    have e28 : σ.1 64 28 = nI (T 10 0) := hx.1.2.2.1
    rw [e28, nl_6, ieq (by omega) (by omega)] at h7
    rw [if_pos ⟨h1, h2, h3⟩, if_pos (by omega)] at hK
    obtain ⟨g', hg', rfl⟩ := inr_lt h1
    obtain ⟨n', hn', rfl⟩ := inr_of (hi := 20) h2
    obtain ⟨r', hr', rfl⟩ := inr_of (hi := 5) h3
    rw [nI_clamp (by omega), nI_clamp (by omega), nI_clamp (by omega)] at hK
    intro x22 e22
    have e22 : x22 = nI (29 + 3 * T 10 0) := by rw [e22, e28, nl_29, nl_3, pk_mul, nI_add]
    subst e22
    have i1 : nI (29 + 3 * T 10 0) + 1 = nI (30 + 3 * T 10 0) := by rw [nI_1]; congr 1; omega
    have i2 : nI (29 + 3 * T 10 0) + 2 = nI (31 + 3 * T 10 0) := by rw [nl_2, nI_add]; congr 1; omega
    rw [i1, i2, nI_clamp (by omega), nI_clamp (by omega), nI_clamp (by omega)]
    refine ⟨vp_in_nI (by omega) (by omega), ?_⟩
    rintro _ rfl
    refine ⟨vp_in_nI (by omega) (by omega), ?_⟩
    rintro _ rfl
    refine ⟨vp_in_nI (by omega) (by omega), ?_⟩
    rintro _ rfl
    rintro _ rfl
    rw [w_eq, w_at (by omega), w_at (by omega), w_at (by omega), e28, nI_1]
    refine hK _ ((((mc.rf.w (by omega)).w (by omega)).w (by omega)).w (by omega)) ⟨mr_see h4 h6 hx.1, ?_⟩
    rw [w_ne (by decide), w_ne (by decide), w_ne (by decide), w_ne (by decide)]
    show _ = nI (t_see T g' n' r' 6 0)
    rw [t_see_f (by omega)]
    exact hx.2
  · change inr n 0 20 = true at h2
    change inr r 0 5 = true at h3
    have e28 : σ.1 64 28 = nI (T 10 0) := hx.1.2.2.1
    rw [e28, nl_6, ieq (by omega) (by omega)] at h7
    rw [if_pos ⟨h1, h2, h3⟩, if_neg (by omega)] at hK
    exact hK σ mc.rf hx
  · change inr r 0 5 = false at h3; rw [h3] at z; exact absurd z.2.2 (by decide)
theorem cm_forget {σ : hs_St} {K : Int32 → hs_St → Prop} {T : sp_T} {n : Int32} (hx : mt σ T) (hk : tk T) (hK : ∀ τ, mc σ τ → mt τ (s_forget T n).2 → K (s_forget T n).1 τ) : OkI m_X6_forget [.ref 63, .int n] σ K := by
  have h4 := hk.1
  have h6 := hk.2.1
  have h10 := hk.2.2.2.1
  have e28 : σ.1 64 28 = nI (T 10 0) := hx.1.2.2.1
  unfold s_forget at hK
  refine vc_X6_forget (cm_inJ ?_)
  rw [e28, iti (by omega)]
  refine ⟨fun h => ?_, fun h => ?_⟩
  · change inr n 0 (T 10 0 : Nat) = false at h
    rw [if_neg (by rw [h]; decide)] at hK; exact hK σ mc.rf hx
  · change inr n 0 (T 10 0 : Nat) = true at h
    rw [if_pos h] at hK
    obtain ⟨j, hj, rfl⟩ := inr_of h
    rw [nI_clamp (by omega)] at hK
    rw [nl_28]
    refine cm_becomes (by omega) ?_
    rw [e28]
    refine hK _ (mc.rf.w (by omega)) ⟨mr_10 h4 h6 hj hx.1, ?_⟩
    rw [w_ne (by decide)]
    show _ = nI (tu T 10 0 j 6 0)
    rw [tu_ne (by decide)]; exact hx.2
/-! the model: images -/
def mim (σ : hs_St) (I : Nat → sp_T) (kp : Nat → Bool) : Prop := ∀ k, k < 2 → σ.1 66 k = hs_b (kp k) ∧ (kp k = true → mr (fun i => σ.1 64 (47 * (k + 1) + i)) (I k))
theorem cm_copies {σ : hs_St} {K : hs_St → Prop} {a b : Nat} (ha : a + 47 ≤ 141) (hb : b + 47 ≤ 141) (hd : a + 47 ≤ b ∨ b + 47 ≤ a) (hK : ∀ τ, hs_fr [64] σ τ → (∀ i, i < 47 → τ.1 64 (a + i) = σ.1 64 (b + i)) → (∀ j, j < a ∨ a + 47 ≤ j → τ.1 64 j = σ.1 64 j) → K τ) : OkV m_X6_copies [.ref 63, .int (nI a), .int (nI b)] σ K := by
  have loop : ∀ m i (τ : hs_St), 47 - i = m → i ≤ 47 → hs_fr [64] σ τ → (∀ j, j < i → τ.1 64 (a + j) = σ.1 64 (b + j)) → (∀ j, j < a ∨ a + i ≤ j → τ.1 64 j = σ.1 64 j) → RnV m_X6_copies 2 [(0, .ref 63), (1, .int (nI a)), (2, .int (nI b)), (3, .int (nI i))] [] τ K := by
    intro m
    induction m with
    | zero =>
      intro i τ hm hi hf b1 b2
      have : i = 47 := by omega
      subst this
      exact vc_X6_copies_2 ⟨fun _ => hK τ hf b1 b2, fun h => absurd (by rw [nl_47, il (by omega) (by omega)]; omega) h⟩
    | succ m ih =>
      intro i τ hm hi hf b1 b2
      refine vc_X6_copies_2 ⟨fun h => ?_, fun _ => ?_⟩
      · rw [nl_47, il (by omega) (by omega)] at h; omega
      · rw [nI_add, nI_add, nI_clamp (by omega), nI_clamp (by omega), nI_1]
        refine ⟨vp_in_nI (by omega) (by omega), vp_in_nI (by omega) (by omega), ?_⟩
        rintro _ rfl
        rw [b2 (b + i) (by omega)]
        refine ih (i + 1) _ (by omega) (by omega) (hf.w (by decide)) (fun j hj => ?_) (fun j hj => ?_)
        · by_cases e : j = i
          · subst e; rw [w_eq]
          · rw [w_at (by omega)]; exact b1 j (by omega)
        · rw [w_at (by omega)]; exact b2 j (by omega)
  refine vc_X6_copies ?_
  rw [nl_0]
  exact loop 47 0 σ (by omega) (by omega) hs_fr.rf (fun _ h => by omega) (fun _ _ => rfl)
theorem flag_b {b : Bool} : (if hs_b b = 0 then (0 : Int32) else 1) = hs_b b := by cases b <;> rfl
theorem cmk_keep {σ : hs_St} {K : Int32 → hs_St → Prop} {T : sp_T} {I : Nat → sp_T} {kp : Nat → Bool} {k : Int32} (hx : mt σ T) (hk : tk T) (hi : mim σ I kp) (hki : ∀ j, kp j = true → tk (I j)) (hK : ∀ τ, hs_fr [64, 66] σ τ → mt τ T → mim τ (s_keep T I kp k).2.1 (s_keep T I kp k).2.2 → K (s_keep T I kp k).1 τ) : OkI m_X6_keep [.ref 63, .int k] σ K := by
  unfold s_keep at hK
  refine vc_X6_keep (cm_inI ⟨fun h => ?_, fun h => ?_⟩)
  · change inr k 0 1 = true at h
    rw [if_pos h] at hK
    obtain ⟨j, hj, rfl⟩ := inr_of (hi := 1) h
    rw [nI_clamp (by omega)] at hK
    refine ⟨vp_in_nI (by omega) (by omega), cm_flag ?_⟩
    rw [nI_clamp (by omega), (hi j (by omega)).1, flag_b]
    rintro _ rfl
    have e : (47 : Int32) * (nI j + 1) = nI (47 * (j + 1)) := by rw [nI_1, nl_47, pk_mul]
    have e0 : (0 : Int32) = nI 0 := nl_0
    rw [e, e0]
    refine cm_copies (by omega) (by omega) (by omega) (fun τ hf b1 b2 => ?_)
    rw [w_ne (by decide)] at b1 b2
    have e66 : τ.1 66 = (hs_w σ 66 j 1).1 66 := hf.2 66 (by decide)
    refine hK τ (((hs_fr.rf (S := [64, 66])).w (by decide)).tr (hf.up (by decide))) ⟨mr_e hx.1 (mk_of hk) (fun i hi => b2 i (by omega)), ?_⟩ (fun m hm => ⟨?_, fun hkm => ?_⟩)
    · rw [hf.2 63 (by decide), w_ne (by decide)]; exact hx.2
    · rw [e66]
      dsimp only
      by_cases e : m = j
      · subst e; rw [w_eq, up1_eq]; rfl
      · rw [w_at e, up1_ne e]; exact (hi m hm).1
    · by_cases e : m = j
      · subst e
        dsimp only
        rw [up1_eq]
        exact mr_e hx.1 (mk_of hk) (fun i hi => by
          have := b1 i hi
          rw [Nat.zero_add] at this; exact this)
      · dsimp only at hkm ⊢
        rw [up1_ne e] at hkm ⊢
        exact mr_e ((hi m hm).2 hkm) (mk_of (hki m hkm)) (fun i hi => b2 _ (by omega))
  · change inr k 0 1 = false at h
    rw [if_neg (by rw [h]; decide)] at hK; exact hK σ hs_fr.rf hx hi
theorem cm_back {σ : hs_St} {K : Int32 → hs_St → Prop} {T : sp_T} {I : Nat → sp_T} {kp : Nat → Bool} {k : Int32} (hx : mt σ T) (hi : mim σ I kp) (hki : ∀ j, kp j = true → tk (I j)) (hcl : ∀ j, kp j = true → I j 6 0 = T 6 0) (hK : ∀ τ, hs_fr [64] σ τ → mt τ (s_back T I kp k).2 → mim τ I kp → K (s_back T I kp k).1 τ) : OkI m_X6_back [.ref 63, .int k] σ K := by
  unfold s_back at hK
  refine vc_X6_back (cm_inI ⟨fun h => ?_, fun h => ?_⟩)
  · change inr k 0 1 = true at h
    rw [if_pos h] at hK
    obtain ⟨j, hj, rfl⟩ := inr_of (hi := 1) h
    rw [nI_clamp (by omega)] at hK
    refine ⟨vp_in_nI (by omega) (by omega), ?_⟩
    rw [nI_clamp (by omega), (hi j (by omega)).1]
    refine ⟨fun h2 => ?_, fun h2 => ?_⟩
    · have hb := hs_b1 h2
      rw [if_pos hb] at hK
      have h3 := (hi j (by omega)).2 hb
      have e : (47 : Int32) * (nI j + 1) = nI (47 * (j + 1)) := by rw [nI_1, nl_47, pk_mul]
      have e0 : (0 : Int32) = nI 0 := nl_0
      rw [e, e0]
      refine cm_copies (by omega) (by omega) (by omega) (fun τ hf b1 b2 => ?_)
      have hr : mr (τ.1 64) (I j) := mr_e h3 (mk_of (hki j hb)) (fun i hi => by
        have := b1 i hi
        rw [Nat.zero_add] at this; exact this)
      rw [hr.2.1]
      refine hK τ hf ⟨hr, ?_⟩ (fun m hm => ⟨?_, fun hkm => ?_⟩)
      · rw [hf.2 63 (by decide)]
        show _ = nI (I j 6 0)
        rw [hcl j hb]; exact hx.2
      · rw [hf.2 66 (by decide)]; exact (hi m hm).1
      · exact mr_e ((hi m hm).2 hkm) (mk_of (hki m hkm)) (fun i hi => b2 _ (by omega))
    · have hb : ¬ kp j = true := fun z => by rw [z] at h2; exact absurd h2 (by decide)
      rw [if_neg hb] at hK; exact hK σ hs_fr.rf hx hi
  · change inr k 0 1 = false at h
    rw [if_neg (by rw [h]; decide)] at hK; exact hK σ hs_fr.rf hx hi
/-! the model: sheets -/
def lnM (n : Nat) : Int32 := if n = 0 then -4 else nI (n - 1)
def msh (σ : hs_St) (ln sz : Nat → Nat) (cs : Nat → Nat → Int32) : Prop := ∀ k, k < 4 → σ.1 73 k = lnM (ln k) ∧ (ln k ≠ 0 → σ.1 74 k = nI (sz k) ∧ ∀ i, i < sz k → σ.1 75 (40 * k + i) = cs k i)
theorem cm_isSheet {σ : hs_St} {K : Bool → hs_St → Prop} {k l : Int32} (hK : K (inr k 0 3 && inr l 0 2) σ) : OkB m_X6_isSheet [.int k, .int l] σ K := by
  refine vc_X6_isSheet (cm_inI ⟨fun h => ?_, fun h => cm_inI ⟨fun h2 => ?_, fun h2 => ?_⟩⟩)
  · change inr k 0 3 = false at h
    rw [h] at hK; exact hK
  · change inr k 0 3 = true at h
    change inr l 0 2 = false at h2
    rw [h, h2] at hK; exact hK
  · change inr k 0 3 = true at h
    change inr l 0 2 = true at h2
    rw [h, h2] at hK; exact hK
theorem cm_sheet {σ : hs_St} {K : Int32 → hs_St → Prop} {ln sz : Nat → Nat} {cs : Nat → Nat → Int32} {k l n : Int32} (hx : msh σ ln sz cs) (hs : shk ln sz) (hK : ∀ τ, hs_fr [73, 74, 75] σ τ → msh τ (s_sheet ln sz cs k l n).2.1 (s_sheet ln sz cs k l n).2.2.1 (s_sheet ln sz cs k l n).2.2.2 → K (s_sheet ln sz cs k l n).1 τ) : OkI m_X6_sheet [.ref 63, .int k, .int l, .int n] σ K := by
  unfold s_sheet at hK
  refine vc_X6_sheet (cm_isSheet ⟨fun h => ?_, fun h => ⟨fun h2 => ⟨fun h3 => ?_, fun h3 => ?_⟩, fun h2 => ?_⟩⟩)
  · rw [if_neg (fun z => by rw [z.1, z.2.1] at h; exact absurd h (by decide))] at hK
    exact hK σ hs_fr.rf hx
  · rw [Bool.and_eq_true] at h
    rw [Int32.le_iff_toInt_le] at h2 h3
    have h2 : n.toInt ≤ 40 := h2
    have h3 : 0 ≤ n.toInt := h3
    rw [if_pos ⟨h.1, h.2, h2⟩, if_pos h3] at hK
    obtain ⟨k', hk, rfl⟩ := inr_of (hi := 3) h.1
    obtain ⟨l', hl, rfl⟩ := inr_of (hi := 2) h.2
    obtain ⟨n', hn, rfl⟩ := inr_of (hi := 40) (show inr n 0 40 = true by unfold inr; exact decide_eq_true ⟨h3, h2⟩)
    rw [nI_clamp (by omega), nI_clamp (by omega), nI_clamp (by omega)] at hK
    refine ⟨vp_in_nI (by omega) (by omega), ?_⟩
    rintro _ rfl
    rintro _ rfl
    rw [nI_clamp (by omega)]
    have loop : ∀ m i (τ : hs_St), 40 - i = m → i ≤ 40 → hs_fr [75] (hs_w (hs_w σ 73 k' (nI l')) 74 k' (nI n')) τ → (∀ j, j < i → τ.1 75 (40 * k' + j) = 0) → (∀ j, j < 40 * k' ∨ 40 * k' + 40 ≤ j → τ.1 75 j = σ.1 75 j) → RnI m_X6_sheet 40 [(0, .ref 63), (1, .int (nI k')), (2, .int (nI l')), (3, .int (nI n')), (4, .int (nI i))] [] τ K := by
      intro m
      induction m with
      | zero =>
        intro i τ hm hi hf b1 b2
        have : i = 40 := by omega
        subst this
        refine vc_X6_sheet_40 ⟨fun _ => hK τ ((((hs_fr.rf (S := [73, 74, 75])).w (by decide)).w (by decide)).tr (hf.up (by decide))) (fun q hq => ?_), fun h => absurd (by rw [nl_40, il (by omega) (by omega)]; omega) h⟩
        rw [hf.2 73 (by decide), hf.2 74 (by decide), w_ne (by decide)]
        have hxq := hx q hq
        dsimp only
        by_cases e : q = k'
        · subst e
          rw [up1_eq, up1_eq, up1_eq, w_eq, w_eq]
          exact ⟨rfl, fun _ => ⟨rfl, fun i hi => b1 i (by omega)⟩⟩
        · rw [up1_ne e, up1_ne e, up1_ne e, w_at e, w_at e, w_ne (by decide)]
          refine ⟨hxq.1, fun hl => ⟨(hxq.2 hl).1, fun i hi => ?_⟩⟩
          have := (hs q hq).2
          rw [b2 _ (by omega)]; exact (hxq.2 hl).2 i hi
      | succ m ih =>
        intro i τ hm hi hf b1 b2
        refine vc_X6_sheet_40 ⟨fun h => ?_, fun _ => ?_⟩
        · rw [nl_40, il (by omega) (by omega)] at h; omega
        · rw [nl_40, pk_mul, nI_add, nI_clamp (by omega), nI_1]
          refine ⟨vp_in_nI (by omega) (by omega), ?_⟩
          rintro _ rfl
          refine ih (i + 1) _ (by omega) (by omega) (hf.w (by decide)) (fun j hj => ?_) (fun j hj => ?_)
          · by_cases e : j = i
            · subst e; rw [w_eq]
            · rw [w_at (by omega)]; exact b1 j (by omega)
          · rw [w_at (by omega)]; exact b2 j hj
    rw [nl_0]
    exact loop 40 0 _ (by omega) (by omega) hs_fr.rf (fun _ h => by omega) (fun j _ => by rw [w_ne (by decide), w_ne (by decide)])
  · rw [Bool.and_eq_true] at h
    rw [Int32.le_iff_toInt_le] at h2 h3
    have h2 : n.toInt ≤ 40 := h2
    have h3 : ¬ 0 ≤ n.toInt := h3
    rw [if_pos ⟨h.1, h.2, h2⟩, if_neg h3] at hK
    exact hK σ hs_fr.rf hx
  · rw [Int32.le_iff_toInt_le] at h2
    have h2 : ¬ n.toInt ≤ 40 := h2
    rw [if_neg (fun z => h2 z.2.2)] at hK
    exact hK σ hs_fr.rf hx
theorem lnM_0 {n : Nat} (h : n ≤ 3) : lnM n = -4 ↔ n = 0 := by
  unfold lnM
  by_cases e : n = 0
  · rw [if_pos e]; exact ⟨fun _ => e, fun _ => rfl⟩
  · rw [if_neg e]; exact ⟨fun z => absurd z (im4 (by omega)), fun z => absurd z e⟩
theorem cm_lay {σ : hs_St} {K : Int32 → hs_St → Prop} {ln sz : Nat → Nat} {cs : Nat → Nat → Int32} {k i v : Int32} (hx : msh σ ln sz cs) (hs : shk ln sz) (hK : ∀ τ, hs_fr [73, 74, 75] σ τ → msh τ ln sz (s_lay ln sz cs k i v).2 → K (s_lay ln sz cs k i v).1 τ) : OkI m_X6_lay [.ref 63, .int k, .int i, .int v] σ K := by
  unfold s_lay at hK
  refine vc_X6_lay (cm_isSheet ?_)
  have e2 : inr 0 0 2 = true := by decide
  rw [e2, Bool.and_true]
  refine ⟨fun h => ?_, fun h => ?_⟩
  · rw [if_pos h] at hK
    obtain ⟨k', hk, rfl⟩ := inr_of (hi := 3) h
    rw [nI_clamp (by omega)] at hK
    have hxk := hx k' (by omega)
    have hsk := hs k' (by omega)
    refine ⟨vp_in_nI (by omega) (by omega), ?_⟩
    rw [nI_clamp (by omega), hxk.1, lnM_0 hsk.1]
    refine ⟨fun h0 => cm_inJ ?_, fun h0 => ?_⟩
    · rw [if_neg h0] at hK
      have h74 := (hxk.2 h0).1
      rw [h74, sub1 (by omega), hxk.1]
      have put : ∀ j z, j < sz k' → i = nI j → z = trn (ln k') v → K 1 (hs_w σ 75 (40 * k' + j) z) := by
        intro j z hj e1 e2
        subst e1 e2
        rw [nI_clamp (by omega)] at hK
        have hin : inr (nI j) 0 ((sz k' : Nat) - 1 : Int) = true := by rw [inr_nI (by omega)]; exact decide_eq_true (by omega)
        rw [if_pos hin] at hK
        refine hK _ (hs_fr.rf.w (by decide)) (fun q hq => ?_)
        have hxq := hx q hq
        have hsq := hs q hq
        rw [w_ne (by decide), w_ne (by decide)]
        refine ⟨hxq.1, fun hl => ⟨(hxq.2 hl).1, fun m hm => ?_⟩⟩
        dsimp only
        by_cases e : q = k'
        · subst e
          rw [up1_eq]
          by_cases e3 : m = j
          · subst e3; rw [up1_eq, w_eq]
          · rw [up1_ne e3, w_at (by omega)]; exact (hxq.2 hl).2 m hm
        · rw [up1_ne e, w_at (by omega)]; exact (hxq.2 hl).2 m hm
      have el : lnM (ln k') = nI (ln k' - 1) := by unfold lnM; rw [if_neg h0]
      rw [el]
      refine ⟨fun hin => ?_, fun hin => ?_⟩
      · change inr i 0 ((sz k' : Nat) - 1 : Int) = true at hin
        obtain ⟨j, hj, rfl⟩ := inr_lt hin
        have e40 : (40 : Int32) * nI k' + nI j = nI (40 * k' + j) := by rw [nl_40, pk_mul, nI_add]
        rw [e40, nI_clamp (by omega)]
        refine ⟨fun n0 => ⟨fun n1 => ⟨vp_in_nI (by omega) (by omega), ?_⟩, fun n1 => ⟨vp_in_nI (by omega) (by omega), ?_⟩⟩, fun n0 => ⟨vp_in_nI (by omega) (by omega), ?_⟩⟩
        · rw [nl_0, ieq (by omega) (by omega)] at n0
          rw [nl_1, ieq (by omega) (by omega)] at n1
          rintro _ rfl
          exact put j v hj rfl (by unfold trn; rw [if_neg (by omega), if_neg (by omega)])
        · rw [nl_0, ieq (by omega) (by omega)] at n0
          rw [nl_1, ieq (by omega) (by omega)] at n1
          rintro _ rfl
          exact put j _ hj rfl (by unfold trn; rw [if_neg (by omega), if_pos (by omega)])
        · rw [nl_0, ieq (by omega) (by omega)] at n0
          rintro _ rfl
          exact put j _ hj rfl (by unfold trn; rw [if_pos (by omega)])
      · change inr i 0 ((sz k' : Nat) - 1 : Int) = false at hin
        rw [if_neg (by rw [hin]; decide)] at hK
        exact hK σ hs_fr.rf hx
    · rw [if_pos h0] at hK; exact hK σ hs_fr.rf hx
  · rw [if_neg (by rw [h]; decide)] at hK; exact hK σ hs_fr.rf hx
/-! the model: tape, counts -/
def mp (σ : hs_St) (n : Nat) (b : Nat → Nat) : Prop := σ.1 63 10 = nI n ∧ ∀ i, i < n → σ.1 69 i = nI (b i)
def mg (S Z : List Nat) (σ τ : hs_St) : Prop := (∀ k, k ∉ S → k ≠ 63 → τ.1 k = σ.1 k) ∧ ∀ i, i ∉ Z → τ.1 63 i = σ.1 63 i
theorem mg.rf {S Z : List Nat} {σ : hs_St} : mg S Z σ σ := ⟨fun _ _ _ => rfl, fun _ _ => rfl⟩
theorem mg.tr {S Z : List Nat} {σ τ υ : hs_St} (h : mg S Z σ τ) (g : mg S Z τ υ) : mg S Z σ υ := ⟨fun k h1 h2 => (g.1 k h1 h2).trans (h.1 k h1 h2), fun i hi => (g.2 i hi).trans (h.2 i hi)⟩
theorem mg.w {S Z : List Nat} {σ τ : hs_St} (h : mg S Z σ τ) {k i : Nat} {v : Int32} (hk : k ∈ S) (h6 : k ≠ 63) : mg S Z σ (hs_w τ k i v) := ⟨fun j hj h2 => by
  have e : j ≠ k := fun e => hj (e ▸ hk)
  rw [w_ne e]; exact h.1 j hj h2, fun j hj => by rw [w_ne (Ne.symm h6)]; exact h.2 j hj⟩
theorem mg.z {S Z : List Nat} {σ τ : hs_St} (h : mg S Z σ τ) {i : Nat} {v : Int32} (hi : i ∈ Z) : mg S Z σ (hs_w τ 63 i v) := ⟨fun j hj h2 => by rw [w_ne h2]; exact h.1 j hj h2, fun j hj => by
  have e : j ≠ i := fun e => hj (e ▸ hi)
  rw [w_at e]; exact h.2 j hj⟩
theorem cm_feed {σ : hs_St} {K : Int32 → hs_St → Prop} {n : Nat} {b : Nat → Nat} {c : Int32} (hn : n ≤ 160) (hp : mp σ n b) (hK : ∀ τ, mg [69] [10] σ τ → mp τ (s_feed n b c).2.1 (s_feed n b c).2.2 → K (s_feed n b c).1 τ) : OkI m_X6_feed [.ref 63, .int c] σ K := by
  unfold s_feed at hK
  refine vc_X6_feed (cm_inI ⟨fun h => ⟨fun h2 => ?_, fun h2 => ?_⟩, fun h => ?_⟩)
  · change inr c 0 127 = true at h
    rw [hp.1, nl_160, ieq (by omega) (by omega)] at h2
    rw [if_pos h, if_pos (by omega)] at hK
    obtain ⟨j, hj, rfl⟩ := inr_of (hi := 127) h
    rw [nI_clamp (by omega)] at hK
    rw [hp.1]
    refine ⟨vp_in_nI (by omega) (by omega), ?_⟩
    rintro _ rfl
    rintro _ rfl
    rw [w_eq, w_ne (by decide), hp.1, nI_1, nI_clamp (by omega)]
    refine hK _ ((mg.rf.w (by decide) (by decide)).z (by decide)) ⟨w_eq, fun i hi => ?_⟩
    rw [w_ne (by decide)]
    dsimp only at hi ⊢
    by_cases e : i = n
    · subst e; rw [w_eq, up1_eq]
    · rw [w_at e, up1_ne e]; exact hp.2 i (by omega)
  · change inr c 0 127 = true at h
    rw [hp.1, nl_160, ieq (by omega) (by omega)] at h2
    rw [if_pos h, if_neg (by omega)] at hK
    exact hK σ mg.rf hp
  · change inr c 0 127 = false at h
    rw [if_neg (by rw [h]; decide)] at hK; exact hK σ mg.rf hp
theorem cm_end {σ : hs_St} {K : Int32 → hs_St → Prop} {n : Nat} {b : Nat → Nat} {m : Int32} (hn : n ≤ 160) (hp : mp σ n b) (hK : ∀ τ, mg [69] [10] σ τ → mp τ (s_end n m).2 b → K (s_end n m).1 τ) : OkI m_X6_end [.ref 63, .int m] σ K := by
  unfold s_end at hK
  refine vc_X6_end (cm_inJ ?_)
  rw [hp.1, iti (by omega)]
  refine ⟨fun h => ?_, fun h => ?_⟩
  · change inr m 0 (n : Nat) = true at h
    rw [if_pos h] at hK
    obtain ⟨j, hj, rfl⟩ := inr_of h
    rw [nI_clamp (by omega)] at hK
    rintro _ rfl
    rintro _ rfl
    exact hK _ (mg.rf.z (by decide)) ⟨w_eq, fun i hi => by rw [w_ne (by decide)]; exact hp.2 i (by dsimp only at hi; omega)⟩
  · change inr m 0 (n : Nat) = false at h
    rw [if_neg (by rw [h]; decide)] at hK; exact hK σ mg.rf hp
theorem cm_count {σ : hs_St} {K : Int32 → hs_St → Prop} {T : sp_T} {I : Nat → sp_T} {kp : Nat → Bool} {tn : Nat} {b : Nat → Nat} {ln sz : Nat → Nat} {cs : Nat → Nat → Int32} {w : Int32} (hx : mt σ T) (hk : tk T) (hi : mim σ I kp) (hp : mp σ tn b) (hsx : msh σ ln sz cs) (hs : shk ln sz) (hK : K (s_count T kp tn ln sz w) σ) : OkI m_X6_count [.ref 63, .int w] σ K := by
  have h6 := hk.2.1
  have loop : ∀ m i, T 6 0 - i = m → i ≤ T 6 0 → RnI m_X6_count 4 [(0, .ref 63), (1, .int w), (2, .int (nI (sp_sum i (T 8)))), (3, .int (nI i))] [] σ K := by
    intro m
    induction m with
    | zero =>
      intro i hm hi2
      have : i = T 6 0 := by omega
      subst this
      unfold s_count at hK
      refine vc_X6_count_4 ⟨fun _ => ⟨fun h => ?_, fun h => cm_flag (cm_flag ?_), fun h => ?_, fun h => ⟨fun h0 => ?_, fun h0 => ?_⟩, fun h => ?_, fun h => ?_⟩, fun h => absurd (by rw [hx.2, il (by omega) (by omega)]; omega) h⟩
      · rw [if_pos h] at hK; rw [hx.1.2.2.1]; exact hK
      · rw [if_neg (by omega), if_pos h] at hK
        rw [(hi 0 (by omega)).1, (hi 1 (by omega)).1, flag_b, flag_b]; exact hK
      · rw [if_neg (by omega), if_neg (by omega), if_pos h] at hK; rw [hp.1]; exact hK
      · rw [(hsx 0 (by omega)).1, lnM_0 (hs 0 (by omega)).1] at h0
        rw [if_neg (by omega), if_neg (by omega), if_neg (by omega), if_pos h, if_neg h0] at hK
        rw [((hsx 0 (by omega)).2 h0).1]; exact hK
      · rw [(hsx 0 (by omega)).1, lnM_0 (hs 0 (by omega)).1] at h0
        rw [if_neg (by omega), if_neg (by omega), if_neg (by omega), if_pos h, if_pos h0] at hK; exact hK
      · rw [if_neg (by omega), if_neg (by omega), if_neg (by omega), if_neg (by omega), if_pos h] at hK; exact hK
      · rw [if_neg (by omega), if_neg (by omega), if_neg (by omega), if_neg (by omega), if_neg (by omega)] at hK; exact hK
    | succ m ih =>
      intro i hm hi2
      refine vc_X6_count_4 ⟨fun h => ?_, fun _ => ?_⟩
      · rw [hx.2, il (by omega) (by omega)] at h; omega
      · rw [il_k, nI_clamp (by omega), (hx.1.2.2.2.2.1 i (by omega)).2]
        refine ⟨vp_in_nI (by omega) (by omega), ?_⟩
        rintro _ rfl
        rw [nI_add, nI_1]
        exact ih (i + 1) (by omega) (by omega)
  refine vc_X6_count ?_
  rw [nl_0]
  exact loop (T 6 0) 0 (by omega) (by omega)
