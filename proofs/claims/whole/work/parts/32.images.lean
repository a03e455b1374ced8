/-! images -/
abbrev so (o : Nat) : List Nat := [o, o + 1, o + 2, o + 3, o + 4, o + 5, o + 6, o + 7, o + 8, o + 9, o + 10]
theorem cpy_at {f g : Nat → Int32} {n i : Nat} (h : i < n) : va_cpy f g 0 0 n i = f i := by simp [va_cpy, h]
set_option maxHeartbeats 2000000 in
theorem cx_become_8_22 {σ : hs_St} {K : hs_St → Prop} {T : sp_T} (hx : xt 22 σ T) (hk : tk T) (hK : ∀ τ, hs_fr [8, 9, 10, 11, 12, 13, 14, 15, 16, 17, 18] σ τ → xt 8 τ T → K τ) : OkV m_X3_become [.ref 8, .ref 22] σ K := by
  obtain ⟨k0, k6, k9, k10, -, -, -⟩ := hk
  obtain ⟨x0, x6, x9, x10, xg, xc, xs⟩ := hx
  refine vc_X3_become_8_22 ?_
  rintro _ rfl _ rfl _ rfl _ rfl _ rfl _ rfl _ rfl _ rfl _ rfl _ rfl _ rfl _ rfl _ rfl _ rfl
  refine hK _ ⟨rfl, fun k hk => ?_⟩ ⟨?_, ?_, ?_, ?_, fun g hg => ?_, fun c hc => ?_, fun i hi => ?_⟩
  · simp only [List.mem_cons, List.not_mem_nil, or_false, not_or] at hk
    simp [hs_w, hs_ua, hk]
  · simpa [hs_w, hs_ua, upd] using x0
  · simpa [hs_w, hs_ua, upd] using x6
  · simpa [hs_w, hs_ua, upd] using x9
  · simpa [hs_w, hs_ua, upd] using x10
  · have h4 : g < 4 := by omega
    have h := xg g hg
    simpa [hs_w, hs_ua, upd, cpy_at h4] using h
  · have h3 : c < 3 := by omega
    have h := xc c hc
    simpa [hs_w, hs_ua, upd, cpy_at h3] using h
  · have h6 : i < 6 := by omega
    have h := xs i hi
    simpa [hs_w, hs_ua, upd, cpy_at h6] using h
set_option maxHeartbeats 2000000 in
theorem cx_become_35_8 {σ : hs_St} {K : hs_St → Prop} {T : sp_T} (hx : xt 8 σ T) (hk : tk T) (hK : ∀ τ, hs_fr [35, 36, 37, 38, 39, 40, 41, 42, 43, 44, 45] σ τ → xt 35 τ T → K τ) : OkV m_X3_become [.ref 35, .ref 8] σ K := by
  obtain ⟨k0, k6, k9, k10, -, -, -⟩ := hk
  obtain ⟨x0, x6, x9, x10, xg, xc, xs⟩ := hx
  refine vc_X3_become_35_8 ?_
  rintro _ rfl _ rfl _ rfl _ rfl _ rfl _ rfl _ rfl _ rfl _ rfl _ rfl _ rfl _ rfl _ rfl _ rfl
  refine hK _ ⟨rfl, fun k hk => ?_⟩ ⟨?_, ?_, ?_, ?_, fun g hg => ?_, fun c hc => ?_, fun i hi => ?_⟩
  · simp only [List.mem_cons, List.not_mem_nil, or_false, not_or] at hk
    simp [hs_w, hs_ua, hk]
  · simpa [hs_w, hs_ua, upd] using x0
  · simpa [hs_w, hs_ua, upd] using x6
  · simpa [hs_w, hs_ua, upd] using x9
  · simpa [hs_w, hs_ua, upd] using x10
  · have h4 : g < 4 := by omega
    have h := xg g hg
    simpa [hs_w, hs_ua, upd, cpy_at h4] using h
  · have h3 : c < 3 := by omega
    have h := xc c hc
    simpa [hs_w, hs_ua, upd, cpy_at h3] using h
  · have h6 : i < 6 := by omega
    have h := xs i hi
    simpa [hs_w, hs_ua, upd, cpy_at h6] using h
set_option maxHeartbeats 2000000 in
theorem cx_become_46_8 {σ : hs_St} {K : hs_St → Prop} {T : sp_T} (hx : xt 8 σ T) (hk : tk T) (hK : ∀ τ, hs_fr [46, 47, 48, 49, 50, 51, 52, 53, 54, 55, 56] σ τ → xt 46 τ T → K τ) : OkV m_X3_become [.ref 46, .ref 8] σ K := by
  obtain ⟨k0, k6, k9, k10, -, -, -⟩ := hk
  obtain ⟨x0, x6, x9, x10, xg, xc, xs⟩ := hx
  refine vc_X3_become_46_8 ?_
  rintro _ rfl _ rfl _ rfl _ rfl _ rfl _ rfl _ rfl _ rfl _ rfl _ rfl _ rfl _ rfl _ rfl _ rfl
  refine hK _ ⟨rfl, fun k hk => ?_⟩ ⟨?_, ?_, ?_, ?_, fun g hg => ?_, fun c hc => ?_, fun i hi => ?_⟩
  · simp only [List.mem_cons, List.not_mem_nil, or_false, not_or] at hk
    simp [hs_w, hs_ua, hk]
  · simpa [hs_w, hs_ua, upd] using x0
  · simpa [hs_w, hs_ua, upd] using x6
  · simpa [hs_w, hs_ua, upd] using x9
  · simpa [hs_w, hs_ua, upd] using x10
  · have h4 : g < 4 := by omega
    have h := xg g hg
    simpa [hs_w, hs_ua, upd, cpy_at h4] using h
  · have h3 : c < 3 := by omega
    have h := xc c hc
    simpa [hs_w, hs_ua, upd, cpy_at h3] using h
  · have h6 : i < 6 := by omega
    have h := xs i hi
    simpa [hs_w, hs_ua, upd, cpy_at h6] using h
set_option maxHeartbeats 2000000 in
theorem cx_become_8_35 {σ : hs_St} {K : hs_St → Prop} {T : sp_T} (hx : xt 35 σ T) (hk : tk T) (hK : ∀ τ, hs_fr [8, 9, 10, 11, 12, 13, 14, 15, 16, 17, 18] σ τ → xt 8 τ T → K τ) : OkV m_X3_become [.ref 8, .ref 35] σ K := by
  obtain ⟨k0, k6, k9, k10, -, -, -⟩ := hk
  obtain ⟨x0, x6, x9, x10, xg, xc, xs⟩ := hx
  refine vc_X3_become_8_35 ?_
  rintro _ rfl _ rfl _ rfl _ rfl _ rfl _ rfl _ rfl _ rfl _ rfl _ rfl _ rfl _ rfl _ rfl _ rfl
  refine hK _ ⟨rfl, fun k hk => ?_⟩ ⟨?_, ?_, ?_, ?_, fun g hg => ?_, fun c hc => ?_, fun i hi => ?_⟩
  · simp only [List.mem_cons, List.not_mem_nil, or_false, not_or] at hk
    simp [hs_w, hs_ua, hk]
  · simpa [hs_w, hs_ua, upd] using x0
  · simpa [hs_w, hs_ua, upd] using x6
  · simpa [hs_w, hs_ua, upd] using x9
  · simpa [hs_w, hs_ua, upd] using x10
  · have h4 : g < 4 := by omega
    have h := xg g hg
    simpa [hs_w, hs_ua, upd, cpy_at h4] using h
  · have h3 : c < 3 := by omega
    have h := xc c hc
    simpa [hs_w, hs_ua, upd, cpy_at h3] using h
  · have h6 : i < 6 := by omega
    have h := xs i hi
    simpa [hs_w, hs_ua, upd, cpy_at h6] using h
set_option maxHeartbeats 2000000 in
theorem cx_become_8_46 {σ : hs_St} {K : hs_St → Prop} {T : sp_T} (hx : xt 46 σ T) (hk : tk T) (hK : ∀ τ, hs_fr [8, 9, 10, 11, 12, 13, 14, 15, 16, 17, 18] σ τ → xt 8 τ T → K τ) : OkV m_X3_become [.ref 8, .ref 46] σ K := by
  obtain ⟨k0, k6, k9, k10, -, -, -⟩ := hk
  obtain ⟨x0, x6, x9, x10, xg, xc, xs⟩ := hx
  refine vc_X3_become_8_46 ?_
  rintro _ rfl _ rfl _ rfl _ rfl _ rfl _ rfl _ rfl _ rfl _ rfl _ rfl _ rfl _ rfl _ rfl _ rfl
  refine hK _ ⟨rfl, fun k hk => ?_⟩ ⟨?_, ?_, ?_, ?_, fun g hg => ?_, fun c hc => ?_, fun i hi => ?_⟩
  · simp only [List.mem_cons, List.not_mem_nil, or_false, not_or] at hk
    simp [hs_w, hs_ua, hk]
  · simpa [hs_w, hs_ua, upd] using x0
  · simpa [hs_w, hs_ua, upd] using x6
  · simpa [hs_w, hs_ua, upd] using x9
  · simpa [hs_w, hs_ua, upd] using x10
  · have h4 : g < 4 := by omega
    have h := xg g hg
    simpa [hs_w, hs_ua, upd, cpy_at h4] using h
  · have h3 : c < 3 := by omega
    have h := xc c hc
    simpa [hs_w, hs_ua, upd, cpy_at h3] using h
  · have h6 : i < 6 := by omega
    have h := xs i hi
    simpa [hs_w, hs_ua, upd, cpy_at h6] using h
/-- the images as the class has them -/
def xi (σ : hs_St) (I : Nat → sp_T) (kp : Nat → Bool) : Prop := σ.1 57 0 = hs_b (kp 0) ∧ σ.1 57 1 = hs_b (kp 1) ∧ (kp 0 = true → xt 35 σ (I 0)) ∧ (kp 1 = true → xt 46 σ (I 1))
abbrev SI : List Nat := [35, 36, 37, 38, 39, 40, 41, 42, 43, 44, 45, 46, 47, 48, 49, 50, 51, 52, 53, 54, 55, 56, 57]
def up1 {α : Type} (f : Nat → α) (k : Nat) (v : α) : Nat → α := fun j => if j = k then v else f j
theorem up1_eq {α : Type} {f : Nat → α} {k : Nat} {v : α} : up1 f k v k = v := by simp [up1]
theorem up1_ne {α : Type} {f : Nat → α} {k j : Nat} {v : α} (h : j ≠ k) : up1 f k v j = f j := by simp [up1, h]
def s_keep (T : sp_T) (I : Nat → sp_T) (kp : Nat → Bool) (k : Int32) : Int32 × (Nat → sp_T) × (Nat → Bool) := if inr k 0 1 = true then (hs_b (kp k.toNatClampNeg), up1 I k.toNatClampNeg T, up1 kp k.toNatClampNeg true) else (-1, I, kp)
theorem hs_b1 {b : Bool} (h : ¬ hs_b b = 0) : b = true := by cases b; exact absurd rfl h; rfl
theorem cx_keep {σ : hs_St} {K : Int32 → hs_St → Prop} {T : sp_T} {I : Nat → sp_T} {kp : Nat → Bool} {k : Int32} (hx : xt 8 σ T) (hk : tk T) (hi : xi σ I kp) (hK : ∀ τ, hs_fr SI σ τ → xi τ (s_keep T I kp k).2.1 (s_keep T I kp k).2.2 → K (s_keep T I kp k).1 τ) : OkI m_X5_keep [.ref 0, .int k] σ K := by
  obtain ⟨i0, i1, i2, i3⟩ := hi
  unfold s_keep at hK
  have fin0 : ∀ τ : hs_St, hs_fr [35, 36, 37, 38, 39, 40, 41, 42, 43, 44, 45] σ τ → xt 35 τ T → hs_fr SI σ (hs_w τ 57 0 1) ∧ xi (hs_w τ 57 0 1) (up1 I 0 T) (up1 kp 0 true) := by
    intro τ hf hx2
    have hf2 : hs_fr SI σ (hs_w τ 57 0 1) := (hf.up (by decide)).w (by decide)
    refine ⟨hf2, ?_, ?_, fun _ => ?_, fun h => ?_⟩
    · rw [w_eq, up1_eq]; rfl
    · rw [w_at (by decide), hf.2 57 (by decide), i1, up1_ne (by decide)]
    · rw [up1_eq]; exact xt_fr (S := [57]) (hs_fr.rf.w (by decide)) (by decide) hx2
    · rw [up1_ne (by decide)] at h ⊢
      exact xt_fr (S := [57]) (hs_fr.rf.w (by decide)) (by decide) (xt_fr hf (by decide) (i3 h))
  have fin1 : ∀ τ : hs_St, hs_fr [46, 47, 48, 49, 50, 51, 52, 53, 54, 55, 56] σ τ → xt 46 τ T → hs_fr SI σ (hs_w τ 57 1 1) ∧ xi (hs_w τ 57 1 1) (up1 I 1 T) (up1 kp 1 true) := by
    intro τ hf hx2
    have hf2 : hs_fr SI σ (hs_w τ 57 1 1) := (hf.up (by decide)).w (by decide)
    refine ⟨hf2, ?_, ?_, fun h => ?_, fun _ => ?_⟩
    · rw [w_at (by decide), hf.2 57 (by decide), i0, up1_ne (by decide)]
    · rw [w_eq, up1_eq]; rfl
    · rw [up1_ne (by decide)] at h ⊢
      exact xt_fr (S := [57]) (hs_fr.rf.w (by decide)) (by decide) (xt_fr hf (by decide) (i2 h))
    · rw [up1_eq]; exact xt_fr (S := [57]) (hs_fr.rf.w (by decide)) (by decide) hx2
  refine vc_X5_keep (cx_within ⟨fun h => ?_, fun h => ?_⟩)
  · change inr k 0 1 = true at h
    rw [if_pos h] at hK
    obtain ⟨j, hj, rfl⟩ := inr_of (hi := 1) h
    rw [nI_clamp (by omega)] at hK ⊢
    refine ⟨vp_in_nI (by omega) (by omega), fun h0 => ⟨fun e => ?_, fun e => ?_⟩, fun h0 => ⟨fun e => ?_, fun e => ?_⟩⟩
    · subst e
      rw [i0, hs_b0] at h0
      refine cx_become_35_8 hx hk (fun τ hf hx2 => ?_)
      rintro _ rfl
      have := hK _ (fin0 τ hf hx2).1 (fin0 τ hf hx2).2
      rw [h0] at this; exact this
    · have : j = 1 := by omega
      subst this
      rw [i1, hs_b0] at h0
      refine cx_become_46_8 hx hk (fun τ hf hx2 => ?_)
      rintro _ rfl
      have := hK _ (fin1 τ hf hx2).1 (fin1 τ hf hx2).2
      rw [h0] at this; exact this
    · subst e
      rw [i0] at h0
      refine cx_become_35_8 hx hk (fun τ hf hx2 => ?_)
      rintro _ rfl
      have := hK _ (fin0 τ hf hx2).1 (fin0 τ hf hx2).2
      rw [hs_b1 h0] at this; exact this
    · have : j = 1 := by omega
      subst this
      rw [i1] at h0
      refine cx_become_46_8 hx hk (fun τ hf hx2 => ?_)
      rintro _ rfl
      have := hK _ (fin1 τ hf hx2).1 (fin1 τ hf hx2).2
      rw [hs_b1 h0] at this; exact this
  · change inr k 0 1 = false at h
    rw [if_neg (by rw [h]; decide)] at hK; exact hK σ hs_fr.rf ⟨i0, i1, i2, i3⟩
def s_back (T : sp_T) (I : Nat → sp_T) (kp : Nat → Bool) (k : Int32) : Int32 × sp_T := if inr k 0 1 = true then (if kp k.toNatClampNeg = true then (nI (I k.toNatClampNeg 9 0), I k.toNatClampNeg) else (-2, T)) else (-1, T)
theorem cx_back {σ : hs_St} {K : Int32 → hs_St → Prop} {T : sp_T} {I : Nat → sp_T} {kp : Nat → Bool} {k : Int32} (hx : xt 8 σ T) (hi : xi σ I kp) (hki : ∀ j, kp j = true → tk (I j)) (hK : ∀ τ, hs_fr ST σ τ → xt 8 τ (s_back T I kp k).2 → K (s_back T I kp k).1 τ) : OkI m_X5_back [.ref 0, .int k] σ K := by
  obtain ⟨i0, i1, i2, i3⟩ := hi
  unfold s_back at hK
  refine vc_X5_back (cx_within ⟨fun h => ?_, fun h => ?_⟩)
  · change inr k 0 1 = true at h
    rw [if_pos h] at hK
    obtain ⟨j, hj, rfl⟩ := inr_of (hi := 1) h
    rw [nI_clamp (by omega)] at hK ⊢
    refine ⟨vp_in_nI (by omega) (by omega), fun h0 => ⟨fun e => ?_, fun e => ?_⟩, fun h0 => ?_⟩
    · subst e
      rw [i0] at h0
      have hkp := hs_b1 h0
      rw [if_pos hkp] at hK
      refine cx_become_8_35 (i2 hkp) (hki 0 hkp) (fun τ hf hx2 => ?_)
      rw [hx2.2.2.1]
      exact hK τ hf hx2
    · have : j = 1 := by omega
      subst this
      rw [i1] at h0
      have hkp := hs_b1 h0
      rw [if_pos hkp] at hK
      refine cx_become_8_46 (i3 hkp) (hki 1 hkp) (fun τ hf hx2 => ?_)
      rw [hx2.2.2.1]
      exact hK τ hf hx2
    · have hkp : kp j = false := by
        rcases (show j = 0 ∨ j = 1 by omega) with rfl | rfl
        · rw [i0, hs_b0] at h0; exact h0
        · rw [i1, hs_b0] at h0; exact h0
      rw [if_neg (by rw [hkp]; decide)] at hK
      exact hK σ hs_fr.rf hx
  · change inr k 0 1 = false at h
    rw [if_neg (by rw [h]; decide)] at hK; exact hK σ hs_fr.rf hx
/-! the tape -/
def xp (σ : hs_St) (n : Nat) (b : Nat → Nat) : Prop := σ.1 19 1 = nI n ∧ ∀ i, i < n → σ.1 20 i = nI (b i)
def s_feed (n : Nat) (b : Nat → Nat) (c : Int32) : Int32 × Nat × (Nat → Nat) := if inr c 0 127 = true then (if n < 160 then (nI (n + 1), n + 1, up1 b n c.toNatClampNeg) else (-3, n, b)) else (-1, n, b)
theorem cx_feed {σ : hs_St} {K : Int32 → hs_St → Prop} {n : Nat} {b : Nat → Nat} {c : Int32} (hn : n ≤ 160) (hp : xp σ n b) (hK : ∀ τ, hs_fr [19, 20] σ τ → xp τ (s_feed n b c).2.1 (s_feed n b c).2.2 → K (s_feed n b c).1 τ) : OkI m_X5_feed [.ref 0, .int c] σ K := by
  obtain ⟨p0, p1⟩ := hp
  unfold s_feed at hK
  refine vc_X5_feed (cx_within ⟨fun h => ⟨fun h1 => ?_, fun h1 => ?_⟩, fun h => ?_⟩)
  · change inr c 0 127 = true at h
    rw [p0, nl_160, ilt (by omega) (by omega)] at h1
    rw [if_pos h, if_pos h1] at hK
    obtain ⟨j, hj, rfl⟩ := inr_of (hi := 127) h
    rw [nI_clamp (by omega)] at hK
    refine ⟨by rw [p0]; exact vp_in_nI h1 (by omega), ?_⟩
    rintro _ rfl _ rfl
    rw [w_eq, w_ne (by decide), p0, nI_clamp (by omega), nI_1]
    refine hK _ ((hs_fr.rf.w (by decide)).w (by decide)) ⟨w_eq, fun i hi => ?_⟩
    change i < n + 1 at hi
    show _ = nI (up1 b n j i)
    rw [w_ne (by decide)]
    by_cases e : i = n
    · subst e; rw [w_eq, up1_eq]
    · rw [w_at e, up1_ne e]; exact p1 i (by omega)
  · change inr c 0 127 = true at h
    rw [p0, nl_160, ilt (by omega) (by omega)] at h1
    rw [if_pos h, if_neg h1] at hK
    exact hK σ hs_fr.rf ⟨p0, p1⟩
  · change inr c 0 127 = false at h
    rw [if_neg (by rw [h]; decide)] at hK; exact hK σ hs_fr.rf ⟨p0, p1⟩
def s_end (n : Nat) (m : Int32) : Int32 × Nat := if inr m 0 (n : Nat) = true then (nI n, m.toNatClampNeg) else (-1, n)
theorem cx_end {σ : hs_St} {K : Int32 → hs_St → Prop} {n : Nat} {b : Nat → Nat} {m : Int32} (hn : n ≤ 160) (hp : xp σ n b) (hK : ∀ τ, hs_fr [19, 20] σ τ → xp τ (s_end n m).2 b → K (s_end n m).1 τ) : OkI m_X5_end [.ref 0, .int m] σ K := by
  obtain ⟨p0, p1⟩ := hp
  unfold s_end at hK
  refine vc_X5_end (cx_within ?_)
  rw [p0, iti (by omega)]
  refine ⟨fun h => ?_, fun h => ?_⟩
  · change inr m 0 (n : Nat) = true at h
    rw [if_pos h] at hK
    obtain ⟨j, hj, rfl⟩ := inr_of h
    rw [nI_clamp (by omega)] at hK
    rintro _ rfl _ rfl
    exact hK _ (hs_fr.rf.w (by decide)) ⟨w_eq, fun i hi => by rw [w_ne (by decide)]; exact p1 i (by change i < j at hi; omega)⟩
  · change inr m 0 (n : Nat) = false at h
    rw [if_neg (by rw [h]; decide)] at hK; exact hK σ hs_fr.rf ⟨p0, p1⟩
