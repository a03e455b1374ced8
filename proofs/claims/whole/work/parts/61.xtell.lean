/-! text of the class: done is told at the end -/
theorem xt_22_done {σ : hs_St} {D : sp_T} {g v : Nat} (hx : xt 22 σ D) : xt 22 (hs_w σ 27 g (nI v)) (tu D 5 g v) := by
  obtain ⟨x0, x6, x9, x10, xg, xc, xs⟩ := xt_22.mp hx
  refine xt_22.mpr ⟨x0, x6, x9, x10, fun j hj => ?_, xc, xs⟩
  have h := xg j hj
  refine ⟨h.1, h.2.1, h.2.2.1, h.2.2.2.1, ?_⟩
  by_cases e : j = g
  · subst e; rw [w_eq, tu_eq]
  · rw [w_at e, tu_at e]; exact h.2.2.2.2
theorem cx_tellDone {σ : hs_St} {K : hs_St → Prop} {n : Nat} {b : Nat → Nat} {D : sp_T} {dt : Nat → Bool} {dv : Nat → Nat} (hp : xp σ n b) (hd : xdr σ D dt dv) (hk : dkk D dt dv) (h5 : ∀ g, g < D 0 0 → D 5 g = 0) (c7 : σ.1 21 7 = nI 0)
    (hKf : far D dt = true → ∀ τ, hs_fr SB σ τ → τ.1 21 7 = nI 6 → τ.1 21 8 = nI n → K τ) (hKo : far D dt = false → ∀ τ, hs_fr SB σ τ → τ.1 21 7 = nI 0 → xt 22 τ (t_dn D dt dv) → K τ) : OkV m_X0_tellDone [.ref 21] σ K := by
  have k0 := hk.1.1
  have stop : ∀ (τ : hs_St) (a1 : Int32), ¬ τ.1 21 7 = 0 → K τ → (4 ≤ a1 ∨ ¬ 4 ≤ a1) → RnV m_X0_tellDone 2 [(0, .ref 21), (1, .int a1)] [] τ K := by
    intro τ a1 h7 hKK _
    exact vc_X0_tellDone_2 ⟨fun _ => hKK, fun _ => ⟨fun _ => hKK, fun h => absurd h h7⟩⟩
  have loop : ∀ m i (τ : hs_St), 4 - i = m → i ≤ 4 → hs_fr SB σ τ → τ.1 21 7 = nI 0 → (∀ g, g < i → dt g = true → g < D 0 0) → τ.1 33 = σ.1 33 → xt 22 τ (tf D 5 (fun g => if g < i ∧ dt g = true then dv g else D 5 g)) → RnV m_X0_tellDone 2 [(0, .ref 21), (1, .int (nI i))] [] τ K := by
    intro m
    induction m with
    | zero =>
      intro i τ hm hi hf d7 hno e33 hx
      have : i = 4 := by omega
      subst this
      have hfar : far D dt = false := by
        cases hff : far D dt with
        | false => rfl
        | true =>
          obtain ⟨g, h1, h2, h3⟩ := far_ex.mp hff
          have := hno g h1 h2
          omega
      refine vc_X0_tellDone_2 ⟨fun _ => hKo hfar τ hf d7 ?_, fun h => absurd (by rw [nl_4, il (by omega) (by omega)]; omega) h⟩
      obtain ⟨x0, x6, x9, x10, xg, xc, xs⟩ := xt_22.mp hx
      refine xt_22.mpr ⟨x0, x6, x9, x10, fun g hg => ?_, xc, xs⟩
      have h := xg g hg
      have hg : g < D 0 0 := hg
      refine ⟨h.1, h.2.1, h.2.2.1, h.2.2.2.1, ?_⟩
      rw [h.2.2.2.2]
      congr 1
      unfold t_dn
      rw [tf_eq, tf_eq]
      have hg4 : g < 4 := by omega
      by_cases hdt : dt g = true
      · simp [hg4, hdt]
      · simp [hdt, h5 g hg]
    | succ m ih =>
      intro i τ hm hi hf d7 hno e33 hx
      have hi4 : i < 4 := by omega
      have e33i : τ.1 33 (nI i).toNatClampNeg = if dt i = true then nI (dv i) else -1 := by rw [nI_clamp (by omega), e33]; exact hd.2 i hi4
      refine vc_X0_tellDone_2 ⟨fun h => ?_, fun _ => ⟨fun h => absurd (by rw [d7, nI_0]) h, fun _ => ⟨vp_in_nI hi4 (by omega), ?_⟩⟩⟩
      · rw [nl_4, il (by omega) (by omega)] at h; omega
      · rw [e33i]
        by_cases hdt : dt i = true
        · rw [if_pos hdt]
          have hv := hk.2.2.2 i hi4 hdt
          refine ⟨fun h => absurd h (im1 (by omega)), fun _ => cx_hasGhost_22 hx k0 ⟨fun hg => ?_, fun hg => ?_⟩⟩
          · have hge : D 0 0 ≤ i := by
              change inr (nI i) 0 ((D 0 0 : Nat) - 1 : Int) = false at hg
              rw [inr_nI (by omega), decide_eq_false_iff_not] at hg
              omega
            have hfar : far D dt = true := far_ex.mpr ⟨i, hi4, hdt, hge⟩
            rw [(xp_fr hp hf (by decide) (by decide)).1]
            refine cx_refuse (stop _ _ ?_ (hKf hfar _ ((hf.w (by decide)).w (by decide)) ?_ w_eq) (Decidable.em _))
            · rw [w_at (by decide), w_eq]; decide
            · rw [w_at (by decide), w_eq]; exact nl_6
          · have hlt : i < D 0 0 := by
              change inr (nI i) 0 ((D 0 0 : Nat) - 1 : Int) = true at hg
              rw [inr_nI (by omega), decide_eq_true_eq] at hg
              omega
            rintro _ rfl
            rw [e33i, if_pos hdt, nI_clamp (by omega), nI_1]
            refine ih (i + 1) _ (by omega) (by omega) (hf.w (by decide)) (by rw [w_ne (by decide)]; exact d7) (fun g h1 h2 => ?_) (by rw [w_ne (by decide)]; exact e33) ?_
            · by_cases e : g = i
              · omega
              · exact hno g (by omega) h2
            · have := xt_22_done (g := i) (v := dv i) hx
              refine (show xt 22 _ _ = xt 22 _ _ from ?_) ▸ this
              congr 1
              funext f g
              by_cases ef : f = 5
              · subst ef
                rw [tf_eq]
                by_cases e : g = i
                · subst e
                  rw [tu_eq]; simp [hdt]
                · rw [tu_at e, tf_eq]
                  have : (g < i ↔ g < i + 1) := by omega
                  simp [this]
              · rw [tu_ne ef, tf_ne ef, tf_ne ef]
        · rw [if_neg hdt]
          refine ⟨fun _ => ?_, fun h => absurd rfl h⟩
          rw [nI_1]
          refine ih (i + 1) τ (by omega) (by omega) hf d7 (fun g h1 h2 => ?_) e33 ?_
          · by_cases e : g = i
            · subst e; exact absurd h2 hdt
            · exact hno g (by omega) h2
          · refine (show xt 22 _ _ = xt 22 _ _ from ?_) ▸ hx
            congr 2
            funext g
            by_cases e : g = i
            · subst e; simp [hdt]
            · have : (g < i ↔ g < i + 1) := by omega
              simp [this]
  refine vc_X0_tellDone ?_
  rw [nl_0]
  refine loop 4 0 σ (by omega) (by omega) hs_fr.rf c7 (fun _ h => by omega) rfl ?_
  refine (show xt 22 _ _ = xt 22 _ _ from ?_) ▸ hd.1
  congr 1
  funext f g
  by_cases ef : f = 5
  · subst ef; rw [tf_eq]; simp
  · rw [tf_ne ef]
