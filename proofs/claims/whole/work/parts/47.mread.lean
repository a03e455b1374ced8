/-! the model: read -/
theorem tq.sm {T U : sp_T} (h : tq T U) : tq U T := by
  obtain ⟨h0, h6, h9, h10, hg, hc, hs⟩ := h
  refine ⟨h0.symm, h6.symm, h9.symm, h10.symm, fun g k => ?_, fun c k => ?_, fun i k => ?_⟩
  · have a := hg g (by omega)
    exact ⟨a.1.symm, a.2.1.symm, a.2.2.1.symm, a.2.2.2.1.symm, a.2.2.2.2.symm⟩
  · have a := hc c (by omega)
    exact ⟨a.1.symm, a.2.symm⟩
  · have a := hs i (by omega)
    exact ⟨a.1.symm, a.2.1.symm, a.2.2.symm⟩
theorem mt.q {σ : hs_St} {T U : sp_T} (hx : mt σ T) (h : tq T U) : mt σ U := ⟨mr_q hx.1 h, by rw [← h.2.1]; exact hx.2⟩
theorem bmod64 {x : Int} (h1 : -9223372036854775808 ≤ x) (h2 : x < 9223372036854775808) : x.bmod 18446744073709551616 = x := by
  unfold Int.bmod
  simp only []
  split <;> omega
theorem l3 (f : Int32) {a b : Nat} (ha : a ≤ 1000) (hb : b ≤ 1000) : (f.toInt64 + (nI a).toInt64 + (nI b).toInt64).toInt = f.toInt + (a : Int) + (b : Int) := by
  have h1 := Int32.toInt_lt f
  have h2 := Int32.le_toInt f
  rw [Int64.toInt_add, Int64.toInt_add, i64, i64, i64, nI_toInt (by omega), nI_toInt (by omega)]
  simp only [Nat.reducePow] at *
  rw [bmod64 (x := f.toInt + (a : Int)) (by omega) (by omega), bmod64 (by omega) (by omega)]
def md (σ τ : hs_St) : Prop := (∀ k, k ∉ [65, 70, 71, 72, 76] → k ≠ 63 → k ≠ 64 → τ.1 k = σ.1 k) ∧ (∀ i, i ≠ 17 → i ≠ 27 → τ.1 63 i = σ.1 63 i) ∧ ∀ j, 47 ≤ j → τ.1 64 j = σ.1 64 j
/-- read, while it goes: 27 of the object, too -/
def me (σ τ : hs_St) : Prop := (∀ k, k ∉ [65, 70, 71, 72, 76] → k ≠ 63 → k ≠ 64 → τ.1 k = σ.1 k) ∧ (∀ i, i ≠ 17 → τ.1 63 i = σ.1 63 i) ∧ (∀ j, 47 ≤ j → τ.1 64 j = σ.1 64 j) ∧ ∀ j, j < 47 → τ.1 76 j = σ.1 64 j
theorem me.d {σ τ : hs_St} (h : me σ τ) : md σ τ := ⟨h.1, fun i h1 _ => h.2.1 i h1, h.2.2.1⟩
theorem me.c {σ τ υ : hs_St} (h : me σ τ) (g : mc τ υ) : me σ υ := by
  refine ⟨fun k h1 h2 h3 => ?_, fun i hi => (g.2.1 i hi).trans (h.2.1 i hi), fun j hj => (g.2.2 j hj).trans (h.2.2.1 j hj), fun j hj => ?_⟩
  · rw [g.1 k (fun z => h1 (by simp only [List.mem_cons, List.not_mem_nil, or_false] at z ⊢; omega)) h2 h3]; exact h.1 k h1 h2 h3
  · rw [g.1 76 (by decide) (by decide) (by decide)]; exact h.2.2.2 j hj
/-- the town of a read behind i pairs -/
def rt (T : sp_T) (dk : Nat → Nat) (w : sp_W) (i : Nat) : sp_T := tm (tf T 7 dk) w.1 w.2.1 (T 9 0 + i)
theorem tk_rt {T : sp_T} {dk : Nat → Nat} {w : sp_W} {i : Nat} (hk : tk T) (h9 : T 9 0 + i ≤ 999) (ho : sp_ok (dp T dk) w) (hm : sp_mo (T 0 0) (ts T) (T 5) w.2.1) : tk (rt T dk w i) := by
  refine ⟨hk.1, hk.2.1, h9, hk.2.2.2.1, fun g hg => ⟨(hk.2.2.2.2.1 g hg).1, (hk.2.2.2.2.1 g hg).2.1, (hk.2.2.2.2.1 g hg).2.2.1, (ho.2.2.1 g hg).2.2, ?_⟩, fun c hc => ⟨(ho.2.2.2 c hc).1, (hk.2.2.2.2.2.1 c hc).2⟩, hk.2.2.2.2.2.2⟩
  have h1 := hm g hg
  have h2 := (hk.2.2.2.2.1 g hg).2.2.2.2
  have h3 := (ts_in T g).2
  show w.2.1 g ≤ 20
  omega
theorem rt_post {T : sp_T} {dk : Nat → Nat} {w : sp_W} {i c r : Nat} : tu (rt T dk w i) 7 c r = rt T (up1 dk c r) w i := by
  funext f g
  by_cases e : f = 7
  · subst e
    show _ = up1 dk c r g
    by_cases e2 : g = c
    · subst e2; rw [tu_eq, up1_eq]
    · rw [tu_at e2, up1_ne e2]; rfl
  · rw [tu_ne e]
    unfold rt tm
    split
    · rfl
    · split
      · rfl
      · split
        · rfl
        · rw [tf_ne e, tf_ne e]
theorem rt_night {T : sp_T} {dk : Nat → Nat} {w : sp_W} {i : Nat} : tq (t_go (rt T dk w i) (tp (rt T dk w i)) (tr (rt T dk w i) 1) 1) (rt T dk (sp_night (dp T dk) w) (i + 1)) := by
  have h := (tq_go (T := rt T dk w i) (n := 1) (w := tr (rt T dk w i) 1) (dk := dk)).sm
  exact h
set_option maxHeartbeats 1000000 in
theorem cm_read {σ : hs_St} {K : Int32 → hs_St → Prop} {T : sp_T} {ln sz : Nat → Nat} {cs : Nat → Nat → Int32} {rf : Int32} {k l f n : Int32} (hx : mt σ T) (hk : tk T) (hsx : msh σ ln sz cs) (hs : shk ln sz) (hrf : σ.1 63 27 = rf)
    (hK : ∀ τ, md σ τ → mt τ ((s_read T ln sz cs k l f n).2.getD (T, rf)).1 → τ.1 63 27 = ((s_read T ln sz cs k l f n).2.getD (T, rf)).2 → K (s_read T ln sz cs k l f n).1 τ) : OkI m_X6_read [.ref 63, .int k, .int l, .int f, .int n] σ K := by
  have k9 := hk.2.2.1
  have k6 := hk.2.1
  have hmk := mk_of hk
  unfold s_read at hK
  have rfl_d : md σ σ := ⟨fun _ _ _ _ => rfl, fun _ _ _ => rfl, fun _ _ => rfl⟩
  refine vc_X6_read (cm_isSheet ⟨fun h1 => ?_, fun h1 => cm_inI ⟨fun h3 => ?_, fun h3 => ?_⟩⟩)
  · rw [if_neg (fun z => by rw [z.1, z.2.1] at h1; exact absurd h1 (by decide))] at hK
    exact hK σ rfl_d hx hrf
  · change inr n 0 20 = true at h3
    rw [Bool.and_eq_true] at h1
    rw [if_pos ⟨h1.1, h1.2, h3⟩] at hK
    obtain ⟨a, ha, rfl⟩ := inr_of (hi := 3) h1.1
    obtain ⟨j, hj, rfl⟩ := inr_of (hi := 20) h3
    rw [nI_clamp (by omega), nI_clamp (by omega)] at hK
    have hsxa : ∀ τ, me σ τ → msh τ ln sz cs := fun τ h => by
      unfold msh
      rw [h.1 73 (by decide) (by decide) (by decide), h.1 74 (by decide) (by decide) (by decide), h.1 75 (by decide) (by decide) (by decide)]
      exact hsx
    -- back to what was before
    have fail : ∀ (i : Nat) (a5 a6 a8 : Int32) (τ : hs_St), me σ τ → (∀ υ, md σ υ → mt υ T → υ.1 63 27 = rf → K (-20 - nI i) υ) → RnI m_X6_read 217 [(0, .ref 63), (1, .int (nI a)), (2, .int l), (3, .int f), (4, .int (nI j)), (5, .int a5), (6, .int a6), (7, .int (nI i)), (8, .int a8), (9, .int 0)] [] τ K := by
      intro i a5 a6 a8 τ hm hKK
      have loop : ∀ m q (υ : hs_St), 47 - q = m → q ≤ 47 → me σ υ → (∀ z, z < q → υ.1 64 z = σ.1 64 z) → RnI m_X6_read 217 [(0, .ref 63), (1, .int (nI a)), (2, .int l), (3, .int f), (4, .int (nI j)), (5, .int a5), (6, .int a6), (7, .int (nI i)), (8, .int a8), (9, .int (nI q))] [] υ K := by
        intro m
        induction m with
        | zero =>
          intro q υ hm2 hq hme h64
          have : q = 47 := by omega
          subst this
          refine vc_X6_read_217 ⟨fun _ => hKK υ hme.d ⟨mr_e hx.1 hmk h64, by rw [hme.2.1 3 (by decide)]; exact hx.2⟩ (by rw [hme.2.1 27 (by decide)]; exact hrf), fun h => absurd (by rw [nl_47, il (by omega) (by omega)]; omega) h⟩
        | succ m ih =>
          intro q υ hm2 hq hme h64
          refine vc_X6_read_217 ⟨fun h => ?_, fun _ => ⟨vp_in_nI (by omega) (by omega), vp_in_nI (by omega) (by omega), ?_⟩⟩
          · rw [nl_47, il (by omega) (by omega)] at h; omega
          · rintro _ rfl
            rw [nI_clamp (by omega), nI_1, hme.2.2.2 q (by omega)]
            refine ih (q + 1) _ (by omega) (by omega) (hme.c (mc.rf.w (by omega))) (fun z hz => ?_)
            by_cases e : z = q
            · subst e; rw [w_eq]
            · rw [w_at e]; exact h64 z (by omega)
      rw [nl_0]
      exact loop 47 0 τ (by omega) (by omega) hm (fun _ h => by omega)
    -- the answer that is no refusal
    have fin : ∀ (i : Nat) (a5 a6 a7 : Int32) (dk : Nat → Nat) (w : sp_W) (τ : hs_St), me σ τ → mt τ (rt T dk w i) → (∀ υ, md σ υ → mt υ (t_go T (dp T dk) w i) → υ.1 63 27 = a5 → K a6 υ) → (∀ σ4 : hs_St, σ4 = hs_w τ 63 27 a5 → K a6 σ4) := by
      intro i a5 a6 a7 dk w τ hm hmt hKK
      rintro _ rfl
      refine hKK _ ⟨fun k h1 h2 h3 => ?_, fun i h1 h2 => ?_, fun j hj => ?_⟩ ⟨?_, ?_⟩ w_eq
      · rw [w_ne h2]; exact hm.1 k h1 h2 h3
      · rw [w_at h2]; exact hm.2.1 i h1
      · rw [w_ne (by decide)]; exact hm.2.2.1 j hj
      · rw [w_ne (by decide)]; exact mr_q hmt.1 tq_go
      · rw [w_at (by decide)]; exact (hmt.q tq_go).2
    have loop : ∀ m i dk (w : sp_W) (τ : hs_St), j - i = m → i ≤ j → me σ τ → mt τ (rt T dk w i) → T 9 0 + i ≤ 999 → sp_ok (dp T dk) w → sp_mo (T 0 0) (ts T) (T 5) w.2.1 →
        (∀ υ, md σ υ → mt υ ((rdl T ln sz cs a l f m i dk w).2.getD (T, rf)).1 → υ.1 63 27 = ((rdl T ln sz cs a l f m i dk w).2.getD (T, rf)).2 → K (rdl T ln sz cs a l f m i dk w).1 υ) → RnI m_X6_read 62 [(0, .ref 63), (1, .int (nI a)), (2, .int l), (3, .int f), (4, .int (nI j)), (5, .int 0), (6, .int (nI i)), (7, .int (nI i))] [] τ K := by
      intro m
      induction m with
      | zero =>
        intro i dk w τ hm hi hme hmt h9 ho hmo hKK
        have : i = j := by omega
        subst this
        exact vc_X6_read_62 ⟨fun _ => fin i 0 (nI i) 0 dk w τ hme hmt hKK, fun h => absurd (by rw [il (by omega) (by omega)]; omega) h⟩
      | succ m ih =>
        intro i dk w τ hm hi hme hmt h9 ho hmo hKK
        have hsx1 := (hsxa τ hme) a (by omega)
        have hsa := hs a (by omega)
        have hkr := tk_rt hk h9 ho hmo
        unfold rdl at hKK
        -- a pair that is not so
        have bad : ∀ (a5 : Int32), ¬ a5 = 0 → a5 = pfx ln sz a l (f.toInt + 2 * (i : Int)) → ∀ a8 : Nat, a8 ≤ 2 → RnI m_X6_read 77 [(0, .ref 63), (1, .int (nI a)), (2, .int l), (3, .int f), (4, .int (nI j)), (5, .int a5), (6, .int (nI i)), (7, .int (nI i)), (8, .int (nI a8))] [] τ K := by
          intro a5 h5 e5 a8 h8
          have e62 : ∀ a7 : Int32, RnI m_X6_read 62 [(0, .ref 63), (1, .int (nI a)), (2, .int l), (3, .int f), (4, .int (nI j)), (5, .int a5), (6, .int (nI i)), (7, .int a7)] [] τ K := by
            intro a7
            rw [← e5, if_pos h5] at hKK
            exact vc_X6_read_62 ⟨fun _ => fin i a5 (nI i) 0 dk w τ hme hmt hKK, fun _ => ⟨fun _ => fin i a5 (nI i) 0 dk w τ hme hmt hKK, fun z => absurd z h5⟩⟩
          exact vc_X6_read_77 ⟨fun _ => ⟨fun _ => e62 _, fun z => absurd z h5⟩, fun _ => ⟨fun _ => e62 _, fun z => absurd z h5⟩⟩
        -- one of the two places
        have one : ∀ a8 : Nat, a8 < 2 → (0 ≤ f.toInt + 2 * (i : Int) + a8 ∧ f.toInt + 2 * (i : Int) + a8 < (sz a : Nat) → ln a ≠ 0 → lnX (ln a) = l → RnI m_X6_read 77 [(0, .ref 63), (1, .int (nI a)), (2, .int l), (3, .int f), (4, .int (nI j)), (5, .int 0), (6, .int (nI i)), (7, .int (nI i)), (8, .int (nI (a8 + 1)))] [] τ K) → RnI m_X6_read 77 [(0, .ref 63), (1, .int (nI a)), (2, .int l), (3, .int f), (4, .int (nI j)), (5, .int 0), (6, .int (nI i)), (7, .int (nI i)), (8, .int (nI a8))] [] τ K := by
          intro a8 h8 hnext
          refine vc_X6_read_77 ⟨fun h => ?_, fun _ => ⟨fun h => absurd rfl h, fun _ => ?_⟩⟩
          · rw [nl_2, il (by omega) (by omega)] at h; omega
          · intro x24 e24
            have e24 : x24.toInt = f.toInt + 2 * (i : Int) + a8 := by
              rw [e24, nl_2, pk_mul, l3 f (by omega) (by omega)]
              simp
            refine ⟨vp_in_nI (by omega) (by omega), ?_⟩
            rw [nI_clamp (by omega), hsx1.1, lnM_0 hsa.1, nI_1]
            refine ⟨fun h0 => ?_, fun h0 => ?_⟩
            · have el : lnM (ln a) = nI (ln a - 1) := by unfold lnM; rw [if_neg h0]
              have el2 : lnX (ln a) = nI (ln a - 1) := by unfold lnX; rw [if_neg h0]
              have h74 := (hsx1.2 h0).1
              rw [el]
              refine ⟨fun hl => ?_, fun hl => ?_⟩
              · have hl2 : lnX (ln a) = l := by rw [el2]; exact hl
                have p2 : ¬ (0 ≤ f.toInt + 2 * (i : Int) ∧ f.toInt + 2 * (i : Int) + 1 < (sz a : Nat)) → (2 : Int32) = pfx ln sz a l (f.toInt + 2 * (i : Int)) := fun z => by
                  unfold pfx; rw [if_neg h0, if_pos hl2, if_neg z]
                rw [Int64.lt_iff_toInt_lt, e24]
                have z0 : (0 : Int64).toInt = 0 := rfl
                rw [z0]
                refine ⟨fun h5 => bad 2 (by decide) (p2 (by omega)) (a8 + 1) (by omega), fun h5 => ?_⟩
                rw [h74, Int64.lt_iff_toInt_lt, e24, i64, iti (by omega)]
                exact ⟨fun h6 => hnext ⟨by omega, h6⟩ h0 hl2, fun h6 => bad 2 (by decide) (p2 (by omega)) (a8 + 1) (by omega)⟩
              · refine bad 3 (by decide) ?_ (a8 + 1) (by omega)
                unfold pfx; rw [if_neg h0, if_neg (by rw [el2]; exact hl)]
            · refine bad 1 (by decide) ?_ (a8 + 1) (by omega)
              unfold pfx; rw [if_pos h0]
        refine vc_X6_read_62 ⟨fun h => ?_, fun _ => ⟨fun h => absurd rfl h, fun _ => ?_⟩⟩
        · rw [il (by omega) (by omega)] at h; omega
        · rw [nl_0]
          refine one 0 (by omega) (fun g1 hl0 hl => one 1 (by omega) (fun g2 _ _ => ?_))
          have hF0 : 0 ≤ f.toInt + 2 * (i : Int) := by omega
          have hF1 : f.toInt + 2 * (i : Int) + 1 < (sz a : Nat) := by omega
          have h0 : pfx ln sz a l (f.toInt + 2 * (i : Int)) = 0 := by unfold pfx; rw [if_neg hl0, if_pos hl, if_pos ⟨hF0, hF1⟩]
          rw [if_neg (fun z => z h0)] at hKK
          refine vc_X6_read_77 ⟨fun _ => ⟨fun h => absurd rfl h, fun _ => ?_⟩, fun h => absurd (by decide) h⟩
          intro x7 e7
          have e7 : x7 = nI (40 * a + (f.toInt + 2 * (i : Int)).toNat) := by
            rw [e7, Int32.add_assoc, at_nI (by omega) hF0 (by omega), nl_40, pk_mul, nI_add]
          subst e7
          have hq : (f.toInt + 2 * (i : Int)).toNat + 1 < sz a := by omega
          generalize (f.toInt + 2 * (i : Int)).toNat = q at hKK hq ⊢
          have c1 := (hsx1.2 hl0).2 q (by omega)
          have c2 := (hsx1.2 hl0).2 (q + 1) hq
          rw [nI_1, nI_clamp (by omega), nI_clamp (by omega), Nat.add_assoc, c1, c2]
          refine ⟨vp_in_nI (by omega) (by omega), vp_in_nI (by omega) (by omega), ?_⟩
          refine cm_post hmt hkr (fun υ hmc hmt2 => ?_)
          have hme2 := hme.c hmc
          by_cases hcr : hck T (cs a q) = true ∧ inr (cs a (q + 1)) 0 5 = true
          · obtain ⟨c, hc1, hc2⟩ := inr_lt hcr.1
            obtain ⟨r, hr1, hr2⟩ := inr_of (hi := 5) hcr.2
            have es : s_post (rt T dk w i) (cs a q) 0 (cs a (q + 1)) = (nI (dk c), rt T (up1 dk c r) w i) := by
              unfold s_post
              rw [if_pos ⟨hcr.1, rfl, hcr.2⟩, hc2, hr2, nI_clamp (by omega), nI_clamp (by omega), rt_post]
              rfl
            rw [es] at hmt2 ⊢
            dsimp only at hmt2 ⊢
            have hdk : dk c < 6 := (ho.2.2.2 c hc1).1
            have ho2 := ok_up (c := c) ho (show r < 6 by omega)
            have hkr2 := tk_rt hk h9 ho2 hmo
            refine ⟨fun h => ?_, fun _ => cm_nights hmt2 hkr2 (fun φ hmc2 hmt3 => ?_)⟩
            · rw [nl_0, ilt (by omega) (by omega)] at h; omega
            · have hme3 := hme2.c hmc2
              by_cases h99 : T 9 0 + i < 999
              · have en : s_nights (rt T (up1 dk c r) w i) 1 = (nI (th (rt T (up1 dk c r) w i) 1), t_go (rt T (up1 dk c r) w i) (tp (rt T (up1 dk c r) w i)) (tr (rt T (up1 dk c r) w i) 1) 1) := by
                  unfold s_nights
                  rw [if_pos (by decide), show (1 : Int32).toNatClampNeg = 1 by decide, if_pos (show rt T (up1 dk c r) w i 9 0 + 1 ≤ 999 from (by omega : T 9 0 + i + 1 ≤ 999))]
                rw [en] at hmt3 ⊢
                dsimp only at hmt3 ⊢
                have hth := th_le (tk_ok hkr2) 1
                rw [if_pos ⟨hcr.1, hcr.2, h99⟩, hc2, hr2, nI_clamp (by omega), nI_clamp (by omega)] at hKK
                refine ⟨fun _ => ?_, fun h => absurd (by rw [nl_0, il (by omega) (by omega)]; omega) h⟩
                rw [nI_1]
                exact ih (i + 1) _ _ φ (by omega) (by omega) hme3 (hmt3.q rt_night) (by omega) (sp_ok_night ho2) (hmo.tr (mo_night (p := dp T (up1 dk c r)) (w := w))) hKK
              · have en : s_nights (rt T (up1 dk c r) w i) 1 = (-3, rt T (up1 dk c r) w i) := by
                  unfold s_nights
                  rw [if_pos (by decide), show (1 : Int32).toNatClampNeg = 1 by decide, if_neg (show ¬ rt T (up1 dk c r) w i 9 0 + 1 ≤ 999 from (by omega : ¬ T 9 0 + i + 1 ≤ 999))]
                rw [en] at hmt3 ⊢
                rw [if_neg (fun z => h99 z.2.2)] at hKK
                dsimp only
                exact ⟨fun h => absurd h (by decide), fun _ => fail i _ _ _ φ hme3 hKK⟩
          · have es : s_post (rt T dk w i) (cs a q) 0 (cs a (q + 1)) = (-1, rt T dk w i) := by
              unfold s_post
              rw [if_neg (fun z => hcr ⟨z.1, z.2.2⟩), if_neg (fun z => absurd z.2.1 (by decide))]
            rw [es] at hmt2 ⊢
            rw [if_neg (fun z => hcr ⟨z.1, z.2.1⟩)] at hKK
            dsimp only
            exact ⟨fun _ => fail i _ _ _ υ hme2 hKK, fun h => absurd (by decide) h⟩
    have loop0 : ∀ m q (τ : hs_St), 47 - q = m → q ≤ 47 → hs_fr [76] σ τ → (∀ z, z < q → τ.1 76 z = σ.1 64 z) → RnI m_X6_read 26 [(0, .ref 63), (1, .int (nI a)), (2, .int l), (3, .int f), (4, .int (nI j)), (5, .int (nI q))] [] τ K := by
      intro m
      induction m with
      | zero =>
        intro q τ hm2 hq hf h76
        have : q = 47 := by omega
        subst this
        refine vc_X6_read_26 ⟨fun _ => ?_, fun h => absurd (by rw [nl_47, il (by omega) (by omega)]; omega) h⟩
        have hme : me σ τ := ⟨fun k h1 h2 h3 => hf.2 k (fun z => h1 (by simp only [List.mem_cons, List.not_mem_nil, or_false] at z ⊢; omega)), fun i _ => by rw [hf.2 63 (by decide)], fun j _ => by rw [hf.2 64 (by decide)], h76⟩
        have hmt : mt τ (rt T (T 7) (tw T) 0) := ⟨by rw [hf.2 64 (by decide)]; exact mr_q hx.1 ⟨rfl, rfl, rfl, rfl, fun _ _ => ⟨rfl, rfl, rfl, rfl, rfl⟩, fun _ _ => ⟨rfl, rfl⟩, fun _ _ => ⟨rfl, rfl, rfl⟩⟩, by rw [hf.2 63 (by decide)]; exact hx.2⟩
        have := loop j 0 (T 7) (tw T) τ (by omega) (by omega) hme hmt (by omega) (tk_ok hk) sp_mo.rf hK
        rw [nI_0] at this
        exact this
      | succ m ih =>
        intro q τ hm2 hq hf h76
        refine vc_X6_read_26 ⟨fun h => ?_, fun _ => ⟨vp_in_nI (by omega) (by omega), vp_in_nI (by omega) (by omega), ?_⟩⟩
        · rw [nl_47, il (by omega) (by omega)] at h; omega
        · rintro _ rfl
          rw [nI_clamp (by omega), nI_1, hf.2 64 (by decide)]
          refine ih (q + 1) _ (by omega) (by omega) (hf.w (by decide)) (fun z hz => ?_)
          by_cases e : z = q
          · subst e; rw [w_eq]
          · rw [w_at e]; exact h76 z (by omega)
    rw [nl_0]
    exact loop0 47 0 σ (by omega) (by omega) hs_fr.rf (fun _ h => by omega)
  · change inr n 0 20 = false at h3
    rw [if_neg (fun z => by rw [h3] at z; exact absurd z.2.2 (by decide))] at hK
    exact hK σ rfl_d hx hrf
