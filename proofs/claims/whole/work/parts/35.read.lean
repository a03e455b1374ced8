/-! read -/
def rdl (T : sp_T) (ln sz : Nat → Nat) (cs : Nat → Nat → Int32) (a : Nat) (l f : Int32) : Nat → Nat → (Nat → Nat) → sp_W → Int32 × Option (sp_T × Int32)
  | 0, i, dk, w => (nI i, some (t_go T (dp T dk) w i, 0))
  | m + 1, i, dk, w => if ¬ pfx ln sz a l (f.toInt + 2 * (i : Int)) = 0 then (nI i, some (t_go T (dp T dk) w i, pfx ln sz a l (f.toInt + 2 * (i : Int)))) else
      if hck T (cs a (f.toInt + 2 * (i : Int)).toNat) = true ∧ inr (cs a ((f.toInt + 2 * (i : Int)).toNat + 1)) 0 5 = true ∧ T 9 0 + i < 999 then
        rdl T ln sz cs a l f m (i + 1) (up1 dk (cs a (f.toInt + 2 * (i : Int)).toNat).toNatClampNeg (cs a ((f.toInt + 2 * (i : Int)).toNat + 1)).toNatClampNeg) (sp_night (dp T (up1 dk (cs a (f.toInt + 2 * (i : Int)).toNat).toNatClampNeg (cs a ((f.toInt + 2 * (i : Int)).toNat + 1)).toNatClampNeg)) w)
      else (-20 - nI i, none)
def s_read (T : sp_T) (ln sz : Nat → Nat) (cs : Nat → Nat → Int32) (k l f n : Int32) : Int32 × Option (sp_T × Int32) := if inr k 0 3 = true ∧ inr l 0 2 = true ∧ inr n 0 20 = true then rdl T ln sz cs k.toNatClampNeg l f n.toNatClampNeg 0 (T 7) (tw T) else (-1, none)
theorem pfx_0 {ln sz : Nat → Nat} {k : Nat} {l : Int32} {F : Int} (h : pfx ln sz k l F = 0) : ln k ≠ 0 ∧ 0 ≤ F ∧ F + 1 < (sz k : Nat) := by
  unfold pfx at h
  split at h
  · exact absurd h (by decide)
  · rename_i e
    split at h
    · split at h
      · rename_i h2; exact ⟨e, h2⟩
      · exact absurd h (by decide)
    · exact absurd h (by decide)
theorem toInt_inj {a b : Int32} (h : a.toInt = b.toInt) : a = b := Int32.toInt_inj.mp h
theorem at_nI {f : Int32} {i : Nat} (hi : i ≤ 100) (h0 : 0 ≤ f.toInt + 2 * (i : Int)) (h1 : f.toInt + 2 * (i : Int) < 1000) : f + 2 * nI i = nI (f.toInt + 2 * (i : Int)).toNat := by
  apply toInt_inj
  rw [at_int f hi, nI_toInt (by omega), if_pos (by omega)]
  omega
theorem ok_up {T : sp_T} {dk : Nat → Nat} {w : sp_W} {c r : Nat} (h : sp_ok (dp T dk) w) (hr : r < 6) : sp_ok (dp T (up1 dk c r)) w :=
  ⟨h.1, h.2.1, h.2.2.1, fun d hd => ⟨by show up1 dk c r d < 6; unfold up1; split; exact hr; exact (h.2.2.2 d hd).1, (h.2.2.2 d hd).2⟩⟩
theorem xw_up {σ : hs_St} {T : sp_T} {dk : Nat → Nat} {c r : Nat} {w : sp_W} (hw : xw σ (dp T dk) w) : xw (hs_w σ 5 c (nI r)) (dp T (up1 dk c r)) w := by
  obtain ⟨y0, y1, y2, y3, y4, y5⟩ := hw
  refine ⟨?_, ?_, ?_, ?_, fun d hd => ⟨?_, ?_⟩, ?_⟩
  · rw [w_ne (by decide)]; exact y0
  · rw [w_ne (by decide)]; exact y1
  · rw [w_ne (by decide)]; exact y2
  · rw [w_ne (by decide), w_ne (by decide), w_ne (by decide)]; exact y3
  · show _ = nI (up1 dk c r d)
    by_cases e : d = c
    · subst e; rw [w_eq, up1_eq]
    · rw [w_at e, up1_ne e]; exact (y4 d hd).1
  · rw [w_ne (by decide)]; exact (y4 d hd).2
  · rw [w_ne (by decide)]; exact y5
theorem cx_cell {σ : hs_St} {K : Int32 → hs_St → Prop} {ln sz : Nat → Nat} {cs : Nat → Nat → Int32} {a q : Nat} (ha : a < 4) (hx : xsh σ ln sz cs) (hs : shk ln sz) (hl : ln a ≠ 0) (hq : q < sz a) (hK : K (cs a q) σ) : OkI m_X1_cell [.ref 58, .int (nI a), .int (nI q)] σ K := by
  have hsa := (hs a ha).2
  have hix : (nI a * 40) + nI q = nI (a * 40 + q) := by rw [nl_40, pk_mul, nI_add]
  refine vc_X1_cell ⟨by rw [hix]; exact vp_in_nI (by omega) (by omega), ?_⟩
  rw [hix, nI_clamp (by omega), ((hx a ha).2 hl).2 q hq]
  exact hK
/-- what holds behind a read -/
def x_rd (T : sp_T) (rf : Int32) (q : Option (sp_T × Int32)) (τ : hs_St) : Prop := xt 8 τ (q.getD (T, rf)).1 ∧ τ.1 0 9 = (q.getD (T, rf)).2
abbrev SR : List Nat := [0, 1, 2, 3, 4, 5, 6, 7, 8, 9, 10, 11, 12, 13, 14, 15, 16, 17, 18]
set_option maxHeartbeats 1000000 in
theorem cx_read {σ : hs_St} {K : Int32 → hs_St → Prop} {T : sp_T} {ln sz : Nat → Nat} {cs : Nat → Nat → Int32} {rf : Int32} {k l f n : Int32} (hx : xt 8 σ T) (hk : tk T) (hsx : xsh σ ln sz cs) (hs : shk ln sz) (hrf : σ.1 0 9 = rf)
    (hK : ∀ τ, hs_fr SR σ τ → (∀ j, j ≠ 9 → τ.1 0 j = σ.1 0 j) → x_rd T rf (s_read T ln sz cs k l f n).2 τ → K (s_read T ln sz cs k l f n).1 τ) : OkI m_X5_read [.ref 0, .int k, .int l, .int f, .int n] σ K := by
  have k9 := hk.2.2.1
  have k6 := hk.2.1
  unfold s_read at hK
  refine vc_X5_read (cx_isOne ⟨fun h1 => ?_, fun h1 => cx_isLane ⟨fun h2 => ?_, fun h2 => cx_within ⟨fun h3 => ?_, fun h3 => ?_⟩⟩⟩)
  · rw [if_neg (by simp [h1])] at hK; exact hK σ hs_fr.rf (fun _ _ => rfl) ⟨hx, hrf⟩
  · rw [if_neg (by simp [h2])] at hK; exact hK σ hs_fr.rf (fun _ _ => rfl) ⟨hx, hrf⟩
  · change inr n 0 20 = true at h3
    rw [if_pos ⟨h1, h2, h3⟩] at hK
    obtain ⟨a, ha, rfl⟩ := inr_of (hi := 3) h1
    obtain ⟨j, hj, rfl⟩ := inr_of (hi := 20) h3
    rw [nI_clamp (by omega), nI_clamp (by omega)] at hK
    have fin : ∀ (i : Nat) (dk : Nat → Nat) (w : sp_W) (rf2 : Int32) (τ : hs_St), i ≤ 20 → hs_fr [1, 2, 3, 4, 5, 6, 7] σ τ → xw τ (dp T dk) w → sp_ok (dp T dk) w → sp_mo (T 0 0) (ts T) (T 5) w.2.1 → (∀ υ, hs_fr SR σ υ → (∀ q, q ≠ 9 → υ.1 0 q = σ.1 0 q) → x_rd T rf (some (t_go T (dp T dk) w i, rf2)) υ → K (nI i) υ) → OkV m_X3_settle [.ref 8, .ref 1, .int (nI i)] τ (fun σ5 => ∀ σ7 : hs_St, σ7 = hs_w σ5 0 9 rf2 → K (nI i) σ7) := by
      intro i dk w rf2 τ hi hf hw ho hm hKK
      refine cx_settle (T := T) (p := dp T dk) (w := w) (by omega) (xt_fr hf (by decide) hx) hk hw rfl rfl (fun g _ => rfl) (fun g hg => (ho.2.2.1 g hg).2.2) hm (fun υ hf2 hx2 => ?_)
      rintro _ rfl
      refine hKK _ (((hf.up (by decide)).tr (hf2.up (by decide))).w (by decide)) (fun q hq => ?_) ⟨xt_fr (S := [0]) (hs_fr.rf.w (by decide)) (by decide) hx2, w_eq⟩
      rw [w_at hq, hf2.2 0 (by decide), hf.2 0 (by decide)]
    have loop : ∀ m i dk (w : sp_W) (τ : hs_St), j - i = m → i ≤ j → hs_fr [1, 2, 3, 4, 5, 6, 7] σ τ → xw τ (dp T dk) w → sp_ok (dp T dk) w → sp_mo (T 0 0) (ts T) (T 5) w.2.1 →
        (∀ υ, hs_fr SR σ υ → (∀ q, q ≠ 9 → υ.1 0 q = σ.1 0 q) → x_rd T rf (rdl T ln sz cs a l f m i dk w).2 υ → K (rdl T ln sz cs a l f m i dk w).1 υ) → RnI m_X5_read 55 [(0, .ref 0), (1, .int (nI a)), (2, .int l), (3, .int f), (4, .int (nI j)), (5, .int (nI i)), (6, .int 0), (7, .int (nI i))] [] τ K := by
      intro m
      induction m with
      | zero =>
        intro i dk w τ hm hi hf hw ho hmo hKK
        have : i = j := by omega
        subst this
        exact vc_X5_read_55 ⟨fun _ => fin i dk w 0 τ hj hf hw ho hmo hKK, fun h => absurd (by rw [il (by omega) (by omega)]; omega) h⟩
      | succ m ih =>
        intro i dk w τ hm hi hf hw ho hmo hKK
        have hx1 : xt 8 τ T := xt_fr hf (by decide) hx
        have hsx1 : xsh τ ln sz cs := by
          unfold xsh
          rw [hf.2 59 (by decide), hf.2 60 (by decide), hf.2 61 (by decide)]
          exact hsx
        unfold rdl at hKK
        refine vc_X5_read_55 ⟨fun h => ?_, fun _ => ?_⟩
        · rw [il (by omega) (by omega)] at h; omega
        · rintro _ rfl
          refine cx_faultOfPair (by omega) (by omega) hsx1 hs ⟨fun h0 => ?_, fun h0 => ?_⟩
          · obtain ⟨hl, hF0, hF1⟩ := pfx_0 h0
            have hsa := (hs a (by omega)).2
            rw [if_neg (fun z => z h0)] at hKK
            rw [at_nI (by omega) hF0 (by omega), nI_1]
            have hq : (f.toInt + 2 * (i : Int)).toNat + 1 < sz a := by omega
            generalize (f.toInt + 2 * (i : Int)).toNat = q at hKK hq ⊢
            refine cx_cell (by omega) hsx1 hs hl (by omega) (cx_cell (by omega) hsx1 hs hl hq (cx_hasClerk hx1 hk ⟨fun hc => ?_, fun hc => cx_isRoom ⟨fun hr => ?_, fun hr => ⟨fun h9 => ?_, fun h9 => ?_⟩⟩⟩))
            · rw [if_neg (by simp [hc])] at hKK
              exact hKK τ (hf.up (by decide)) (fun z _ => by rw [hf.2 0 (by decide)]) ⟨hx1, by rw [hf.2 0 (by decide)]; exact hrf⟩
            · rw [if_neg (by simp [hr])] at hKK
              exact hKK τ (hf.up (by decide)) (fun z _ => by rw [hf.2 0 (by decide)]) ⟨hx1, by rw [hf.2 0 (by decide)]; exact hrf⟩
            · rw [hx1.2.2.1, nI_add, nl_999, ilt (by omega) (by omega)] at h9
              rw [if_pos ⟨hc, hr, h9⟩] at hKK
              obtain ⟨c, hc1, hc2⟩ := inr_lt hc
              obtain ⟨r, hr1, hr2⟩ := inr_of (hi := 5) hr
              rw [hc2, hr2, nI_clamp (by omega), nI_clamp (by omega)] at hKK
              rw [hc2, hr2]
              refine ⟨vp_in_nI (by omega) (by omega), ?_⟩
              rintro _ rfl
              rw [nI_clamp (by omega), nI_1]
              have ho2 := ok_up (c := c) ho (show r < 6 by omega)
              refine cx_night (xw_up hw) ho2 (fun υ hf2 hw2 => ?_)
              rw [h0]
              exact ih (i + 1) _ _ υ (by omega) (by omega) ((hf.w (by decide)).tr (hf2.up (by decide))) hw2 (sp_ok_night ho2) (hmo.tr (mo_night (p := dp T (up1 dk c r)) (w := w))) hKK
            · rw [hx1.2.2.1, nI_add, nl_999, ilt (by omega) (by omega)] at h9
              rw [if_neg (fun z => h9 z.2.2)] at hKK
              exact hKK τ (hf.up (by decide)) (fun z _ => by rw [hf.2 0 (by decide)]) ⟨hx1, by rw [hf.2 0 (by decide)]; exact hrf⟩
          · rw [if_pos h0] at hKK
            exact fin i dk w _ τ (by omega) hf hw ho hmo hKK
    refine cx_begin hx hk (fun τ hf hw => ?_)
    rw [nl_0]
    exact loop j 0 (T 7) (tw T) τ (by omega) (by omega) hf hw (tk_ok hk) sp_mo.rf hK
  · change inr n 0 20 = false at h3
    rw [if_neg (by simp [h3])] at hK; exact hK σ hs_fr.rf (fun _ _ => rfl) ⟨hx, hrf⟩
