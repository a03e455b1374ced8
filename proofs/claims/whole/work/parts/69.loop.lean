theorem dl_18 : decode code 18 = .ok (.iload_n 3, 1) := by decide +kernel
theorem dl_19 : decode code 19 = .ok (.aload_n 0, 1) := by decide +kernel
theorem dl_20 : decode code 20 = .ok (.arraylength, 1) := by decide +kernel
theorem dl_21 : decode code 21 = .ok (.iconst 5, 1) := by decide +kernel
theorem dl_22 : decode code 22 = .ok (.isub, 1) := by decide +kernel
theorem dl_23 : decode code 23 = .ok (.if_icmp .gt 1355, 3) := by decide +kernel
theorem dl_26 : decode code 26 = .ok (.aload_n 0, 1) := by decide +kernel
theorem dl_27 : decode code 27 = .ok (.iload_n 3, 1) := by decide +kernel
theorem dl_28 : decode code 28 = .ok (.iaload, 1) := by decide +kernel
theorem dl_29 : decode code 29 = .ok (.bipush 63, 2) := by decide +kernel
theorem dl_31 : decode code 31 = .ok (.iand, 1) := by decide +kernel
theorem dl_32 : decode code 32 = .ok (.tableswitch 1340 0 35 #[160, 183, 206, 219, 232, 255, 288, 321, 364, 407, 460, 483, 516, 559, 582, 615, 648, 681, 714, 747, 790, 823, 877, 921, 964, 987, 1010, 1043, 1076, 1119, 1142, 1165, 1208, 1251, 1304, 1317], 160) := by decide +kernel
theorem dl_1372 : decode code 1372 = .ok (.iinc 3 5, 3) := by decide +kernel
theorem dl_1375 : decode code 1375 = .ok (.goto (-1357), 3) := by decide +kernel
theorem dl_1378 : decode code 1378 = .ok (.iconst 1, 1) := by decide +kernel
theorem dl_1379 : decode code 1379 = .ok (.ireturn, 1) := by decide +kernel
theorem dl_0 : decode code 0 = .ok (.new 7, 3) := by decide +kernel
theorem dl_3 : decode code 3 = .ok (.dup, 1) := by decide +kernel
theorem dl_4 : decode code 4 = .ok (.invokespecial 9, 3) := by decide +kernel
theorem dl_7 : decode code 7 = .ok (.astore_n 1, 1) := by decide +kernel
theorem dl_8 : decode code 8 = .ok (.new 10, 3) := by decide +kernel
theorem dl_11 : decode code 11 = .ok (.dup, 1) := by decide +kernel
theorem dl_12 : decode code 12 = .ok (.invokespecial 12, 3) := by decide +kernel
theorem dl_15 : decode code 15 = .ok (.astore_n 2, 1) := by decide +kernel
theorem dl_16 : decode code 16 = .ok (.iconst 0, 1) := by decide +kernel
theorem dl_17 : decode code 17 = .ok (.istore_n 3, 1) := by decide +kernel
def hl_tg (j : Nat) : Nat := [192, 215, 238, 251, 264, 287, 320, 353, 396, 439, 492, 515, 548, 591, 614, 647, 680, 713, 746, 779, 822, 855, 909, 953, 996, 1019, 1042, 1075, 1108, 1151, 1174, 1197, 1240, 1283, 1336, 1349].getD j 0
theorem hl_of : ∀ j : Nat, j < 36 → ∃ off : Int, (#[160, 183, 206, 219, 232, 255, 288, 321, 364, 407, 460, 483, 516, 559, 582, 615, 648, 681, 714, 747, 790, 823, 877, 921, 964, 987, 1010, 1043, 1076, 1119, 1142, 1165, 1208, 1251, 1304, 1317] : Array Int)[j]? = some off ∧ ((32 : Nat) : Int) + off = (hl_tg j : Int) := by decide
section HLL
variable {p : Program} {l : Launch} {e : Env} {s : State} {m : MethodId} {below : List Frame} {meth : Method} {c : Code} {G : hs_G} {b L : Nat} {xs : Nat → Int32}
set_option maxHeartbeats 1000000 in
theorem hl_loop (C : hl_Cx p s m meth c G b L xs) (hL : L ≤ 320) : ∀ n q, q ≤ L → L + 1 ≤ q + n → hl_k p l e s m below meth c G b q 18 := by
  obtain ⟨hx, hb, hr, hml, hown, hts, hX, hbl, hlocks, hgv⟩ := id C.1
  have hbA : ¬ (fun q : Nat => s.heap.size ≤ q) b := Nat.not_le.mpr hbl
  intro n
  induction n with
  | zero => intro q h1 h2; omega
  | succ n ih =>
    intro q hqL hn σ H locs ls hR hP hS hl
    refine lv_iload_n hx hb dl_18 rfl (lv_at hl 3 rfl) ?_
    refine lv_aload_n hx hb dl_19 rfl (lv_at hl 0 rfl) ?_
    refine va_slen hx hb hX hbl hbA hS dl_20 ?_
    refine lv_iconst (v := 5) hx hb dl_21 (by decide) ?_
    refine lv_isub hx hb dl_22 ?_
    have e5 : (Int32.ofNat L - 5).toInt = (L : Int) - 5 := by
      have h := pk_sub_toInt (a := L) (b := 5) (by omega) (by omega)
      exact h
    refine lv_icmp_gt (tgt := 1378) hx hb dl_23 (by decide) (fun _ => ?_) (fun hc => ?_)
    · refine lv_iconst (v := 1) hx hb dl_1378 (by decide) ?_
      refine va_forget (fun q hq => hS.2.2 q hq) ?_
      exact lw_ret hx hb hr hlocks dl_1379
    · have hq5 : q + 5 ≤ L := by
        rw [Int32.lt_iff_toInt_lt, e5, iti (by omega)] at hc
        omega
      have hstep : hl_k p l e s m below meth c G b q 1372 := by
        intro τ H locs ls hR hP hS hl
        refine lv_iinc (v := nI (q + 5)) (lv' := [(3, .int (nI (q + 5))), (0, .ref b), (1, .ref (G.2.2.1 0)), (2, .ref (G.2.2.1 63))]) hx hb dl_1372 hl (k := 3) rfl (by rw [show Int32.ofInt 5 = nI 5 by decide, nI_add]) (by decide) rfl (fun ls hl => ?_)
        refine lv_goto (tgt := 18) hx hb dl_1375 (by decide) ?_
        exact ih (q + 5) hq5 (by omega) τ H locs ls hR hP hS (lv_sub hl [1, 2, 3, 0] rfl)
      have hall : ∀ j, j < 36 → hl_k p l e s m below meth c G b q (hl_tg j) := fun j hj => match j, hj with
        | 0, _ => lc_feed C hL hq5 hstep
        | 1, _ => lc_end C hL hq5 hstep
        | 2, _ => lc_text C hL hq5 hstep
        | 3, _ => lc_fault C hL hq5 hstep
        | 4, _ => lc_rule C hL hq5 hstep
        | 5, _ => lc_ghost C hL hq5 hstep
        | 6, _ => lc_clerk C hL hq5 hstep
        | 7, _ => lc_alter C hL hq5 hstep
        | 8, _ => lc_post C hL hq5 hstep
        | 9, _ => lc_leave C hL hq5 hstep
        | 10, _ => lc_nights C hL hq5 hstep
        | 11, _ => lc_runs C hL hq5 hstep
        | 12, _ => lc_ahead C hL hq5 hstep
        | 13, _ => lc_rests C hL hq5 hstep
        | 14, _ => lc_meets C hL hq5 hstep
        | 15, _ => lc_harm C hL hq5 hstep
        | 16, _ => lc_best C hL hq5 hstep
        | 17, _ => lc_learn C hL hq5 hstep
        | 18, _ => lc_quiet C hL hq5 hstep
        | 19, _ => lc_better C hL hq5 hstep
        | 20, _ => lc_from C hL hq5 hstep
        | 21, _ => lc_luck C hL hq5 hstep
        | 22, _ => lc_mean C hL hq5 hstep
        | 23, _ => lc_see C hL hq5 hstep
        | 24, _ => lc_forget C hL hq5 hstep
        | 25, _ => lc_kinds C hL hq5 hstep
        | 26, _ => lc_second C hL hq5 hstep
        | 27, _ => lc_look C hL hq5 hstep
        | 28, _ => lc_drift C hL hq5 hstep
        | 29, _ => lc_keep C hL hq5 hstep
        | 30, _ => lc_back C hL hq5 hstep
        | 31, _ => lc_sheet C hL hq5 hstep
        | 32, _ => lc_lay C hL hq5 hstep
        | 33, _ => lc_read C hL hq5 hstep
        | 34, _ => lc_torn C hL hq5 hstep
        | 35, _ => lc_count C hL hq5 hstep
        | (j + 36), hj => absurd hj (by omega)
      refine lv_aload_n hx hb dl_26 rfl (lv_at hl 0 rfl) ?_
      refine lv_iload_n hx hb dl_27 rfl (lv_at hl 3 rfl) ?_
      refine va_sld hx hb hX hbl hbA hS (vp_in_nI (by omega) (by omega)) dl_28 ?_
      refine lv_bipush (v := 63) hx hb dl_29 (by decide) ?_
      refine lv_iand hx hb dl_31 ?_
      refine lv_topi (fun x _ => ?_)
      by_cases h : x.toInt < 0 ∨ 35 < x.toInt
      · exact lv_tableOut (tgt := 1372) hx hb dl_32 h (by decide) (hstep σ H locs ls hR hP hS hl)
      · have h1 : ¬ x.toInt < 0 := fun z => h (Or.inl z)
        have h2 : ¬ 35 < x.toInt := fun z => h (Or.inr z)
        obtain ⟨off, ho, he⟩ := hl_of (x.toInt - 0).toNat (by omega)
        exact lv_tableIn hx hb dl_32 h1 h2 ho he (hall _ (by omega) σ H locs ls hR hP hS hl)
end HLL
