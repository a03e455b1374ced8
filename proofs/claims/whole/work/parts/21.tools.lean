theorem nl_0 : (0 : Int32) = nI 0 := by decide
theorem nl_1 : (1 : Int32) = nI 1 := by decide
theorem nl_2 : (2 : Int32) = nI 2 := by decide
theorem nl_3 : (3 : Int32) = nI 3 := by decide
theorem nl_4 : (4 : Int32) = nI 4 := by decide
theorem nl_5 : (5 : Int32) = nI 5 := by decide
theorem nl_6 : (6 : Int32) = nI 6 := by decide
theorem nl_7 : (7 : Int32) = nI 7 := by decide
theorem nl_8 : (8 : Int32) = nI 8 := by decide
theorem nl_9 : (9 : Int32) = nI 9 := by decide
theorem nl_10 : (10 : Int32) = nI 10 := by decide
theorem nl_12 : (12 : Int32) = nI 12 := by decide
theorem nl_20 : (20 : Int32) = nI 20 := by decide
theorem nl_21 : (21 : Int32) = nI 21 := by decide
theorem nl_22 : (22 : Int32) = nI 22 := by decide
theorem nl_27 : (27 : Int32) = nI 27 := by decide
theorem nl_28 : (28 : Int32) = nI 28 := by decide
theorem nl_29 : (29 : Int32) = nI 29 := by decide
theorem nl_30 : (30 : Int32) = nI 30 := by decide
theorem nl_32 : (32 : Int32) = nI 32 := by decide
theorem nl_40 : (40 : Int32) = nI 40 := by decide
theorem nl_47 : (47 : Int32) = nI 47 := by decide
theorem nl_48 : (48 : Int32) = nI 48 := by decide
theorem nl_57 : (57 : Int32) = nI 57 := by decide
theorem nl_59 : (59 : Int32) = nI 59 := by decide
theorem nl_60 : (60 : Int32) = nI 60 := by decide
theorem nl_61 : (61 : Int32) = nI 61 := by decide
theorem nl_97 : (97 : Int32) = nI 97 := by decide
theorem nl_99 : (99 : Int32) = nI 99 := by decide
theorem nl_120 : (120 : Int32) = nI 120 := by decide
theorem nl_122 : (122 : Int32) = nI 122 := by decide
theorem nl_126 : (126 : Int32) = nI 126 := by decide
theorem nl_127 : (127 : Int32) = nI 127 := by decide
theorem nl_141 : (141 : Int32) = nI 141 := by decide
theorem nl_160 : (160 : Int32) = nI 160 := by decide
theorem nl_999 : (999 : Int32) = nI 999 := by decide
theorem nl_1000000 : (1000000 : Int32) = nI 1000000 := by decide
theorem il {a b : Nat} (ha : a < 2147483648) (hb : b < 2147483648) : (nI a ≤ nI b) = (a ≤ b) := propext (nI_leI ha hb)
theorem ilt {a b : Nat} (ha : a < 2147483648) (hb : b < 2147483648) : (nI a < nI b) = (a < b) := propext (nI_ltI ha hb)
theorem ieq {a b : Nat} (ha : a < 2147483648) (hb : b < 2147483648) : (nI a = nI b) = (a = b) := propext (nI_eq ha hb)
theorem vi {a n : Nat} (ha : a < 2147483648) (hn : n < 2147483648) : vp_in (nI a) n = (a < n) := by
  apply propext
  rw [vp_in_iff, nI_toInt ha]
  omega
theorem im4 {a : Nat} (ha : a < 2147483648) : ¬ nI a = -4 := by
  intro h
  have h1 := congrArg Int32.toInt h
  rw [nI_toInt ha] at h1
  have h2 : (-4 : Int32).toInt = -4 := by decide
  rw [h2] at h1
  omega
theorem iti {a : Nat} (ha : a < 2147483648) : (nI a).toInt = (a : Int) := nI_toInt ha
theorem isb {a b : Nat} (h : b ≤ a) : nI a - nI b = nI (a - b) := pk_sub h
theorem mx0 {a b : Nat} (ha : a < 1073741824) (hb : b < 1073741824) : hs_mx 0 (nI a - nI b) = nI (a - b) := by
  unfold hs_mx
  by_cases h : b < a
  · rw [pk_sub (by omega), nl_0, if_pos (by rw [ilt (by omega) (by omega)]; omega)]
  · by_cases h2 : a = b
    · subst h2
      rw [pk_sub (Nat.le_refl _), nl_0]
      split
      · rfl
      · congr 1; omega
    · have h3 := pk_sneg (a := a) (b := b) hb (by omega)
      rw [if_neg (fun g => by
        have g1 := Int32.lt_iff_toInt_lt.mp g
        have g2 := Int32.lt_iff_toInt_lt.mp h3
        omega)]
      rw [show a - b = 0 by omega, nI_0]
