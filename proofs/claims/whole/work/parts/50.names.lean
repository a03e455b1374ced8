/-! text: names of lines -/
def nd4 (b : Nat → Nat) (st pl w x y z : Nat) : Bool := decide (pl = st + 4 ∧ b st = w ∧ b (st + 1) = x ∧ b (st + 2) = y ∧ b (st + 3) = z)
def nd5 (b : Nat → Nat) (st pl w x y z u : Nat) : Bool := decide (pl = st + 5 ∧ b st = w ∧ b (st + 1) = x ∧ b (st + 2) = y ∧ b (st + 3) = z ∧ b (st + 4) = u)
def knd (b : Nat → Nat) (st pl : Nat) : Nat := if nd4 b st pl 112 108 117 115 = true then 0 else if nd4 b st pl 108 101 115 115 = true then 1 else if nd5 b st pl 116 105 109 101 115 = true then 2 else
  if nd4 b st pl 111 118 101 114 = true then 3 else if nd4 b st pl 100 111 110 101 = true then 4 else if nd5 b st pl 99 108 101 114 107 = true then 5 else 6
theorem knd_le {b : Nat → Nat} {st pl : Nat} : knd b st pl ≤ 6 := by unfold knd; (repeat' split) <;> omega
theorem cm_is4 {σ : hs_St} {K : Bool → hs_St → Prop} {n st pl w x y z : Nat} {b : Nat → Nat} (hp : mp σ n b) (hn : n ≤ 160) (hb : ∀ i, i < n → b i ≤ 127) (c12 : σ.1 63 12 = nI st) (c11 : σ.1 63 11 = nI pl) (h1 : st ≤ pl) (h2 : pl ≤ n) (hw : w ≤ 200) (hx : x ≤ 200) (hy : y ≤ 200) (hz : z ≤ 200) (hK : K (nd4 b st pl w x y z) σ) : OkB m_X6_is [.ref 63, .int 4, .int (nI w), .int (nI x), .int (nI y), .int (nI z), .int 0] σ K := by
  have no : ¬ (pl = st + 4 ∧ b st = w ∧ b (st + 1) = x ∧ b (st + 2) = y ∧ b (st + 3) = z) → K false σ := fun h => by
    unfold nd4 at hK; rw [decide_eq_false h] at hK; exact hK
  refine vc_X6_is ?_
  rw [c11, c12, pk_sub h1, nl_4, ieq (by omega) (by omega)]
  refine ⟨fun h => no (by omega), fun h => ?_⟩
  have b0 := hb st (by omega)
  have b1 := hb (st + 1) (by omega)
  have b2 := hb (st + 2) (by omega)
  have b3 := hb (st + 3) (by omega)
  have i1 : nI st + 1 = nI (st + 1) := nI_1 _
  have i2 : nI st + 2 = nI (st + 2) := by rw [nl_2, nI_add]
  have i3 : nI st + 3 = nI (st + 3) := by rw [nl_3, nI_add]
  refine cm_byteAt hp hn (by omega) ?_
  rw [if_pos (by omega), ieq (by omega) (by omega)]
  refine ⟨fun h3 => no (by omega), fun h3 => ?_⟩
  rw [c12, i1]
  refine cm_byteAt hp hn (by omega) ?_
  rw [if_pos (by omega), ieq (by omega) (by omega)]
  refine ⟨fun h4 => no (by omega), fun h4 => ?_⟩
  rw [c12, i2]
  refine cm_byteAt hp hn (by omega) ?_
  rw [if_pos (by omega), ieq (by omega) (by omega)]
  refine ⟨fun h5 => no (by omega), fun h5 => ?_⟩
  rw [c12, i3]
  refine cm_byteAt hp hn (by omega) ?_
  rw [if_pos (by omega), ieq (by omega) (by omega)]
  refine ⟨fun h6 => no (by omega), fun h6 => ⟨fun _ => ?_, fun h7 => absurd rfl h7⟩⟩
  unfold nd4 at hK
  rw [decide_eq_true (by omega)] at hK; exact hK
theorem cm_is5 {σ : hs_St} {K : Bool → hs_St → Prop} {n st pl w x y z u : Nat} {b : Nat → Nat} (hp : mp σ n b) (hn : n ≤ 160) (hb : ∀ i, i < n → b i ≤ 127) (c12 : σ.1 63 12 = nI st) (c11 : σ.1 63 11 = nI pl) (h1 : st ≤ pl) (h2 : pl ≤ n) (hw : w ≤ 200) (hx : x ≤ 200) (hy : y ≤ 200) (hz : z ≤ 200) (hu : u ≤ 200) (hu0 : 0 < u) (hK : K (nd5 b st pl w x y z u) σ) : OkB m_X6_is [.ref 63, .int 5, .int (nI w), .int (nI x), .int (nI y), .int (nI z), .int (nI u)] σ K := by
  have no : ¬ (pl = st + 5 ∧ b st = w ∧ b (st + 1) = x ∧ b (st + 2) = y ∧ b (st + 3) = z ∧ b (st + 4) = u) → K false σ := fun h => by
    unfold nd5 at hK; rw [decide_eq_false h] at hK; exact hK
  refine vc_X6_is ?_
  rw [c11, c12, pk_sub h1, nl_5, ieq (by omega) (by omega)]
  refine ⟨fun h => no (by omega), fun h => ?_⟩
  have b0 := hb st (by omega)
  have b1 := hb (st + 1) (by omega)
  have b2 := hb (st + 2) (by omega)
  have b3 := hb (st + 3) (by omega)
  have b4 := hb (st + 4) (by omega)
  have i1 : nI st + 1 = nI (st + 1) := nI_1 _
  have i2 : nI st + 2 = nI (st + 2) := by rw [nl_2, nI_add]
  have i3 : nI st + 3 = nI (st + 3) := by rw [nl_3, nI_add]
  have i4 : nI st + 4 = nI (st + 4) := by rw [nl_4, nI_add]
  refine cm_byteAt hp hn (by omega) ?_
  rw [if_pos (by omega), ieq (by omega) (by omega)]
  refine ⟨fun h3 => no (by omega), fun h3 => ?_⟩
  rw [c12, i1]
  refine cm_byteAt hp hn (by omega) ?_
  rw [if_pos (by omega), ieq (by omega) (by omega)]
  refine ⟨fun h4 => no (by omega), fun h4 => ?_⟩
  rw [c12, i2]
  refine cm_byteAt hp hn (by omega) ?_
  rw [if_pos (by omega), ieq (by omega) (by omega)]
  refine ⟨fun h5 => no (by omega), fun h5 => ?_⟩
  rw [c12, i3]
  refine cm_byteAt hp hn (by omega) ?_
  rw [if_pos (by omega), ieq (by omega) (by omega)]
  refine ⟨fun h6 => no (by omega), fun h6 => ⟨fun h7 => absurd h7 (by rw [nl_0, ieq (by omega) (by omega)]; omega), fun _ => ?_⟩⟩
  rw [c12, i4]
  refine cm_byteAt hp hn (by omega) ?_
  rw [if_pos (by omega), ieq (by omega) (by omega)]
  refine ⟨fun h7 => no (by omega), fun h7 => ?_⟩
  unfold nd5 at hK
  rw [decide_eq_true (by omega)] at hK; exact hK
theorem cm_lineNow {σ : hs_St} {K : Int32 → hs_St → Prop} {n st pl : Nat} {b : Nat → Nat} (hp : mp σ n b) (hn : n ≤ 160) (hb : ∀ i, i < n → b i ≤ 127) (c12 : σ.1 63 12 = nI st) (c11 : σ.1 63 11 = nI pl) (h1 : st ≤ pl) (h2 : pl ≤ n) (hK : K (if knd b st pl = 6 then -4 else nI (knd b st pl)) σ) : OkI m_X6_lineNow [.ref 63] σ K := by
  unfold knd at hK
  refine vc_X6_lineNow ?_
  refine cm_is4 (w := 112) (x := 108) (y := 117) (z := 115) hp hn hb c12 c11 h1 h2 (by omega) (by omega) (by omega) (by omega) ⟨fun e0 => ?_, fun e0 => ?_⟩
  · rw [if_neg (c := nd4 b st pl 112 108 117 115 = true) (by rw [e0]; decide)] at hK
    refine cm_is4 (w := 108) (x := 101) (y := 115) (z := 115) hp hn hb c12 c11 h1 h2 (by omega) (by omega) (by omega) (by omega) ⟨fun e1 => ?_, fun e1 => ?_⟩
    · rw [if_neg (c := nd4 b st pl 108 101 115 115 = true) (by rw [e1]; decide)] at hK
      refine cm_is5 (w := 116) (x := 105) (y := 109) (z := 101) (u := 115) hp hn hb c12 c11 h1 h2 (by omega) (by omega) (by omega) (by omega) (by omega) (by omega) ⟨fun e2 => ?_, fun e2 => ?_⟩
      · rw [if_neg (c := nd5 b st pl 116 105 109 101 115 = true) (by rw [e2]; decide)] at hK
        refine cm_is4 (w := 111) (x := 118) (y := 101) (z := 114) hp hn hb c12 c11 h1 h2 (by omega) (by omega) (by omega) (by omega) ⟨fun e3 => ?_, fun e3 => ?_⟩
        · rw [if_neg (c := nd4 b st pl 111 118 101 114 = true) (by rw [e3]; decide)] at hK
          refine cm_is4 (w := 100) (x := 111) (y := 110) (z := 101) hp hn hb c12 c11 h1 h2 (by omega) (by omega) (by omega) (by omega) ⟨fun e4 => ?_, fun e4 => ?_⟩
          · rw [if_neg (c := nd4 b st pl 100 111 110 101 = true) (by rw [e4]; decide)] at hK
            refine cm_is5 (w := 99) (x := 108) (y := 101) (z := 114) (u := 107) hp hn hb c12 c11 h1 h2 (by omega) (by omega) (by omega) (by omega) (by omega) (by omega) ⟨fun e5 => ?_, fun e5 => ?_⟩
            · rw [if_neg (c := nd5 b st pl 99 108 101 114 107 = true) (by rw [e5]; decide), if_pos rfl] at hK; exact hK
            · rw [if_pos e5, if_neg (by decide)] at hK; exact hK
          · rw [if_pos e4, if_neg (by decide)] at hK; exact hK
        · rw [if_pos e3, if_neg (by decide)] at hK; exact hK
      · rw [if_pos e2, if_neg (by decide)] at hK; exact hK
    · rw [if_pos e1, if_neg (by decide)] at hK; exact hK
  · rw [if_pos e0, if_neg (by decide)] at hK; exact hK
