/-! bounds and numbers: what the small methods of both answer -/
def inr (x : Int32) (lo hi : Int) : Bool := decide (lo ≤ x.toInt ∧ x.toInt ≤ hi)
theorem inr_of {x : Int32} {hi : Nat} (h : inr x 0 hi = true) : ∃ j : Nat, j ≤ hi ∧ x = nI j := by
  simp only [inr, decide_eq_true_eq] at h
  obtain ⟨j, hj, rfl⟩ := nI_of (x := x) (by rw [Int32.lt_iff_toInt_lt]; simp; omega)
  exact ⟨j, by have h1 := nI_toInt hj; rw [h1] at h; omega, rfl⟩
theorem inr_nI {j : Nat} (hj : j < 2147483648) (lo hi : Int) : inr (nI j) lo hi = decide (lo ≤ (j : Int) ∧ (j : Int) ≤ hi) := by
  simp only [inr, nI_toInt hj]
theorem cx_within {σ : hs_St} {K : Bool → hs_St → Prop} {a b c : Int32} (hK : K (inr a b.toInt c.toInt) σ) : OkB m_X5_within [.int a, .int b, .int c] σ K := by
  refine vc_X5_within ⟨fun h => ?_, fun h => ⟨fun h2 => ?_, fun h2 => ?_⟩⟩
  · rw [Int32.lt_iff_toInt_lt] at h
    have e : inr a b.toInt c.toInt = false := by simp only [inr, decide_eq_false_iff_not]; omega
    rw [e] at hK; exact hK
  · rw [Int32.lt_iff_toInt_lt] at h2
    have e : inr a b.toInt c.toInt = false := by simp only [inr, decide_eq_false_iff_not]; omega
    rw [e] at hK; exact hK
  · rw [Int32.lt_iff_toInt_lt] at h h2
    have e : inr a b.toInt c.toInt = true := by simp only [inr, decide_eq_true_eq]; omega
    rw [e] at hK; exact hK
theorem cm_in {σ : hs_St} {K : Bool → hs_St → Prop} {a b c : Int64} (hK : K (decide (b.toInt ≤ a.toInt ∧ a.toInt ≤ c.toInt)) σ) : OkB m_X6_in [.long a, .long b, .long c] σ K := by
  refine vc_X6_in ⟨fun h => ?_, fun h => ⟨fun h2 => ?_, fun h2 => ?_⟩⟩
  · rw [Int64.lt_iff_toInt_lt] at h
    rw [decide_eq_false (by omega)] at hK; exact hK
  · rw [Int64.lt_iff_toInt_lt] at h2
    rw [decide_eq_false (by omega)] at hK; exact hK
  · rw [Int64.lt_iff_toInt_lt] at h h2
    rw [decide_eq_true (by omega)] at hK; exact hK
theorem i64 (x : Int32) : x.toInt64.toInt = x.toInt := Int32.toInt_toInt64 x
theorem cm_inI {σ : hs_St} {K : Bool → hs_St → Prop} {a : Int32} {b c : Int64} (hK : K (inr a b.toInt c.toInt) σ) : OkB m_X6_in [.long a.toInt64, .long b, .long c] σ K := cm_in (by rw [i64]; exact hK)
theorem cm_inJ {σ : hs_St} {K : Bool → hs_St → Prop} {a c : Int32} {b : Int64} (hK : K (inr a b.toInt c.toInt) σ) : OkB m_X6_in [.long a.toInt64, .long b, .long c.toInt64] σ K := cm_in (by rw [i64, i64]; exact hK)
theorem cx_isRoom {σ : hs_St} {K : Bool → hs_St → Prop} {a : Int32} (hK : K (inr a 0 5) σ) : OkB m_X5_isRoom [.int a] σ K := vc_X5_isRoom (cx_within hK)
/-! figures -/
def sp_nd : Nat → Nat → Nat
  | 0, _ => 0
  | k + 1, r => if r = 0 then 0 else 1 + sp_nd k (r / 10)
def sp_sv : Nat → Nat → Nat
  | 0, _ => 0
  | k + 1, r => if r = 0 then 0 else (if r % 10 = 7 then 1 else 0) + sp_sv k (r / 10)
theorem sp_fig_nd {n : Nat} (h : n < 10000) : 1 + sp_nd 3 (n / 10) = sp_fig n := by
  simp only [sp_nd, sp_fig]
  repeat' split
  all_goals omega
theorem sp_sv_le : ∀ k r, sp_sv k r ≤ k
  | 0, _ => by simp [sp_sv]
  | k + 1, r => by
    have := sp_sv_le k (r / 10)
    simp only [sp_sv]
    split
    · omega
    · split <;> omega
theorem cx_figuresOf {σ : hs_St} {K : Int32 → hs_St → Prop} {n : Nat} (hn : n < 10000) (hK : K (nI (sp_fig n)) σ) : OkI m_X5_figuresOf [.int (nI n)] σ K := by
  refine vc_X5_figuresOf ?_
  rintro _ rfl
  rw [nl_10, idv (by omega) (by omega) (by omega)]
  have loop : ∀ k i f r a, r < 10 ^ k → k + i ≤ 3 → (K (nI (f + sp_nd k r)) σ) → RnI m_X5_figuresOf 9 [(0, .int a), (1, .int (nI f)), (2, .int (nI r)), (3, .int (nI i))] [] σ K := by
    intro k
    induction k with
    | zero =>
      intro i f r a hr hi hk
      have : r = 0 := by simp at hr; omega
      subst this
      refine vc_X5_figuresOf_9 ⟨fun _ => hk, fun _ => ⟨fun _ => hk, fun h => absurd (by decide) h⟩⟩
    | succ k ih =>
      intro i f r a hr hi hk
      refine vc_X5_figuresOf_9 ⟨fun h => ?_, fun _ => ⟨fun h => ?_, fun h => ?_⟩⟩
      · rw [nl_10, il (by omega) (by omega)] at h; omega
      · have hr2 : r < 2147483648 := Nat.lt_of_lt_of_le hr (Nat.le_trans (Nat.pow_le_pow_right (by omega) (show k + 1 ≤ 3 by omega)) (by decide))
        rw [nl_0, il (by omega) (by omega)] at h
        have : r = 0 := by omega
        subst this
        simpa [sp_nd] using hk
      · have hr2 : r < 2147483648 := Nat.lt_of_lt_of_le hr (Nat.le_trans (Nat.pow_le_pow_right (by omega) (show k + 1 ≤ 3 by omega)) (by decide))
        rw [nl_0, il (by omega) (by omega)] at h
        rintro _ rfl
        rw [nl_10, idv hr2 (by omega) (by omega), nI_1, nI_1]
        refine ih (i + 1) (f + 1) (r / 10) a (by rw [Nat.pow_succ] at hr; omega) (by omega) ?_
        simp only [sp_nd, if_neg (show ¬ r = 0 by omega)] at hk
        rw [show f + 1 + sp_nd k (r / 10) = f + (1 + sp_nd k (r / 10)) by omega]
        exact hk
  rw [nl_1, nl_0]
  exact loop 3 0 1 (n / 10) _ (by omega) (by omega) (by rw [sp_fig_nd hn]; exact hK)
theorem cx_sevensOf {σ : hs_St} {K : Int32 → hs_St → Prop} {n : Nat} (hn : n < 10000) (hK : K (nI (sp_sv 4 n)) σ) : OkI m_X5_sevensOf [.int (nI n)] σ K := by
  refine vc_X5_sevensOf ?_
  have loop : ∀ k i f r a, r < 10 ^ k → k + i ≤ 4 → (K (nI (f + sp_sv k r)) σ) → RnI m_X5_sevensOf 6 [(0, .int a), (1, .int (nI f)), (2, .int (nI r)), (3, .int (nI i))] [] σ K := by
    intro k
    induction k with
    | zero =>
      intro i f r a hr hi hk
      have : r = 0 := by simp at hr; omega
      subst this
      refine vc_X5_sevensOf_6 ⟨fun _ => hk, fun _ => ⟨fun _ => hk, fun h => absurd (by decide) h⟩⟩
    | succ k ih =>
      intro i f r a hr hi hk
      have hr2 : r < 2147483648 := Nat.lt_of_lt_of_le hr (Nat.le_trans (Nat.pow_le_pow_right (by omega) (show k + 1 ≤ 4 by omega)) (by decide))
      have hr3 : r / 10 < 10 ^ k := by rw [Nat.pow_succ] at hr; omega
      refine vc_X5_sevensOf_6 ⟨fun h => ?_, fun _ => ⟨fun h => ?_, fun h => ⟨fun h2 => ?_, fun h2 => ?_⟩⟩⟩
      · rw [nl_10, il (by omega) (by omega)] at h; omega
      · rw [nl_0, il (by omega) (by omega)] at h
        have : r = 0 := by omega
        subst this
        simpa [sp_sv] using hk
      · rw [nl_0, il (by omega) (by omega)] at h
        rw [nl_10, irem hr2 (by omega) (by omega), nl_7, ieq (by omega) (by omega)] at h2
        rintro _ rfl
        rw [nl_10, idv hr2 (by omega) (by omega), nI_1]
        refine ih (i + 1) f (r / 10) a hr3 (by omega) ?_
        simp only [sp_sv, if_neg (show ¬ r = 0 by omega), if_neg h2, Nat.zero_add] at hk
        exact hk
      · rw [nl_0, il (by omega) (by omega)] at h
        rw [nl_10, irem hr2 (by omega) (by omega), nl_7, ieq (by omega) (by omega)] at h2
        rintro _ rfl
        rw [nl_10, idv hr2 (by omega) (by omega), nI_1, nI_1]
        refine ih (i + 1) (f + 1) (r / 10) a hr3 (by omega) ?_
        simp only [sp_sv, if_neg (show ¬ r = 0 by omega), if_pos h2] at hk
        rw [show f + 1 + sp_sv k (r / 10) = f + (1 + sp_sv k (r / 10)) by omega]
        exact hk
  rw [nl_0]
  exact loop 4 0 0 n _ (by omega) (by omega) (by rw [Nat.zero_add]; exact hK)
theorem ab_sub {a b : Nat} (ha : a < 1073741824) (hb : b < 1073741824) : hs_ab (nI a - nI b) = nI (if b ≤ a then a - b else b - a) := by
  unfold hs_ab
  by_cases h : b ≤ a
  · rw [pk_sub h, nl_0, if_pos (by rw [il (by omega) (by omega)]; omega), if_pos h]
  · have h3 := pk_sneg (a := a) (b := b) hb (by omega)
    rw [if_neg (fun g => by
      have g1 := Int32.le_iff_toInt_le.mp g
      have g2 := Int32.lt_iff_toInt_lt.mp h3
      omega), if_neg h]
    have e : (0 : Int32) - (nI a - nI b) = nI b - nI a := by simp [Int32.sub_eq_add_neg, Int32.neg_add, Int32.add_comm]
    rw [e, pk_sub (by omega)]
theorem cx_answerOf {σ : hs_St} {K : Int32 → hs_St → Prop} {k a b : Nat} (hk : k < 4) (ha : a ≤ 99) (hb : b ≤ 99) (hb1 : 1 ≤ b) (hK : K (nI (sp_ans k a b)) σ) : OkI m_X5_answerOf [.int (nI k), .int (nI a), .int (nI b)] σ K := by
  refine vc_X5_answerOf ⟨fun h => ?_, fun h => ?_, fun h => ?_, fun h => ?_⟩
  · rw [iti (by omega)] at h
    have : k = 0 := by omega
    subst this
    rw [nI_add]; simpa [sp_ans] using hK
  · rw [iti (by omega)] at h
    have : k = 1 := by omega
    subst this
    rw [ab_sub (by omega) (by omega)]; simpa [sp_ans] using hK
  · rw [iti (by omega)] at h
    have : k = 2 := by omega
    subst this
    rw [pk_mul]; simpa [sp_ans] using hK
  · rw [iti (by omega)] at h
    have : k = 3 := by omega
    subst this
    have hz : ¬ nI b = 0 := by rw [nl_0, ieq (by omega) (by omega)]; omega
    refine ⟨fun _ => ⟨hz, ?_⟩, fun h => absurd h hz⟩
    rw [idv (by omega) (by omega) (by omega)]; simpa [sp_ans] using hK
theorem cx_stepsOf {σ : hs_St} {K : Int32 → hs_St → Prop} {k n : Nat} (hk : k < 4) (hn : n < 10000) (hK : K (nI (sp_stp k n)) σ) : OkI m_X5_stepsOf [.int (nI k), .int (nI n)] σ K := by
  have hf := sp_fig_in n
  refine vc_X5_stepsOf (cx_figuresOf hn ⟨fun h => ?_, fun h => ?_, fun h => ?_, fun h => ?_⟩)
  · rw [iti (by omega)] at h
    have : k = 0 := by omega
    subst this
    simpa [sp_stp] using hK
  · rw [iti (by omega)] at h
    have : k = 1 := by omega
    subst this
    rw [nI_1]; simpa [sp_stp] using hK
  · rw [iti (by omega)] at h
    have : k = 2 := by omega
    subst this
    rw [nl_2, pk_mul]; simpa [sp_stp] using hK
  · rw [iti (by omega)] at h
    have : k = 3 := by omega
    subst this
    rw [nl_2, pk_mul, nl_1, pk_sub (by omega)]; simpa [sp_stp] using hK
