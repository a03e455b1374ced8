/-! odds -/
theorem nl_200 : (200 : Int32) = nI 200 := by decide
theorem ll_0 : (0 : Int64) = lN 0 := by decide
theorem lcm1 : (-1 : Int64) = -1 := rfl
theorem gcd_step (x y : Nat) : Nat.gcd x y = Nat.gcd y (x % y) := by rw [Nat.gcd_comm x y, Nat.gcd_rec y x, Nat.gcd_comm]
theorem half {x y : Nat} (hy : 0 < y) (hr : 0 < x % y) : 2 * (y % (x % y)) < y := by
  have h1 := Nat.mod_lt x hy
  have h2 := Nat.mod_lt y hr
  by_cases h : 2 * (x % y) ≤ y
  · omega
  · have h3 : y % (x % y) = y - x % y := by
      rw [Nat.mod_eq_sub_mod (by omega), Nat.mod_eq_of_lt (by omega)]
    omega
theorem cx_commonDivisor {σ : hs_St} {K : Int64 → hs_St → Prop} {a b : Nat} (ha : a < 2 ^ 40) (hb : b < 2 ^ 40) (hK : K (lN (Nat.gcd a b)) σ) : OkL m_X5_commonDivisor [.long (lN a), .long (lN b)] σ K := by
  have loop : ∀ k x y i c d, x < 2 ^ 40 → y < 2 ^ k → k ≤ 40 → i + 2 * k ≤ 100 → K (lN (Nat.gcd x y)) σ → RnL m_X5_commonDivisor 9 [(0, .long c), (2, .long d), (4, .long (lN x)), (6, .long (lN y)), (8, .int (nI i))] [] σ K := by
    intro k
    induction k with
    | zero =>
      intro x y i c d hx hy hk hi hK
      have : y = 0 := by simp at hy; omega
      subst this
      rw [Nat.gcd_zero_right] at hK
      exact vc_X5_commonDivisor_9 ⟨fun _ => hK, fun _ => ⟨fun _ => hK, fun h => absurd rfl h⟩⟩
    | succ k ih =>
      intro x y i c d hx hy hk hi hK
      have hy40 : y < 2 ^ 40 := Nat.lt_of_lt_of_le hy (Nat.pow_le_pow_right (by omega) hk)
      refine vc_X5_commonDivisor_9 ⟨fun h => ?_, fun _ => ⟨fun h => ?_, fun h => ⟨h, ?_⟩⟩⟩
      · rw [nl_200, il (by omega) (by omega)] at h; omega
      · rw [ll_0, pk_lEQ (by omega) (by omega)] at h
        subst h
        rw [Nat.gcd_zero_right] at hK; exact hK
      · rw [ll_0, pk_lEQ (by omega) (by omega)] at h
        have hy0 : 0 < y := by omega
        have hm := Nat.mod_lt x hy0
        rintro _ rfl
        rw [pk_lRem (by omega) hy0 (by omega), nI_1]
        rw [gcd_step] at hK
        refine vc_X5_commonDivisor_9 ⟨fun h => ?_, fun _ => ⟨fun h => ?_, fun h => ⟨h, ?_⟩⟩⟩
        · rw [nl_200, il (by omega) (by omega)] at h; omega
        · rw [ll_0, pk_lEQ (by omega) (by omega)] at h
          rw [h, Nat.gcd_zero_right] at hK; exact hK
        · rw [ll_0, pk_lEQ (by omega) (by omega)] at h
          rintro _ rfl
          rw [pk_lRem (by omega) (by omega) (by omega), nI_1]
          rw [gcd_step] at hK
          have hh := half hy0 (show 0 < x % y by omega)
          refine ih _ _ _ _ _ (by omega) (by rw [Nat.pow_succ] at hy; omega) (by omega) (by omega) hK
  refine vc_X5_commonDivisor ?_
  rw [nl_0]
  exact loop 40 a b 0 _ _ ha hb (by omega) (by omega) hK
def s_frac (A B : Nat) (w : Int32) : Int64 := if w = 0 then lN (A / Nat.gcd A B) else lN (B / Nat.gcd A B)
theorem cx_lowestTerm {σ : hs_St} {K : Int64 → hs_St → Prop} {A B : Nat} {w : Int32} (ha : A < 2 ^ 40) (hb : B < 2 ^ 40) (hb0 : 0 < B) (hK : K (s_frac A B w) σ) : OkL m_X5_lowestTerm [.long (lN A), .long (lN B), .int w] σ K := by
  have hg : 0 < Nat.gcd A B := Nat.gcd_pos_of_pos_right A hb0
  have hg2 : Nat.gcd A B ≤ B := Nat.gcd_le_right A hb0
  have hnz : ¬ lN (Nat.gcd A B) = 0 := by rw [ll_0, pk_lEQ (by omega) (by omega)]; omega
  unfold s_frac at hK
  refine vc_X5_lowestTerm (cx_commonDivisor ha hb ⟨fun _ => ⟨fun h0 => ⟨hnz, ?_⟩, fun h0 => ⟨hnz, ?_⟩⟩, fun h => absurd (by rw [ll_0, pk_lLT (by omega) (by omega)]; exact hg) h⟩)
  · rw [pk_lDiv (by omega) hg (by omega)]
    rw [if_neg h0] at hK; exact hK
  · rw [pk_lDiv (by omega) hg (by omega)]
    rw [if_pos h0] at hK; exact hK
theorem sh_cl : ∀ c, c < 4 → (1 : Int32) <<< (nI c &&& 31) = nI (2 ^ c) := by decide +kernel
theorem pow2 {n : Nat} (h : n ≤ 3) : 1 ≤ 2 ^ n ∧ 2 ^ n ≤ 8 := by
  rcases (show n = 0 ∨ n = 1 ∨ n = 2 ∨ n = 3 by omega) with rfl | rfl | rfl | rfl <;> decide
theorem pow10 {n : Nat} (h : n ≤ 3) : 1 ≤ 10 ^ n ∧ 10 ^ n ≤ 1000 := by
  rcases (show n = 0 ∨ n = 1 ∨ n = 2 ∨ n = 3 by omega) with rfl | rfl | rfl | rfl <;> decide
theorem wt_le {v ill : Nat} (hv : v ≤ 10) : ∀ c, sp_wt v ill c ≤ 10 ^ c
  | 0 => by simp [sp_wt]
  | c + 1 => by
    have := wt_le (ill := ill) hv c
    simp only [sp_wt, Nat.pow_succ]
    refine Nat.mul_le_mul this ?_
    split <;> omega
def a_luck (T : sp_T) (v g n : Nat) (i : Nat) : Nat := sp_sum i (fun ill => if sp_rs (tp (ti T ill)) (tr (ti T ill) n) g = true then sp_wt v ill (T 6 0) else 0)
def a_mean (T : sp_T) (v n : Nat) (i : Nat) : Nat := sp_sum i (fun ill => sp_wt v ill (T 6 0) * th (ti T ill) n)
def s_luck (T : sp_T) (v g n w : Int32) : Int64 := if inr v 0 10 = false then -1 else if hgh T g = false then -1 else if inr n 0 60 = false then -1 else if inr w 0 1 = false then -1 else
  s_frac (a_luck T v.toNatClampNeg g.toNatClampNeg n.toNatClampNeg (2 ^ T 6 0)) (10 ^ T 6 0) w
def s_mean (T : sp_T) (v n w : Int32) : Int64 := if inr v 0 10 = false then -1 else if inr n 0 60 = false then -1 else if inr w 0 1 = false then -1 else
  s_frac (a_mean T v.toNatClampNeg n.toNatClampNeg (2 ^ T 6 0)) (10 ^ T 6 0) w
theorem a_luck_le {T : sp_T} (hk : tk T) {v g n : Nat} (hv : v ≤ 10) (i : Nat) : a_luck T v g n i ≤ i * 1000 := by
  refine sp_sum_le (fun ill _ => ?_)
  have h1 := wt_le (ill := ill) hv (T 6 0)
  have h2 := pow10 hk.2.1
  split <;> omega
theorem a_mean_le {T : sp_T} (hk : tk T) {v n : Nat} (hv : v ≤ 10) (hn : n ≤ 60) (i : Nat) : a_mean T v n i ≤ i * 11520000 := by
  refine sp_sum_le (fun ill _ => ?_)
  have h1 := wt_le (ill := ill) hv (T 6 0)
  have h2 := pow10 hk.2.1
  have h3 := th_le (ok_ill hk ill) n
  calc sp_wt v ill (T 6 0) * th (ti T ill) n ≤ 1000 * 11520 := Nat.mul_le_mul (by omega) (by omega)
    _ ≤ 11520000 := by decide
theorem cx_luck {σ : hs_St} {K : Int64 → hs_St → Prop} {T : sp_T} {v g n w : Int32} (hx : xt 8 σ T) (hk : tk T) (hK : ∀ τ, hs_fr SW σ τ → K (s_luck T v g n w) τ) : OkL m_X5_luck [.ref 0, .int v, .int g, .int n, .int w] σ K := by
  have h4 := hk.1
  have h6 := hk.2.1
  have hp2 := pow2 h6
  have hp10 := pow10 h6
  unfold s_luck at hK
  refine vc_X5_luck (cx_within ⟨fun hv => ?_, fun hv => cx_hasGhost hx hk ⟨fun hg => ?_, fun hg => cx_within ⟨fun hn => ?_, fun hn => cx_within ⟨fun hw => ?_, fun hw => ?_⟩⟩⟩⟩)
  · change inr v 0 10 = false at hv
    have := hK σ hs_fr.rf
    rw [if_pos hv] at this; exact this
  · change inr v 0 10 = true at hv
    have := hK σ hs_fr.rf
    rw [if_neg (by rw [hv]; decide), if_pos hg] at this; exact this
  · change inr v 0 10 = true at hv
    change inr n 0 60 = false at hn
    have := hK σ hs_fr.rf
    rw [if_neg (by rw [hv]; decide), if_neg (by rw [hg]; decide), if_pos hn] at this; exact this
  · change inr v 0 10 = true at hv
    change inr n 0 60 = true at hn
    change inr w 0 1 = true at hw
    rw [if_neg (by rw [hv]; decide), if_neg (by rw [hg]; decide), if_neg (by rw [hn]; decide), if_neg (by rw [hw]; decide)] at hK
    obtain ⟨q, hq, rfl⟩ := inr_of (hi := 10) hv
    obtain ⟨i, hi, rfl⟩ := inr_lt hg
    obtain ⟨j, hj, rfl⟩ := inr_of (hi := 60) hn
    rw [nI_clamp (by omega), nI_clamp (by omega), nI_clamp (by omega)] at hK
    have loop : ∀ m c (τ : hs_St), 2 ^ T 6 0 - c = m → c ≤ 2 ^ T 6 0 → hs_fr SW σ τ → RnL m_X5_luck 51 [(0, .ref 0), (1, .int (nI q)), (2, .int (nI i)), (3, .int (nI j)), (4, .int w), (5, .long (lN (a_luck T q i j c))), (7, .int (nI c))] [] τ K := by
      intro m
      induction m with
      | zero =>
        intro c τ hm hc hf
        have : c = 2 ^ T 6 0 := by omega
        subst this
        have hx1 : xt 8 τ T := xt_fr hf (by decide) hx
        refine vc_X5_luck_51 ⟨fun _ => ?_, fun h => absurd (by rw [hx1.2.1, sh_cl _ (by omega), il (by omega) (by omega)]; omega) h⟩
        rw [hx1.2.1, nl_10]
        refine cx_power (by omega) ?_
        rw [nI_l (by omega)]
        have := a_luck_le hk (g := i) (n := j) hq (2 ^ T 6 0)
        exact cx_lowestTerm (by omega) (by omega) (by omega) (hK τ hf)
      | succ m ih =>
        intro c τ hm hc hf
        have hx1 : xt 8 τ T := xt_fr hf (by decide) hx
        refine vc_X5_luck_51 ⟨fun h => ?_, fun _ => ?_⟩
        · rw [hx1.2.1, sh_cl _ (by omega), il (by omega) (by omega)] at h; omega
        · refine cx_goWithout (by omega) (by omega) hx1 hk (fun υ hf2 hw2 => ⟨vp_in_nI (by omega) (by omega), fun h => ?_, fun h => ?_⟩)
          · rw [nI_clamp (by omega), (hw2.2.2.2.1 i hi).2.1, nl_0, ieq (by have := ts_in (ti T c) i; show ts (ti T c) i - _ < _; omega) (by omega)] at h
            have := ih (c + 1) υ (by omega) (by omega) (hf.tr (hf2.up (by decide)))
            rw [show a_luck T q i j (c + 1) = a_luck T q i j c by
              have hz : sp_rs (tp (ti T c)) (tr (ti T c) j) i = false := (by unfold sp_rs; exact decide_eq_false (by change ¬ ts (ti T c) i - _ = 0 at h; change ¬ ts (ti T c) i ≤ _; omega))
              simp [a_luck, sp_sum, hz]] at this
            rw [nI_1]; exact this
          · rw [nI_clamp (by omega), (hw2.2.2.2.1 i hi).2.1, nl_0, ieq (by have := ts_in (ti T c) i; show ts (ti T c) i - _ < _; omega) (by omega)] at h
            refine cx_weight hq (by omega) (xt_fr hf2 (by decide) hx1) hk ?_
            rintro _ rfl
            have hwt := wt_le (ill := c) hq (T 6 0)
            have := ih (c + 1) υ (by omega) (by omega) (hf.tr (hf2.up (by decide)))
            rw [show a_luck T q i j (c + 1) = a_luck T q i j c + sp_wt q c (T 6 0) by
              have hz : sp_rs (tp (ti T c)) (tr (ti T c) j) i = true := (by unfold sp_rs; exact decide_eq_true (by change ts (ti T c) i - _ = 0 at h; change ts (ti T c) i ≤ _; omega))
              simp [a_luck, sp_sum, hz]] at this
            rw [nI_1, nI_l (by omega), lN_add]; exact this
    rw [nl_0, ll_0]
    exact loop (2 ^ T 6 0) 0 σ (by omega) (by omega) hs_fr.rf
  · change inr v 0 10 = true at hv
    change inr n 0 60 = true at hn
    change inr w 0 1 = false at hw
    have := hK σ hs_fr.rf
    rw [if_neg (by rw [hv]; decide), if_neg (by rw [hg]; decide), if_neg (by rw [hn]; decide), if_pos hw] at this; exact this
theorem cx_mean {σ : hs_St} {K : Int64 → hs_St → Prop} {T : sp_T} {v n w : Int32} (hx : xt 8 σ T) (hk : tk T) (hK : ∀ τ, hs_fr SW σ τ → K (s_mean T v n w) τ) : OkL m_X5_mean [.ref 0, .int v, .int n, .int w] σ K := by
  have h6 := hk.2.1
  have hp2 := pow2 h6
  have hp10 := pow10 h6
  unfold s_mean at hK
  refine vc_X5_mean (cx_within ⟨fun hv => ?_, fun hv => cx_within ⟨fun hn => ?_, fun hn => cx_within ⟨fun hw => ?_, fun hw => ?_⟩⟩⟩)
  · change inr v 0 10 = false at hv
    have := hK σ hs_fr.rf
    rw [if_pos hv] at this; exact this
  · change inr v 0 10 = true at hv
    change inr n 0 60 = false at hn
    have := hK σ hs_fr.rf
    rw [if_neg (by rw [hv]; decide), if_pos hn] at this; exact this
  · change inr v 0 10 = true at hv
    change inr n 0 60 = true at hn
    change inr w 0 1 = true at hw
    rw [if_neg (by rw [hv]; decide), if_neg (by rw [hn]; decide), if_neg (by rw [hw]; decide)] at hK
    obtain ⟨q, hq, rfl⟩ := inr_of (hi := 10) hv
    obtain ⟨j, hj, rfl⟩ := inr_of (hi := 60) hn
    rw [nI_clamp (by omega), nI_clamp (by omega)] at hK
    have loop : ∀ m c (τ : hs_St), 2 ^ T 6 0 - c = m → c ≤ 2 ^ T 6 0 → hs_fr SW σ τ → RnL m_X5_mean 39 [(0, .ref 0), (1, .int (nI q)), (2, .int (nI j)), (3, .int w), (4, .long (lN (a_mean T q j c))), (6, .int (nI c))] [] τ K := by
      intro m
      induction m with
      | zero =>
        intro c τ hm hc hf
        have : c = 2 ^ T 6 0 := by omega
        subst this
        have hx1 : xt 8 τ T := xt_fr hf (by decide) hx
        refine vc_X5_mean_39 ⟨fun _ => ?_, fun h => absurd (by rw [hx1.2.1, sh_cl _ (by omega), il (by omega) (by omega)]; omega) h⟩
        rw [hx1.2.1, nl_10]
        refine cx_power (by omega) ?_
        rw [nI_l (by omega)]
        have := a_mean_le hk hq hj (2 ^ T 6 0)
        exact cx_lowestTerm (by omega) (by omega) (by omega) (hK τ hf)
      | succ m ih =>
        intro c τ hm hc hf
        have hx1 : xt 8 τ T := xt_fr hf (by decide) hx
        refine vc_X5_mean_39 ⟨fun h => ?_, fun _ => ?_⟩
        · rw [hx1.2.1, sh_cl _ (by omega), il (by omega) (by omega)] at h; omega
        · refine cx_goWithout (by omega) (by omega) hx1 hk (fun υ hf2 hw2 => cx_weight hq (by omega) (xt_fr hf2 (by decide) hx1) hk ?_)
          rintro _ rfl
          have hwt := wt_le (ill := c) hq (T 6 0)
          have hth := th_le (ok_ill hk c) j
          rw [hw2.2.2.1]
          change RnL m_X5_mean 39 [(0, .ref 0), (1, .int (nI q)), (2, .int (nI j)), (3, .int w), (4, .long (lN (a_mean T q j c) + (nI (sp_wt q c (T 6 0))).toInt64 * (nI (th (ti T c) j)).toInt64)), (6, .int (nI c + 1))] [] υ K
          rw [nI_1, nI_l (by omega), nI_l (by omega), lN_mul, lN_add]
          exact ih (c + 1) υ (by omega) (by omega) (hf.tr (hf2.up (by decide)))
    rw [nl_0, ll_0]
    exact loop (2 ^ T 6 0) 0 σ (by omega) (by omega) hs_fr.rf
  · change inr v 0 10 = true at hv
    change inr n 0 60 = true at hn
    change inr w 0 1 = false at hw
    have := hK σ hs_fr.rf
    rw [if_neg (by rw [hv]; decide), if_neg (by rw [hn]; decide), if_pos hw] at this; exact this
/-! which sum it is -/
def s_kinds (T : sp_T) (g : Int32) : Int32 := if hgh T g = false then -1 else nI (sp_bits 4 (fun k => sp_so (tb T g.toNatClampNeg k (T 3 g.toNatClampNeg))))
theorem cx_kinds {σ : hs_St} {K : Int32 → hs_St → Prop} {T : sp_T} {g : Int32} (hx : xt 8 σ T) (hk : tk T) (hK : ∀ τ, hs_fr SW σ τ → K (s_kinds T g) τ) : OkI m_X5_kinds [.ref 0, .int g] σ K := by
  have h4 := hk.1
  unfold s_kinds at hK
  refine vc_X5_kinds (cx_hasGhost hx hk ⟨fun hg => ?_, fun hg => ?_⟩)
  · rw [if_neg (by rw [hg]; decide)] at hK
    obtain ⟨i, hi, rfl⟩ := inr_lt hg
    rw [nI_clamp (by omega)] at hK
    have kg := hk.2.2.2.2.1 i hi
    have loop : ∀ m k (τ : hs_St), 4 - k = m → k ≤ 4 → hs_fr SW σ τ → RnI m_X5_kinds 17 [(0, .ref 0), (1, .int (nI i)), (2, .int (nI (sp_bits k (fun k => sp_so (tb T i k (T 3 i)))))), (3, .int (nI k))] [] τ K := by
      intro m
      induction m with
      | zero =>
        intro k τ hm hk4 hf
        have : k = 4 := by omega
        subst this
        exact vc_X5_kinds_17 ⟨fun _ => hK τ hf, fun h => absurd (by rw [nl_3, ilt (by omega) (by omega)]; omega) h⟩
      | succ m ih =>
        intro k τ hm hk4 hf
        have hx1 : xt 8 τ T := xt_fr hf (by decide) hx
        refine vc_X5_kinds_17 ⟨fun h => ?_, fun _ => ⟨vp_in_nI (by omega) (by omega), ?_⟩⟩
        · rw [nl_3, ilt (by omega) (by omega)] at h; omega
        · rw [nI_clamp (by omega), ((xt_8.mp hx1).2.2.2.2.1 i hi).2.2.1]
          refine cx_isAsSeen hi (by omega) kg.2.2.1.1 kg.2.2.1.2 hx1 hk (fun υ hf2 => ⟨fun h => ?_, fun h => ?_⟩)
          · have := ih (k + 1) υ (by omega) (by omega) (hf.tr (hf2.up (by decide)))
            rw [show sp_bits (k + 1) (fun k => sp_so (tb T i k (T 3 i))) = sp_bits k (fun k => sp_so (tb T i k (T 3 i))) by simp [sp_bits, sp_bit, h]] at this
            rw [nI_1]; exact this
          · have := ih (k + 1) υ (by omega) (by omega) (hf.tr (hf2.up (by decide)))
            rw [show sp_bits (k + 1) (fun k => sp_so (tb T i k (T 3 i))) = sp_bits k (fun k => sp_so (tb T i k (T 3 i))) + 2 ^ k by simp [sp_bits, sp_bit, h]] at this
            rintro _ rfl
            rw [nI_1, bit_or k (by omega) _ (bits16 _ (by omega)) (sp_bits_lt _ _)]; exact this
    rw [nl_0]
    exact loop 4 0 σ (by omega) (by omega) hs_fr.rf
  · have := hK σ hs_fr.rf
    rw [if_pos hg] at this; exact this
def sl (P : Nat → Bool) : Nat → Int32
  | 0 => -4
  | b + 1 => if sl P b = -4 ∧ P (b + 1) = true then nI (b + 1) else sl P b
def sg (P : Nat → Bool) : Nat → Int32
  | 0 => -4
  | b + 1 => if P (b + 1) = true then nI (b + 1) else sg P b
def s_second (T : sp_T) (g w : Int32) : Int32 := if hgh T g = false then -1 else if inr w 0 2 = false then -1 else
  if w = 0 then nI (sp_cnt (fun b => sp_so (tb T g.toNatClampNeg (T 1 g.toNatClampNeg) b)) 99) else if w = 1 then sl (fun b => sp_so (tb T g.toNatClampNeg (T 1 g.toNatClampNeg) b)) 99 else sg (fun b => sp_so (tb T g.toNatClampNeg (T 1 g.toNatClampNeg) b)) 99
theorem cx_second {σ : hs_St} {K : Int32 → hs_St → Prop} {T : sp_T} {g w : Int32} (hx : xt 8 σ T) (hk : tk T) (hK : ∀ τ, hs_fr SW σ τ → K (s_second T g w) τ) : OkI m_X5_second [.ref 0, .int g, .int w] σ K := by
  have h4 := hk.1
  unfold s_second at hK
  refine vc_X5_second (cx_hasGhost hx hk ⟨fun hg => ?_, fun hg => cx_within ⟨fun hw => ?_, fun hw => ?_⟩⟩)
  · have := hK σ hs_fr.rf
    rw [if_pos hg] at this; exact this
  · change inr w 0 2 = true at hw
    rw [if_neg (by rw [hg]; decide), if_neg (by rw [hw]; decide)] at hK
    obtain ⟨i, hi, rfl⟩ := inr_lt hg
    rw [nI_clamp (by omega)] at hK
    have kg := hk.2.2.2.2.1 i hi
    generalize hP : (fun b => sp_so (tb T i (T 1 i) b)) = P at hK
    have hPb : ∀ b, sp_so (tb T i (T 1 i) b) = P b := fun b => by rw [← hP]
    have loop : ∀ m b (τ : hs_St), 99 - b = m → b ≤ 99 → hs_fr SW σ τ → RnI m_X5_second 35 [(0, .ref 0), (1, .int (nI i)), (2, .int w), (3, .int (nI (sp_cnt P b))), (4, .int (sl P b)), (5, .int (sg P b)), (6, .int (nI (b + 1)))] [] τ K := by
      intro m
      induction m with
      | zero =>
        intro b τ hm hb hf
        have : b = 99 := by omega
        subst this
        have h2 := hK τ hf
        refine vc_X5_second_35 ⟨fun _ => ⟨fun h0 => ⟨fun h1 => ?_, fun h1 => ?_⟩, fun h0 => ?_⟩, fun h => absurd (by rw [nl_99, ilt (by omega) (by omega)]; omega) h⟩
        · rw [if_neg h0, if_neg h1] at h2; exact h2
        · rw [if_neg h0, if_pos h1] at h2; exact h2
        · rw [if_pos h0] at h2; exact h2
      | succ m ih =>
        intro b τ hm hb hf
        have hx1 : xt 8 τ T := xt_fr hf (by decide) hx
        refine vc_X5_second_35 ⟨fun h => ?_, fun _ => ⟨vp_in_nI (by omega) (by omega), ?_⟩⟩
        · rw [nl_99, ilt (by omega) (by omega)] at h; omega
        · rw [nI_clamp (by omega), ((xt_8.mp hx1).2.2.2.2.1 i hi).1]
          refine cx_isAsSeen hi kg.1 (by omega) (by omega) hx1 hk (fun υ hf2 => ?_)
          rw [hPb]
          have := ih (b + 1) υ (by omega) (by omega) (hf.tr (hf2.up (by decide)))
          refine ⟨fun h => ?_, fun h => ⟨fun h5 => ?_, fun h5 => ?_⟩⟩
          · rw [sp_cnt, sl, sg, if_neg (by rw [h]; decide), if_neg (by rw [h]; simp), if_neg (by rw [h]; decide), Nat.add_zero] at this
            rw [nI_1]; exact this
          · rw [sp_cnt, sl, sg, if_pos h, if_neg (fun z => h5 z.1), if_pos h] at this
            rw [nI_1, nI_1]; exact this
          · rw [sp_cnt, sl, sg, if_pos h, if_pos ⟨h5, h⟩, if_pos h] at this
            rw [nI_1, nI_1]; exact this
    rw [nl_0, nl_1]
    exact loop 99 0 σ (by omega) (by omega) hs_fr.rf
  · change inr w 0 2 = false at hw
    have := hK σ hs_fr.rf
    rw [if_neg (by rw [hg]; decide), if_pos hw] at this; exact this
def f_look (T : sp_T) (g n : Nat) : Int32 := nI (sp_wm (fun r => sp_cnt (sp_by T g n r) 99) 6)
def s_look (T : sp_T) (g w : Int32) : Int32 := if hgh T g = false then -1 else if inr w 0 1 = false then -1 else
  pick (ls (f_look T g.toNatClampNeg) (fun _ => true) (nI (sp_cnt (fun b => sp_so (tb T g.toNatClampNeg (T 1 g.toNatClampNeg) b)) 99)) 21) w
theorem cx_look {σ : hs_St} {K : Int32 → hs_St → Prop} {T : sp_T} {g w : Int32} (hx : xt 8 σ T) (hk : tk T) (hK : ∀ τ, hs_fr SW σ τ → K (s_look T g w) τ) : OkI m_X5_look [.ref 0, .int g, .int w] σ K := by
  have h4 := hk.1
  unfold s_look at hK
  refine vc_X5_look (cx_hasGhost hx hk ⟨fun hg => ?_, fun hg => cx_within ⟨fun hw => ?_, fun hw => ?_⟩⟩)
  · have := hK σ hs_fr.rf
    rw [if_pos hg] at this; exact this
  · change inr w 0 1 = true at hw
    rw [if_neg (by rw [hg]; decide), if_neg (by rw [hw]; decide)] at hK
    obtain ⟨i, hi, rfl⟩ := inr_lt hg
    rw [nI_clamp (by omega)] at hK
    refine cx_tallyRooms hi hx hk (fun τ hf h62 => ?_)
    have h2 := hK τ hf
    generalize nI (sp_cnt (fun b => sp_so (tb T i (T 1 i) b)) 99) = mm at h2 ⊢
    have loop : ∀ m n, 21 - n = m → n ≤ 21 → RnI m_X5_look 35 [(0, .ref 0), (1, .int (nI i)), (2, .int w), (3, .int (ls (f_look T i) (fun _ => true) mm n).2), (4, .int (ls (f_look T i) (fun _ => true) mm n).1), (5, .int (nI n))] [] τ K := by
      intro m
      induction m with
      | zero =>
        intro n hm hn
        have : n = 21 := by omega
        subst this
        unfold pick at h2
        refine vc_X5_look_35 ⟨fun _ => ⟨fun h => ?_, fun h => ⟨fun h0 => ?_, fun h0 => ?_⟩⟩, fun h => absurd (by rw [nl_20, ilt (by omega) (by omega)]; omega) h⟩
        · rw [if_pos h] at h2; rw [h]; exact h2
        · rw [if_neg h, if_neg h0] at h2; exact h2
        · rw [if_neg h, if_pos h0] at h2; exact h2
      | succ m ih =>
        intro n hm hn
        have := ih (n + 1) (by omega) (by omega)
        refine vc_X5_look_35 ⟨fun h => ?_, fun _ => ?_⟩
        · rw [nl_20, ilt (by omega) (by omega)] at h; omega
        · refine cx_worstBehind (by omega) (fun r => sp_cnt (sp_by T i n r) 99) (fun r => by have := sp_cnt_le (sp_by T i n r) 99; omega) (fun r hr => h62 n r (by omega) hr) ⟨fun h => ?_, fun h => ?_⟩
          · rw [ls, if_neg (fun z => nle.mpr z.2 h)] at this
            rw [nI_1]; exact this
          · rw [ls, if_pos ⟨rfl, nle.mp h⟩] at this
            rw [nI_1]; exact this
    rw [nl_0]
    exact loop 21 0 (by omega) (by omega)
  · change inr w 0 1 = false at hw
    have := hK σ hs_fr.rf
    rw [if_neg (by rw [hg]; decide), if_pos hw] at this; exact this
