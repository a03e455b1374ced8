/-! the class's public methods that change nothing: first the town's own -/
abbrev SW : List Nat := [1, 2, 3, 4, 5, 6, 7, 62]
theorem inr_lt {x : Int32} {n : Nat} (h : inr x 0 ((n : Int) - 1) = true) : ∃ j : Nat, j < n ∧ x = nI j := by
  simp only [inr, decide_eq_true_eq] at h
  obtain ⟨j, hj, rfl⟩ := nI_of (x := x) (by rw [Int32.lt_iff_toInt_lt]; simp; omega)
  exact ⟨j, by have h1 := nI_toInt hj; rw [h1] at h; omega, rfl⟩
theorem sub1 {a : Nat} (h : a < 1073741824) : (nI a - 1).toInt = (a : Int) - 1 := by rw [nl_1, pk_sub_toInt h (by decide)]; rfl
def hgh (T : sp_T) (g : Int32) : Bool := inr g 0 ((T 0 0 : Nat) - 1 : Int)
def hck (T : sp_T) (c : Int32) : Bool := inr c 0 ((T 6 0 : Nat) - 1 : Int)
theorem cx_hasGhost {σ : hs_St} {K : Bool → hs_St → Prop} {T : sp_T} {g : Int32} (hx : xt 8 σ T) (hk : tk T) (hK : K (hgh T g) σ) : OkB m_X3_hasGhost [.ref 8, .int g] σ K := by
  refine vc_X3_hasGhost_8 (cx_within ?_)
  rw [hx.1, sub1 (by have := hk.1; omega)]
  exact hK
theorem cx_hasClerk {σ : hs_St} {K : Bool → hs_St → Prop} {T : sp_T} {c : Int32} (hx : xt 8 σ T) (hk : tk T) (hK : K (hck T c) σ) : OkB m_X3_hasClerk [.ref 8, .int c] σ K := by
  refine vc_X3_hasClerk_8 (cx_within ?_)
  rw [hx.2.1, sub1 (by have := hk.2.1; omega)]
  exact hK
theorem cx_answer {σ : hs_St} {K : Int32 → hs_St → Prop} {T : sp_T} {g : Nat} (hg : g < T 0 0) (hx : xt 8 σ T) (hk : tk T) (hK : K (nI (ta T g)) σ) : OkI m_X3_answer [.ref 8, .int (nI g)] σ K := by
  have xg := (xt_8.mp hx).2.2.2.2.1 g hg
  have kg := hk.2.2.2.2.1 g hg
  have h4 := hk.1
  refine vc_X3_answer ⟨vp_in_nI (by omega) (by omega), ?_⟩
  rw [nI_clamp (by omega), xg.1, xg.2.1, xg.2.2.1]
  exact cx_answerOf kg.1 kg.2.1.2 kg.2.2.1.2 kg.2.2.1.1 hK
theorem cx_steps {σ : hs_St} {K : Int32 → hs_St → Prop} {T : sp_T} {g : Nat} (hg : g < T 0 0) (hx : xt 8 σ T) (hk : tk T) (hK : K (nI (ts T g)) σ) : OkI m_X3_steps [.ref 8, .int (nI g)] σ K := by
  have xg := (xt_8.mp hx).2.2.2.2.1 g hg
  have kg := hk.2.2.2.2.1 g hg
  have h4 := hk.1
  refine vc_X3_steps ⟨vp_in_nI (by omega) (by omega), cx_answer hg hx hk ?_⟩
  rw [nI_clamp (by omega), xg.1]
  exact cx_stepsOf kg.1 (ta_lt hk hg) hK
theorem cx_left {σ : hs_St} {K : Int32 → hs_St → Prop} {T : sp_T} {g : Nat} (hg : g < T 0 0) (hx : xt 8 σ T) (hk : tk T) (hK : K (nI (ts T g - T 5 g)) σ) : OkI m_X3_left [.ref 8, .int (nI g)] σ K := by
  have xg := (xt_8.mp hx).2.2.2.2.1 g hg
  have kg := hk.2.2.2.2.1 g hg
  have h4 := hk.1
  have h8 := ts_in T g
  refine vc_X3_left (cx_steps hg hx hk ⟨vp_in_nI (by omega) (by omega), ?_⟩)
  rw [nI_clamp (by omega), xg.2.2.2.2, mx0 (by omega) (by omega)]
  exact hK
def tc (T : sp_T) (g : Nat) : Nat := sp_sv 4 (T 2 g) + sp_sv 4 (T 3 g) + sp_sv 4 (ta T g)
theorem cx_creaks {σ : hs_St} {K : Int32 → hs_St → Prop} {T : sp_T} {g : Nat} (hg : g < T 0 0) (hx : xt 8 σ T) (hk : tk T) (hK : K (nI (tc T g)) σ) : OkI m_X3_creaks [.ref 8, .int (nI g)] σ K := by
  have xg := (xt_8.mp hx).2.2.2.2.1 g hg
  have kg := hk.2.2.2.2.1 g hg
  have h4 := hk.1
  refine vc_X3_creaks ⟨vp_in_nI (by omega) (by omega), ?_⟩
  rw [nI_clamp (by omega), xg.2.1]
  refine cx_sevensOf (by omega) ?_
  rw [xg.2.2.1]
  refine cx_sevensOf (by omega) (cx_answer hg hx hk (cx_sevensOf (ta_lt hk hg) ?_))
  rw [nI_add, nI_add]
  exact hK
theorem cx_creaksOfAll {σ : hs_St} {K : Int32 → hs_St → Prop} {T : sp_T} (hx : xt 8 σ T) (hk : tk T) (hK : K (nI (sp_sum (T 0 0) (tc T))) σ) : OkI m_X3_creaksOfAll [.ref 8] σ K := by
  have h4 := hk.1
  have loop : ∀ m i, T 0 0 - i = m → i ≤ T 0 0 → RnI m_X3_creaksOfAll 4 [(0, .ref 8), (1, .int (nI (sp_sum i (tc T)))), (2, .int (nI i))] [] σ K := by
    intro m
    induction m with
    | zero =>
      intro i hm hi
      have : i = T 0 0 := by omega
      subst this
      exact vc_X3_creaksOfAll_4 ⟨fun _ => hK, fun h => absurd (by rw [hx.1, il (by omega) (by omega)]; omega) h⟩
    | succ m ih =>
      intro i hm hi
      refine vc_X3_creaksOfAll_4 ⟨fun h => ?_, fun _ => cx_creaks (T := T) (by omega) hx hk ?_⟩
      · rw [hx.1, il (by omega) (by omega)] at h; omega
      · rintro _ rfl
        rw [nI_add, nI_1]
        exact ih (i + 1) (by omega) (by omega)
  refine vc_X3_creaksOfAll ?_
  rw [nl_0]
  exact loop (T 0 0) 0 (by omega) (by omega)
theorem cx_skillOfAll {σ : hs_St} {K : Int32 → hs_St → Prop} {T : sp_T} (hx : xt 8 σ T) (hk : tk T) (hK : K (nI (sp_sum (T 6 0) (T 8))) σ) : OkI m_X3_skillOfAll [.ref 8] σ K := by
  have h4 := hk.2.1
  have loop : ∀ m i, T 6 0 - i = m → i ≤ T 6 0 → RnI m_X3_skillOfAll 4 [(0, .ref 8), (1, .int (nI (sp_sum i (T 8)))), (2, .int (nI i))] [] σ K := by
    intro m
    induction m with
    | zero =>
      intro i hm hi
      have : i = T 6 0 := by omega
      subst this
      exact vc_X3_skillOfAll_4 ⟨fun _ => hK, fun h => absurd (by rw [hx.2.1, il (by omega) (by omega)]; omega) h⟩
    | succ m ih =>
      intro i hm hi
      refine vc_X3_skillOfAll_4 ⟨fun h => ?_, fun _ => ⟨vp_in_nI (by omega) (by omega), ?_⟩⟩
      · rw [hx.2.1, il (by omega) (by omega)] at h; omega
      · rintro _ rfl
        rw [nI_clamp (by omega), ((xt_8.mp hx).2.2.2.2.2.1 i (by omega)).2, nI_add, nI_1]
        exact ih (i + 1) (by omega) (by omega)
  refine vc_X3_skillOfAll ?_
  rw [nl_0]
  exact loop (T 6 0) 0 (by omega) (by omega)
/-! rule, ghost, clerk -/
def s_rule (T : sp_T) (w : Int32) : Int32 :=
  if w.toInt = 0 then nI (T 0 0) else if w.toInt = 1 then nI (T 6 0) else if w.toInt = 2 then nI (T 9 0) else if w.toInt = 3 then nI (sp_bits (T 0 0) (sp_rs (tp T) (tw T))) else if w.toInt = 4 then nI (sp_sum (T 0 0) (fun g => ts T g - T 5 g)) else if w.toInt = 5 then nI (sp_sum (T 0 0) (tc T)) else -1
theorem cx_rule {σ : hs_St} {K : Int32 → hs_St → Prop} {T : sp_T} {w : Int32} (hx : xt 8 σ T) (hk : tk T) (hK : ∀ τ, hs_fr SW σ τ → K (s_rule T w) τ) : OkI m_X5_rule [.ref 0, .int w] σ K := by
  refine vc_X5_rule ⟨fun h => ?_, fun h => ?_, fun h => ?_, fun h => ?_, fun h => ?_, fun h => ?_, fun h => ?_⟩
  · have := hK σ hs_fr.rf
    rw [hx.1]; simpa [s_rule, h] using this
  · have := hK σ hs_fr.rf
    rw [hx.2.1]; simpa [s_rule, h] using this
  · have := hK σ hs_fr.rf
    rw [hx.2.2.1]; simpa [s_rule, h] using this
  · refine cx_begin hx hk (fun τ hf hw => cx_resting hw (tk_ok hk) ?_)
    have := hK τ (hf.up (by decide))
    simp only [s_rule, h] at this
    exact this
  · refine cx_begin hx hk (fun τ hf hw => cx_leftOfAll hw (tk_ok hk) ?_)
    have := hK τ (hf.up (by decide))
    simp only [s_rule, h] at this
    exact this
  · refine cx_creaksOfAll hx hk ?_
    have := hK σ hs_fr.rf
    simp only [s_rule, h] at this
    exact this
  · have := hK σ hs_fr.rf
    unfold s_rule at this
    rw [if_neg (by omega), if_neg (by omega), if_neg (by omega), if_neg (by omega), if_neg (by omega), if_neg (by omega)] at this
    exact this
def s_ghost (T : sp_T) (g w : Int32) : Int32 :=
  if hgh T g = false then -1 else
  if w.toInt = 0 then nI (T 1 g.toNatClampNeg) else if w.toInt = 1 then nI (T 2 g.toNatClampNeg) else if w.toInt = 2 then nI (T 3 g.toNatClampNeg) else if w.toInt = 3 then nI (T 4 g.toNatClampNeg) else if w.toInt = 4 then nI (T 5 g.toNatClampNeg) else
  if w.toInt = 5 then nI (ta T g.toNatClampNeg) else if w.toInt = 6 then nI (ts T g.toNatClampNeg) else if w.toInt = 7 then nI (ts T g.toNatClampNeg - T 5 g.toNatClampNeg) else if w.toInt = 8 then nI (ta T g.toNatClampNeg % 6) else if w.toInt = 9 then nI (tc T g.toNatClampNeg) else -1
/-- what is told of a ghost: places 1 to 5 of the table -/
theorem cx_told {σ : hs_St} {K : Int32 → hs_St → Prop} {T : sp_T} {g : Nat} {w : Int32} (hw : 0 ≤ w.toInt) (hw4 : w.toInt ≤ 4) (hg : g < T 0 0) (hx : xt 8 σ T) (hk : tk T) (hK : K (nI (T (w.toInt.toNat + 1) g)) σ) : OkI m_X3_told [.ref 8, .int (nI g), .int w] σ K := by
  have xg := (xt_8.mp hx).2.2.2.2.1 g hg
  have h4 := hk.1
  refine vc_X3_told ⟨fun h => ⟨vp_in_nI (by omega) (by omega), ?_⟩, fun h => ⟨vp_in_nI (by omega) (by omega), ?_⟩, fun h => ⟨vp_in_nI (by omega) (by omega), ?_⟩, fun h => ⟨vp_in_nI (by omega) (by omega), ?_⟩, fun h => ⟨vp_in_nI (by omega) (by omega), ?_⟩⟩
  · rw [nI_clamp (by omega), xg.1]; rw [h] at hK; exact hK
  · rw [nI_clamp (by omega), xg.2.1]; rw [h] at hK; exact hK
  · rw [nI_clamp (by omega), xg.2.2.1]; rw [h] at hK; exact hK
  · rw [nI_clamp (by omega), xg.2.2.2.1]; rw [h] at hK; exact hK
  · rw [nI_clamp (by omega), xg.2.2.2.2]; rw [show w.toInt = 4 by omega] at hK; exact hK
theorem cx_ghost {σ : hs_St} {K : Int32 → hs_St → Prop} {T : sp_T} {g w : Int32} (hx : xt 8 σ T) (hk : tk T) (hK : K (s_ghost T g w) σ) : OkI m_X5_ghost [.ref 0, .int g, .int w] σ K := by
  refine vc_X5_ghost (cx_hasGhost hx hk ⟨fun hg => ?_, fun hg => ?_⟩)
  · obtain ⟨j, hj, rfl⟩ := inr_lt hg
    have h4 := hk.1
    have e : (nI j).toNatClampNeg = j := nI_clamp (by omega)
    unfold s_ghost at hK
    rw [if_neg (by rw [hg]; decide), e] at hK
    refine ⟨fun h => ?_, fun h => ?_, fun h => ?_, fun h => ?_, fun h => ?_, fun h => ?_, fun h => ?_, fun h => ?_, fun h => ?_, fun h => ?_, fun h => ?_⟩
    · exact cx_told (by omega) (by omega) hj hx hk (by rw [h]; simpa [h] using hK)
    · exact cx_told (by omega) (by omega) hj hx hk (by rw [h]; simpa [h] using hK)
    · exact cx_told (by omega) (by omega) hj hx hk (by rw [h]; simpa [h] using hK)
    · exact cx_told (by omega) (by omega) hj hx hk (by rw [h]; simpa [h] using hK)
    · exact cx_told (by omega) (by omega) hj hx hk (by rw [h]; simpa [h] using hK)
    · exact cx_answer hj hx hk (by simpa [h] using hK)
    · exact cx_steps hj hx hk (by simpa [h] using hK)
    · exact cx_left hj hx hk (by simpa [h] using hK)
    · refine cx_answer hj hx hk ?_
      have := ta_lt hk hj
      rw [nl_6, irem (by omega) (by omega) (by omega)]
      simpa [h] using hK
    · exact cx_creaks hj hx hk (by simpa [h] using hK)
    · rw [if_neg (by omega), if_neg (by omega), if_neg (by omega), if_neg (by omega), if_neg (by omega), if_neg (by omega), if_neg (by omega), if_neg (by omega), if_neg (by omega), if_neg (by omega)] at hK
      exact hK
  · unfold s_ghost at hK
    rw [if_pos hg] at hK; exact hK
def s_clerk (T : sp_T) (c w : Int32) : Int32 := if hck T c = false then -1 else if inr w 0 1 = false then -1 else if w = 0 then nI (T 7 c.toNatClampNeg) else nI (T 8 c.toNatClampNeg)
theorem cx_clerk {σ : hs_St} {K : Int32 → hs_St → Prop} {T : sp_T} {c w : Int32} (hx : xt 8 σ T) (hk : tk T) (hK : K (s_clerk T c w) σ) : OkI m_X5_clerk [.ref 0, .int c, .int w] σ K := by
  unfold s_clerk at hK
  refine vc_X5_clerk (cx_hasClerk hx hk ⟨fun hg => ?_, fun hg => cx_within ⟨fun hw => ?_, fun hw => ?_⟩⟩)
  · rw [if_pos hg] at hK; exact hK
  · change inr w 0 1 = true at hw
    obtain ⟨j, hj, rfl⟩ := inr_lt hg
    have h3 := hk.2.1
    have xc := (xt_8.mp hx).2.2.2.2.2.1 j hj
    rw [if_neg (by rw [hg]; decide), if_neg (by rw [hw]; decide), nI_clamp (by omega)] at hK
    refine ⟨fun h => ⟨vp_in_nI (by omega) (by omega), ?_⟩, fun h => ⟨vp_in_nI (by omega) (by omega), ?_⟩⟩
    · rw [nI_clamp (by omega), xc.2]; rw [if_neg h] at hK; exact hK
    · rw [nI_clamp (by omega), xc.1]; rw [if_pos h] at hK; exact hK
  · change inr w 0 1 = false at hw
    rw [if_neg (by rw [hg]; decide), if_pos hw] at hK; exact hK
/-! nights ahead -/
theorem bits_at (f : Nat → Bool) : ∀ n g, g < n → (sp_bits n f).testBit g = f g
  | 0, g, h => by omega
  | n + 1, g, h => by
    have hl := sp_bits_lt f n
    by_cases e : g = n
    · subst e
      simp only [sp_bits, sp_bit]
      cases hf : f g with
      | false => simp [Nat.testBit_lt_two_pow hl]
      | true => rw [if_pos rfl, Nat.add_comm, Nat.testBit_two_pow_add_eq, Nat.testBit_lt_two_pow hl]; rfl
    · have ih := bits_at f n g (by omega)
      simp only [sp_bits, sp_bit]
      cases hf : f n with
      | false => simpa using ih
      | true => rw [if_pos rfl, Nat.add_comm, Nat.testBit_two_pow_add_gt (by omega)]; exact ih
theorem bit_and : ∀ x, x < 16 → ∀ g, g < 4 → ((nI x &&& ((1 : Int32) <<< (nI g &&& 31))) = ((1 : Int32) <<< (nI g &&& 31)) ↔ x.testBit g = true) := by decide +kernel
theorem bit_all : ∀ n, n < 5 → ∀ x, x < 16 → x < 2 ^ n → ((nI x &&& (((1 : Int32) <<< (nI n &&& 31)) - 1)) = (((1 : Int32) <<< (nI n &&& 31)) - 1) ↔ x + 1 = 2 ^ n) := by decide +kernel
theorem bits_full (f : Nat → Bool) : ∀ n, (sp_bits n f + 1 = 2 ^ n ↔ ∀ g, g < n → f g = true)
  | 0 => by simp [sp_bits]
  | n + 1 => by
    have hl := sp_bits_lt f n
    have ih := bits_full f n
    simp only [sp_bits, sp_bit, Nat.pow_succ]
    constructor
    · intro h g hg
      cases hf : f n with
      | false => rw [hf] at h; simp at h; omega
      | true =>
        rw [hf] at h; simp at h
        by_cases e : g = n
        · subst e; exact hf
        · exact ih.mp (by omega) g (by omega)
    · intro h
      rw [h n (by omega)]
      have := ih.mpr (fun g hg => h g (by omega))
      simp; omega
theorem bits16 {n : Nat} (f : Nat → Bool) (h : n ≤ 4) : sp_bits n f < 16 := Nat.lt_of_lt_of_le (sp_bits_lt f n) (Nat.le_trans (Nat.pow_le_pow_right (by omega) h) (by decide))
def q_rest (T : sp_T) (g n : Nat) : Bool := sp_rs (tp T) (tr T n) g
def q_all (T : sp_T) (n : Nat) : Bool := decide (∀ g, g < T 0 0 → sp_rs (tp T) (tr T n) g = true)
def s_rests (T : sp_T) (g : Int32) : Int32 := if hgh T g = false then -1 else sp_when (q_rest T g.toNatClampNeg) 60
theorem cx_rests {σ : hs_St} {K : Int32 → hs_St → Prop} {T : sp_T} {g : Int32} (hx : xt 8 σ T) (hk : tk T) (hK : ∀ τ, hs_fr SW σ τ → K (s_rests T g) τ) : OkI m_X5_rests [.ref 0, .int g] σ K := by
  refine vc_X5_rests (cx_hasGhost hx hk ⟨fun hg => ?_, fun hg => ?_⟩)
  · obtain ⟨j, hj, rfl⟩ := inr_lt hg
    have h4 := hk.1
    refine cx_begin hx hk (fun τ hf hw => ?_)
    rw [nl_60]
    refine cx_tillRest (q_rest T j) (by omega) hw (tk_ok hk) (fun n => ?_) (fun υ hf2 => ?_)
    · show (nI (sp_bits (T 0 0) (sp_rs (tp T) (tr T n))) &&& _) = _ ↔ _
      rw [bit_and _ (bits16 _ h4) j (by omega), bits_at _ _ _ hj]; rfl
    · have := hK υ ((hf.up (by decide)).tr (hf2.up (by decide)))
      unfold s_rests at this
      rw [if_neg (by rw [hg]; decide), nI_clamp (by omega)] at this; exact this
  · have := hK σ hs_fr.rf
    unfold s_rests at this
    rw [if_pos hg] at this; exact this
def s_runs (T : sp_T) (n w : Int32) : Int32 := if inr n 0 60 = false then -1 else if inr w 0 3 = false then -1 else
  if w = 0 then nI (th T n.toNatClampNeg) else if w = 1 then nI (sp_bits (T 0 0) (sp_rs (tp T) (tr T n.toNatClampNeg))) else if w = 2 then nI (sp_sum (T 0 0) (fun g => ts T g - (tr T n.toNatClampNeg).2.1 g)) else sp_when (q_all T) n.toNatClampNeg
theorem cx_runs {σ : hs_St} {K : Int32 → hs_St → Prop} {T : sp_T} {n w : Int32} (hx : xt 8 σ T) (hk : tk T) (hK : ∀ τ, hs_fr SW σ τ → K (s_runs T n w) τ) : OkI m_X5_runs [.ref 0, .int n, .int w] σ K := by
  have h4 := hk.1
  unfold s_runs at hK
  refine vc_X5_runs (cx_within ⟨fun hn => ?_, fun hn => cx_within ⟨fun hw => ?_, fun hw => ?_⟩⟩)
  · change inr n 0 60 = false at hn
    have := hK σ hs_fr.rf
    rw [if_pos hn] at this; exact this
  · change inr n 0 60 = true at hn
    change inr w 0 3 = true at hw
    rw [if_neg (by rw [hn]; decide), if_neg (by rw [hw]; decide)] at hK
    obtain ⟨j, hj, rfl⟩ := inr_of (hi := 60) hn
    obtain ⟨v, hv, rfl⟩ := inr_of (hi := 3) hw
    rw [nI_clamp (by omega)] at hK
    refine cx_begin hx hk (fun τ hf hw1 => ⟨fun h3 => ?_, fun h3 => ?_⟩)
    · refine cx_go (by omega) hw1 (tk_ok hk) (fun υ hf2 hw2 => ⟨fun h0 => ⟨fun h1 => ?_, fun h1 => ?_⟩, fun h0 => ?_⟩)
      · refine cx_leftOfAll hw2 (sp_ok_run (tk_ok hk) j) ?_
        have := hK υ ((hf.up (by decide)).tr (hf2.up (by decide)))
        have e2 : nI v = 2 := by
          rw [nl_0, ieq (by omega) (by omega)] at h0
          rw [nl_1, ieq (by omega) (by omega)] at h1
          rw [nl_3, ieq (by omega) (by omega)] at h3
          rw [nl_2, ieq (by omega) (by omega)]; omega
        rw [if_neg h0, if_neg h1, if_pos e2] at this; exact this
      · refine cx_resting hw2 (sp_ok_run (tk_ok hk) j) ?_
        have := hK υ ((hf.up (by decide)).tr (hf2.up (by decide)))
        rw [if_neg h0, if_pos h1] at this; exact this
      · have := hK υ ((hf.up (by decide)).tr (hf2.up (by decide)))
        rw [if_pos h0] at this
        rw [hw2.2.2.1]; exact this
    · rw [hf.2 8 (by decide), hx.1]
      refine cx_tillRest (q_all T) (by omega) hw1 (tk_ok hk) (fun m => ?_) (fun υ hf2 => ?_)
      · show (nI (sp_bits (T 0 0) (sp_rs (tp T) (tr T m))) &&& _) = _ ↔ _
        rw [bit_all _ (by omega) _ (bits16 _ h4) (sp_bits_lt _ _), bits_full, q_all, decide_eq_true_eq]
      · have := hK υ ((hf.up (by decide)).tr (hf2.up (by decide)))
        rw [nl_3, ieq (by omega) (by omega)] at h3
        subst h3
        rw [if_neg (by decide), if_neg (by decide), if_neg (by decide)] at this; exact this
  · change inr n 0 60 = true at hn
    change inr w 0 3 = false at hw
    have := hK σ hs_fr.rf
    rw [if_neg (by rw [hn]; decide), if_pos hw] at this; exact this
def s_ahead (T : sp_T) (g n w : Int32) : Int32 := if hgh T g = false then -1 else if inr n 0 60 = false then -1 else if inr w 0 1 = false then -1 else
  if w = 0 then nI ((tr T n.toNatClampNeg).1 g.toNatClampNeg) else nI (ts T g.toNatClampNeg - (tr T n.toNatClampNeg).2.1 g.toNatClampNeg)
theorem cx_ahead {σ : hs_St} {K : Int32 → hs_St → Prop} {T : sp_T} {g n w : Int32} (hx : xt 8 σ T) (hk : tk T) (hK : ∀ τ, hs_fr SW σ τ → K (s_ahead T g n w) τ) : OkI m_X5_ahead [.ref 0, .int g, .int n, .int w] σ K := by
  have h4 := hk.1
  unfold s_ahead at hK
  refine vc_X5_ahead (cx_hasGhost hx hk ⟨fun hg => ?_, fun hg => cx_within ⟨fun hn => ?_, fun hn => cx_within ⟨fun hw => ?_, fun hw => ?_⟩⟩⟩)
  · have := hK σ hs_fr.rf
    rw [if_pos hg] at this; exact this
  · change inr n 0 60 = false at hn
    have := hK σ hs_fr.rf
    rw [if_neg (by rw [hg]; decide), if_pos hn] at this; exact this
  · change inr n 0 60 = true at hn
    change inr w 0 1 = true at hw
    rw [if_neg (by rw [hg]; decide), if_neg (by rw [hn]; decide), if_neg (by rw [hw]; decide)] at hK
    obtain ⟨i, hi, rfl⟩ := inr_lt hg
    obtain ⟨j, hj, rfl⟩ := inr_of (hi := 60) hn
    rw [nI_clamp (by omega), nI_clamp (by omega)] at hK
    refine cx_walkFromNow (by omega) hx hk (fun τ hf hw2 => ⟨fun h0 => ⟨vp_in_nI (by omega) (by omega), ?_⟩, fun h0 => ⟨vp_in_nI (by omega) (by omega), ?_⟩⟩)
    · have := hK τ (hf.up (by decide))
      rw [if_neg h0] at this
      rw [nI_clamp (by omega), (hw2.2.2.2.1 i hi).2.1]; exact this
    · have := hK τ (hf.up (by decide))
      rw [if_pos h0] at this
      rw [nI_clamp (by omega), (hw2.2.2.2.1 i hi).1]; exact this
  · change inr n 0 60 = true at hn
    change inr w 0 1 = false at hw
    have := hK σ hs_fr.rf
    rw [if_neg (by rw [hg]; decide), if_neg (by rw [hn]; decide), if_pos hw] at this; exact this
def q_meet (T : sp_T) (g c n : Nat) : Bool := decide ((tr T n).2.1 g < ts T g ∧ (tr T n).1 g = T 7 c)
def s_meets (T : sp_T) (g c : Int32) : Int32 := if hgh T g = false then -1 else if hck T c = false then -1 else sp_when (q_meet T g.toNatClampNeg c.toNatClampNeg) 60
theorem cx_meets {σ : hs_St} {K : Int32 → hs_St → Prop} {T : sp_T} {g c : Int32} (hx : xt 8 σ T) (hk : tk T) (hK : ∀ τ, hs_fr SW σ τ → K (s_meets T g c) τ) : OkI m_X5_meets [.ref 0, .int g, .int c] σ K := by
  have h4 := hk.1
  have h6 := hk.2.1
  unfold s_meets at hK
  refine vc_X5_meets (cx_hasGhost hx hk ⟨fun hg => ?_, fun hg => cx_hasClerk hx hk ⟨fun hc => ?_, fun hc => ?_⟩⟩)
  · have := hK σ hs_fr.rf
    rw [if_pos hg] at this; exact this
  · rw [if_neg (by rw [hg]; decide), if_neg (by rw [hc]; decide)] at hK
    obtain ⟨i, hi, rfl⟩ := inr_lt hg
    obtain ⟨j, hj, rfl⟩ := inr_lt hc
    rw [nI_clamp (by omega), nI_clamp (by omega)] at hK
    have loop : ∀ m n (τ : hs_St), 61 - n = m → n ≤ 61 → hs_fr SW σ τ → xw τ (tp T) (tr T n) → sp_f (q_meet T i j) m n = sp_f (q_meet T i j) 61 0 → RnI m_X5_meets 37 [(0, .ref 0), (1, .int (nI i)), (2, .int (nI j)), (3, .int (nI n))] [] τ K := by
      intro m
      induction m with
      | zero =>
        intro n τ hm hn hf hw hq
        have : n = 61 := by omega
        subst this
        refine vc_X5_meets_37 ⟨fun _ => ?_, fun h => absurd (by rw [nl_60, ilt (by omega) (by omega)]; omega) h⟩
        have := hK τ hf
        rw [sp_when, ← hq, sp_f, if_neg (by omega)] at this; exact this
      | succ m ih =>
        intro n τ hm hn hf hw hq
        have hwi := hw.2.2.2.1 i hi
        have hcj := hw.2.2.2.2.1 j hj
        have hoi := (sp_ok_run (tk_ok hk) n).2.2.1 i hi
        have koj := (hk.2.2.2.2.2.1 j hj).1
        change _ ∧ _ ∧ (tr T n).1 i < 6 at hoi
        change τ.1 2 i = nI ((tr T n).1 i) ∧ τ.1 3 i = nI (ts T i - (tr T n).2.1 i) ∧ _ at hwi
        change τ.1 5 j = nI (T 7 j) ∧ _ at hcj
        have h8 := ts_in T i
        have next : q_meet T i j n = false → ∀ υ : hs_St, hs_fr [1, 2, 3, 7] τ υ → xw υ (tp T) (sp_night (tp T) (tr T n)) → RnI m_X5_meets 37 [(0, .ref 0), (1, .int (nI i)), (2, .int (nI j)), (3, .int (nI n + 1))] [] υ K := by
          intro hqn υ hf2 hw2
          rw [nI_1]
          exact ih (n + 1) υ (by omega) (by omega) (hf.tr (hf2.up (by decide))) hw2 (by rw [← hq, sp_f, if_neg (by rw [hqn]; decide)])
        refine vc_X5_meets_37 ⟨fun h => ?_, fun _ => ⟨vp_in_nI (by omega) (by omega), fun h => ?_, fun h => ⟨vp_in_nI (by omega) (by omega), fun h2 => ?_, fun h2 => ?_⟩⟩⟩
        · rw [nl_60, ilt (by omega) (by omega)] at h; omega
        · rw [nI_clamp (by omega), hwi.2.1, nl_0, il (by omega) (by omega)] at h
          exact cx_night hw (sp_ok_run (tk_ok hk) n) (next (decide_eq_false (by omega)))
        · rw [nI_clamp (by omega), nI_clamp (by omega), hwi.1, hcj.1, ieq (by omega) (by omega)] at h2
          exact cx_night hw (sp_ok_run (tk_ok hk) n) (next (decide_eq_false (by omega)))
        · rw [nI_clamp (by omega), hwi.2.1, nl_0, il (by omega) (by omega)] at h
          rw [nI_clamp (by omega), nI_clamp (by omega), hwi.1, hcj.1, ieq (by omega) (by omega)] at h2
          have := hK τ hf
          have e : sp_f (q_meet T i j) 61 0 = n := by rw [← hq, sp_f, if_pos]; exact decide_eq_true (by omega)
          rw [sp_when, e, if_pos (by omega)] at this; exact this
    refine cx_begin hx hk (fun τ hf hw => ?_)
    rw [nl_0]
    exact loop 61 0 τ (by omega) (by omega) (hf.up (by decide)) hw rfl
  · have := hK σ hs_fr.rf
    rw [if_neg (by rw [hg]; decide), if_pos hc] at this; exact this
def s_harm (T : sp_T) (r n : Int32) : Int32 := if inr r 0 5 = false then -1 else if inr n 0 60 = false then -1 else nI ((tr T n.toNatClampNeg).2.2 r.toNatClampNeg)
theorem cx_harm {σ : hs_St} {K : Int32 → hs_St → Prop} {T : sp_T} {r n : Int32} (hx : xt 8 σ T) (hk : tk T) (hK : ∀ τ, hs_fr SW σ τ → K (s_harm T r n) τ) : OkI m_X5_harm [.ref 0, .int r, .int n] σ K := by
  unfold s_harm at hK
  refine vc_X5_harm (cx_isRoom ⟨fun hr => ?_, fun hr => cx_within ⟨fun hn => ?_, fun hn => ?_⟩⟩)
  · have := hK σ hs_fr.rf
    rw [if_pos hr] at this; exact this
  · change inr n 0 60 = true at hn
    rw [if_neg (by rw [hr]; decide), if_neg (by rw [hn]; decide)] at hK
    obtain ⟨i, hi, rfl⟩ := inr_of (hi := 5) hr
    obtain ⟨j, hj, rfl⟩ := inr_of (hi := 60) hn
    rw [nI_clamp (by omega), nI_clamp (by omega)] at hK
    refine cx_walkFromNow (by omega) hx hk (fun τ hf hw2 => ⟨vp_in_nI (by omega) (by omega), ?_⟩)
    rw [nI_clamp (by omega), hw2.2.2.2.2.2 i (by omega)]
    exact hK τ (hf.up (by decide))
  · change inr n 0 60 = false at hn
    have := hK σ hs_fr.rf
    rw [if_neg (by rw [hr]; decide), if_pos hn] at this; exact this
