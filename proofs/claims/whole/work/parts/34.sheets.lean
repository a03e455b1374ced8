/-! sheets -/
def lnX (n : Nat) : Int32 := if n = 0 then -1 else nI (n - 1)
def xsh (σ : hs_St) (ln sz : Nat → Nat) (cs : Nat → Nat → Int32) : Prop := ∀ k, k < 4 → σ.1 59 k = lnX (ln k) ∧ (ln k ≠ 0 → σ.1 60 k = nI (sz k) ∧ ∀ i, i < sz k → σ.1 61 (k * 40 + i) = cs k i)
def shk (ln sz : Nat → Nat) : Prop := ∀ k, k < 4 → ln k ≤ 3 ∧ sz k ≤ 40
theorem im1 {a : Nat} (ha : a < 2147483648) : ¬ nI a = -1 := by
  intro h
  have h1 := congrArg Int32.toInt h
  rw [nI_toInt ha] at h1
  have h2 : (-1 : Int32).toInt = -1 := by decide
  rw [h2] at h1
  omega
theorem cx_isOne {σ : hs_St} {K : Bool → hs_St → Prop} {a : Int32} (hK : K (inr a 0 3) σ) : OkB m_X1_isOne [.ref 58, .int a] σ K := vc_X1_isOne (cx_within hK)
theorem cx_isLane {σ : hs_St} {K : Bool → hs_St → Prop} {a : Int32} (hK : K (inr a 0 2) σ) : OkB m_X1_isLane [.ref 58, .int a] σ K := vc_X1_isLane (cx_within hK)
theorem cx_isNothing {σ : hs_St} {K : Bool → hs_St → Prop} {ln sz : Nat → Nat} {cs : Nat → Nat → Int32} {k : Nat} (hk : k < 4) (hx : xsh σ ln sz cs) (hs : shk ln sz) (hK : K (decide (ln k = 0)) σ) : OkB m_X1_isNothing [.ref 58, .int (nI k)] σ K := by
  have h := (hx k hk).1
  have h3 := (hs k hk).1
  refine vc_X1_isNothing ⟨vp_in_nI hk (by omega), fun h1 => ?_, fun h1 => ?_⟩
  · rw [nI_clamp (by omega), h, lnX] at h1
    rw [decide_eq_false (fun e => h1 (by rw [if_pos e]))] at hK; exact hK
  · rw [nI_clamp (by omega), h, lnX] at h1
    by_cases e : ln k = 0
    · rw [decide_eq_true e] at hK; exact hK
    · rw [if_neg e] at h1; exact absurd h1 (im1 (by omega))
def flt (ln sz : Nat → Nat) (k : Nat) (l i : Int32) : Int32 := if ln k = 0 then 1 else if lnX (ln k) = l then (if inr i 0 ((sz k : Nat) - 1 : Int) = true then 0 else 2) else 3
theorem cx_faultOf {σ : hs_St} {K : Int32 → hs_St → Prop} {ln sz : Nat → Nat} {cs : Nat → Nat → Int32} {k : Nat} {l i : Int32} (hk : k < 4) (hx : xsh σ ln sz cs) (hs : shk ln sz) (hK : K (flt ln sz k l i) σ) : OkI m_X1_faultOf [.ref 58, .int (nI k), .int l, .int i] σ K := by
  have h := hx k hk
  have h3 := hs k hk
  unfold flt at hK
  refine vc_X1_faultOf (cx_isNothing hk hx hs ⟨fun h1 => ⟨vp_in_nI hk (by omega), fun h2 => ?_, fun h2 => ?_⟩, fun h1 => ?_⟩)
  · have h1 := of_decide_eq_false h1
    rw [nI_clamp (by omega), h.1] at h2
    rw [if_neg h1, if_pos h2] at hK
    refine cx_within ?_
    rw [nI_clamp (by omega), (h.2 h1).1, sub1 (by omega)]
    refine ⟨fun h4 => ?_, fun h4 => ?_⟩
    · rw [if_neg (by change inr i 0 _ = false at h4; rw [h4]; decide)] at hK; exact hK
    · change inr i 0 _ = true at h4
      rw [if_pos h4] at hK; exact hK
  · have h1 := of_decide_eq_false h1
    rw [nI_clamp (by omega), h.1] at h2
    rw [if_neg h1, if_neg h2] at hK; exact hK
  · have h1 := of_decide_eq_true h1
    rw [if_pos h1] at hK; exact hK
def s_sheet (ln sz : Nat → Nat) (cs : Nat → Nat → Int32) (k l n : Int32) : Int32 × (Nat → Nat) × (Nat → Nat) × (Nat → Nat → Int32) :=
  if inr k 0 3 = true ∧ inr l 0 2 = true ∧ n.toInt ≤ 40 then (if 0 ≤ n.toInt then (1, up1 ln k.toNatClampNeg (l.toNatClampNeg + 1), up1 sz k.toNatClampNeg n.toNatClampNeg, up1 cs k.toNatClampNeg (fun _ => 0)) else (-14, ln, sz, cs)) else (-1, ln, sz, cs)
theorem shk_sheet {ln sz : Nat → Nat} {cs : Nat → Nat → Int32} {k l n : Int32} (hs : shk ln sz) : shk (s_sheet ln sz cs k l n).2.1 (s_sheet ln sz cs k l n).2.2.1 := by
  unfold s_sheet
  split
  · rename_i h
    split
    · rename_i h0
      obtain ⟨a, ha, rfl⟩ := inr_of (hi := 3) h.1
      obtain ⟨b, hb, rfl⟩ := inr_of (hi := 2) h.2.1
      obtain ⟨c, hc, rfl⟩ := inr_of (x := n) (hi := 40) (by simp only [inr, decide_eq_true_eq]; exact ⟨h0, h.2.2⟩)
      rw [nI_clamp (by omega), nI_clamp (by omega), nI_clamp (by omega)]
      intro j hj
      show up1 ln a (b + 1) j ≤ 3 ∧ up1 sz a c j ≤ 40
      by_cases e : j = a
      · subst e; rw [up1_eq, up1_eq]; omega
      · rw [up1_ne e, up1_ne e]; exact hs j hj
    · exact hs
  · exact hs
theorem cx_renew {σ : hs_St} {K : hs_St → Prop} {ln sz : Nat → Nat} {cs : Nat → Nat → Int32} {k l n : Nat} (hk : k < 4) (hl : l ≤ 2) (hn : n ≤ 40) (hx : xsh σ ln sz cs) (hs : shk ln sz) (hK : ∀ τ, hs_fr [59, 60, 61] σ τ → xsh τ (up1 ln k (l + 1)) (up1 sz k n) (up1 cs k (fun _ => 0)) → K τ) : OkV m_X1_renew [.ref 58, .int (nI k), .int (nI l), .int (nI n)] σ K := by
  have loop : ∀ m i (τ : hs_St), n - i = m → i ≤ n → hs_fr [59, 60, 61] σ τ → (∀ j, j < 4 → τ.1 59 j = lnX (up1 ln k (l + 1) j)) → (∀ j, j < 4 → up1 ln k (l + 1) j ≠ 0 → τ.1 60 j = nI (up1 sz k n j)) → (∀ j, j < 4 → j ≠ k → ln j ≠ 0 → ∀ q, q < sz j → τ.1 61 (j * 40 + q) = cs j q) → (∀ q, q < i → τ.1 61 (k * 40 + q) = 0) → RnV m_X1_renew 17 [(0, .ref 58), (1, .int (nI k)), (2, .int (nI l)), (3, .int (nI n)), (4, .int (nI i))] [] τ K := by
    intro m
    induction m with
    | zero =>
      intro i τ hm hi hf a1 a2 a3 a4
      have : i = n := by omega
      subst this
      refine vc_X1_renew_17 ⟨fun _ => hK τ hf (fun j hj => ⟨a1 j hj, fun h => ⟨a2 j hj h, fun q hq => ?_⟩⟩), fun h => absurd (by rw [il (by omega) (by omega)]; omega) h⟩
      by_cases e : j = k
      · subst e; rw [up1_eq] at hq ⊢; exact a4 q hq
      · rw [up1_ne e] at h hq ⊢; exact a3 j hj e h q hq
    | succ m ih =>
      intro i τ hm hi hf a1 a2 a3 a4
      have hix : (nI k * 40) + nI i = nI (k * 40 + i) := by rw [nl_40, pk_mul, nI_add]
      refine vc_X1_renew_17 ⟨fun h => ?_, fun _ => ⟨?_, ?_⟩⟩
      · rw [il (by omega) (by omega)] at h; omega
      · rw [hix]; exact vp_in_nI (by omega) (by omega)
      · rw [hix, nI_clamp (by omega), nI_1]
        rintro _ rfl
        refine ih (i + 1) _ (by omega) (by omega) (hf.w (by decide)) ?_ ?_ ?_ ?_
        · rw [w_ne (by decide)]; exact a1
        · rw [w_ne (by decide)]; exact a2
        · intro j hj hjk hl2 q hq
          have := (hs j hj).2
          rw [w_at (by omega)]; exact a3 j hj hjk hl2 q hq
        · intro q hq
          by_cases e : q = i
          · subst e; rw [w_eq]
          · rw [w_at (by omega)]; exact a4 q (by omega)
  refine vc_X1_renew ⟨vp_in_nI hk (by omega), ?_⟩
  rintro _ rfl _ rfl
  rw [nI_clamp (by omega), nl_0]
  refine loop n 0 _ (by omega) (by omega) ((hs_fr.rf.w (by decide)).w (by decide)) ?_ ?_ ?_ (fun q hq => by omega)
  · intro j hj
    rw [w_ne (by decide)]
    by_cases e : j = k
    · subst e; rw [w_eq, up1_eq, lnX, if_neg (by omega)]; rfl
    · rw [w_at e, up1_ne e]; exact (hx j hj).1
  · intro j hj h
    by_cases e : j = k
    · subst e; rw [w_eq, up1_eq]
    · rw [up1_ne e] at h
      rw [w_at e, w_ne (by decide), up1_ne e]; exact ((hx j hj).2 h).1
  · intro j hj hjk hl2 q hq
    rw [w_ne (by decide), w_ne (by decide)]; exact ((hx j hj).2 hl2).2 q hq
theorem cx_sheet {σ : hs_St} {K : Int32 → hs_St → Prop} {ln sz : Nat → Nat} {cs : Nat → Nat → Int32} {k l n : Int32} (hx : xsh σ ln sz cs) (hs : shk ln sz) (hK : ∀ τ, hs_fr [59, 60, 61] σ τ → xsh τ (s_sheet ln sz cs k l n).2.1 (s_sheet ln sz cs k l n).2.2.1 (s_sheet ln sz cs k l n).2.2.2 → K (s_sheet ln sz cs k l n).1 τ) : OkI m_X5_sheet [.ref 0, .int k, .int l, .int n] σ K := by
  have e40 : (40 : Int32).toInt = 40 := by decide
  have e0 : (0 : Int32).toInt = 0 := by decide
  unfold s_sheet at hK
  refine vc_X5_sheet (cx_isOne ⟨fun h1 => ?_, fun h1 => cx_isLane ⟨fun h2 => ?_, fun h2 => ⟨fun h3 => ⟨fun h4 => ?_, fun h4 => ?_⟩, fun h3 => ?_⟩⟩⟩)
  · rw [if_neg (by simp [h1])] at hK; exact hK σ hs_fr.rf hx
  · rw [if_neg (by simp [h2])] at hK; exact hK σ hs_fr.rf hx
  · rw [Int32.le_iff_toInt_le, e40] at h3
    rw [Int32.le_iff_toInt_le, e0] at h4
    rw [if_pos ⟨h1, h2, h3⟩, if_pos h4] at hK
    obtain ⟨a, ha, rfl⟩ := inr_of (hi := 3) h1
    obtain ⟨b, hb, rfl⟩ := inr_of (hi := 2) h2
    obtain ⟨c, hc, rfl⟩ := inr_of (x := n) (hi := 40) (by simp only [inr, decide_eq_true_eq]; exact ⟨h4, h3⟩)
    rw [nI_clamp (by omega), nI_clamp (by omega), nI_clamp (by omega)] at hK
    exact cx_renew (by omega) hb hc hx hs hK
  · rw [Int32.le_iff_toInt_le, e40] at h3
    rw [Int32.le_iff_toInt_le, e0] at h4
    rw [if_pos ⟨h1, h2, h3⟩, if_neg h4] at hK; exact hK σ hs_fr.rf hx
  · rw [Int32.le_iff_toInt_le, e40] at h3
    rw [if_neg (fun z => h3 z.2.2)] at hK; exact hK σ hs_fr.rf hx
def trn (l : Nat) (v : Int32) : Int32 := if l = 1 then v.toInt8.toInt32 else if l = 2 then v.toInt16.toInt32 else v
def s_lay (ln sz : Nat → Nat) (cs : Nat → Nat → Int32) (k i v : Int32) : Int32 × (Nat → Nat → Int32) :=
  if inr k 0 3 = true then (if ln k.toNatClampNeg = 0 then (-11, cs) else if inr i 0 ((sz k.toNatClampNeg : Nat) - 1 : Int) = true then (1, up1 cs k.toNatClampNeg (up1 (cs k.toNatClampNeg) i.toNatClampNeg (trn (ln k.toNatClampNeg) v))) else (-12, cs)) else (-1, cs)
theorem cx_lay {σ : hs_St} {K : Int32 → hs_St → Prop} {ln sz : Nat → Nat} {cs : Nat → Nat → Int32} {k i v : Int32} (hx : xsh σ ln sz cs) (hs : shk ln sz) (hK : ∀ τ, hs_fr [59, 60, 61] σ τ → xsh τ ln sz (s_lay ln sz cs k i v).2 → K (s_lay ln sz cs k i v).1 τ) : OkI m_X5_lay [.ref 0, .int k, .int i, .int v] σ K := by
  unfold s_lay at hK
  refine vc_X5_lay (cx_isOne ⟨fun h1 => ?_, fun h1 => ?_⟩)
  · rw [if_pos h1] at hK
    obtain ⟨a, ha, rfl⟩ := inr_of (hi := 3) h1
    have hxa := hx a (by omega)
    have hsa := hs a (by omega)
    rw [nI_clamp (by omega)] at hK ⊢
    refine ⟨vp_in_nI (by omega) (by omega), cx_faultOf (by omega) hx hs ?_⟩
    rw [hxa.1, flt]
    by_cases e : ln a = 0
    · rw [if_pos e] at hK ⊢
      refine ⟨fun h => absurd h (by decide), fun _ => ?_⟩
      exact hK σ hs_fr.rf hx
    · rw [if_neg e] at hK ⊢
      rw [if_pos rfl]
      by_cases hi : inr i 0 ((sz a : Nat) - 1 : Int) = true
      · rw [if_pos hi] at hK ⊢
        refine ⟨fun _ => ?_, fun h => absurd rfl h⟩
        obtain ⟨q, hq, rfl⟩ := inr_lt hi
        have hix : (nI a * 40) + nI q = nI (a * 40 + q) := by rw [nl_40, pk_mul, nI_add]
        have hvp : vp_in ((nI a * 40) + nI q) 160 := by rw [hix]; exact vp_in_nI (by omega) (by omega)
        rw [nI_clamp (by omega)] at hK
        have fin : ∀ z : Int32, z = trn (ln a) v → K 1 (hs_w σ 61 ((nI a * 40) + nI q).toNatClampNeg z) := by
          rintro _ rfl
          rw [hix, nI_clamp (by omega)]
          refine hK _ (hs_fr.rf.w (by decide)) (fun j hj => ?_)
          rw [w_ne (by decide), w_ne (by decide)]
          refine ⟨(hx j hj).1, fun hl => ⟨((hx j hj).2 hl).1, fun p hp => ?_⟩⟩
          have hsj := (hs j hj).2
          show _ = up1 cs a (up1 (cs a) q (trn (ln a) v)) j p
          by_cases e1 : j = a
          · subst e1
            rw [up1_eq]
            by_cases e2 : p = q
            · subst e2; rw [w_eq, up1_eq]
            · rw [w_at (by omega), up1_ne e2]; exact ((hx j hj).2 hl).2 p hp
          · rw [up1_ne e1, w_at (by omega)]; exact ((hx j hj).2 hl).2 p hp
        have elx : lnX (ln a) = nI (ln a - 1) := by rw [lnX, if_neg e]
        refine vc_X1_put ⟨vp_in_nI (by omega) (by omega), fun h0 => ⟨fun h2 => ⟨hvp, ?_⟩, fun h2 => ?_⟩, fun h0 => ?_⟩
        · rw [nI_clamp (by omega), hxa.1, elx, nl_0, ieq (by omega) (by omega)] at h0
          rw [nI_clamp (by omega), hxa.1, elx, nl_1, ieq (by omega) (by omega)] at h2
          rintro _ rfl
          exact fin v (by rw [trn, if_neg (by omega), if_neg (by omega)])
        · rw [nI_clamp (by omega), hxa.1, elx, nl_1, ieq (by omega) (by omega)] at h2
          rintro _ rfl
          refine ⟨hvp, ?_⟩
          rintro _ rfl
          exact fin _ (by rw [trn, if_neg (by omega), if_pos (by omega)])
        · rw [nI_clamp (by omega), hxa.1, elx, nl_0, ieq (by omega) (by omega)] at h0
          rintro _ rfl
          refine ⟨hvp, ?_⟩
          rintro _ rfl
          exact fin _ (by rw [trn, if_pos (by omega)])
      · rw [if_neg hi] at hK ⊢
        refine ⟨fun h => absurd h (by decide), fun _ => ?_⟩
        exact hK σ hs_fr.rf hx
  · rw [if_neg (by rw [h1]; decide)] at hK; exact hK σ hs_fr.rf hx
/-! counts -/
def s_count (T : sp_T) (kp : Nat → Bool) (tn : Nat) (ln sz : Nat → Nat) (w : Int32) : Int32 := if w.toInt = 0 then nI (T 10 0) else if w.toInt = 1 then hs_b (kp 0) + hs_b (kp 1) else if w.toInt = 2 then nI tn else if w.toInt = 3 then (if ln 0 = 0 then -4 else nI (sz 0)) else if w.toInt = 4 then nI (sp_sum (T 6 0) (T 8)) else -1
theorem cx_count {σ : hs_St} {K : Int32 → hs_St → Prop} {T : sp_T} {I : Nat → sp_T} {kp : Nat → Bool} {tn : Nat} {b : Nat → Nat} {ln sz : Nat → Nat} {cs : Nat → Nat → Int32} {w : Int32} (hx : xt 8 σ T) (hk : tk T) (hi : xi σ I kp) (hp : xp σ tn b) (hsx : xsh σ ln sz cs) (hs : shk ln sz) (hK : K (s_count T kp tn ln sz w) σ) : OkI m_X5_count [.ref 0, .int w] σ K := by
  unfold s_count at hK
  refine vc_X5_count ⟨fun h => ?_, fun h => ⟨fun h0 => ⟨fun h1 => ?_, fun h1 => ?_⟩, fun h0 => ⟨fun h1 => ?_, fun h1 => ?_⟩⟩, fun h => ?_, fun h => ?_, fun h => ?_, fun h => ?_⟩
  · rw [if_pos h] at hK; rw [hx.2.2.2.1]; exact hK
  · rw [if_neg (by omega), if_pos h] at hK
    rw [hi.1, hs_b0] at h0; rw [hi.2.1, hs_b0] at h1
    rw [h0, h1] at hK; exact hK
  · rw [if_neg (by omega), if_pos h] at hK
    rw [hi.1, hs_b0] at h0; rw [hi.2.1] at h1
    rw [h0, hs_b1 h1] at hK; exact hK
  · rw [if_neg (by omega), if_pos h] at hK
    rw [hi.1] at h0; rw [hi.2.1, hs_b0] at h1
    rw [hs_b1 h0, h1] at hK; exact hK
  · rw [if_neg (by omega), if_pos h] at hK
    rw [hi.1] at h0; rw [hi.2.1] at h1
    rw [hs_b1 h0, hs_b1 h1] at hK; exact hK
  · rw [if_neg (by omega), if_neg (by omega), if_pos h] at hK; rw [hp.1]; exact hK
  · rw [if_neg (by omega), if_neg (by omega), if_neg (by omega), if_pos h] at hK
    rw [nl_0]
    refine cx_isNothing (k := 0) (by decide) hsx hs ⟨fun h1 => ?_, fun h1 => ?_⟩
    · have h1 := of_decide_eq_false h1
      rw [if_neg h1] at hK
      rw [((hsx 0 (by decide)).2 h1).1]; exact hK
    · have h1 := of_decide_eq_true h1
      rw [if_pos h1] at hK; exact hK
  · rw [if_neg (by omega), if_neg (by omega), if_neg (by omega), if_neg (by omega), if_pos h] at hK
    exact cx_skillOfAll hx hk hK
  · rw [if_neg (by omega), if_neg (by omega), if_neg (by omega), if_neg (by omega), if_neg (by omega)] at hK; exact hK
/-! posts read from a sheet -/
theorem bmod32 {x : Int} (h1 : -2147483648 ≤ x) (h2 : x < 4294967296) : x.bmod 4294967296 = if x < 2147483648 then x else x - 4294967296 := by
  simp only [Int.bmod]
  split <;> split <;> omega
theorem at_int (f : Int32) {i : Nat} (hi : i ≤ 100) : (f + 2 * nI i).toInt = if f.toInt + 2 * (i : Int) < 2147483648 then f.toInt + 2 * (i : Int) else f.toInt + 2 * (i : Int) - 4294967296 := by
  have h1 := Int32.le_toInt f
  have h2 := Int32.toInt_lt f
  rw [Int32.toInt_add, nl_2, pk_mul, nI_toInt (by omega)]
  have e : (2 ^ 32 : Nat) = 4294967296 := rfl
  rw [e]
  have := bmod32 (x := f.toInt + ((2 * i : Nat) : Int)) (by omega) (by omega)
  rw [this]
  split <;> split <;> omega
/-- the fault of a pair of cells from F on -/
def pfx (ln sz : Nat → Nat) (k : Nat) (l : Int32) (F : Int) : Int32 := if ln k = 0 then 1 else if lnX (ln k) = l then (if 0 ≤ F ∧ F + 1 < (sz k : Nat) then 0 else 2) else 3
theorem inc_int (x : Int32) : (x + 1).toInt = if x.toInt < 2147483647 then x.toInt + 1 else x.toInt + 1 - 4294967296 := by
  have h1 := Int32.le_toInt x
  have h2 := Int32.toInt_lt x
  rw [Int32.toInt_add]
  have e : (2 ^ 32 : Nat) = 4294967296 := rfl
  have e1 : (1 : Int32).toInt = 1 := by decide
  rw [e, e1]
  have := bmod32 (x := x.toInt + 1) (by omega) (by omega)
  rw [this]
  split <;> split <;> omega
theorem cx_faultOfPair {σ : hs_St} {K : Int32 → hs_St → Prop} {ln sz : Nat → Nat} {cs : Nat → Nat → Int32} {k i : Nat} {l f : Int32} (hk : k < 4) (hi : i ≤ 100) (hx : xsh σ ln sz cs) (hs : shk ln sz) (hK : K (pfx ln sz k l (f.toInt + 2 * (i : Int))) σ) : OkI m_X1_faultOfPair [.ref 58, .int (nI k), .int l, .int (f + 2 * nI i)] σ K := by
  have h1 := Int32.le_toInt f
  have h2 := Int32.toInt_lt f
  have hsz := (hs k hk).2
  have ha := at_int f hi
  have hb := inc_int (f + 2 * nI i)
  unfold pfx at hK
  refine vc_X1_faultOfPair (cx_faultOf hk hx hs ?_)
  unfold flt
  by_cases e : ln k = 0
  · rw [if_pos e] at hK ⊢
    exact ⟨fun h => absurd h (by decide), fun _ => hK⟩
  · rw [if_neg e] at hK ⊢
    by_cases el : lnX (ln k) = l
    · rw [if_pos el] at hK ⊢
      by_cases hin : inr (f + 2 * nI i) 0 ((sz k : Nat) - 1 : Int) = true
      · rw [if_pos hin]
        refine ⟨fun _ => cx_faultOf hk hx hs ?_, fun h => absurd rfl h⟩
        unfold flt
        rw [if_neg e, if_pos el]
        have hin := of_decide_eq_true hin
        by_cases hin2 : inr (f + 2 * nI i + 1) 0 ((sz k : Nat) - 1 : Int) = true
        · rw [if_pos hin2]
          have hin2 := of_decide_eq_true hin2
          rw [if_pos (by split at ha <;> split at hb <;> omega)] at hK; exact hK
        · rw [if_neg hin2]
          have hin2 : ¬ (0 ≤ (f + 2 * nI i + 1).toInt ∧ (f + 2 * nI i + 1).toInt ≤ (sz k : Nat) - 1) := fun z => hin2 (decide_eq_true z)
          rw [if_neg (by split at ha <;> split at hb <;> omega)] at hK; exact hK
      · rw [if_neg hin]
        refine ⟨fun h => absurd h (by decide), fun _ => ?_⟩
        have hin : ¬ (0 ≤ (f + 2 * nI i).toInt ∧ (f + 2 * nI i).toInt ≤ (sz k : Nat) - 1) := fun z => hin (decide_eq_true z)
        rw [if_neg (by split at ha <;> omega)] at hK; exact hK
    · rw [if_neg el] at hK ⊢
      exact ⟨fun h => absurd h (by decide), fun _ => hK⟩
