/-! text: the tokens -/
def rn (n : Nat) (b : Nat → Nat) (lo hi : Nat) : Nat → Nat → Nat
  | 0, p => p
  | k + 1, p => if p < n ∧ lo ≤ b p ∧ b p ≤ hi then rn n b lo hi k (p + 1) else p
def rx (n : Nat) (b : Nat → Nat) (lo hi p : Nat) : Nat := rn n b lo hi (n - p) p
theorem rx_y {n : Nat} {b : Nat → Nat} {lo hi p : Nat} (h : p < n ∧ lo ≤ b p ∧ b p ≤ hi) : rx n b lo hi p = rx n b lo hi (p + 1) := by
  unfold rx
  rw [show n - p = (n - (p + 1)) + 1 by omega, rn, if_pos h]
theorem rx_n {n : Nat} {b : Nat → Nat} {lo hi p : Nat} (h : ¬ (p < n ∧ lo ≤ b p ∧ b p ≤ hi)) : rx n b lo hi p = p := by
  unfold rx
  cases hk : n - p with
  | zero => rfl
  | succ k => rw [rn, if_neg h]
theorem rx_in {n : Nat} {b : Nat → Nat} {lo hi : Nat} : ∀ k p, n - p = k → p ≤ n → p ≤ rx n b lo hi p ∧ rx n b lo hi p ≤ n
  | 0, p, h, hp => by rw [rx_n (by omega)]; omega
  | k + 1, p, h, hp => by
    by_cases hc : p < n ∧ lo ≤ b p ∧ b p ≤ hi
    · have := rx_in (n := n) (b := b) (lo := lo) (hi := hi) k (p + 1) (by omega) (by omega)
      rw [rx_y hc]; omega
    · rw [rx_n hc]; omega
theorem rx_le {n : Nat} {b : Nat → Nat} {lo hi p : Nat} (h : p ≤ n) : p ≤ rx n b lo hi p ∧ rx n b lo hi p ≤ n := rx_in _ p rfl h
abbrev tokT : Type := Except (Nat × Nat) (Nat × Nat × Nat × Nat)
def tv (b : Nat → Nat) (s q : Nat) : Nat := if q - s = 0 then 0 else if q - s = 1 then b s - 48 else (b s - 48) * 10 + (b (s + 1) - 48)
/-- the token that begins at s: its sort, where it begins, where it ends, its number -/
def tk0 (n : Nat) (b : Nat → Nat) (s : Nat) : tokT :=
  if s < n then (if b s = 59 then .ok (3, s, s + 1, 0) else if 97 ≤ b s ∧ b s ≤ 122 then .ok (1, s, rx n b 97 122 s, 0) else
    if 1 ≤ rx n b 48 57 s - s ∧ rx n b 48 57 s - s ≤ 2 then .ok (2, s, rx n b 48 57 s, tv b s (rx n b 48 57 s)) else .error (1, s)) else .ok (0, s, s, 0)
def tk1 (n : Nat) (b : Nat → Nat) (p : Nat) : tokT := tk0 n b (rx n b 32 32 p)
/-! the model's tokens -/
abbrev TZ : List Nat := [11, 12, 13, 14, 15, 16]
def mtok (σ : hs_St) : tokT → Prop
  | .ok (s, st, pl, v) => σ.1 63 15 = nI 0 ∧ σ.1 63 13 = nI s ∧ σ.1 63 12 = nI st ∧ σ.1 63 11 = nI pl ∧ (s = 2 → σ.1 63 14 = nI v)
  | .error (f, at_) => σ.1 63 15 = nI f ∧ σ.1 63 16 = nI at_
theorem mp.g {σ τ : hs_St} {n : Nat} {b : Nat → Nat} {S Z : List Nat} (h : mp σ n b) (g : mg S Z σ τ) (h69 : 69 ∉ S) (h10 : 10 ∉ Z) : mp τ n b := ⟨by rw [g.2 10 h10]; exact h.1, by rw [g.1 69 h69 (by decide)]; exact h.2⟩
theorem cm_byteAt {σ : hs_St} {K : Int32 → hs_St → Prop} {n p : Nat} {b : Nat → Nat} (hp : mp σ n b) (hn : n ≤ 160) (hp2 : p ≤ 1000) (hK : K (if p < n then nI (b p) else -1) σ) : OkI m_X6_byteAt [.ref 63, .int (nI p)] σ K := by
  refine vc_X6_byteAt ⟨fun h => ?_, fun h => ?_⟩
  · rw [hp.1, il (by omega) (by omega)] at h
    rw [if_neg (by omega)] at hK; exact hK
  · rw [hp.1, il (by omega) (by omega)] at h
    rw [if_pos (by omega)] at hK
    refine ⟨vp_in_nI (by omega) (by omega), ?_⟩
    rw [nI_clamp (by omega), hp.2 p (by omega)]; exact hK
/-- a check that does not hold, while no fault is found -/
theorem cm_needs0 {σ : hs_St} {K : hs_St → Prop} {f at_ : Nat} (h15 : σ.1 63 15 = nI 0) (h12 : σ.1 63 12 = nI at_) (hK : ∀ τ, mg [] TZ σ τ → τ.1 63 15 = nI f → τ.1 63 16 = nI at_ → (∀ i, i ≠ 15 → i ≠ 16 → τ.1 63 i = σ.1 63 i) → K τ) : OkV m_X6_needs [.ref 63, .int 0, .int (nI f)] σ K := by
  refine vc_X6_needs ⟨fun h => absurd rfl h, fun _ => ⟨fun h => absurd (by rw [h15, nI_0]) h, fun _ => ?_⟩⟩
  rintro _ rfl
  rintro _ rfl
  refine hK _ ((mg.rf.z (by decide)).z (by decide)) ?_ ?_ (fun i h1 h2 => by rw [w_at h2, w_at h1])
  · rw [w_at (by decide), w_eq]
  · rw [w_eq, w_at (by decide)]; exact h12
/-- a check that holds -/
theorem cm_needs1 {σ : hs_St} {K : hs_St → Prop} {f : Int32} (hK : K σ) : OkV m_X6_needs [.ref 63, .int 1, .int f] σ K := vc_X6_needs ⟨fun _ => hK, fun h => absurd h (by decide)⟩
/-- any check, when a fault is found already -/
theorem cm_needsF {σ : hs_St} {K : hs_St → Prop} {a f : Int32} (h15 : ¬ σ.1 63 15 = 0) (hK : K σ) : OkV m_X6_needs [.ref 63, .int a, .int f] σ K := vc_X6_needs ⟨fun _ => hK, fun _ => ⟨fun _ => hK, fun h => absurd h h15⟩⟩
theorem cm_takesF {σ : hs_St} {K : hs_St → Prop} {f : Nat} (h15 : σ.1 63 15 = nI f) (hf : 0 < f) (hf6 : f ≤ 6) (hK : K σ) : OkV m_X6_takes [.ref 63] σ K :=
  vc_X6_takes ⟨fun h => absurd h (by rw [h15, nl_0, il (by omega) (by omega)]; omega), fun _ => hK⟩
set_option maxHeartbeats 1000000 in
theorem cm_takes {σ : hs_St} {K : hs_St → Prop} {n p : Nat} {b : Nat → Nat} (hp : mp σ n b) (hn : n ≤ 160) (hb : ∀ i, i < n → b i ≤ 127) (h15 : σ.1 63 15 = nI 0) (h11 : σ.1 63 11 = nI p) (hpn : p ≤ n) (hK : ∀ τ, mg [] TZ σ τ → mtok τ (tk1 n b p) → K τ) : OkV m_X6_takes [.ref 63] σ K := by
  have loopL : ∀ s a1, s < n → ¬ b s = 59 → (97 ≤ b s ∧ b s ≤ 122) → s = rx n b 32 32 p → ∀ m q (τ : hs_St), n - q = m → s ≤ q → q ≤ n → rx n b 97 122 q = rx n b 97 122 s → mg [] TZ σ τ → τ.1 63 15 = nI 0 → τ.1 63 13 = nI 1 → τ.1 63 12 = nI s → τ.1 63 11 = nI q → RnV m_X6_takes 82 [(0, .ref 63), (1, .int a1)] [] τ K := by
    intro s a1 hs h59 hl es m
    induction m with
    | zero =>
      intro q τ hm hsq hq hr hg c15 c13 c12 c11
      have : q = n := by omega
      subst this
      refine vc_X6_takes_82 ?_
      rw [c11]
      refine cm_byteAt (hp.g hg (by decide) (by decide)) hn (by omega) (cm_inI ?_)
      rw [if_neg (by omega)]
      refine ⟨fun _ => hK τ hg ?_, fun h => absurd h (by decide)⟩
      unfold tk1 tk0
      rw [← es, if_pos hs, if_neg h59, if_pos hl]
      exact ⟨c15, c13, c12, by rw [c11, ← hr, rx_n (by omega)], fun h => absurd h (by decide)⟩
    | succ m ih =>
      intro q τ hm hsq hq hr hg c15 c13 c12 c11
      refine vc_X6_takes_82 ?_
      rw [c11]
      refine cm_byteAt (hp.g hg (by decide) (by decide)) hn (by omega) (cm_inI ?_)
      have hbq := hb q (by omega)
      rw [if_pos (by omega)]
      refine ⟨fun h => hK τ hg ?_, fun h => ?_⟩
      · change inr (nI (b q)) 97 122 = false at h
        rw [inr_nI (by omega), decide_eq_false_iff_not] at h
        unfold tk1 tk0
        rw [← es, if_pos hs, if_neg h59, if_pos hl]
        exact ⟨c15, c13, c12, by rw [c11, ← hr, rx_n (by omega)], fun h => absurd h (by decide)⟩
      · change inr (nI (b q)) 97 122 = true at h
        rw [inr_nI (by omega), decide_eq_true_eq] at h
        rintro _ rfl
        rw [c11, nI_1]
        refine ih (q + 1) _ (by omega) (by omega) (by omega) (by rw [← hr, rx_y (p := q) (by omega)]) (hg.z (by decide)) ?_ ?_ ?_ w_eq
        · rw [w_at (by decide)]; exact c15
        · rw [w_at (by decide)]; exact c13
        · rw [w_at (by decide)]; exact c12
  have loopD : ∀ s a1, s < n → ¬ b s = 59 → ¬ (97 ≤ b s ∧ b s ≤ 122) → s = rx n b 32 32 p → ∀ m q (τ : hs_St), n - q = m → s ≤ q → q ≤ n → (s < q ∨ 48 ≤ b s ∧ b s ≤ 57) → (s + 1 < q → 48 ≤ b (s + 1)) → (s < q → 48 ≤ b s) → rx n b 48 57 q = rx n b 48 57 s → mg [] TZ σ τ → τ.1 63 15 = nI 0 → τ.1 63 13 = nI 2 → τ.1 63 12 = nI s → τ.1 63 11 = nI q → τ.1 63 14 = nI (tv b s q) → RnV m_X6_takes 140 [(0, .ref 63), (1, .int a1)] [] τ K := by
    intro s a1 hs h59 hl es m
    have stop : ∀ q (τ : hs_St), s ≤ q → q ≤ n → s < q → rx n b 48 57 s = q → mg [] TZ σ τ → τ.1 63 15 = nI 0 → τ.1 63 13 = nI 2 → τ.1 63 12 = nI s → τ.1 63 11 = nI q → τ.1 63 14 = nI (tv b s q) → ((2 < ((τ.1 63 11) - (τ.1 63 12)) → (OkV m_X6_needs [.ref 63, .int 0, .int 1] τ (fun σ14 => K σ14))) ∧ (¬ 2 < ((τ.1 63 11) - (τ.1 63 12)) → (OkV m_X6_needs [.ref 63, .int 1, .int 1] τ (fun σ17 => K σ17)))) := by
      intro q τ hsq hq hlt hr hg c15 c13 c12 c11 c14
      rw [c11, c12, pk_sub hsq, nl_2, ilt (by omega) (by omega)]
      refine ⟨fun h => ?_, fun h => cm_needs1 (hK τ hg ?_)⟩
      · have := cm_needs0 (K := K) (f := 1) c15 c12 (fun υ hg2 d1 d2 _ => hK υ (hg.tr hg2) (by
          unfold tk1 tk0
          rw [← es, if_pos hs, if_neg h59, if_neg hl, hr, if_neg (by omega)]
          exact ⟨d1, d2⟩))
        exact this
      · unfold tk1 tk0
        rw [← es, if_pos hs, if_neg h59, if_neg hl, hr, if_pos (by omega)]
        exact ⟨c15, c13, c12, c11, fun _ => c14⟩
    induction m with
    | zero =>
      intro q τ hm hsq hq hdg hb1 hb0 hr hg c15 c13 c12 c11 c14
      have : q = n := by omega
      subst this
      refine vc_X6_takes_140 ?_
      rw [c11]
      refine cm_byteAt (hp.g hg (by decide) (by decide)) hn (by omega) (cm_inI ?_)
      rw [if_neg (by omega)]
      refine ⟨fun _ => ?_, fun h => absurd h (by decide)⟩
      have := stop q τ hsq hq (by omega) (by rw [← hr, rx_n (by omega)]) hg c15 c13 c12 c11 c14
      exact this
    | succ m ih =>
      intro q τ hm hsq hq hdg hb1 hb0 hr hg c15 c13 c12 c11 c14
      refine vc_X6_takes_140 ?_
      rw [c11]
      have hmp := hp.g hg (by decide) (by decide)
      refine cm_byteAt hmp hn (by omega) (cm_inI ?_)
      have hbq := hb q (by omega)
      rw [if_pos (by omega)]
      refine ⟨fun h => ?_, fun h => ?_⟩
      · change inr (nI (b q)) 48 57 = false at h
        rw [inr_nI (by omega), decide_eq_false_iff_not] at h
        have hlt : s < q := by
          rcases Nat.lt_or_ge s q with h1 | h1
          · exact h1
          · have : q = s := by omega
            subst this
            rcases hdg with h2 | h2
            · omega
            · omega
        have := stop q τ hsq hq hlt (by rw [← hr, rx_n (by omega)]) hg c15 c13 c12 c11 c14
        exact this
      · change inr (nI (b q)) 48 57 = true at h
        rw [inr_nI (by omega), decide_eq_true_eq] at h
        have nx : ∀ (τ' : hs_St), mg [] TZ σ τ' → τ'.1 63 15 = nI 0 → τ'.1 63 13 = nI 2 → τ'.1 63 12 = nI s → τ'.1 63 11 = nI q → τ'.1 63 14 = nI (tv b s (q + 1)) → (∀ σ24 : hs_St, σ24 = hs_w τ' 63 11 ((τ'.1 63 11) + 1) → (RnV m_X6_takes 140 [(0, .ref 63), (1, .int a1)] [] σ24 K)) := by
          intro τ' hg' c15 c13 c12 c11 c14
          rintro _ rfl
          rw [c11, nI_1]
          refine ih (q + 1) _ (by omega) (by omega) (by omega) (Or.inl (by omega)) (fun h1 => ?_) (fun h1 => ?_) (by rw [← hr, rx_y (p := q) (by omega)]) (hg'.z (by decide)) ?_ ?_ ?_ w_eq ?_
          · by_cases e : s + 1 = q
            · rw [e]; omega
            · exact hb1 (by omega)
          · by_cases e : s = q
            · rw [e]; omega
            · exact hb0 (by omega)
          · rw [w_at (by decide)]; exact c15
          · rw [w_at (by decide)]; exact c13
          · rw [w_at (by decide)]; exact c12
          · rw [w_at (by decide)]; exact c14
        rw [c11, c12, pk_sub hsq, nl_2, il (by omega) (by omega)]
        refine ⟨fun h2 => ?_, fun h2 => ?_⟩
        · rintro _ rfl
          refine nx _ (hg.z (by decide)) ?_ ?_ ?_ ?_ ?_
          · rw [w_at (by decide)]; exact c15
          · rw [w_at (by decide)]; exact c13
          · rw [w_at (by decide)]; exact c12
          · rw [w_at (by decide)]; exact c11
          · rw [w_eq, c14]
            unfold tv
            rw [if_neg (by omega), if_neg (by omega), if_neg (by omega), if_neg (by omega)]
        · refine cm_byteAt hmp hn (by omega) ?_
          rw [if_pos (by omega)]
          rintro _ rfl
          refine nx _ (hg.z (by decide)) ?_ ?_ ?_ ?_ ?_
          · rw [w_at (by decide)]; exact c15
          · rw [w_at (by decide)]; exact c13
          · rw [w_at (by decide)]; exact c12
          · rw [w_at (by decide)]; exact c11
          · rw [w_eq, c14, nl_10, pk_mul, nI_add, nl_48, pk_sub (by omega)]
            congr 1
            unfold tv
            rcases (show q = s ∨ q = s + 1 by omega) with e | e
            · subst e
              rw [if_pos (by omega), if_neg (by omega), if_pos (by omega)]
              omega
            · subst e
              rw [if_neg (by omega), if_pos (by omega), if_neg (by omega), if_neg (by omega)]
              have := hb0 (by omega)
              omega
  have loopS : ∀ m q (τ : hs_St), n - q = m → q ≤ n → rx n b 32 32 q = rx n b 32 32 p → mg [] TZ σ τ → τ.1 63 15 = nI 0 → τ.1 63 11 = nI q → RnV m_X6_takes 8 [(0, .ref 63)] [] τ K := by
    intro m
    induction m with
    | zero =>
      intro q τ hm hq hr hg c15 c11
      have : q = n := by omega
      subst this
      refine vc_X6_takes_8 ?_
      rw [c11]
      refine cm_byteAt (hp.g hg (by decide) (by decide)) hn (by omega) ?_
      rw [if_neg (by omega)]
      refine ⟨fun _ => ?_, fun h => absurd h (by decide)⟩
      rintro _ rfl
      rw [w_at (by decide), c11]
      refine cm_byteAt (hp.g (hg.z (by decide)) (by decide) (by decide)) hn (by omega) ?_
      rw [if_neg (by omega)]
      refine ⟨fun h => absurd h (by decide), fun _ => ?_⟩
      rintro _ rfl
      refine hK _ ((hg.z (by decide)).z (by decide)) ?_
      unfold tk1 tk0
      rw [← hr, rx_n (by omega), if_neg (by omega)]
      refine ⟨?_, w_eq, ?_, ?_, fun h => absurd h (by decide)⟩
      · rw [w_at (by decide), w_at (by decide)]; exact c15
      · rw [w_at (by decide), w_eq]
      · rw [w_at (by decide), w_at (by decide)]; exact c11
    | succ m ih =>
      intro q τ hm hq hr hg c15 c11
      have hbq := hb q (by omega)
      refine vc_X6_takes_8 ?_
      rw [c11]
      refine cm_byteAt (hp.g hg (by decide) (by decide)) hn (by omega) ?_
      rw [if_pos (by omega), nl_32, ieq (by omega) (by omega)]
      refine ⟨fun h => ?_, fun h => ?_⟩
      · have es : q = rx n b 32 32 p := by rw [← hr, rx_n (by omega)]
        rintro _ rfl
        rw [w_at (by decide), c11]
        refine cm_byteAt (hp.g (hg.z (by decide)) (by decide) (by decide)) hn (by omega) ?_
        rw [if_pos (by omega)]
        have hg1 : mg [] TZ σ (hs_w τ 63 12 (nI q)) := hg.z (by decide)
        have d15 : (hs_w τ 63 12 (nI q)).1 63 15 = nI 0 := by rw [w_at (by decide)]; exact c15
        have d12 : (hs_w τ 63 12 (nI q)).1 63 12 = nI q := w_eq
        have d11 : (hs_w τ 63 12 (nI q)).1 63 11 = nI q := by rw [w_at (by decide)]; exact c11
        generalize hs_w τ 63 12 (nI q) = τ1 at hg1 d15 d12 d11
        refine ⟨fun _ => cm_inI ⟨fun hl => cm_inI ⟨fun hd => ?_, fun hd => ?_⟩, fun hl => ?_⟩, fun h => absurd (by rw [nl_0, il (by omega) (by omega)]; omega) h⟩
        · change inr (nI (b q)) 97 122 = false at hl
          rw [inr_nI (by omega), decide_eq_false_iff_not] at hl
          change inr (nI (b q)) 48 57 = false at hd
          rw [inr_nI (by omega), decide_eq_false_iff_not] at hd
          rintro _ rfl
          have e15 : (hs_w τ1 63 13 3).1 63 15 = nI 0 := by rw [w_at (by decide)]; exact d15
          have e12 : (hs_w τ1 63 13 3).1 63 12 = nI q := by rw [w_at (by decide)]; exact d12
          have e11 : (hs_w τ1 63 13 3).1 63 11 = nI q := by rw [w_at (by decide)]; exact d11
          have e13 : (hs_w τ1 63 13 3).1 63 13 = nI 3 := by rw [w_eq]; exact nl_3
          have hg2 : mg [] TZ σ (hs_w τ1 63 13 3) := hg1.z (by decide)
          generalize hs_w τ1 63 13 3 = τ2 at e15 e12 e11 e13 hg2
          rw [nl_59, ieq (by omega) (by omega)]
          refine ⟨fun h59 => ?_, fun h59 => cm_needs1 ?_⟩
          · have := cm_needs0 (K := fun σ33 => ∀ σ35 : hs_St, σ35 = hs_w σ33 63 11 ((σ33.1 63 11) + 1) → (K σ35)) (f := 1) e15 e12 (fun υ hg3 f1 f2 _ => by
              rintro _ rfl
              refine hK _ ((hg2.tr hg3).z (by decide)) ?_
              unfold tk1 tk0
              rw [← es, if_pos (by omega), if_neg h59, if_neg (by omega), rx_n (by omega), if_neg (by omega)]
              exact ⟨by rw [w_at (by decide)]; exact f1, by rw [w_at (by decide)]; exact f2⟩)
            exact this
          · rintro _ rfl
            refine hK _ (hg2.z (by decide)) ?_
            unfold tk1 tk0
            rw [← es, if_pos (by omega), if_pos h59]
            exact ⟨by rw [w_at (by decide)]; exact e15, by rw [w_at (by decide)]; exact e13, by rw [w_at (by decide)]; exact e12, by rw [w_eq, e11, nI_1], fun h => absurd h (by decide)⟩
        · change inr (nI (b q)) 97 122 = false at hl
          rw [inr_nI (by omega), decide_eq_false_iff_not] at hl
          change inr (nI (b q)) 48 57 = true at hd
          rw [inr_nI (by omega), decide_eq_true_eq] at hd
          rintro _ rfl
          rintro _ rfl
          refine loopD q _ (by omega) (by omega) (by omega) es (n - q) q _ rfl (Nat.le_refl _) (by omega) (Or.inr (by omega)) (fun h => by omega) (fun h => by omega) rfl ((hg1.z (by decide)).z (by decide)) ?_ ?_ ?_ ?_ ?_
          · rw [w_at (by decide), w_at (by decide)]; exact d15
          · rw [w_at (by decide), w_eq]; exact nl_2
          · rw [w_at (by decide), w_at (by decide)]; exact d12
          · rw [w_at (by decide), w_at (by decide)]; exact d11
          · rw [w_eq]
            unfold tv
            rw [if_pos (by omega)]; exact nl_0
        · change inr (nI (b q)) 97 122 = true at hl
          rw [inr_nI (by omega), decide_eq_true_eq] at hl
          rintro _ rfl
          refine loopL q _ (by omega) (by omega) (by omega) es (n - q) q _ rfl (Nat.le_refl _) (by omega) rfl (hg1.z (by decide)) ?_ ?_ ?_ ?_
          · rw [w_at (by decide)]; exact d15
          · rw [w_eq]; exact nl_1
          · rw [w_at (by decide)]; exact d12
          · rw [w_at (by decide)]; exact d11
      · rintro _ rfl
        rw [c11, nI_1]
        exact ih (q + 1) _ (by omega) (by omega) (by rw [← hr, rx_y (p := q) (by omega)]) (hg.z (by decide)) (by rw [w_at (by decide)]; exact c15) w_eq
  exact vc_X6_takes ⟨fun _ => loopS (n - p) p σ rfl hpn rfl mg.rf h15 h11, fun h => absurd (by rw [h15]; decide) h⟩
