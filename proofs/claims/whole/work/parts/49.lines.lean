/-! text: the lines -/
theorem tk1_ok {n p s st pl v : Nat} {b : Nat → Nat} (hb : ∀ i, i < n → b i ≤ 127) (hp : p ≤ n) (h : tk1 n b p = .ok (s, st, pl, v)) : p ≤ st ∧ st ≤ pl ∧ pl ≤ n ∧ (s ≠ 0 → st < pl) ∧ s ≤ 3 ∧ v ≤ 1000 := by
  have hx := rx_le (n := n) (b := b) (lo := 32) (hi := 32) hp
  unfold tk1 at h
  generalize rx n b 32 32 p = q at h hx
  unfold tk0 at h
  have h1 := rx_le (n := n) (b := b) (lo := 97) (hi := 122) hx.2
  have h2 := rx_le (n := n) (b := b) (lo := 48) (hi := 57) hx.2
  split at h
  · rename_i hq
    split at h
    · injection h with h; injection h with e1 h; injection h with e2 h; injection h with e3 e4
      omega
    · split at h
      · rename_i hl
        have h3 := rx_y (n := n) (b := b) (lo := 97) (hi := 122) (p := q) ⟨hq, hl⟩
        have h4 := rx_le (n := n) (b := b) (lo := 97) (hi := 122) (p := q + 1) (by omega)
        injection h with h; injection h with e1 h; injection h with e2 h; injection h with e3 e4
        omega
      · split at h
        · rename_i hf
          injection h with h; injection h with e1 h; injection h with e2 h; injection h with e3 e4
          have hv : tv b q (rx n b 48 57 q) ≤ 1000 := by
            unfold tv
            have hq1 := hb q hq
            split
            · omega
            · split
              · omega
              · have := hb (q + 1) (by omega)
                omega
          omega
        · cases h
  · injection h with h; injection h with e1 h; injection h with e2 h; injection h with e3 e4
    omega
theorem tk1_er {n p f a : Nat} {b : Nat → Nat} (hp : p ≤ n) (h : tk1 n b p = .error (f, a)) : f = 1 ∧ a ≤ n := by
  have hx := rx_le (n := n) (b := b) (lo := 32) (hi := 32) hp
  unfold tk1 at h
  generalize rx n b 32 32 p = q at h hx
  unfold tk0 at h
  split at h
  · split at h
    · cases h
    · split at h
      · cases h
      · split at h
        · cases h
        · injection h with h; injection h with e1 e2
          omega
  · cases h
/-- a number within bounds: it, where it begins, where it ends -/
def nm (n : Nat) (b : Nat → Nat) (p lo hi : Nat) : Except (Nat × Nat) (Nat × Nat × Nat) :=
  match tk1 n b p with
  | .error e => .error e
  | .ok (s, st, pl, v) => if s = 2 then (if lo ≤ v ∧ v ≤ hi then .ok (v, st, pl) else .error (3, st)) else .error (2, st)
def smi (n : Nat) (b : Nat → Nat) (p : Nat) : Except (Nat × Nat) Nat :=
  match tk1 n b p with
  | .error e => .error e
  | .ok (s, st, pl, _) => if s = 3 then .ok pl else .error (2, st)
theorem nm_ok {n p lo hi v st pl : Nat} {b : Nat → Nat} (hb : ∀ i, i < n → b i ≤ 127) (hp : p ≤ n) (h : nm n b p lo hi = .ok (v, st, pl)) : lo ≤ v ∧ v ≤ hi ∧ p ≤ st ∧ st < pl ∧ pl ≤ n ∧ tk1 n b p = .ok (2, st, pl, v) := by
  unfold nm at h
  cases ht : tk1 n b p with
  | error e => rw [ht] at h; cases h
  | ok t =>
    obtain ⟨s, st2, pl2, v2⟩ := t
    rw [ht] at h
    have h0 := tk1_ok hb hp ht
    dsimp only at h
    split at h
    · rename_i hs
      split at h
      · rename_i hv
        injection h with h; injection h with e1 h; injection h with e2 e3
        subst e1 e2 e3 hs
        exact ⟨hv.1, hv.2, h0.1, h0.2.2.2.1 (by omega), h0.2.2.1, rfl⟩
      · cases h
    · cases h
theorem nm_er {n p lo hi f a : Nat} {b : Nat → Nat} (hb : ∀ i, i < n → b i ≤ 127) (hp : p ≤ n) (h : nm n b p lo hi = .error (f, a)) : 1 ≤ f ∧ f ≤ 6 ∧ a ≤ n := by
  unfold nm at h
  cases ht : tk1 n b p with
  | error e =>
    obtain ⟨f2, a2⟩ := e
    rw [ht] at h
    dsimp only at h
    injection h with h; injection h with e1 e2
    have := tk1_er hp ht
    omega
  | ok t =>
    obtain ⟨s, st2, pl2, v2⟩ := t
    rw [ht] at h
    have h0 := tk1_ok hb hp ht
    dsimp only at h
    split at h
    · split at h
      · cases h
      · injection h with h; injection h with e1 e2
        omega
    · injection h with h; injection h with e1 e2
      omega
/-- a fault is found -/
def mft (σ : hs_St) (f a : Nat) : Prop := σ.1 63 15 = nI f ∧ σ.1 63 16 = nI a
def mnum (n : Nat) (b : Nat → Nat) (r : Int32) (τ : hs_St) : Except (Nat × Nat) (Nat × Nat × Nat) → Prop
  | .error (f, a) => r = 0 ∧ mft τ f a
  | .ok (v, _, pl) => r = nI v ∧ mtok τ (tk1 n b pl)
theorem mft_0 {σ : hs_St} {f a : Nat} (h : mft σ f a) (h1 : 1 ≤ f) (h6 : f ≤ 6) : ¬ σ.1 63 15 = 0 := by rw [h.1, nl_0, ieq (by omega) (by omega)]; omega
theorem cm_lookF {σ : hs_St} {K : Int32 → hs_St → Prop} {x y : Int32} (h : ¬ σ.1 63 15 = 0) (hK : K 0 σ) : OkI m_X6_looked [.ref 63, .int x, .int y] σ K := vc_X6_looked ⟨fun _ => hK, fun z => absurd z h⟩
theorem cm_numF {σ : hs_St} {K : Int32 → hs_St → Prop} {x y : Int32} {f a : Nat} (h : mft σ f a) (h1 : 1 ≤ f) (h6 : f ≤ 6) (hK : K 0 σ) : OkI m_X6_readNumber [.ref 63, .int x, .int y] σ K :=
  vc_X6_readNumber (cm_lookF (mft_0 h h1 h6) (cm_takesF h.1 (by omega) h6 hK))
/-- a look at the number at hand -/
def mlook (n : Nat) (b : Nat → Nat) (p : Nat) (r : Int32) (τ : hs_St) : Except (Nat × Nat) (Nat × Nat × Nat) → Prop
  | .error (f, a) => r = 0 ∧ mft τ f a
  | .ok (v, _, _) => r = nI v ∧ mtok τ (tk1 n b p)
theorem cm_looked {σ : hs_St} {K : Int32 → hs_St → Prop} {n p lo hi : Nat} {b : Nat → Nat} (hn : n ≤ 160) (hb : ∀ i, i < n → b i ≤ 127) (hpn : p ≤ n) (hlo : lo ≤ 1000) (hhi : hi ≤ 1000) (ht : mtok σ (tk1 n b p)) (hK : ∀ r τ, mg [] TZ σ τ → mlook n b p r τ (nm n b p lo hi) → K r τ) : OkI m_X6_looked [.ref 63, .int (nI lo), .int (nI hi)] σ K := by
  unfold nm at hK
  cases htk : tk1 n b p with
  | error e =>
    obtain ⟨f, a⟩ := e
    rw [htk] at ht hK
    have h1 := tk1_er hpn htk
    have hft : mft σ f a := ht
    exact cm_lookF (mft_0 hft (by omega) (by omega)) (hK 0 σ mg.rf ⟨rfl, hft⟩)
  | ok t =>
    obtain ⟨s, st, pl, v⟩ := t
    have h1 := tk1_ok hb hpn htk
    have hKe : ∀ τ f, mg [] TZ σ τ → mft τ f st → (if s = 2 then (if lo ≤ v ∧ v ≤ hi then Except.ok (v, st, pl) else Except.error (3, st)) else (Except.error (2, st) : Except (Nat × Nat) (Nat × Nat × Nat))) = .error (f, st) → K 0 τ := by
      intro τ f hg hft e
      refine hK 0 τ hg ?_
      rw [htk]
      dsimp only
      rw [e]
      exact ⟨rfl, hft⟩
    have hKo : s = 2 → lo ≤ v ∧ v ≤ hi → K (nI v) σ := by
      intro h2 hv
      refine hK (nI v) σ mg.rf ?_
      rw [htk]
      dsimp only
      rw [if_pos h2, if_pos hv]
      refine ⟨rfl, ?_⟩
      rw [htk]
      rw [htk] at ht
      exact ht
    rw [htk] at ht
    obtain ⟨c15, c13, c12, c11, c14⟩ := ht
    refine vc_X6_looked ⟨fun h => absurd (by rw [c15, nI_0]) h, fun _ => ?_⟩
    rw [c13, nl_2, ieq (by omega) (by omega)]
    refine ⟨fun h2 => ?_, fun h2 => cm_needs1 ⟨fun h => absurd (by rw [c15, nI_0]) h, fun _ => cm_in ?_⟩⟩
    · refine cm_needs0 (f := 2) c15 c12 (fun τ hg d1 d2 _ => ⟨fun _ => hKe τ 2 hg ⟨d1, d2⟩ (by rw [if_neg h2]), fun h => absurd h (by rw [d1]; decide)⟩)
    · rw [c14 h2, i64, i64, i64, iti (by omega), iti (by omega), iti (by omega)]
      by_cases hv : lo ≤ v ∧ v ≤ hi
      · rw [decide_eq_true (by omega)]
        exact cm_needs1 ⟨fun h => absurd (by rw [c15, nI_0]) h, fun _ => by rw [c14 h2]; exact hKo h2 hv⟩
      · rw [decide_eq_false (by omega)]
        have := cm_needs0 (K := fun σ32 => (¬ (σ32.1 63 15) = 0 → (K 0 σ32)) ∧ ((σ32.1 63 15) = 0 → (K (σ32.1 63 14) σ32))) (f := 3) c15 c12 (fun τ hg d1 d2 _ => ⟨fun _ => hKe τ 3 hg ⟨d1, d2⟩ (by rw [if_pos h2, if_neg hv]), fun h => absurd h (by rw [d1]; decide)⟩)
        exact this
theorem cm_num {σ : hs_St} {K : Int32 → hs_St → Prop} {n p lo hi : Nat} {b : Nat → Nat} (hp : mp σ n b) (hn : n ≤ 160) (hb : ∀ i, i < n → b i ≤ 127) (hpn : p ≤ n) (hlo : lo ≤ 1000) (hhi : hi ≤ 1000) (ht : mtok σ (tk1 n b p)) (hK : ∀ r τ, mg [] TZ σ τ → mnum n b r τ (nm n b p lo hi) → K r τ) : OkI m_X6_readNumber [.ref 63, .int (nI lo), .int (nI hi)] σ K := by
  refine vc_X6_readNumber (cm_looked hn hb hpn hlo hhi ht (fun r τ hg hl => ?_))
  cases hnm : nm n b p lo hi with
  | error e =>
    obtain ⟨f, a⟩ := e
    rw [hnm] at hl hK
    have h1 := nm_er hb hpn hnm
    exact cm_takesF hl.2.1 (by omega) h1.2.1 (hK r τ hg hl)
  | ok t =>
    obtain ⟨v, st, pl⟩ := t
    rw [hnm] at hl hK
    have h1 := nm_ok hb hpn hnm
    obtain ⟨hr, hm⟩ := hl
    rw [h1.2.2.2.2.2] at hm
    exact cm_takes (hp.g hg (by decide) (by decide)) hn hb hm.1 hm.2.2.2.1 h1.2.2.2.2.1 (fun υ hg2 ht2 => hK r υ (hg.tr hg2) ⟨hr, ht2⟩)
