/-! text of the class: numbers, semicolons -/
theorem tk1_end {n p st pl v : Nat} {b : Nat → Nat} (hp : p ≤ n) (h : tk1 n b p = .ok (0, st, pl, v)) : st = n := by
  have hx := rx_le (n := n) (b := b) (lo := 32) (hi := 32) hp
  unfold tk1 at h
  generalize rx n b 32 32 p = q at h hx
  unfold tk0 at h
  split at h
  · split at h
    · injection h with h; injection h with e1 h; cases e1
    · split at h
      · injection h with h; injection h with e1 h; cases e1
      · split at h
        · injection h with h; injection h with e1 h; cases e1
        · cases h
  · injection h with h; injection h with e1 h; injection h with e2 h
    omega
/-- what a number leaves -/
def xnum (σ τ : hs_St) : Except (Nat × Nat) (Nat × Nat × Nat) → Prop
  | .ok (v, st, pl) => τ.1 21 6 = nI v ∧ τ.1 21 5 = nI st ∧ τ.1 21 3 = nI pl ∧ τ.1 21 7 = σ.1 21 7
  | .error (f, a) => τ.1 21 7 = nI f ∧ τ.1 21 8 = nI a
def isOk {α β : Type} : Except α β → Bool
  | .ok _ => true
  | .error _ => false
theorem cx_num {σ : hs_St} {K : Bool → hs_St → Prop} {n p lo hi : Nat} {b : Nat → Nat} (hp : xp σ n b) (hn : n ≤ 160) (hb : ∀ i, i < n → b i ≤ 127) (hpn : p ≤ n) (hlo : lo ≤ 200) (hhi : hi ≤ 200) (c3 : σ.1 21 3 = nI p) (hK : ∀ τ, hs_fr [21] σ τ → xnum σ τ (nm n b p lo hi) → K (isOk (nm n b p lo hi)) τ) : OkB m_X0_takeNumber [.ref 21, .int (nI lo), .int (nI hi)] σ K := by
  unfold nm at hK
  refine vc_X0_takeNumber (cx_nextToken hp hn hb hpn c3 (fun τ hf ht => ?_))
  cases htk : tk1 n b p with
  | error e =>
    obtain ⟨f, a⟩ := e
    rw [htk] at ht hK
    exact ⟨fun h => absurd h Bool.false_ne_true, fun _ => hK τ hf ht⟩
  | ok t =>
    obtain ⟨s, st, pl, v⟩ := t
    have h0 := tk1_ok hb hpn htk
    rw [htk] at ht hK
    dsimp only at hK
    obtain ⟨d4, d5, d3, d6, _, d7⟩ := ht
    refine ⟨fun _ => ?_, fun h => absurd h (fun z : true = false => Bool.noConfusion z)⟩
    rw [d4, nl_2, ieq (by omega) (by omega)]
    refine ⟨fun h2 => ?_, fun h2 => ?_⟩
    · rw [if_pos h2] at hK
      rw [d6 h2]
      refine cx_within ?_
      rw [iti (by omega), iti (by omega), inr_nI (by omega)]
      by_cases hv : lo ≤ v ∧ v ≤ hi
      · rw [if_pos hv] at hK
        rw [decide_eq_true (by omega)]
        exact ⟨fun _ => hK τ hf ⟨d6 h2, d5, d3, d7⟩, fun h => absurd h (by decide)⟩
      · rw [if_neg hv] at hK
        rw [decide_eq_false (by omega)]
        refine ⟨fun h => absurd h (by decide), fun _ => cx_refuse ⟨fun _ => hK _ ((hf.w (by decide)).w (by decide)) ⟨?_, ?_⟩, fun h => absurd h (by decide)⟩⟩
        · rw [w_at (by decide), w_eq]; exact nl_3
        · rw [w_eq]; exact d5
    · rw [if_neg h2] at hK
      refine cx_refuse (hK _ ((hf.w (by decide)).w (by decide)) ⟨?_, ?_⟩)
      · rw [w_at (by decide), w_eq]
      · rw [w_eq]; exact d5
/-- what a semicolon leaves -/
def xsemi (σ τ : hs_St) : Except (Nat × Nat) Nat → Prop
  | .ok pl => τ.1 21 6 = σ.1 21 6 ∧ τ.1 21 3 = nI pl ∧ τ.1 21 7 = σ.1 21 7
  | .error (f, a) => τ.1 21 7 = nI f ∧ τ.1 21 8 = nI a
theorem cx_semi {σ : hs_St} {K : Bool → hs_St → Prop} {n p : Nat} {b : Nat → Nat} (hp : xp σ n b) (hn : n ≤ 160) (hb : ∀ i, i < n → b i ≤ 127) (hpn : p ≤ n) (c3 : σ.1 21 3 = nI p) (hK : ∀ τ, hs_fr [21] σ τ → xsemi σ τ (smi n b p) → K (isOk (smi n b p)) τ) : OkB m_X0_takeSemicolon [.ref 21] σ K := by
  unfold smi at hK
  refine vc_X0_takeSemicolon (cx_nextToken hp hn hb hpn c3 (fun τ hf ht => ?_))
  cases htk : tk1 n b p with
  | error e =>
    obtain ⟨f, a⟩ := e
    rw [htk] at ht hK
    exact ⟨fun h => absurd h Bool.false_ne_true, fun _ => hK τ hf ht⟩
  | ok t =>
    obtain ⟨s, st, pl, v⟩ := t
    have h0 := tk1_ok hb hpn htk
    rw [htk] at ht hK
    dsimp only at hK
    obtain ⟨d4, d5, d3, _, d6, d7⟩ := ht
    refine ⟨fun _ => ?_, fun h => absurd h (fun z : true = false => Bool.noConfusion z)⟩
    rw [d4, nl_3, ieq (by omega) (by omega)]
    refine ⟨fun h3 => ?_, fun h3 => cx_refuse ⟨fun _ => ?_, fun h => absurd h (by decide)⟩⟩
    · rw [if_pos h3] at hK
      exact hK τ hf ⟨d6 (by omega), d3, d7⟩
    · rw [if_neg h3] at hK
      refine hK _ ((hf.w (by decide)).w (by decide)) ⟨?_, ?_⟩
      · rw [w_at (by decide), w_eq]; exact nl_2
      · rw [w_eq]; exact d5
