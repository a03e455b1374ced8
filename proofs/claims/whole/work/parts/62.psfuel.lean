/-! text: nothing is done yet in a draft; how far the lines go -/
theorem bd_5 {n p k p' : Nat} {b : Nat → Nat} {D D' : sp_T} {dt dt' : Nat → Bool} {dv dv' : Nat → Nat} (h5 : ∀ g, g < D 0 0 → D 5 g = 0) (h : bd n b D dt dv k p = .ok (D', dt', dv', p')) : ∀ g, g < D' 0 0 → D' 5 g = 0 := by
  unfold bd at h
  split at h
  · split at h
    · cases h
    · split at h
      · cases h
      · split at h
        · cases h
        · injection h with h; injection h with e1 h
          subst e1; exact h5
  · split at h
    · split at h
      · cases h
      · split at h
        · cases h
        · injection h with h; injection h with e1 h
          subst e1; exact h5
    · split at h
      · cases h
      · split at h
        · cases h
        · split at h
          · cases h
          · injection h with h; injection h with e1 h
            subst e1
            intro g hg
            rw [t_add_0] at hg
            by_cases e : g = D 0 0
            · subst e; exact t_add_1.2.2.2.2
            · rw [t_add_n e (by omega)]; exact h5 g (by omega)
theorem ln1_5 {n s st pl p' : Nat} {b : Nat → Nat} {D D' : sp_T} {dt dt' : Nat → Bool} {dv dv' : Nat → Nat} (h5 : ∀ g, g < D 0 0 → D 5 g = 0) (h : ln1 n b D dt dv s st pl = .ok (D', dt', dv', p')) : ∀ g, g < D' 0 0 → D' 5 g = 0 := by
  unfold ln1 at h
  split at h
  · split at h
    · cases hbd : bd n b D dt dv (knd b st pl) pl with
      | error e => rw [hbd] at h; cases h
      | ok q =>
        obtain ⟨D2, dt2, dv2, p2⟩ := q
        rw [hbd] at h
        dsimp only at h
        cases hs : smi n b p2 with
        | error e => rw [hs] at h; cases h
        | ok q =>
          rw [hs] at h
          injection h with h; injection h with e1 h
          subst e1
          exact bd_5 h5 hbd
    · cases h
  · cases h
theorem ps_fuel {n : Nat} {b : Nat → Nat} (hb : ∀ i, i < n → b i ≤ 127) : ∀ m m' l p D dt dv, n - p < m → n - p < m' → p ≤ n → dkk D dt dv → ps n b m l p D dt dv = ps n b m' l p D dt dv := by
  intro m
  induction m with
  | zero => intro m' l p D dt dv h; omega
  | succ m ih =>
    intro m' l p D dt dv h1 h2 hp hk
    obtain ⟨m2, rfl⟩ : ∃ m2, m' = m2 + 1 := ⟨m' - 1, by omega⟩
    unfold ps
    cases htk : tk1 n b p with
    | error e => rfl
    | ok t =>
      obtain ⟨s, st, pl, v⟩ := t
      dsimp only
      by_cases hs : s = 0
      · rw [if_pos hs, if_pos hs]
      · rw [if_neg hs, if_neg hs]
        cases hl : ln1 n b D dt dv s st pl with
        | error e => rfl
        | ok q =>
          obtain ⟨D', dt', dv', p'⟩ := q
          have ho := ln1_ok hb hp htk hk hl
          exact ih m2 (l + 1) p' D' dt' dv' (by omega) (by omega) ho.2.1 ho.2.2
