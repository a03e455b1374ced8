/-! THE SUMS AND THE NIGHTS, as mathematics -/
def sp_ans (k a b : Nat) : Nat := if k = 0 then a + b else if k = 1 then (if b ≤ a then a - b else b - a) else if k = 2 then a * b else a / b
def sp_fig (n : Nat) : Nat := if n < 10 then 1 else if n < 100 then 2 else if n < 1000 then 3 else 4
def sp_stp (k n : Nat) : Nat := if k = 0 then sp_fig n else if k = 1 then sp_fig n + 1 else if k = 2 then 2 * sp_fig n else 2 * sp_fig n - 1
theorem sp_fig_in (n : Nat) : 1 ≤ sp_fig n ∧ sp_fig n ≤ 4 := by unfold sp_fig; split <;> (try split) <;> (try split) <;> omega
theorem sp_stp_in (k n : Nat) : 1 ≤ sp_stp k n ∧ sp_stp k n ≤ 8 := by
  have h := sp_fig_in n
  unfold sp_stp; split <;> (try split) <;> (try split) <;> omega
theorem sp_ans_lt {k a b : Nat} (ha : a ≤ 99) (hb : b ≤ 99) : sp_ans k a b < 10000 := by
  unfold sp_ans
  split
  · omega
  · split
    · split <;> omega
    · split
      · have : a * b ≤ 99 * 99 := Nat.mul_le_mul ha hb
        omega
      · have := Nat.div_le_self a b
        omega
/-- the first place from i on, n of them, that has p; else the end -/
def sp_f (p : Nat → Bool) : Nat → Nat → Nat
  | 0, i => i
  | n + 1, i => if p i then i else sp_f p n (i + 1)
def sp_sum : Nat → (Nat → Nat) → Nat
  | 0, _ => 0
  | n + 1, f => sp_sum n f + f n
/-- a town's fixed parts by nights: ghosts, clerks, steps, paces, rooms of clerks, skills -/
abbrev sp_P : Type := Nat × Nat × (Nat → Nat) × (Nat → Nat) × (Nat → Nat) × (Nat → Nat)
/-- what nights change: rooms, steps done, harm by rooms -/
abbrev sp_W : Type := (Nat → Nat) × (Nat → Nat) × (Nat → Nat)
def sp_at (st rm dn : Nat → Nat) (dk : Nat) : Nat → Bool := fun g => decide (dn g < st g ∧ rm g = dk)
def sp_work (gh : Nat) (st rm dn : Nat → Nat) (dk sk : Nat) : Nat → Nat := fun j => if j = sp_f (sp_at st rm dn dk) gh 0 then min (st j) (dn j + sk) else dn j
def sp_cl (gh : Nat) (st rm dk sk : Nat → Nat) : Nat → (Nat → Nat) → (Nat → Nat)
  | 0, dn => dn
  | c + 1, dn => sp_work gh st rm (sp_cl gh st rm dk sk c dn) (dk c) (sk c)
def sp_hm (gh : Nat) (st rm dn hm : Nat → Nat) : Nat → Nat := fun r => hm r + sp_sum gh (fun g => if rm g = r then st g - dn g else 0)
def sp_go (st pc rm dn : Nat → Nat) : Nat → Nat := fun g => if dn g < st g then (rm g + pc g) % 6 else rm g
def sp_dn (p : sp_P) (w : sp_W) : Nat → Nat := sp_cl p.1 p.2.2.1 w.1 p.2.2.2.2.1 p.2.2.2.2.2 p.2.1 w.2.1
def sp_night (p : sp_P) (w : sp_W) : sp_W := (sp_go p.2.2.1 p.2.2.2.1 w.1 (sp_dn p w), sp_dn p w, sp_hm p.1 p.2.2.1 w.1 (sp_dn p w) w.2.2)
def sp_run (p : sp_P) : Nat → sp_W → sp_W
  | 0, w => w
  | n + 1, w => sp_night p (sp_run p n w)
def sp_tot (hm : Nat → Nat) : Nat := hm 0 + hm 1 + hm 2 + hm 3 + hm 4 + hm 5
/-- within bounds -/
def sp_ok (p : sp_P) (w : sp_W) : Prop := p.1 ≤ 4 ∧ p.2.1 ≤ 3 ∧ (∀ g, g < p.1 → p.2.2.1 g ≤ 8 ∧ p.2.2.2.1 g < 6 ∧ w.1 g < 6) ∧ ∀ c, c < p.2.1 → p.2.2.2.2.1 c < 6 ∧ p.2.2.2.2.2 c ≤ 4
theorem sp_ok_night {p : sp_P} {w : sp_W} (h : sp_ok p w) : sp_ok p (sp_night p w) := by
  refine ⟨h.1, h.2.1, fun g hg => ⟨(h.2.2.1 g hg).1, (h.2.2.1 g hg).2.1, ?_⟩, h.2.2.2⟩
  show sp_go p.2.2.1 p.2.2.2.1 w.1 (sp_dn p w) g < 6
  unfold sp_go
  split
  · omega
  · exact (h.2.2.1 g hg).2.2
theorem sp_ok_run {p : sp_P} {w : sp_W} (h : sp_ok p w) : ∀ n, sp_ok p (sp_run p n w)
  | 0 => h
  | n + 1 => sp_ok_night (sp_ok_run h n)
theorem sp_f_le (p : Nat → Bool) : ∀ n i, sp_f p n i ≤ i + n
  | 0, i => by simp [sp_f]
  | n + 1, i => by
    unfold sp_f
    split
    · omega
    · have := sp_f_le p n (i + 1)
      omega
theorem sp_f_at (p : Nat → Bool) : ∀ n i, sp_f p n i < i + n → p (sp_f p n i) = true
  | 0, i, h => by simp [sp_f] at h
  | n + 1, i, h => by
    unfold sp_f at h ⊢
    split at h
    · rename_i hp
      rw [if_pos hp]; exact hp
    · rename_i hp
      rw [if_neg hp]
      exact sp_f_at p n (i + 1) (by omega)
/-- a night's harm, a ghost at a time -/
theorem sp_sum_le {n B : Nat} {f : Nat → Nat} (h : ∀ g, g < n → f g ≤ B) : sp_sum n f ≤ n * B := by
  induction n with
  | zero => simp [sp_sum]
  | succ n ih =>
    have h1 := ih (fun g hg => h g (by omega))
    have h2 := h n (by omega)
    simp only [sp_sum, Nat.succ_mul]
    omega
theorem sp_night_hm {p : sp_P} {w : sp_W} (h : sp_ok p w) (r : Nat) : (sp_night p w).2.2 r ≤ w.2.2 r + 32 := by
  show sp_hm p.1 p.2.2.1 w.1 (sp_dn p w) w.2.2 r ≤ _
  unfold sp_hm
  have h1 : sp_sum p.1 (fun g => if w.1 g = r then p.2.2.1 g - sp_dn p w g else 0) ≤ p.1 * 8 := sp_sum_le (fun g hg => by
    have := (h.2.2.1 g hg).1
    split <;> omega)
  have h2 := h.1
  omega
theorem sp_run_hm {p : sp_P} {w : sp_W} (h : sp_ok p w) (r : Nat) : ∀ n, (sp_run p n w).2.2 r ≤ w.2.2 r + 32 * n
  | 0 => by simp [sp_run]
  | n + 1 => by
    have h1 := sp_run_hm h r n
    have h2 := sp_night_hm (sp_ok_run h n) r
    show (sp_night p (sp_run p n w)).2.2 r ≤ _
    omega
