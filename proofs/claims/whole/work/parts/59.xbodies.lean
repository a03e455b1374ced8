/-! text of the class: what a line tells -/
def bds (n : Nat) (b : Nat → Nat) (D : sp_T) (dt : Nat → Bool) (dv : Nat → Nat) (k p : Nat) : lnT :=
  match bd n b D dt dv k p with
  | .error e => .error e
  | .ok (D', dt', dv', p') => match smi n b p' with
    | .error e => .error e
    | .ok p'' => .ok (D', dt', dv', p'')
def xdr (σ : hs_St) (D : sp_T) (dt : Nat → Bool) (dv : Nat → Nat) : Prop := xt 22 σ D ∧ ∀ g, g < 4 → σ.1 33 g = if dt g = true then nI (dv g) else -1
def xln (σ τ : hs_St) : lnT → Prop
  | .ok (D, dt, dv, p) => xdr τ D dt dv ∧ τ.1 21 3 = nI p ∧ τ.1 21 7 = σ.1 21 7
  | .error (f, a) => τ.1 21 7 = nI f ∧ τ.1 21 8 = nI a
abbrev SB : List Nat := [21, 22, 23, 24, 25, 26, 27, 28, 29, 30, 31, 32, 33]
theorem xdr.f {σ τ : hs_St} {D : sp_T} {dt : Nat → Bool} {dv : Nat → Nat} (h : xdr σ D dt dv) (g : hs_fr [21] σ τ) : xdr τ D dt dv := ⟨xt_fr g (by decide) h.1, by rw [g.2 33 (by decide)]; exact h.2⟩
theorem cx_takeClerk {σ : hs_St} {K : Bool → hs_St → Prop} {n p : Nat} {b : Nat → Nat} {D : sp_T} {dt : Nat → Bool} {dv : Nat → Nat} (hp : xp σ n b) (hn : n ≤ 160) (hb : ∀ i, i < n → b i ≤ 127) (hpn : p ≤ n) (c3 : σ.1 21 3 = nI p) (hd : xdr σ D dt dv) (h6 : D 6 0 < 3) (hK : ∀ τ, hs_fr SB σ τ → xln σ τ (bds n b D dt dv 5 p) → K (isOk (bds n b D dt dv 5 p)) τ) : OkB m_X0_takeClerk [.ref 21] σ K := by
  have e0 : (0 : Int32) = nI 0 := nl_0
  have e1 : (1 : Int32) = nI 1 := nl_1
  have e3 : (3 : Int32) = nI 3 := nl_3
  have e5 : (5 : Int32) = nI 5 := nl_5
  unfold bds bd at hK
  rw [if_neg (by decide), if_pos rfl] at hK
  refine vc_X0_takeClerk ?_
  rw [e0, e5]
  refine cx_num hp hn hb hpn (by omega) (by omega) c3 (fun τ1 hf1 hx1 => ?_)
  cases hn1 : nm n b p 0 5 with
  | error e =>
    obtain ⟨f, a⟩ := e
    rw [hn1] at hx1 hK
    exact ⟨fun h => absurd h Bool.false_ne_true, fun _ => hK τ1 (hf1.up (by decide)) hx1⟩
  | ok t =>
    obtain ⟨r, st, p1⟩ := t
    rw [hn1] at hx1 hK
    have o1 := nm_ok hb hpn hn1
    obtain ⟨x6, x5, x3, x7⟩ := hx1
    refine ⟨fun _ => ?_, fun h => absurd h (fun z : true = false => Bool.noConfusion z)⟩
    intro r' er
    have er : r' = nI r := by rw [er]; exact x6
    subst er
    rw [e1, e3]
    refine cx_num (xp_fr hp hf1 (by decide) (by decide)) hn hb o1.2.2.2.2.1 (by omega) (by omega) x3 (fun τ2 hf2 hx2 => ?_)
    have f2 := hf1.tr hf2
    dsimp only at hK
    cases hn2 : nm n b p1 1 3 with
    | error e =>
      obtain ⟨f, a⟩ := e
      rw [hn2] at hx2 hK
      exact ⟨fun _ => hK τ2 (f2.up (by decide)) hx2, fun h => absurd h Bool.false_ne_true⟩
    | ok t =>
      obtain ⟨s, st2, p2⟩ := t
      rw [hn2] at hx2 hK
      have o2 := nm_ok hb o1.2.2.2.2.1 hn2
      obtain ⟨y6, y5, y3, y7⟩ := hx2
      refine ⟨fun h => absurd h (fun z : true = false => Bool.noConfusion z), fun _ => ?_⟩
      dsimp only at hK
      refine cx_semi (xp_fr hp f2 (by decide) (by decide)) hn hb o2.2.2.2.2.1 y3 (fun τ3 hf3 hx3 => ?_)
      have f3 := f2.tr hf3
      cases hs : smi n b p2 with
      | error e =>
        obtain ⟨f, a⟩ := e
        rw [hs] at hx3 hK
        exact ⟨fun h => absurd h Bool.false_ne_true, fun _ => hK τ3 (f3.up (by decide)) hx3⟩
      | ok p3 =>
        rw [hs] at hx3 hK
        obtain ⟨z6, z3, z7⟩ := hx3
        refine ⟨fun _ => ?_, fun h => absurd h (fun z : true = false => Bool.noConfusion z)⟩
        rw [z6, y6]
        have hd3 := hd.f f3
        refine cx_addClerk_22 h6 hd3.1 (fun τ4 hf4 hx4 => hK τ4 ((f3.up (by decide)).tr (hf4.up (by decide))) ⟨⟨hx4, ?_⟩, ?_, ?_⟩)
        · rw [hf4.2 33 (by decide)]; exact hd3.2
        · rw [hf4.2 21 (by decide)]; exact z3
        · rw [hf4.2 21 (by decide), z7, y7, x7]
theorem cx_takeGhost {σ : hs_St} {K : Bool → hs_St → Prop} {n p k : Nat} {b : Nat → Nat} {D : sp_T} {dt : Nat → Bool} {dv : Nat → Nat} (hk4 : k < 4) (hp : xp σ n b) (hn : n ≤ 160) (hb : ∀ i, i < n → b i ≤ 127) (hpn : p ≤ n) (c3 : σ.1 21 3 = nI p) (hd : xdr σ D dt dv) (h0 : D 0 0 < 4) (hK : ∀ τ, hs_fr SB σ τ → xln σ τ (bds n b D dt dv k p) → K (isOk (bds n b D dt dv k p)) τ) : OkB m_X0_takeGhost [.ref 21, .int (nI k)] σ K := by
  have e0 : (0 : Int32) = nI 0 := nl_0
  have e1 : (1 : Int32) = nI 1 := nl_1
  have e5 : (5 : Int32) = nI 5 := nl_5
  have e99 : (99 : Int32) = nI 99 := nl_99
  unfold bds bd at hK
  rw [if_neg (by omega), if_neg (by omega)] at hK
  refine vc_X0_takeGhost ?_
  rw [e1, e99, e0, e5]
  refine cx_num hp hn hb hpn (by omega) (by omega) c3 (fun τ1 hf1 hx1 => ?_)
  cases hn1 : nm n b p 1 99 with
  | error e =>
    obtain ⟨f, a⟩ := e
    rw [hn1] at hx1 hK
    exact ⟨fun h => absurd h Bool.false_ne_true, fun _ => hK τ1 (hf1.up (by decide)) hx1⟩
  | ok t =>
    obtain ⟨a, st, p1⟩ := t
    rw [hn1] at hx1 hK
    have o1 := nm_ok hb hpn hn1
    obtain ⟨x6, x5, x3, x7⟩ := hx1
    refine ⟨fun _ => ?_, fun h => absurd h (fun z : true = false => Bool.noConfusion z)⟩
    intro r' er
    have er : r' = nI a := by rw [er]; exact x6
    subst er
    refine cx_num (xp_fr hp hf1 (by decide) (by decide)) hn hb o1.2.2.2.2.1 (by omega) (by omega) x3 (fun τ2 hf2 hx2 => ?_)
    have f2 := hf1.tr hf2
    dsimp only at hK
    cases hn2 : nm n b p1 1 99 with
    | error e =>
      obtain ⟨f, z⟩ := e
      rw [hn2] at hx2 hK
      exact ⟨fun h => absurd h Bool.false_ne_true, fun _ => hK τ2 (f2.up (by decide)) hx2⟩
    | ok t =>
      obtain ⟨c, st2, p2⟩ := t
      rw [hn2] at hx2 hK
      have o2 := nm_ok hb o1.2.2.2.2.1 hn2
      obtain ⟨y6, y5, y3, y7⟩ := hx2
      refine ⟨fun _ => ?_, fun h => absurd h (fun z : true = false => Bool.noConfusion z)⟩
      intro r'' er2
      have er2 : r'' = nI c := by rw [er2]; exact y6
      subst er2
      dsimp only at hK
      refine cx_num (xp_fr hp f2 (by decide) (by decide)) hn hb o2.2.2.2.2.1 (by omega) (by omega) y3 (fun τ3 hf3 hx3 => ?_)
      have f3 := f2.tr hf3
      cases hn3 : nm n b p2 0 5 with
      | error e =>
        obtain ⟨f, z⟩ := e
        rw [hn3] at hx3 hK
        exact ⟨fun _ => hK τ3 (f3.up (by decide)) hx3, fun h => absurd h Bool.false_ne_true⟩
      | ok t =>
        obtain ⟨r, st3, p3⟩ := t
        rw [hn3] at hx3 hK
        have o3 := nm_ok hb o2.2.2.2.2.1 hn3
        obtain ⟨z6, z5, z3, z7⟩ := hx3
        refine ⟨fun h => absurd h (fun z : true = false => Bool.noConfusion z), fun _ => ?_⟩
        dsimp only at hK
        refine cx_semi (xp_fr hp f3 (by decide) (by decide)) hn hb o3.2.2.2.2.1 z3 (fun τ4 hf4 hx4 => ?_)
        have f4 := f3.tr hf4
        cases hs : smi n b p3 with
        | error e =>
          obtain ⟨f, z⟩ := e
          rw [hs] at hx4 hK
          exact ⟨fun h => absurd h Bool.false_ne_true, fun _ => hK τ4 (f4.up (by decide)) hx4⟩
        | ok p4 =>
          rw [hs] at hx4 hK
          obtain ⟨w6, w3, w7⟩ := hx4
          refine ⟨fun _ => ?_, fun h => absurd h (fun z : true = false => Bool.noConfusion z)⟩
          rw [w6, z6]
          have hd4 := hd.f f4
          refine cx_addGhost_22 h0 hd4.1 (fun τ5 hf5 hx5 => hK τ5 ((f4.up (by decide)).tr (hf5.up (by decide))) ⟨⟨hx5, ?_⟩, ?_, ?_⟩)
          · rw [hf5.2 33 (by decide)]; exact hd4.2
          · rw [hf5.2 21 (by decide)]; exact w3
          · rw [hf5.2 21 (by decide), w7, z7, y7, x7]
