/-! THE WORLD: 77 cells of fixed shape; only whole numbers in it change. A state: what each cell holds by its places, and the long fields. -/
abbrev hs_St : Type := (Nat → Nat → Int32) × (Nat → Int64)
abbrev hs_Sh : Type := (Nat × Nat) ⊕ (Nat × List (Option (Option Nat)))
/-- what is fixed in a launch: the classes' numbers and slots, the array classes, the addresses of the cells (and from 1000 on of the texts), the addresses of the texts' bytes -/
abbrev hs_G : Type := va_G × (Nat → ClassId) × (Nat → Nat) × (Nat → Nat)
/-- a method: name, bytes, locals, return type, frames, words -/
abbrev hs_M : Type := MethodName × ByteArray × Nat × Option FieldType × Nat × Nat
def hs_rm (d : hs_M) : Room := { frames := d.2.2.2.2.1, cells := 0, slots := 0, locals := d.2.2.2.2.2 }
def hs_ws (d : hs_M) : List Cond := Cond.code d.1 d.2.1 d.2.2.1 d.2.2.2.1 :: hs_U
def hs_shape : List hs_Sh := [.inr (5, [some (some 1), some (some 8), some (some 19), some (some 21), some (some 34), some (some 57), some (some 58), some (some 62), none, none]), .inr (4, [none, some (some 2), some (some 3), some (some 4), none, some (some 5), some (some 6), none, some (some 7)]), .inl (0, 4), .inl (0, 4), .inl (0, 4), .inl (0, 3), .inl (0, 3), .inl (0, 6), .inr (3, [none, some (some 9), some (some 10), some (some 11), some (some 12), some (some 13), none, some (some 14), some (some 15), none, none, some (some 16), some (some 17), some (some 18)]), .inl (0, 4), .inl (0, 4), .inl (0, 4), .inl (0, 4), .inl (0, 4), .inl (0, 3), .inl (0, 3), .inl (0, 6), .inl (0, 6), .inl (0, 6), .inr (2, [some (some 20), none]), .inl (0, 160), .inr (0, [some (some 19), some (some 22), some (some 33), none, none, none, none, none, none]), .inr (3, [none, some (some 23), some (some 24), some (some 25), some (some 26), some (some 27), none, some (some 28), some (some 29), none, none, some (some 30), some (some 31), some (some 32)]), .inl (0, 4), .inl (0, 4), .inl (0, 4), .inl (0, 4), .inl (0, 4), .inl (0, 3), .inl (0, 3), .inl (0, 6), .inl (0, 6), .inl (0, 6), .inl (0, 4), .inl (2, 2), .inr (3, [none, some (some 36), some (some 37), some (some 38), some (some 39), some (some 40), none, some (some 41), some (some 42), none, none, some (some 43), some (some 44), some (some 45)]), .inl (0, 4), .inl (0, 4), .inl (0, 4), .inl (0, 4), .inl (0, 4), .inl (0, 3), .inl (0, 3), .inl (0, 6), .inl (0, 6), .inl (0, 6), .inr (3, [none, some (some 47), some (some 48), some (some 49), some (some 50), some (some 51), none, some (some 52), some (some 53), none, none, some (some 54), some (some 55), some (some 56)]), .inl (0, 4), .inl (0, 4), .inl (0, 4), .inl (0, 4), .inl (0, 4), .inl (0, 3), .inl (0, 3), .inl (0, 6), .inl (0, 6), .inl (0, 6), .inl (1, 2), .inr (1, [some (some 59), some (some 60), some (some 61)]), .inl (0, 4), .inl (0, 4), .inl (0, 160), .inl (0, 126), .inr (6, [some (some 64), some (some 65), some (some 66), none, some (some 67), none, none, some (some 68), none, some (some 69), none, none, none, none, none, none, none, none, some (some 70), some none, some none, some none, some (some 71), some (some 72), some (some 73), some (some 74), some (some 75), none, some (some 76)]), .inl (0, 141), .inl (0, 47), .inl (1, 2), .inl (0, 47), .inl (0, 4), .inl (0, 160), .inl (0, 6), .inl (0, 84), .inl (0, 126), .inl (0, 4), .inl (0, 4), .inl (0, 160), .inl (0, 47)]
def hs_img (j : Nat) : Nat := if j = 0 then 35 else 46
def hs_fv (G : hs_G) (σ : hs_St) (k j : Nat) : Option (Option Nat) → Value
  | none => .int (σ.1 k j)
  | some none => .long (σ.2 j)
  | some (some r) => .ref (G.2.2.1 r)
def hs_fs (G : hs_G) (σ : hs_St) (k : Nat) (fd : List (Option (Option Nat))) : List Value := fd.mapIdx (fun j d => hs_fv G σ k j d)
def hs_cell (G : hs_G) (σ : hs_St) (k : Nat) : hs_Sh → va_E
  | .inl q => if q.1 = 2 then .inl (G.2.1 2, q.2, .inr (.inr (.inr (.inr (fun j => some (G.2.2.1 (hs_img j))))))) else .inl (G.2.1 q.1, q.2, .inl (σ.1 k))
  | .inr q => .inr (q.1, hs_fs G σ k q.2)
def hs_enc (G : hs_G) (σ : hs_St) : va_W := hs_shape.mapIdx (fun k s => (G.2.2.1 k, hs_cell G σ k s))
def hs_tys (G : hs_G) : List (ClassId × FieldType) := [(G.2.1 0, .int), (G.2.1 1, .boolean), (G.2.1 2, .object "HauntSums$Town")]
def hs_ua (σ : hs_St) (k : Nat) (f : Nat → Int32) : hs_St := (fun j => if j = k then f else σ.1 j, σ.2)
def hs_w (σ : hs_St) (k i : Nat) (v : Int32) : hs_St := hs_ua σ k (upd (σ.1 k) i v)
def hs_wl (σ : hs_St) (i : Nat) (v : Int64) : hs_St := (σ.1, vp_updL σ.2 i v)
def hs_tr (a : Nat → Nat) : Value → Value
  | .ref k => .ref (a k)
  | v => v
def hs_tv (a : Nat → Nat) (q : Nat × Value) : Nat × Value := (q.1, hs_tr a q.2)
theorem hs_tr_cat (a : Nat → Nat) (v : Value) : (hs_tr a v).category = v.category := by cases v <;> rfl
theorem hs_tr_sum (a : Nat → Nat) (l : List Value) : ((l.map (hs_tr a)).map fun v => v.category).sum = (l.map fun v => v.category).sum := by
  rw [List.map_map]
  congr 1
  exact List.map_congr_left fun v _ => hs_tr_cat a v
theorem hs_enc_at {G : hs_G} {σ : hs_St} {k : Nat} {s : hs_Sh} (h : hs_shape[k]? = some s) : (hs_enc G σ)[k]? = some (G.2.2.1 k, hs_cell G σ k s) := by
  simp [hs_enc, List.getElem?_mapIdx, h]
theorem hs_enc_adr {G : hs_G} {σ : hs_St} {k : Nat} {q : Nat × va_E} (h : (hs_enc G σ)[k]? = some q) : k < 77 ∧ q.1 = G.2.2.1 k := by
  rw [hs_enc, List.getElem?_mapIdx] at h
  cases hs : hs_shape[k]? with
  | none => rw [hs] at h; cases h
  | some s =>
    rw [hs] at h
    have hl : k < hs_shape.length := (List.getElem?_eq_some_iff.mp hs).1
    have h77 : hs_shape.length = 77 := by decide +kernel
    cases h
    exact ⟨by omega, rfl⟩
theorem hs_mapIdx {α β : Type} {f g : Nat → α → β} {l : List α} (h : ∀ i d, l[i]? = some d → f i d = g i d) : l.mapIdx f = l.mapIdx g := by
  apply List.ext_getElem?
  intro i
  simp only [List.getElem?_mapIdx]
  cases hd : l[i]? with
  | none => rfl
  | some d => simp only [Option.map_some, h i d hd]
theorem hs_cell_ne {G : hs_G} {σ : hs_St} {k j : Nat} {f : Nat → Int32} (s : hs_Sh) (h : j ≠ k) : hs_cell G (hs_ua σ k f) j s = hs_cell G σ j s := by
  have e : (hs_ua σ k f).1 j = σ.1 j := by simp [hs_ua, h]
  cases s with
  | inl q => simp only [hs_cell, e]
  | inr q =>
    simp only [hs_cell, hs_fs]
    congr 2
    refine hs_mapIdx ?_
    intro i d _
    cases d with
    | none => simp only [hs_fv, e]
    | some x => cases x <;> rfl
theorem hs_enc_ua {G : hs_G} {σ : hs_St} {k t n : Nat} {f : Nat → Int32} (h : hs_shape[k]? = some (.inl (t, n))) (ht : t ≠ 2) : (hs_enc G σ).set k (G.2.2.1 k, .inl (G.2.1 t, n, .inl f)) = hs_enc G (hs_ua σ k f) := by
  apply List.ext_getElem?
  intro j
  rw [List.getElem?_set]
  by_cases hj : k = j
  · subst hj
    have hl := (List.getElem?_eq_some_iff.mp (hs_enc_at (G := G) (σ := σ) h)).1
    rw [if_pos rfl, if_pos hl, hs_enc_at h]
    simp only [hs_cell, if_neg ht, hs_ua, if_true]
  · rw [if_neg hj]
    simp only [hs_enc, List.getElem?_mapIdx]
    cases hs_shape[j]? with
    | none => rfl
    | some s => simp only [Option.map_some, hs_cell_ne s (Ne.symm hj)]
theorem hs_fs_at {G : hs_G} {σ : hs_St} {k j : Nat} {fd : List (Option (Option Nat))} {x : Option (Option Nat)} (h : fd[j]? = some x) : (hs_fs G σ k fd)[j]? = some (hs_fv G σ k j x) := by
  simp [hs_fs, List.getElem?_mapIdx, h]
theorem hs_fs_set {G : hs_G} {σ : hs_St} {k j : Nat} {fd : List (Option (Option Nat))} {v : Int32} (h : fd[j]? = some none) : (hs_fs G σ k fd).set j (.int v) = hs_fs G (hs_w σ k j v) k fd := by
  apply List.ext_getElem?
  intro i
  rw [List.getElem?_set]
  by_cases hj : j = i
  · subst hj
    have hl := (List.getElem?_eq_some_iff.mp (hs_fs_at (G := G) (σ := σ) (k := k) h)).1
    rw [if_pos rfl, if_pos hl, hs_fs_at h]
    simp [hs_fv, hs_w, hs_ua, upd]
  · rw [if_neg hj]
    simp only [hs_fs, List.getElem?_mapIdx]
    cases fd[i]? with
    | none => rfl
    | some d =>
      cases d with
      | none => simp [hs_fv, hs_w, hs_ua, upd, Ne.symm hj]
      | some x => cases x <;> rfl
theorem hs_enc_w {G : hs_G} {σ : hs_St} {k j ci : Nat} {fd : List (Option (Option Nat))} {v : Int32} (h : hs_shape[k]? = some (.inr (ci, fd))) (hj : fd[j]? = some none) : (hs_enc G σ).set k (G.2.2.1 k, .inr (ci, (hs_fs G σ k fd).set j (.int v))) = hs_enc G (hs_w σ k j v) := by
  apply List.ext_getElem?
  intro i
  rw [List.getElem?_set]
  by_cases hi : k = i
  · subst hi
    have hl := (List.getElem?_eq_some_iff.mp (hs_enc_at (G := G) (σ := σ) h)).1
    rw [if_pos rfl, if_pos hl, hs_enc_at h, hs_fs_set hj]
    rfl
  · rw [if_neg hi]
    simp only [hs_enc, List.getElem?_mapIdx]
    cases hs_shape[i]? with
    | none => rfl
    | some s => simp only [Option.map_some, hs_w, hs_cell_ne s (Ne.symm hi)]
def hs_noL : hs_Sh → Bool
  | .inl _ => true
  | .inr q => q.2.all (fun d => d != some none)
theorem hs_noLs : ∀ k, k < 77 → k ≠ 63 → (hs_shape[k]?.map hs_noL) = some true := by decide +kernel
theorem hs_cell_wl {G : hs_G} {σ : hs_St} {k j : Nat} {v : Int64} (s : hs_Sh) (h : hs_noL s = true) : hs_cell G (hs_wl σ j v) k s = hs_cell G σ k s := by
  cases s with
  | inl q => rfl
  | inr q =>
    simp only [hs_cell, hs_fs]
    congr 2
    refine hs_mapIdx ?_
    intro i d hd0
    have hd : d ∈ q.2 := List.mem_of_getElem? hd0
    cases d with
    | none => rfl
    | some x =>
      cases x with
      | none =>
        have h1 := List.all_eq_true.mp (show q.2.all (fun d => d != some none) = true from h) (some none) hd
        simp at h1
      | some r => rfl
theorem hs_enc_wl {G : hs_G} {σ : hs_St} {j ci : Nat} {fd : List (Option (Option Nat))} {v : Int64} (h : hs_shape[63]? = some (.inr (ci, fd))) (hj : fd[j]? = some (some none)) : (hs_enc G σ).set 63 (G.2.2.1 63, .inr (ci, (hs_fs G σ 63 fd).set j (.long v))) = hs_enc G (hs_wl σ j v) := by
  apply List.ext_getElem?
  intro i
  rw [List.getElem?_set]
  by_cases hi : 63 = i
  · subst hi
    have hl := (List.getElem?_eq_some_iff.mp (hs_enc_at (G := G) (σ := σ) h)).1
    rw [if_pos rfl, if_pos hl, hs_enc_at h]
    have e : (hs_fs G σ 63 fd).set j (.long v) = hs_fs G (hs_wl σ j v) 63 fd := by
      apply List.ext_getElem?
      intro i
      rw [List.getElem?_set]
      by_cases hj2 : j = i
      · subst hj2
        have hl := (List.getElem?_eq_some_iff.mp (hs_fs_at (G := G) (σ := σ) (k := 63) hj)).1
        rw [if_pos rfl, if_pos hl, hs_fs_at hj]
        simp [hs_fv, hs_wl, vp_updL]
      · rw [if_neg hj2]
        simp only [hs_fs, List.getElem?_mapIdx]
        cases fd[i]? with
        | none => rfl
        | some d =>
          cases d with
          | none => rfl
          | some x =>
            cases x with
            | none => simp [hs_fv, hs_wl, vp_updL, Ne.symm hj2]
            | some r => rfl
    rw [e]
    rfl
  · rw [if_neg hi]
    simp only [hs_enc, List.getElem?_mapIdx]
    cases hs : hs_shape[i]? with
    | none => rfl
    | some s =>
      have hl : i < hs_shape.length := (List.getElem?_eq_some_iff.mp hs).1
      have h77 : hs_shape.length = 77 := by decide +kernel
      have h1 := hs_noLs i (by omega) (fun e => hi e.symm)
      rw [hs] at h1
      simp only [Option.map_some, hs_cell_wl s (Option.some.inj h1)]
/-- the addresses are apart, and of a kind: for one state as for another -/
theorem hs_D {G : hs_G} {σ τ : hs_St} {A : Nat → Prop} (h : va_D A (hs_enc G σ)) : va_D A (hs_enc G τ) := by
  have back : ∀ {k : Nat} {q : Nat × va_E}, (hs_enc G τ)[k]? = some q → ∃ q', (hs_enc G σ)[k]? = some q' ∧ q'.1 = q.1 := by
    intro k q hq
    rw [hs_enc, List.getElem?_mapIdx] at hq
    cases hs : hs_shape[k]? with
    | none => rw [hs] at hq; cases hq
    | some s =>
      rw [hs] at hq
      cases hq
      exact ⟨_, hs_enc_at hs, rfl⟩
  refine ⟨fun i j p q hp hq e => ?_, fun k q hq => ?_⟩
  · obtain ⟨p', h1, e1⟩ := back hp
    obtain ⟨q', h2, e2⟩ := back hq
    exact h.1 i j p' q' h1 h2 (by rw [e1, e2, e])
  · obtain ⟨q', h1, e1⟩ := back hq
    rw [← e1]
    exact h.2 k q' h1
theorem hs_A {G : hs_G} {σ τ : hs_St} {sz q : Nat} (h : va_A (hs_enc G σ) sz q) : va_A (hs_enc G τ) sz q := by
  rcases h with ⟨k, e, h⟩ | h
  · rw [hs_enc, List.getElem?_mapIdx] at h
    cases hs : hs_shape[k]? with
    | none => rw [hs] at h; cases h
    | some s =>
      rw [hs] at h
      cases h
      exact Or.inl ⟨k, _, hs_enc_at hs⟩
  · exact Or.inr h
/-! WHAT HOLDS OF A LAUNCH'S TABLES: nest mates' links, the texts -/
def hs_nest : List Cond := [(Cond.methodLinkNest "HauntSums" 9 ⟨"HauntSums$Walk", "<init>", "()V"⟩ "HauntSums"), (Cond.methodLinkNest "HauntSums" 18 ⟨"HauntSums$Town", "<init>", "()V"⟩ "HauntSums"), (Cond.methodLinkNest "HauntSums" 25 ⟨"HauntSums$Tape", "<init>", "()V"⟩ "HauntSums"), (Cond.methodLinkNest "HauntSums$Reader" 11 ⟨"HauntSums$Town", "<init>", "()V"⟩ "HauntSums"), (Cond.methodLinkNest "HauntSums" 49 ⟨"HauntSums$Sheets", "<init>", "()V"⟩ "HauntSums"), (Cond.methodLinkNest "HauntSums$Town" 61 ⟨"HauntSums", "within", "(III)Z"⟩ "HauntSums"), (Cond.methodLinkNest "HauntSums$Reader" 133 ⟨"HauntSums", "within", "(III)Z"⟩ "HauntSums"), (Cond.methodLinkNest "HauntSums$Walk" 63 ⟨"HauntSums", "answerOf", "(III)I"⟩ "HauntSums"), (Cond.methodLinkNest "HauntSums$Walk" 67 ⟨"HauntSums", "stepsOf", "(II)I"⟩ "HauntSums"), (Cond.methodLinkNest "HauntSums$Town" 85 ⟨"HauntSums", "sevensOf", "(I)I"⟩ "HauntSums"), (Cond.methodLinkNest "HauntSums$Town" 65 ⟨"HauntSums", "answerOf", "(III)I"⟩ "HauntSums"), (Cond.methodLinkNest "HauntSums$Town" 73 ⟨"HauntSums", "stepsOf", "(II)I"⟩ "HauntSums"), (Cond.methodLinkNest "HauntSums$Sheets" 21 ⟨"HauntSums", "within", "(III)Z"⟩ "HauntSums")]
def hs_N (U : State) : Prop := ∀ w ∈ hs_nest, va_Nw w U
def hs_len : List Nat := [4, 4, 5, 4, 4, 5]
def hs_byt : List (List Int32) := [[112, 108, 117, 115], [108, 101, 115, 115], [116, 105, 109, 101, 115], [111, 118, 101, 114], [100, 111, 110, 101], [99, 108, 101, 114, 107]]
def hs_txt : List (Nat × String) := [(90, "plus"), (96, "less"), (98, "times"), (100, "over"), (102, "done"), (103, "clerk")]
/-- the texts and the JDK's statics, at cells that nobody writes -/
def hs_X (G : hs_G) (A : Nat → Prop) (U : State) (H : Heap) : Prop :=
  vk_S 6 hs_len hs_byt (fun i => G.2.2.1 (1000 + i)) G.2.2.2 A U H ∧ (∀ i q, hs_txt[i]? = some q → vk_R "HauntSums$Reader" q.1 q.2 (G.2.2.1 (1000 + i)) U) ∧ va_Z "java/lang/String" "COMPACT_STRINGS" "Z" (.int 1) A U H ∧ ∃ v : Value, (v = .null ∨ ∃ a, v = .ref a) ∧ va_Z "jdk/internal/util/Preconditions" "SIOOBE_FORMATTER" "Ljava/util/function/BiFunction;" v A U H
theorem hs_nest_ok : ∀ w ∈ hs_nest, ∃ a i x h, w = .methodLinkNest a i x h := by
  intro w hw
  simp only [hs_nest, List.mem_cons, List.not_mem_nil, or_false] at hw
  rcases hw with rfl | rfl | rfl | rfl | rfl | rfl | rfl | rfl | rfl | rfl | rfl | rfl | rfl <;> exact ⟨_, _, _, _, rfl⟩
theorem hs_N.warm {s U : State} (hW : s.WarmedH U.vm) (h : hs_N s) : hs_N U := by
  intro w hw
  obtain ⟨a, i, x, hh, rfl⟩ := hs_nest_ok w hw
  exact (h _ hw).warmM hW
theorem hs_N.same {u U : State} (hv : u.vm = U.vm) (h : hs_N u) : hs_N U := by
  intro w hw
  obtain ⟨a, i, x, hh, rfl⟩ := hs_nest_ok w hw
  exact (h _ hw).same rfl hv
theorem hs_X.warm {G : hs_G} {A : Nat → Prop} {s U : State} {H : Heap} (hW : s.WarmedH U.vm) (h : hs_X G A s H) : hs_X G A U H := by
  obtain ⟨h1, h2, h3, v, hv, h4⟩ := h
  exact ⟨h1.moved hW.alike, fun i q hq => (h2 i q hq).warm hW, h3.moved hW.alike, v, hv, h4.moved hW.alike⟩
theorem hs_X.same {G : hs_G} {A : Nat → Prop} {u U : State} {H : Heap} (hv : u.vm = U.vm) (h : hs_X G A u H) : hs_X G A U H := by
  obtain ⟨h1, h2, h3, v, hv4, h4⟩ := h
  have ha : u.vm.Alike U.vm := by rw [← hv]; exact Vm.Alike.refl _
  exact ⟨h1.moved ha, fun i q hq => (h2 i q hq).same hv.symm, h3.moved ha, v, hv4, h4.moved ha⟩
theorem hs_X.kept {G : hs_G} {A : Nat → Prop} {U : State} {H H1 : Heap} (h : hs_X G A U H) (hq : ∀ a : Nat, a < H.size → ¬ A a → H1[a]? = H[a]?) : hs_X G A U H1 := by
  obtain ⟨h1, h2, h3, v, hv, h4⟩ := h
  exact ⟨h1.kept hq, h2, h3.kept hq, v, hv, h4.kept hq⟩
theorem hs_X.narrow {G : hs_G} {A B : Nat → Prop} {U : State} {H : Heap} (h : hs_X G A U H) (hAB : ∀ q, B q → A q) : hs_X G B U H := by
  obtain ⟨h1, h2, h3, v, hv, h4⟩ := h
  exact ⟨h1.narrow hAB, h2, h3.narrow hAB, v, hv, h4.narrow hAB⟩
/-! THE CONTRACT of a method over the world, and the judgement at a place of its code -/
def hs_Pc (G : hs_G) (σ : hs_St) (av : List Value) (sz : Nat) : Array Value → State → Prop :=
  va_Pc (av.map (hs_tr G.2.2.1)) (fun U => U.heap.size = sz ∧ va_P G.1 vwCl (hs_enc G σ) U.heap ∧ va_K G.1 vwCl (hs_tys G) U ∧ va_D (fun _ => True) (hs_enc G σ) ∧ hs_N U ∧ hs_X G (va_A (hs_enc G σ) sz) U U.heap)
def hs_Qc (G : hs_G) (A : Nat → Prop) (K : Option Value → hs_St → Prop) : Array Value → State → Outcome → State → Prop :=
  fun _ st oc t => (∃ (r : Option Value) (τ : hs_St), oc = .returned (r.map (hs_tr G.2.2.1)) ∧ K r τ ∧ va_P G.1 vwCl (hs_enc G τ) t.heap) ∧ va_F A st t
def hs_Ok (d : hs_M) (av : List Value) (σ : hs_St) (K : Option Value → hs_St → Prop) : Prop :=
  ∀ (l : Launch) (G : hs_G) (sz : Nat), Met l d.1 (hs_ws d) (hs_rm d) (hs_Pc G σ av sz) (hs_Qc G (va_A (hs_enc G σ) sz) K) 0 0 (va_A (hs_enc G σ) sz)
def hs_Cx (d : hs_M) (p : Program) (s : State) (m : MethodId) (args : Array Value) (meth : Method) (c : Code) (G : hs_G) (A : Nat → Prop) : Prop :=
  p.tables.exec = Jvm.exec ∧ c.code = d.2.1 ∧ meth.sig.returnType = d.2.2.2.1 ∧ c.maxLocals = d.2.2.1 ∧ s.vm.findClass d.1.cls = some m.cls ∧ (∀ w ∈ hs_ws d, w.before args s = true) ∧ meth.locks = false ∧
  va_K G.1 vwCl (hs_tys G) s ∧ hs_N s ∧ hs_X G A s s.heap ∧ (∀ q, s.heap.size ≤ q → A q) ∧ ∀ σ, va_D A (hs_enc G σ)
def hs_Rn (d : hs_M) (pc : Nat) (lv : List (Nat × Value)) (st : List Value) (σ : hs_St) (K : Option Value → hs_St → Prop) : Prop :=
  ∀ (p : Program) (l : Launch) (e : Env) (s : State) (m : MethodId) (args : Array Value) (below : List Frame) (meth : Method) (c : Code) (G : hs_G) (A : Nat → Prop), hs_Cx d p s m args meth c G A →
    ∀ (H : Heap) (locs : List Loc) (ls : Array Slot), va_P G.1 vwCl (hs_enc G σ) H → va_S A s.heap H locs → lv_has ls d.2.2.1 (lv.map (hs_tv G.2.2.1)) →
      W p l e (hs_rm d) s m args below meth c H locs 0 0 (MQ below (hs_Qc G A K) args s 0 0 A) (F0 m pc ls (st.map (hs_tr G.2.2.1)))
theorem hs_args_tv (a : Nat → Nat) : ∀ (vs : List Value) (i : Nat), lv_args i (vs.map (hs_tr a)) = (lv_args i vs).map (hs_tv a)
  | [], _ => rfl
  | v :: vs, i => by
    simp only [List.map_cons, lv_args, hs_tr_cat]
    rw [hs_args_tv a vs]
    rfl
theorem hs_sl_len (a : Nat → Nat) : ∀ (vs : List Value), (lg_sl (vs.map (hs_tr a))).length = (lg_sl vs).length
  | [] => rfl
  | v :: vs => by
    have h := hs_sl_len a vs
    simp only [lg_sl, List.map_cons, List.flatMap_cons, List.length_append, hs_tr_cat] at h ⊢
    rw [h]
    split <;> rfl
theorem hs_ok_of {d : hs_M} {av : List Value} {σ : hs_St} {K : Option Value → hs_St → Prop} (hy : plainName d.1.cls = true) (hn : (lg_sl av).length ≤ d.2.2.1) (h : hs_Rn d 0 (lv_args 0 av) [] σ K) : hs_Ok d av σ K := by
  intro l G sz
  refine Met.ofW (cc := d.2.1) (maxL := d.2.2.1) (ret := d.2.2.2.1) hy rfl ?_
  intro p e s m args below meth c s₁ B hml hv
  obtain ⟨rfl, hsz, hP, hK, hD0, hN, hX⟩ := hv
  subst hsz
  have hts := atoms_spec (ws := hs_ws d) B.pre
  have hown : s.vm.findClass d.1.cls = some m.cls := findClass_of_methodNamed B.named
  have hC : hs_Cx d p s m (av.map (hs_tr G.2.2.1)).toArray meth c G (va_A (hs_enc G σ) s.heap.size) :=
    ⟨B.exec, B.bytes, B.returns, hml, hown, hts, B.notSynchronized, hK, hN, hX, fun q h => Or.inr h, fun τ => hs_D (σ := σ) (hD0.self (sz := s.heap.size))⟩
  have hl := lv_entry (av.map (hs_tr G.2.2.1)) (n := d.2.2.1) (by rw [hs_sl_len]; exact hn)
  rw [lg_entry_eq]
  rw [hs_args_tv] at hl
  exact h p l e s m _ below meth c G _ hC s.heap [] _ hP va_S.rf hl
theorem hs_Qc.mono {G : hs_G} {A : Nat → Prop} {K K' : Option Value → hs_St → Prop} (h : ∀ r τ, K r τ → K' r τ) {a : Array Value} {st t : State} {o : Outcome} (q : hs_Qc G A K a st o t) : hs_Qc G A K' a st o t := by
  obtain ⟨⟨r, τ, h1, h2, h3⟩, h4⟩ := q
  exact ⟨⟨r, τ, h1, h r τ h2, h3⟩, h4⟩
theorem hs_Ok.mono {d : hs_M} {av : List Value} {σ : hs_St} {K K' : Option Value → hs_St → Prop} (hk : hs_Ok d av σ K) (h : ∀ r τ, K r τ → K' r τ) : hs_Ok d av σ K' := by
  intro l G sz p e ha hc hkk s m args below hf happ hP hT
  obtain ⟨t, o, h1, h2, h3, h4, h5⟩ := hk l G sz p e ha hc hkk s m args below hf happ hP hT
  exact ⟨t, o, h1, h2, h3, hs_Qc.mono h h4, h5⟩
