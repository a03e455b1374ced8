section HR2
variable {d : hs_M} {pc : Nat} {lv : List (Nat × Value)} {st : List Value} {σ : hs_St} {K : Option Value → hs_St → Prop}
theorem hs_u {p : Program} {s : State} {m : MethodId} {args : Array Value} {meth : Method} {c : Code} {G : hs_G} {A : Nat → Prop} (C : hs_Cx d p s m args meth c G A) {w : Cond} (h : w ∈ hs_U) : w.before args s = true :=
  C.2.2.2.2.2.1 w (List.mem_cons_of_mem _ h)
/-- a field's link: own's entry idx names slot j of class number ci -/
def hs_FL (own : String) (idx ci j : Nat) : Prop := ∃ (C : String) (T : u_T) (N : Nat) (ty : Nat → FieldType), vwCl[ci]? = some (C, T, N) ∧ (∀ w ∈ u_ws C T N, w ∈ hs_U) ∧ j < N ∧ Cond.fieldLink own idx C (T j).2.1 (T j).2.2.1 ∈ hs_U ∧ (T j).1 = C ∧ (∀ k, k < N → parseFieldDescriptor (T k).2.2.1 = some (ty k)) ∧ ∀ a, a < N → ∀ b, b < N → a ≠ b → (T a).2.1 ≠ (T b).2.1
/-- a field that may be written: not final, of the type -/
def hs_FW (ci j : Nat) (ty : FieldType) : Prop := ∀ (C : String) (T : u_T) (N : Nat), vwCl[ci]? = some (C, T, N) → (T j).2.2.2 = false ∧ parseFieldDescriptor (T j).2.2.1 = some ty
/-- cell k is an object of class number ci, its slot j holds x -/
def hs_FX (k ci j : Nat) (x : Option (Option Nat)) : Prop := ∃ fd, hs_shape[k]? = some (.inr (ci, fd)) ∧ fd[j]? = some x
/-- cell k is an array of kind t and length n -/
def hs_AX (k t n : Nat) : Prop := hs_shape[k]? = some (.inl (t, n))
def hs_fm (σ : hs_St) (k j : Nat) : Option (Option Nat) → Value
  | none => .int (σ.1 k j)
  | some none => .long (σ.2 j)
  | some (some r) => .ref r
theorem hs_fm_tr (G : hs_G) (σ : hs_St) (k j : Nat) (x : Option (Option Nat)) : hs_tr G.2.2.1 (hs_fm σ k j x) = hs_fv G σ k j x := by
  cases x with
  | none => rfl
  | some y => cases y <;> rfl
theorem hr_get {idx ci j k : Nat} {x : Option (Option Nat)} (hd : decode d.2.1 pc = .ok (.getfield idx, 3)) (hL : hs_FL d.1.cls idx ci j) (hX : hs_FX k ci j x) (kk : hs_Rn d (pc + 3) lv (hs_fm σ k j x :: st) σ K) : hs_Rn d pc lv (.ref k :: st) σ K := by
  intro p l e s m args below meth c G A C H locs ls hP hS hl
  obtain ⟨Cn, T, N, ty, hc, hin, hj, hlink, hT, -, -⟩ := hL
  obtain ⟨fd, hk, hx⟩ := hX
  have hu : ∀ w ∈ hs_U, w.before args s = true := fun w h => hs_u C h
  refine va_get (D := G.1) (cl := vwCl) (ci := ci) (v := hs_fv G σ k j x) (C := Cn) (T := T) (N := N) (ref := Cn) C.1 C.2.1 hu hin C.2.2.2.2.1 C.2.2.2.2.2.2.2.1 hP k (fs := hs_fs G σ k fd) (hs_enc_at hk) hc j hj (hu _ hlink) (by rw [hT]; exact fun _ h => h) (hs_fs_at hx) hd ?_
  rw [← hs_fm_tr]
  exact kk p l e s m args below meth c G A C H locs ls hP hS hl
theorem hr_put {idx ci j k : Nat} {v : Int32} (hd : decode d.2.1 pc = .ok (.putfield idx, 3)) (hL : hs_FL d.1.cls idx ci j) (hX : hs_FX k ci j none) (hW : hs_FW ci j .int) (kk : hs_Rn d (pc + 3) lv st (hs_w σ k j v) K) : hs_Rn d pc lv (.int v :: .ref k :: st) σ K := by
  intro p l e s m args below meth c G A C H locs ls hP hS hl
  obtain ⟨Cn, T, N, ty, hc, hin, hj, hlink, hT, hty, hnm⟩ := hL
  obtain ⟨fd, hk, hx⟩ := hX
  have hu : ∀ w ∈ hs_U, w.before args s = true := fun w h => hs_u C h
  refine va_put (D := G.1) (cl := vwCl) (ci := ci) (v := .int v) (ty := .int) (C := Cn) (T := T) (N := N) (ref := Cn) C.1 C.2.1 hu hin ty hty hnm C.2.2.2.2.1 C.2.2.2.2.2.2.2.1 hP (C.2.2.2.2.2.2.2.2.2.2.2 σ) hS k (fs := hs_fs G σ k fd) (hs_enc_at hk) hc j hj (hu _ hlink) (by rw [hT]; exact fun _ h => h) (hW _ _ _ hc).1 (hW _ _ _ hc).2 rfl rfl ?_ hd (fun H1 locs1 hP1 hD1 hS1 => ?_)
  · exact (List.getElem?_eq_some_iff.mp (hs_fs_at (G := G) (σ := σ) (k := k) hx)).1
  · rw [hs_enc_w hk hx] at hP1
    exact kk p l e s m args below meth c G A C H1 locs1 ls hP1 hS1 hl
theorem hr_putl {idx ci j : Nat} {v : Int64} (hd : decode d.2.1 pc = .ok (.putfield idx, 3)) (hL : hs_FL d.1.cls idx ci j) (hX : hs_FX 63 ci j (some none)) (hW : hs_FW ci j .long) (kk : hs_Rn d (pc + 3) lv st (hs_wl σ j v) K) : hs_Rn d pc lv (.long v :: .ref 63 :: st) σ K := by
  intro p l e s m args below meth c G A C H locs ls hP hS hl
  obtain ⟨Cn, T, N, ty, hc, hin, hj, hlink, hT, hty, hnm⟩ := hL
  obtain ⟨fd, hk, hx⟩ := hX
  have hu : ∀ w ∈ hs_U, w.before args s = true := fun w h => hs_u C h
  refine va_put (D := G.1) (cl := vwCl) (ci := ci) (v := .long v) (ty := .long) (C := Cn) (T := T) (N := N) (ref := Cn) C.1 C.2.1 hu hin ty hty hnm C.2.2.2.2.1 C.2.2.2.2.2.2.2.1 hP (C.2.2.2.2.2.2.2.2.2.2.2 σ) hS 63 (fs := hs_fs G σ 63 fd) (hs_enc_at hk) hc j hj (hu _ hlink) (by rw [hT]; exact fun _ h => h) (hW _ _ _ hc).1 (hW _ _ _ hc).2 rfl rfl ?_ hd (fun H1 locs1 hP1 hD1 hS1 => ?_)
  · exact (List.getElem?_eq_some_iff.mp (hs_fs_at (G := G) (σ := σ) (k := 63) hx)).1
  · rw [hs_enc_wl hk hx] at hP1
    exact kk p l e s m args below meth c G A C H1 locs1 ls hP1 hS1 hl
theorem hs_enc_arr {G : hs_G} {σ : hs_St} {k t n : Nat} (h : hs_AX k t n) (ht : t ≠ 2) : (hs_enc G σ)[k]? = some (G.2.2.1 k, .inl (G.2.1 t, n, .inl (σ.1 k))) := by
  rw [hs_enc_at h]
  simp only [hs_cell, if_neg ht]
theorem hr_iald {k n : Nat} {i : Int32} (hd : decode d.2.1 pc = .ok (.iaload, 1)) (hX : hs_AX k 0 n) (hin : vp_in i n) (kk : hs_Rn d (pc + 1) lv (.int (σ.1 k i.toNatClampNeg) :: st) σ K) : hs_Rn d pc lv (.int i :: .ref k :: st) σ K :=
  fun p l e s m args below meth c G A C H locs ls hP hS hl => va_iald C.1 C.2.1 C.2.2.2.2.2.2.2.1 hP k 0 (hs_enc_arr hX (by decide)) rfl hin hd (kk p l e s m args below meth c G A C H locs ls hP hS hl)
theorem hr_zald {k n : Nat} {i : Int32} (hd : decode d.2.1 pc = .ok (.baload, 1)) (hX : hs_AX k 1 n) (hin : vp_in i n) (kk : hs_Rn d (pc + 1) lv (.int (σ.1 k i.toNatClampNeg) :: st) σ K) : hs_Rn d pc lv (.int i :: .ref k :: st) σ K :=
  fun p l e s m args below meth c G A C H locs ls hP hS hl => va_zald C.1 C.2.1 C.2.2.2.2.2.2.2.1 hP k 1 (hs_enc_arr hX (by decide)) rfl hin hd (kk p l e s m args below meth c G A C H locs ls hP hS hl)
theorem hr_iast {k n : Nat} {i x : Int32} (hd : decode d.2.1 pc = .ok (.iastore, 1)) (hX : hs_AX k 0 n) (hin : vp_in i n) (kk : hs_Rn d (pc + 1) lv st (hs_w σ k i.toNatClampNeg x) K) : hs_Rn d pc lv (.int x :: .int i :: .ref k :: st) σ K := by
  intro p l e s m args below meth c G A C H locs ls hP hS hl
  refine va_iast C.1 C.2.1 C.2.2.2.2.2.2.2.1 hP (C.2.2.2.2.2.2.2.2.2.2.2 σ) hS k 0 (hs_enc_arr hX (by decide)) rfl hin hd (fun H1 locs1 hP1 hD1 hS1 => ?_)
  rw [hs_enc_ua hX (by decide)] at hP1
  exact kk p l e s m args below meth c G A C H1 locs1 ls hP1 hS1 hl
theorem hr_zast {k n : Nat} {i x : Int32} (hd : decode d.2.1 pc = .ok (.bastore, 1)) (hX : hs_AX k 1 n) (hx : vp_nar .boolean x = x) (hin : vp_in i n) (kk : hs_Rn d (pc + 1) lv st (hs_w σ k i.toNatClampNeg x) K) : hs_Rn d pc lv (.int x :: .int i :: .ref k :: st) σ K := by
  intro p l e s m args below meth c G A C H locs ls hP hS hl
  refine va_zast C.1 C.2.1 C.2.2.2.2.2.2.2.1 hP (C.2.2.2.2.2.2.2.2.2.2.2 σ) hS k 1 (hs_enc_arr hX (by decide)) rfl hin hd (fun H1 locs1 hP1 hD1 hS1 => ?_)
  rw [hx, hs_enc_ua hX (by decide)] at hP1
  exact kk p l e s m args below meth c G A C H1 locs1 ls hP1 hS1 hl
theorem hr_alen {k n : Nat} {v : Int32} (hd : decode d.2.1 pc = .ok (.arraylength, 1)) (hX : hs_AX k 0 n) (hv : Int32.ofNat n = v) (kk : hs_Rn d (pc + 1) lv (.int v :: st) σ K) : hs_Rn d pc lv (.ref k :: st) σ K :=
  fun p l e s m args below meth c G A C H locs ls hP hS hl => va_alen C.1 C.2.1 C.2.2.2.2.2.2.2.1 hP k 0 (hs_enc_arr hX (by decide)) rfl hv hd (kk p l e s m args below meth c G A C H locs ls hP hS hl)
/-- the row of images -/
theorem hr_aald {n : Nat} {i : Int32} (hd : decode d.2.1 pc = .ok (.aaload, 1)) (hX : hs_AX 34 2 n) (hin : vp_in i n) (k0 : i.toNatClampNeg = 0 → hs_Rn d (pc + 1) lv (.ref 35 :: st) σ K) (k1 : ¬ i.toNatClampNeg = 0 → hs_Rn d (pc + 1) lv (.ref 46 :: st) σ K) : hs_Rn d pc lv (.int i :: .ref 34 :: st) σ K := by
  intro p l e s m args below meth c G A C H locs ls hP hS hl
  refine va_aldq (C := "HauntSums$Town") (f := fun j => some (G.2.2.1 (hs_img j))) C.1 C.2.1 C.2.2.2.2.2.2.2.1 hP 34 2 ((hs_enc_at hX).trans ?_) rfl hin hd ?_
  · simp only [hs_cell, if_true]
  · by_cases h0 : i.toNatClampNeg = 0
    · have e2 : hs_img i.toNatClampNeg = 35 := by simp [hs_img, h0]
      rw [e2]
      exact k0 h0 p l e s m args below meth c G A C H locs ls hP hS hl
    · have e2 : hs_img i.toNatClampNeg = 46 := by simp [hs_img, h0]
      rw [e2]
      exact k1 h0 p l e s m args below meth c G A C H locs ls hP hS hl
/-! returns -/
theorem hr_iret {v : Int32} (hd : decode d.2.1 pc = .ok (.ireturn, 1)) (hr : d.2.2.2.1 = some .int) (hk : K (some (.int v)) σ) : hs_Rn d pc lv [.int v] σ K := by
  intro p l e s m args below meth c G A C H locs ls hP hS hl
  refine W.iret C.1 C.2.1 (C.2.2.1.trans hr) (fun t ht hW => ⟨⟨some (.int v), σ, rfl, hk, by rw [ht]; exact hP⟩, hS.F ht⟩) hS.2.2 hd C.2.2.2.2.2.2.1
theorem hr_zret {b : Bool} {v : Int32} (hd : decode d.2.1 pc = .ok (.ireturn, 1)) (hr : d.2.2.2.1 = some .boolean) (hv : v = hs_b b) (hk : K (some (.int (hs_b b))) σ) : hs_Rn d pc lv [.int v] σ K := by
  intro p l e s m args below meth c G A C H locs ls hP hS hl
  subst hv
  refine W.zret C.1 C.2.1 (C.2.2.1.trans hr) (by cases b <;> rfl) (fun t ht hW => ⟨⟨some (.int (hs_b b)), σ, rfl, hk, by rw [ht]; exact hP⟩, hS.F ht⟩) hS.2.2 hd C.2.2.2.2.2.2.1
theorem hr_lret {v : Int64} (hd : decode d.2.1 pc = .ok (.lreturn, 1)) (hr : d.2.2.2.1 = some .long) (hk : K (some (.long v)) σ) : hs_Rn d pc lv [.long v] σ K := by
  intro p l e s m args below meth c G A C H locs ls hP hS hl
  refine W.lret C.1 C.2.1 (C.2.2.1.trans hr) (fun t ht hW => ⟨⟨some (.long v), σ, rfl, hk, by rw [ht]; exact hP⟩, hS.F ht⟩) hS.2.2 hd C.2.2.2.2.2.2.1
theorem hr_vret (hd : decode d.2.1 pc = .ok (.return_, 1)) (hr : d.2.2.2.1 = none) (hk : K none σ) : hs_Rn d pc lv [] σ K := by
  intro p l e s m args below meth c G A C H locs ls hP hS hl
  refine W.vret C.1 C.2.1 (C.2.2.1.trans hr) (fun t ht hW => ⟨⟨none, σ, rfl, hk, by rw [ht]; exact hP⟩, hS.F ht⟩) hS.2.2 hd C.2.2.2.2.2.2.1
/-! constants -/
theorem hr_ldc {idx : Nat} {v : Int32} (hd : decode d.2.1 pc = .ok (.ldc idx, 2)) (hw : Cond.constant d.1.cls idx v ∈ hs_U) (k : hs_Rn d (pc + 2) lv (.int v :: st) σ K) : hs_Rn d pc lv st σ K :=
  fun p l e s m args below meth c G A C H locs ls hP hS hl => lv_ldc C.1 C.2.1 C.2.2.2.2.1 (hs_u C hw) hd (k p l e s m args below meth c G A C H locs ls hP hS hl)
theorem hr_ldc2 {idx : Nat} {v : Int64} (hd : decode d.2.1 pc = .ok (.ldc2_w idx, 3)) (hw : Cond.constantLong d.1.cls idx v ∈ hs_U) (k : hs_Rn d (pc + 3) lv (.long v :: st) σ K) : hs_Rn d pc lv st σ K :=
  fun p l e s m args below meth c G A C H locs ls hP hS hl => lv_ldc2 C.1 C.2.1 C.2.2.2.2.1 (hs_u C hw) hd (k p l e s m args below meth c G A C H locs ls hP hS hl)
theorem hr_ldcS {idx i : Nat} {tx : String} (hd : decode d.2.1 pc = .ok (.ldc idx, 2)) (hy : d.1.cls = "HauntSums$Reader") (hw : hs_txt[i]? = some (idx, tx)) (k : hs_Rn d (pc + 2) lv (.ref (1000 + i) :: st) σ K) : hs_Rn d pc lv st σ K := by
  intro p l e s m args below meth c G A C H locs ls hP hS hl
  exact va_ldcS C.1 C.2.1 (hy ▸ C.2.2.2.2.1) (C.2.2.2.2.2.2.2.2.2.1.2.1 i _ hw) hd (k p l e s m args below meth c G A C H locs ls hP hS hl)
/-! Math, arraycopy -/
def hs_mx (x y : Int32) : Int32 := if x < y then y else x
def hs_ab (x : Int32) : Int32 := if 0 ≤ x then x else 0 - x
theorem hr_max {idx : Nat} {x y : Int32} (hd : decode d.2.1 pc = .ok (.invokestatic idx, 3)) (hlink : Cond.methodLink d.1.cls idx Lib.Math.max.name ∈ hs_U) (hs : Cond.static Lib.Math.max.name ∈ hs_U) (hi : Cond.initialized "java/lang/Math" ∈ hs_U) (hc : Cond.code Lib.Math.max.name Lib.Math.max.code 2 (some .int) ∈ hs_U) (hf : 1 ≤ d.2.2.2.2.1) (hm : (st.map fun v => v.category).sum + 13 ≤ d.2.2.2.2.2) (k : hs_Rn d (pc + 3) lv (.int (hs_mx x y) :: st) σ K) : hs_Rn d pc lv (.int y :: .int x :: st) σ K := by
  intro p l e s m args below meth c G A C H locs ls hP hS hl
  exact va_mmax C.1 C.2.1 (C.2.2.2.1.trans hl.1.symm) C.2.2.2.2.1 (hs_u C hlink) (hs_u C hs) (hs_u C hi) (hs_u C hc) hf (by rw [hs_tr_sum]; exact hm) (Nat.le_refl _) (Nat.le_refl _) hd (k p l e s m args below meth c G A C H locs ls hP hS hl)
theorem hr_abs {idx : Nat} {x : Int32} (hd : decode d.2.1 pc = .ok (.invokestatic idx, 3)) (hlink : Cond.methodLink d.1.cls idx Lib.Math.abs.name ∈ hs_U) (hs : Cond.static Lib.Math.abs.name ∈ hs_U) (hi : Cond.initialized "java/lang/Math" ∈ hs_U) (hc : Cond.code Lib.Math.abs.name Lib.Math.abs.code 1 (some .int) ∈ hs_U) (hf : 1 ≤ d.2.2.2.2.1) (hm : (st.map fun v => v.category).sum + 13 ≤ d.2.2.2.2.2) (k : hs_Rn d (pc + 3) lv (.int (hs_ab x) :: st) σ K) : hs_Rn d pc lv (.int x :: st) σ K := by
  intro p l e s m args below meth c G A C H locs ls hP hS hl
  exact va_mabs C.1 C.2.1 (C.2.2.2.1.trans hl.1.symm) C.2.2.2.2.1 (hs_u C hlink) (hs_u C hs) (hs_u C hi) (hs_u C hc) hf (by rw [hs_tr_sum]; exact hm) (Nat.le_refl _) (Nat.le_refl _) hd (k p l e s m args below meth c G A C H locs ls hP hS hl)
/-- arraycopy of a whole row of n from place 0 to place 0 -/
theorem hr_copy {idx k0 k1 n : Nat} {z : Int32} (hd : decode d.2.1 pc = .ok (.invokestatic idx, 3)) (hlink : Cond.methodLink d.1.cls idx arraycopyName ∈ hs_U) (hn : Cond.native arraycopyName ∈ hs_U) (hs : Cond.static arraycopyName ∈ hs_U) (hi : Cond.initialized "java/lang/System" ∈ hs_U) (h0 : hs_AX k0 0 n) (h1 : hs_AX k1 0 n) (hz : z.toNatClampNeg = n) (hz0 : ¬ z < 0) (hf : 1 ≤ d.2.2.2.2.1) (hm : (st.map fun v => v.category).sum + (nativeFrameWords "java/lang/System" "arraycopy" 5 + 11) ≤ d.2.2.2.2.2) (k : hs_Rn d (pc + 3) lv st (hs_ua σ k1 (va_cpy (σ.1 k0) (σ.1 k1) 0 0 n)) K) : hs_Rn d pc lv (.int z :: .int 0 :: .ref k1 :: .int 0 :: .ref k0 :: st) σ K := by
  intro p l e s m args below meth c G A C H locs ls hP hS hl
  have e0 : (0 : Int32).toNatClampNeg = 0 := by decide
  refine va_copyi C.1 C.2.1 (C.2.2.2.1.trans hl.1.symm) C.2.2.2.2.1 (hs_u C hlink) (hs_u C hn) (hs_u C hs) (hs_u C hi) C.2.2.2.2.2.2.2.1 hP (C.2.2.2.2.2.2.2.2.2.2.2 σ) hS k0 k1 0 0 (ty := .int) (hs_enc_arr h0 (by decide)) (hs_enc_arr h1 (by decide)) rfl rfl rfl (by decide) (by decide) hz0 (by rw [hz, e0]; omega) (by rw [hz, e0]; omega) (fun i _ => rfl) hf (by rw [hs_tr_sum]; exact hm) hd (fun H1 locs1 hP1 hD1 hS1 => ?_)
  rw [hz, e0, hs_enc_ua h1 (by decide)] at hP1
  exact k p l e s m args below meth c G A C H1 locs1 ls hP1 hS1 hl
/-! calls -/
theorem hw_call {p : Program} {l : Launch} {e : Env} {R : Room} {s : State} {m : MethodId} {args : Array Value} {below : List Frame} {meth : Method} {c : Code} {H : Heap} {locs : List Loc} {cells slots : Nat} {Q : State → Prop} {G : hs_G} {A A1 free : Nat → Prop} {K' : Option Value → hs_St → Prop} {a : Array Value} {pc : Nat} {ls : Array Slot} {st0 rest : List Value} {H0 : Heap}
    (hr : va_Run p l e R s m args below meth c H locs cells slots 0 0 (F0 m pc ls st0) rest (hs_Qc G A1 K' a) free) (hS : va_S A H0 H locs) (hA : ∀ q, A1 q → A q) (hf : ∀ q, free q → A q)
    (kk : ∀ (r : Option Value) (τ : hs_St) (H1 : Heap) (locs1 : List Loc), K' r τ → va_P G.1 vwCl (hs_enc G τ) H1 → va_S A H0 H1 locs1 → W p l e R s m args below meth c H1 locs1 cells slots Q (F0 m (pc + 3) ls ((r.map (hs_tr G.2.2.1)).toList ++ rest))) : W p l e R s m args below meth c H locs cells slots Q (F0 m pc ls st0) := by
  intro T hT X
  obtain ⟨v, st₀, t, T', L, h0, X', hL, e1, e2, ⟨⟨r, τ, hv, hp, hb⟩, hz, hk⟩, st⟩ := hr T hT X
  cases hv
  rw [h0] at hz hk
  obtain ⟨t2, a1, b1⟩ := kk r τ T'.heap (locs ++ L) hp (by rw [e1]; exact hb)
    ⟨Nat.le_trans hS.1 (by rw [e1]; exact hz), fun q h1 h2 => by rw [e1, hk q (Nat.lt_of_lt_of_le h1 hS.1) (fun z => h2 (hA q z))]; exact hS.2.1 q h1 h2, fun q hq => by
      rcases List.mem_append.mp hq with h | h
      · exact hS.2.2 q h
      · exact hf _ (hL q h)⟩ T' rfl X'
  exact ⟨t2, st t2 a1, b1⟩
theorem hs_blind {G : hs_G} {σ : hs_St} {av : List Value} {sz : Nat} : FrameBlind (hs_Pc G σ av sz) := by
  intro a U g mk q
  obtain ⟨q0, q1, qP, qK, qD, qN, qX⟩ := q
  exact ⟨q0, q1, qP, va_K.moved (u := U) (U := U.calling g mk a) (Vm.Alike.refl U.vm) qK, qD, hs_N.same (u := U) (U := U.calling g mk a) rfl qN, hs_X.same (u := U) (U := U.calling g mk a) rfl qX⟩
theorem hs_pre {p : Program} {s : State} {m : MethodId} {args : Array Value} {meth : Method} {c : Code} {G : hs_G} {A : Nat → Prop} {H : Heap} {locs : List Loc} (C : hs_Cx d p s m args meth c G A) (hP : va_P G.1 vwCl (hs_enc G σ) H) (hS : va_S A s.heap H locs) (av : List Value) (U : State) (hU : U.heap = H) (hW : s.WarmedH U.vm) : hs_Pc G σ av H.size (av.map (hs_tr G.2.2.1)).toArray U := by
  obtain ⟨-, -, -, -, -, -, -, hK, hN, hX, hA, hD⟩ := C
  have hsub : ∀ q, va_A (hs_enc G σ) H.size q → A q := by
    intro q h
    rcases h with ⟨k, e, h⟩ | h
    · exact (hD σ).2 k (q, e) h
    · exact hA q (Nat.le_trans hS.1 h)
  refine ⟨rfl, by rw [hU], by rw [hU]; exact hP, va_K.moved hW.alike hK, (hD σ).weaken (fun _ _ _ _ => trivial), hN.warm hW, ?_⟩
  rw [hU]
  exact ((hX.kept (fun a h1 h2 => hS.2.1 a h1 h2)).narrow hsub).warm hW
theorem hs_sub {p : Program} {s : State} {m : MethodId} {args : Array Value} {meth : Method} {c : Code} {G : hs_G} {A : Nat → Prop} {H : Heap} {locs : List Loc} (C : hs_Cx d p s m args meth c G A) (hS : va_S A s.heap H locs) : ∀ q, va_A (hs_enc G σ) H.size q → A q := by
  obtain ⟨-, -, -, -, -, -, -, hK, hN, hX, hA, hD⟩ := C
  intro q h
  rcases h with ⟨k, e, h⟩ | h
  · exact (hD σ).2 k (q, e) h
  · exact hA q (Nat.le_trans hS.1 h)
/-- what the tables say of a method that is called -/
def hs_CM (y : hs_M) (n : Nat) : Prop := Cond.code y.1 y.2.1 y.2.2.1 y.2.2.2.1 ∈ hs_U ∧ Cond.initialized y.1.cls ∈ hs_U ∧ y.1.cls ≠ "java/lang/invoke/MethodHandle" ∧ y.1.cls ≠ "java/lang/invoke/VarHandle" ∧ (parseMethodDescriptor y.1.desc).map (fun d => d.parameters.length) = some n
def hs_CV (y : hs_M) : Prop := Cond.instanceMethod y.1 ∈ hs_U ∧ Cond.selects y.1.cls y.1 y.1 ∈ hs_U
def hs_fits (d y : hs_M) (st : List Value) : Prop := y.2.2.2.2.1 + 1 ≤ d.2.2.2.2.1 ∧ 8 + (y.2.2.1 + 11) + y.2.2.2.2.2 ≤ d.2.2.2.2.2 ∧ (st.map fun v => v.category).sum ≤ 8
theorem hs_goodIn (d y : hs_M) (h : Cond.code y.1 y.2.1 y.2.2.1 y.2.2.2.1 ∈ hs_U) : GoodIn (hs_ws d) (hs_ws y) := by
  intro w hw
  have h1 : w ∈ hs_U := by
    rcases List.mem_cons.mp hw with h2 | h2
    · rw [h2]; exact h
    · exact h2
  exact ⟨List.mem_cons_of_mem _ h1, hs_good w h1⟩
theorem hs_callB {p : Program} {s : State} {m : MethodId} {args : Array Value} {meth : Method} {c : Code} {G : hs_G} {A : Nat → Prop} (C : hs_Cx d p s m args meth c G A) {y : hs_M} {idx n : Nat} (hl : Cond.methodLink d.1.cls idx y.1 ∈ hs_U) (hm : hs_CM y n) {st : List Value} (hf : hs_fits d y st) : CallB (hs_rm d) s args d.1.cls idx y.1 y.2.1 y.2.2.1 y.2.2.2.1 (hs_ws y) (hs_rm y) 0 0 n :=
  callB_of n C.2.2.2.2.2.1 (hs_goodIn d y hm.1) rfl rfl rfl (hs_u C hm.2.1) (hs_u C hl) hm.2.2 ⟨hf.1, hf.2.1⟩
theorem hs_recv {p : Program} {s : State} {m : MethodId} {args : Array Value} {meth : Method} {c : Code} {G : hs_G} {A : Nat → Prop} (C : hs_Cx d p s m args meth c G A) {H : Heap} (hP : va_P G.1 vwCl (hs_enc G σ) H) {k ci : Nat} {fd : List (Option (Option Nat))} (hk : hs_shape[k]? = some (.inr (ci, fd))) {Cn : String} (hc : (vwCl[ci]?.map (·.1)) = some Cn) : ∃ cell : Cell, H[G.2.2.1 k]? = some cell ∧ cell.vm.isStatics = false ∧ s.vm.findClass Cn = some cell.cls := by
  cases hq : vwCl[ci]? with
  | none => rw [hq] at hc; cases hc
  | some q =>
    rw [hq] at hc
    obtain ⟨cell, h1, h2, h3⟩ := va_recv C.2.2.2.2.2.2.2.1 hP hq (hs_enc_at hk)
    cases hc
    exact ⟨cell, h1, h2, h3⟩
theorem hr_callV {y : hs_M} {idx n k ci : Nat} {As : List Value} {fd : List (Option (Option Nat))} (hd : decode d.2.1 pc = .ok (.invokevirtual idx, 3)) (hl : Cond.methodLink d.1.cls idx y.1 ∈ hs_U) (hm : hs_CM y n) (hv : hs_CV y) (hn : As.length = n) (hf : hs_fits d y st) (hk : hs_shape[k]? = some (.inr (ci, fd))) (hc : (vwCl[ci]?.map (·.1)) = some y.1.cls)
    (h : hs_Ok y (.ref k :: As) σ (fun r τ => hs_Rn d (pc + 3) lv (r.toList ++ st) τ K)) : hs_Rn d pc lv (As.reverse ++ .ref k :: st) σ K := by
  intro p l e s m args below meth c G A C H locs ls hP hS hl0
  have hCW : CallW (hs_rm d) s args d.1.cls y.1.cls idx y.1 y.2.1 y.2.2.1 y.2.2.2.1 (hs_ws y) (hs_rm y) 0 0 n := ⟨hs_callB C hl hm hf, hs_u C hv.1, hs_u C hv.2⟩
  refine hw_call (G := G) (A := A) (va_runV (As := As.map (hs_tr G.2.2.1)) (rest := st.map (hs_tr G.2.2.1)) ⟨C.1, C.2.1, C.2.2.2.1, C.2.2.2.2.1, C.2.2.2.2.2.1⟩ (h l G H.size) hCW ⟨hs_blind, hs_recv C hP hk hc, fun U hU hW => hs_pre C hP hS (.ref k :: As) U hU hW⟩ rfl (by rw [List.length_map]; exact hn) hl0.1 (by simp [hs_tr]) (lv_room (by rw [hs_tr_sum]; exact hf.2.2)) hd ⟨Nat.zero_le _, Nat.zero_le _⟩) hS (hs_sub C hS) (hs_sub C hS) (fun r τ H1 locs1 hK' hP1 hS1 => ?_)
  have e1 : (r.map (hs_tr G.2.2.1)).toList ++ st.map (hs_tr G.2.2.1) = (r.toList ++ st).map (hs_tr G.2.2.1) := by cases r <;> simp
  rw [e1]
  exact hK' p l e s m args below meth c G A C H1 locs1 ls hP1 hS1 hl0
theorem hr_callS {y : hs_M} {idx n : Nat} {As : List Value} (hd : decode d.2.1 pc = .ok (.invokestatic idx, 3)) (hl : Cond.methodLink d.1.cls idx y.1 ∈ hs_U) (hm : hs_CM y n) (hv : Cond.static y.1 ∈ hs_U) (hn : As.length = n) (hf : hs_fits d y st)
    (h : hs_Ok y As σ (fun r τ => hs_Rn d (pc + 3) lv (r.toList ++ st) τ K)) : hs_Rn d pc lv (As.reverse ++ st) σ K := by
  intro p l e s m args below meth c G A C H locs ls hP hS hl0
  refine hw_call (G := G) (A := A) (va_runS (As := As.map (hs_tr G.2.2.1)) (rest := st.map (hs_tr G.2.2.1)) ⟨C.1, C.2.1, C.2.2.2.1, C.2.2.2.2.1, C.2.2.2.2.2.1⟩ (h l G H.size) ⟨hs_callB C hl hm hf, hs_u C hv⟩ ⟨hs_blind, fun U hU hW => hs_pre C hP hS As U hU hW⟩ rfl (by rw [List.length_map]; exact hn) hl0.1 (by simp) (lv_room (by rw [hs_tr_sum]; exact hf.2.2)) hd ⟨Nat.zero_le _, Nat.zero_le _⟩) hS (hs_sub C hS) (hs_sub C hS) (fun r τ H1 locs1 hK' hP1 hS1 => ?_)
  have e1 : (r.map (hs_tr G.2.2.1)).toList ++ st.map (hs_tr G.2.2.1) = (r.toList ++ st).map (hs_tr G.2.2.1) := by cases r <;> simp
  rw [e1]
  exact hK' p l e s m args below meth c G A C H1 locs1 ls hP1 hS1 hl0
theorem hr_callN {y : hs_M} {idx n : Nat} {As : List Value} {host : String} (hd : decode d.2.1 pc = .ok (.invokestatic idx, 3)) (hl : Cond.methodLinkNest d.1.cls idx y.1 host ∈ hs_nest) (hm : hs_CM y n) (hv : Cond.static y.1 ∈ hs_U) (hn : As.length = n) (hf : hs_fits d y st)
    (h : hs_Ok y As σ (fun r τ => hs_Rn d (pc + 3) lv (r.toList ++ st) τ K)) : hs_Rn d pc lv (As.reverse ++ st) σ K := by
  intro p l e s m args below meth c G A C H locs ls hP hS hl0
  have hCN : va_CN (hs_rm d) s args d.1.cls idx y.1 host y.2.1 y.2.2.1 y.2.2.2.1 (hs_ws y) (hs_rm y) 0 0 n := va_cnB n C.2.2.2.2.2.1 (hs_goodIn d y hm.1) rfl rfl rfl (C.2.2.2.2.2.2.2.2.1 _ hl) (hs_u C hm.2.1) hm.2.2 ⟨hf.1, hf.2.1⟩
  refine hw_call (G := G) (A := A) (va_runSN (As := As.map (hs_tr G.2.2.1)) (rest := st.map (hs_tr G.2.2.1)) ⟨C.1, C.2.1, C.2.2.2.1, C.2.2.2.2.1, C.2.2.2.2.2.1⟩ (h l G H.size) ⟨hCN, hs_u C hv, trivial⟩ ⟨hs_blind, fun U hU hW => hs_pre C hP hS As U hU hW⟩ rfl (by rw [List.length_map]; exact hn) hl0.1 (by simp) (lv_room (by rw [hs_tr_sum]; exact hf.2.2)) hd ⟨Nat.zero_le _, Nat.zero_le _⟩) hS (hs_sub C hS) (hs_sub C hS) (fun r τ H1 locs1 hK' hP1 hS1 => ?_)
  have e1 : (r.map (hs_tr G.2.2.1)).toList ++ st.map (hs_tr G.2.2.1) = (r.toList ++ st).map (hs_tr G.2.2.1) := by cases r <;> simp
  rw [e1]
  exact hK' p l e s m args below meth c G A C H1 locs1 ls hP1 hS1 hl0
/-! tableswitch -/
theorem hr_tab {dflt lo hi : Int} {offs : Array Int} {len : Nat} {x : Int32} (hd : decode d.2.1 pc = .ok (.tableswitch dflt lo hi offs, len)) (hs : (offs.size : Int) = hi - lo + 1) (tgt : Nat → Nat) (tg : Nat) (ht : ∀ j : Nat, j < offs.size → ∃ off, offs[j]? = some off ∧ (pc : Int) + off = (tgt j : Int)) (ht0 : (pc : Int) + dflt = (tg : Int))
    (kin : ∀ j : Nat, j < offs.size → x.toInt = lo + j → hs_Rn d (tgt j) lv st σ K) (kout : (x.toInt < lo ∨ hi < x.toInt) → hs_Rn d tg lv st σ K) : hs_Rn d pc lv (.int x :: st) σ K := by
  intro p l e s m args below meth c G A C H locs ls hP hS hl
  by_cases h : x.toInt < lo ∨ hi < x.toInt
  · exact lv_tableOut C.1 C.2.1 hd h ht0 (kout h p l e s m args below meth c G A C H locs ls hP hS hl)
  · have h1 : ¬ x.toInt < lo := fun q => h (Or.inl q)
    have h2 : ¬ hi < x.toInt := fun q => h (Or.inr q)
    have hj : (x.toInt - lo).toNat < offs.size := by omega
    obtain ⟨off, ho, he⟩ := ht _ hj
    exact lv_tableIn C.1 C.2.1 hd h1 h2 ho he (kin _ hj (by omega) p l e s m args below meth c G A C H locs ls hP hS hl)
end HR2
/-! typed contracts -/
def hs_KI (K : Int32 → hs_St → Prop) : Option Value → hs_St → Prop := fun o τ => ∃ r, o = some (.int r) ∧ K r τ
def hs_KB (K : Bool → hs_St → Prop) : Option Value → hs_St → Prop := fun o τ => ∃ r, o = some (.int (hs_b r)) ∧ K r τ
def hs_KL (K : Int64 → hs_St → Prop) : Option Value → hs_St → Prop := fun o τ => ∃ r, o = some (.long r) ∧ K r τ
def hs_KV (K : hs_St → Prop) : Option Value → hs_St → Prop := fun o τ => o = none ∧ K τ
abbrev OkI (d : hs_M) (av : List Value) (σ : hs_St) (K : Int32 → hs_St → Prop) : Prop := hs_Ok d av σ (hs_KI K)
abbrev OkB (d : hs_M) (av : List Value) (σ : hs_St) (K : Bool → hs_St → Prop) : Prop := hs_Ok d av σ (hs_KB K)
abbrev OkL (d : hs_M) (av : List Value) (σ : hs_St) (K : Int64 → hs_St → Prop) : Prop := hs_Ok d av σ (hs_KL K)
abbrev OkV (d : hs_M) (av : List Value) (σ : hs_St) (K : hs_St → Prop) : Prop := hs_Ok d av σ (hs_KV K)
abbrev RnI (d : hs_M) (pc : Nat) (lv : List (Nat × Value)) (st : List Value) (σ : hs_St) (K : Int32 → hs_St → Prop) : Prop := hs_Rn d pc lv st σ (hs_KI K)
abbrev RnB (d : hs_M) (pc : Nat) (lv : List (Nat × Value)) (st : List Value) (σ : hs_St) (K : Bool → hs_St → Prop) : Prop := hs_Rn d pc lv st σ (hs_KB K)
abbrev RnL (d : hs_M) (pc : Nat) (lv : List (Nat × Value)) (st : List Value) (σ : hs_St) (K : Int64 → hs_St → Prop) : Prop := hs_Rn d pc lv st σ (hs_KL K)
abbrev RnV (d : hs_M) (pc : Nat) (lv : List (Nat × Value)) (st : List Value) (σ : hs_St) (K : hs_St → Prop) : Prop := hs_Rn d pc lv st σ (hs_KV K)
theorem OkI.go {d : hs_M} {av : List Value} {σ : hs_St} {K : Int32 → hs_St → Prop} {K' : Option Value → hs_St → Prop} (h : OkI d av σ K) (f : ∀ r τ, K r τ → K' (some (.int r)) τ) : hs_Ok d av σ K' := hs_Ok.mono h (fun o τ ⟨r, e, hk⟩ => by subst e; exact f r τ hk)
theorem OkB.go {d : hs_M} {av : List Value} {σ : hs_St} {K : Bool → hs_St → Prop} {K' : Option Value → hs_St → Prop} (h : OkB d av σ K) (f : ∀ r τ, K r τ → K' (some (.int (hs_b r))) τ) : hs_Ok d av σ K' := hs_Ok.mono h (fun o τ ⟨r, e, hk⟩ => by subst e; exact f r τ hk)
theorem OkL.go {d : hs_M} {av : List Value} {σ : hs_St} {K : Int64 → hs_St → Prop} {K' : Option Value → hs_St → Prop} (h : OkL d av σ K) (f : ∀ r τ, K r τ → K' (some (.long r)) τ) : hs_Ok d av σ K' := hs_Ok.mono h (fun o τ ⟨r, e, hk⟩ => by subst e; exact f r τ hk)
theorem OkV.go {d : hs_M} {av : List Value} {σ : hs_St} {K : hs_St → Prop} {K' : Option Value → hs_St → Prop} (h : OkV d av σ K) (f : ∀ τ, K τ → K' none τ) : hs_Ok d av σ K' := hs_Ok.mono h (fun o τ ⟨e, hk⟩ => by subst e; exact f τ hk)
theorem OkI.mono {d : hs_M} {av : List Value} {σ : hs_St} {K K' : Int32 → hs_St → Prop} (h : OkI d av σ K) (f : ∀ r τ, K r τ → K' r τ) : OkI d av σ K' := OkI.go h (fun r τ hk => ⟨r, rfl, f r τ hk⟩)
theorem OkB.mono {d : hs_M} {av : List Value} {σ : hs_St} {K K' : Bool → hs_St → Prop} (h : OkB d av σ K) (f : ∀ r τ, K r τ → K' r τ) : OkB d av σ K' := OkB.go h (fun r τ hk => ⟨r, rfl, f r τ hk⟩)
theorem OkL.mono {d : hs_M} {av : List Value} {σ : hs_St} {K K' : Int64 → hs_St → Prop} (h : OkL d av σ K) (f : ∀ r τ, K r τ → K' r τ) : OkL d av σ K' := OkL.go h (fun r τ hk => ⟨r, rfl, f r τ hk⟩)
theorem OkV.mono {d : hs_M} {av : List Value} {σ : hs_St} {K K' : hs_St → Prop} (h : OkV d av σ K) (f : ∀ τ, K τ → K' τ) : OkV d av σ K' := OkV.go h (fun τ hk => ⟨rfl, f τ hk⟩)
