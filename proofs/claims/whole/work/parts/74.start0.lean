theorem hr_t1 {w : Cond} (i : Nat) (h : tables_1_1[i]? = some w) : w ∈ lw_tbl := List.mem_append_right _ (List.mem_append_left _ (List.mem_of_getElem? h))
theorem hr_t2 {w : Cond} (i : Nat) (h : tables_1_2[i]? = some w) : w ∈ lw_tbl := List.mem_append_right _ (List.mem_append_right _ (List.mem_append_left _ (List.mem_of_getElem? h)))
theorem hr_t3 {w : Cond} (i : Nat) (h : tables_1_3[i]? = some w) : w ∈ lw_tbl := List.mem_append_right _ (List.mem_append_right _ (List.mem_append_right _ (List.mem_append_left _ (List.mem_of_getElem? h))))
theorem hr_t4 {w : Cond} (i : Nat) (h : tables_1_4[i]? = some w) : w ∈ lw_tbl := List.mem_append_right _ (List.mem_append_right _ (List.mem_append_right _ (List.mem_append_right _ (List.mem_append_left _ (List.mem_of_getElem? h)))))
theorem hr_t5 {w : Cond} (i : Nat) (h : tables_1_5[i]? = some w) : w ∈ lw_tbl := List.mem_append_right _ (List.mem_append_right _ (List.mem_append_right _ (List.mem_append_right _ (List.mem_append_right _ (List.mem_of_getElem? h)))))
theorem hz_nest : ∀ w ∈ hs_nest, w ∈ lw_tbl := by
  intro w hw
  simp only [hs_nest, List.mem_cons, List.not_mem_nil, or_false] at hw
  rcases hw with rfl | rfl | rfl | rfl | rfl | rfl | rfl | rfl | rfl | rfl | rfl | rfl | rfl
  · exact hr_t1 24 (by decide +kernel)
  · exact hr_t1 68 (by decide +kernel)
  · exact hr_t1 142 (by decide +kernel)
  · exact hr_t1 163 (by decide +kernel)
  · exact hr_t1 198 (by decide +kernel)
  · exact hr_t2 49 (by decide +kernel)
  · exact hr_t2 124 (by decide +kernel)
  · exact hr_t2 169 (by decide +kernel)
  · exact hr_t2 175 (by decide +kernel)
  · exact hr_t2 200 (by decide +kernel)
  · exact hr_t2 207 (by decide +kernel)
  · exact hr_t2 222 (by decide +kernel)
  · exact hr_t3 201 (by decide +kernel)
theorem hz_AOw : Cond.arrayOver (.object "HauntSums$Town") ∈ lw_tbl := hr_t1 195 (by decide +kernel)
theorem hz_sr : ∀ (i : Nat) (q : Nat × String), hs_txt[i]? = some q → Cond.stringRef "HauntSums$Reader" q.1 q.2 ∈ lw_tbl := by
  intro i q h
  match i, h with
  | 0, h => cases h; exact hr_t2 58 (by decide +kernel)
  | 1, h => cases h; exact hr_t2 111 (by decide +kernel)
  | 2, h => cases h; exact hr_t2 112 (by decide +kernel)
  | 3, h => cases h; exact hr_t2 113 (by decide +kernel)
  | 4, h => cases h; exact hr_t2 114 (by decide +kernel)
  | 5, h => cases h; exact hr_t2 115 (by decide +kernel)
  | i + 6, h => simp [hs_txt] at h
theorem hz_l1 : Cond.laysStatic "java/lang/String" "COMPACT_STRINGS" "Z" ∈ lw_tbl := hr_t2 72 (by decide +kernel)
theorem hz_l2 : Cond.laysStatic "jdk/internal/util/Preconditions" "SIOOBE_FORMATTER" "Ljava/util/function/BiFunction;" ∈ lw_tbl := hr_t2 88 (by decide +kernel)
theorem hz_i1 : Cond.initialized "java/lang/String" ∈ lw_tbl := hr_t1 8 (by decide +kernel)
theorem hz_i2 : Cond.initialized "jdk/internal/util/Preconditions" ∈ lw_tbl := hr_t1 10 (by decide +kernel)
def hz_tm (i : Nat) : Term := .string "HauntSums$Reader" ([90, 96, 98, 100, 102, 103].getD i 0)
theorem hz_p1 : ∀ i, i < 6 → Cond.exactly (hz_tm i) "java/lang/String" ∈ flatC (Jvm.Cond.and given_1 narrow_1) := by decide +kernel
theorem hz_p2 : ∀ i, i < 6 → Cond.eq (.field (hz_tm i) "java/lang/String" "coder" "B") (.int 0) ∈ flatC (Jvm.Cond.and given_1 narrow_1) := by decide +kernel
theorem hz_p3 : ∀ i, i < 6 → Cond.arrayOf (.field (hz_tm i) "java/lang/String" "value" "[B") .byte ∈ flatC (Jvm.Cond.and given_1 narrow_1) := by decide +kernel
theorem hz_p4 : ∀ i, i < 6 → Cond.eq (.length (.field (hz_tm i) "java/lang/String" "value" "[B")) (.int (Int32.ofNat (hs_len.getD i 0))) ∈ flatC (Jvm.Cond.and given_1 narrow_1) := by decide +kernel
theorem hz_p5 : ∀ i, i < 6 → ∀ j, j < hs_len.getD i 0 → Cond.eq (.elem (.field (hz_tm i) "java/lang/String" "value" "[B") (.int (Int32.ofNat j))) (.int ((hs_byt.getD i []).getD j 0)) ∈ flatC (Jvm.Cond.and given_1 narrow_1) := by decide +kernel
theorem hz_p6 : ∀ i, i < 6 → ∀ j, j < 6 → i < j → Cond.not (Cond.eq (hz_tm i) (hz_tm j)) ∈ flatC (Jvm.Cond.and given_1 narrow_1) := by decide +kernel
theorem hz_p7 : Cond.eq (.static "java/lang/String" "COMPACT_STRINGS" "Z") (.int 1) ∈ flatC (Jvm.Cond.and given_1 narrow_1) := by decide +kernel
theorem hz_p8 : Cond.isRef (.static "jdk/internal/util/Preconditions" "SIOOBE_FORMATTER" "Ljava/util/function/BiFunction;") ∈ flatC (Jvm.Cond.and given_1 narrow_1) := by decide +kernel
theorem hz_texts {args : Array Value} {s : State} (hts : ∀ w ∈ lw_tbl, w.before args s = true) (hgv : (Jvm.Cond.and given_1 narrow_1).before args s = true) : ∃ aK aV : Nat → Nat, hz_X aK aV (fun q => s.heap.size ≤ q) s s.heap := by
  have hs := flat_of_before _ hgv
  have hA : ∀ a : Nat, a < s.heap.size → ¬ (fun q => s.heap.size ≤ q) a := fun a h => Nat.not_le.mpr h
  obtain ⟨aK, aV, h1, h2⟩ := vk_Sof (N := 6) (tm := hz_tm) (len := hs_len) (byt := hs_byt) (A := fun q => s.heap.size ≤ q) (args := args) (s := s) (by decide) (fun i hi => hs _ (hz_p1 i hi)) (fun i hi => hs _ (hz_p2 i hi)) (fun i hi => hs _ (hz_p3 i hi)) (fun i hi => hs _ (hz_p4 i hi)) (fun i hi j hj => hs _ (hz_p5 i hi j hj)) (fun i j hi hj hne => by
    rcases Nat.lt_or_gt_of_ne hne with h | h
    · exact Or.inl (hs _ (hz_p6 i hi j hj h))
    · exact Or.inr (hs _ (hz_p6 j hj i hi h))) hA
  refine ⟨aK, aV, h1, fun i q hq => ?_, va_Zof (hts _ hz_l1) (hts _ hz_i1) (va_eqi (hs _ hz_p7)) hA, ?_⟩
  · have hi : i < 6 := (List.getElem?_eq_some_iff.mp hq).1
    have e : hz_tm i = .string "HauntSums$Reader" q.1 := by
      match i, hq with
      | 0, hq => cases hq; rfl
      | 1, hq => cases hq; rfl
      | 2, hq => cases hq; rfl
      | 3, hq => cases hq; rfl
      | 4, hq => cases hq; rfl
      | 5, hq => cases hq; rfl
      | i + 6, hq => simp [hs_txt] at hq
    exact vk_R.of (A := args) (hts _ (hz_sr i q hq)) (by rw [← e]; exact h2 i hi)
  · rcases va_Zqof (hts _ hz_l2) (hts _ hz_i2) (hs _ hz_p8) hA with h | ⟨t, h⟩
    · exact ⟨.null, Or.inl rfl, h⟩
    · exact ⟨.ref t, Or.inr ⟨t, rfl⟩, h⟩
theorem hz_X.warm {aK aV : Nat → Nat} {A : Nat → Prop} {s U : State} {H : Heap} (hW : s.WarmedH U.vm) (h : hz_X aK aV A s H) : hz_X aK aV A U H := by
  obtain ⟨h1, h2, h3, v, hv, h4⟩ := h
  exact ⟨h1.moved hW.alike, fun i q hq => (h2 i q hq).warm hW, h3.moved hW.alike, v, hv, h4.moved hW.alike⟩
theorem hz_X.same {aK aV : Nat → Nat} {A : Nat → Prop} {u U : State} {H : Heap} (hv : u.vm = U.vm) (h : hz_X aK aV A u H) : hz_X aK aV A U H := by
  obtain ⟨h1, h2, h3, v, hv4, h4⟩ := h
  have ha : u.vm.Alike U.vm := by rw [← hv]; exact Vm.Alike.refl _
  exact ⟨h1.moved ha, fun i q hq => (h2 i q hq).same hv.symm, h3.moved ha, v, hv4, h4.moved ha⟩
theorem hz_X.kept {aK aV : Nat → Nat} {A : Nat → Prop} {U : State} {H H1 : Heap} (h : hz_X aK aV A U H) (hq : ∀ a : Nat, a < H.size → ¬ A a → H1[a]? = H[a]?) : hz_X aK aV A U H1 := by
  obtain ⟨h1, h2, h3, v, hv, h4⟩ := h
  exact ⟨h1.kept hq, h2, h3.kept hq, v, hv, h4.kept hq⟩
theorem hz_X.narrow {aK aV : Nat → Nat} {A B : Nat → Prop} {U : State} {H : Heap} (h : hz_X aK aV A U H) (hAB : ∀ q, B q → A q) : hz_X aK aV B U H := by
  obtain ⟨h1, h2, h3, v, hv, h4⟩ := h
  exact ⟨h1.narrow hAB, h2, h3.narrow hAB, v, hv, h4.narrow hAB⟩
theorem hz_blind {D : hk_T} {w : va_W} {av : List Value} {aK aV : Nat → Nat} {sz : Nat} : FrameBlind (hz_Pc D w av aK aV sz) := by
  intro a U g mk q
  obtain ⟨q0, q1, qP, qK, qD, qN, qO, qX⟩ := q
  exact ⟨q0, q1, qP, va_K.moved (u := U) (U := U.calling g mk a) (Vm.Alike.refl U.vm) qK, qD, hs_N.same (u := U) (U := U.calling g mk a) rfl qN, va_AO.moved (u := U) (U := U.calling g mk a) (Vm.Alike.refl U.vm) qO, hz_X.same (u := U) (U := U.calling g mk a) rfl qX⟩
/-- the last cell first -/
theorem hz_rot {A : Nat → Prop} {D : va_G} {cl : List vw_C} {w : va_W} {z : Nat × va_E} {H : Heap} (hP : va_P D cl (w ++ [z]) H) (hD : va_D A (w ++ [z])) : va_P D cl (z :: w) H ∧ va_D A (z :: w) := by
  have inL : ∀ {k : Nat} {q : Nat × va_E}, w[k]? = some q → (w ++ [z])[k]? = some q := by
    intro k q h
    rw [List.getElem?_append_left (List.getElem?_eq_some_iff.mp h).1]; exact h
  have inR : (w ++ [z])[w.length]? = some z := by simp
  refine ⟨va_P.app (w1 := [z]) (fun k q hk => ?_) (fun k q hk => hP k q (inL hk)), va_D.app (w1 := [z]) ⟨fun i j x y hi hj h => ?_, fun k q hk => ?_⟩ ⟨fun i j x y hi hj h => hD.1 i j x y (inL hi) (inL hj) h, fun k q hk => hD.2 k q (inL hk)⟩ (fun i j x y hi hj h => ?_)⟩
  · have : k < 1 := (List.getElem?_eq_some_iff.mp hk).1
    rw [show k = 0 by omega] at hk
    cases hk
    exact hP _ _ inR
  · have h1 : i < 1 := (List.getElem?_eq_some_iff.mp hi).1
    have h2 : j < 1 := (List.getElem?_eq_some_iff.mp hj).1
    omega
  · have : k < 1 := (List.getElem?_eq_some_iff.mp hk).1
    rw [show k = 0 by omega] at hk
    cases hk
    exact hD.2 _ _ inR
  · have h1 : i < 1 := (List.getElem?_eq_some_iff.mp hi).1
    rw [show i = 0 by omega] at hi
    cases hi
    have h2 := hD.1 _ _ _ _ inR (inL hj) h
    have h3 := (List.getElem?_eq_some_iff.mp hj).1
    omega
