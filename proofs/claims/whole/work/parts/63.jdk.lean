def m_J3_check : hs_M := (⟨"jdk/internal/util/Preconditions", "checkIndex", "(IILjava/util/function/BiFunction;)I"⟩, prog_14_method_11_code, 3, (some .int), 0, 0)
theorem wc_J3_check : Cond.code m_J3_check.1 m_J3_check.2.1 m_J3_check.2.2.1 m_J3_check.2.2.2.1 ∈ hs_U := hs_t2 91 (by decide +kernel) rfl
theorem cm_J3_check : hs_CM m_J3_check 3 := ⟨wc_J3_check, hs_t1 10 (by decide +kernel) rfl, by decide +kernel, by decide +kernel, by decide +kernel⟩
theorem wt_J3_check : Cond.static m_J3_check.1 ∈ hs_U := hs_t2 90 (by decide +kernel) rfl
theorem d_J3_check_0 : decode m_J3_check.2.1 0 = .ok (.iload_n 0, 1) := by decide +kernel
theorem d_J3_check_1 : decode m_J3_check.2.1 1 = .ok (.ifCond .lt 8, 3) := by decide +kernel
theorem d_J3_check_4 : decode m_J3_check.2.1 4 = .ok (.iload_n 0, 1) := by decide +kernel
theorem d_J3_check_5 : decode m_J3_check.2.1 5 = .ok (.iload_n 1, 1) := by decide +kernel
theorem d_J3_check_6 : decode m_J3_check.2.1 6 = .ok (.if_icmp .lt 10, 3) := by decide +kernel
theorem d_J3_check_9 : decode m_J3_check.2.1 9 = .ok (.aload_n 2, 1) := by decide +kernel
theorem d_J3_check_10 : decode m_J3_check.2.1 10 = .ok (.iload_n 0, 1) := by decide +kernel
theorem d_J3_check_11 : decode m_J3_check.2.1 11 = .ok (.iload_n 1, 1) := by decide +kernel
theorem d_J3_check_12 : decode m_J3_check.2.1 12 = .ok (.invokestatic 95, 3) := by decide +kernel
theorem d_J3_check_15 : decode m_J3_check.2.1 15 = .ok (.athrow, 1) := by decide +kernel
theorem d_J3_check_16 : decode m_J3_check.2.1 16 = .ok (.iload_n 0, 1) := by decide +kernel
theorem d_J3_check_17 : decode m_J3_check.2.1 17 = .ok (.ireturn, 1) := by decide +kernel
def m_J0_check : hs_M := (⟨"java/lang/String", "checkIndex", "(II)V"⟩, prog_10_method_155_code, 2, none, 1, 22)
theorem wc_J0_check : Cond.code m_J0_check.1 m_J0_check.2.1 m_J0_check.2.2.1 m_J0_check.2.2.2.1 ∈ hs_U := hs_t2 86 (by decide +kernel) rfl
theorem cm_J0_check : hs_CM m_J0_check 2 := ⟨wc_J0_check, hs_t1 8 (by decide +kernel) rfl, by decide +kernel, by decide +kernel, by decide +kernel⟩
theorem wt_J0_check : Cond.static m_J0_check.1 ∈ hs_U := hs_t2 85 (by decide +kernel) rfl
theorem d_J0_check_0 : decode m_J0_check.2.1 0 = .ok (.iload_n 0, 1) := by decide +kernel
theorem d_J0_check_1 : decode m_J0_check.2.1 1 = .ok (.iload_n 1, 1) := by decide +kernel
theorem d_J0_check_2 : decode m_J0_check.2.1 2 = .ok (.getstatic 1053, 3) := by decide +kernel
theorem d_J0_check_5 : decode m_J0_check.2.1 5 = .ok (.invokestatic 1059, 3) := by decide +kernel
theorem d_J0_check_8 : decode m_J0_check.2.1 8 = .ok (.pop, 1) := by decide +kernel
theorem d_J0_check_9 : decode m_J0_check.2.1 9 = .ok (.return_, 1) := by decide +kernel
def m_J1_char : hs_M := (⟨"java/lang/StringLatin1", "charAt", "([BI)C"⟩, prog_11_method_2_code, 2, (some .char), 2, 43)
theorem wc_J1_char : Cond.code m_J1_char.1 m_J1_char.2.1 m_J1_char.2.2.1 m_J1_char.2.2.2.1 ∈ hs_U := hs_t2 83 (by decide +kernel) rfl
theorem cm_J1_char : hs_CM m_J1_char 2 := ⟨wc_J1_char, hs_t1 9 (by decide +kernel) rfl, by decide +kernel, by decide +kernel, by decide +kernel⟩
theorem wt_J1_char : Cond.static m_J1_char.1 ∈ hs_U := hs_t2 82 (by decide +kernel) rfl
theorem d_J1_char_0 : decode m_J1_char.2.1 0 = .ok (.iload_n 1, 1) := by decide +kernel
theorem d_J1_char_1 : decode m_J1_char.2.1 1 = .ok (.aload_n 0, 1) := by decide +kernel
theorem d_J1_char_2 : decode m_J1_char.2.1 2 = .ok (.arraylength, 1) := by decide +kernel
theorem d_J1_char_3 : decode m_J1_char.2.1 3 = .ok (.invokestatic 9, 3) := by decide +kernel
theorem d_J1_char_6 : decode m_J1_char.2.1 6 = .ok (.aload_n 0, 1) := by decide +kernel
theorem d_J1_char_7 : decode m_J1_char.2.1 7 = .ok (.iload_n 1, 1) := by decide +kernel
theorem d_J1_char_8 : decode m_J1_char.2.1 8 = .ok (.baload, 1) := by decide +kernel
theorem d_J1_char_9 : decode m_J1_char.2.1 9 = .ok (.sipush 255, 3) := by decide +kernel
theorem d_J1_char_12 : decode m_J1_char.2.1 12 = .ok (.iand, 1) := by decide +kernel
theorem d_J1_char_13 : decode m_J1_char.2.1 13 = .ok (.i2c, 1) := by decide +kernel
theorem d_J1_char_14 : decode m_J1_char.2.1 14 = .ok (.ireturn, 1) := by decide +kernel
def m_J0_lat : hs_M := (⟨"java/lang/String", "isLatin1", "()Z"⟩, prog_10_method_154_code, 1, (some .boolean), 0, 0)
theorem wc_J0_lat : Cond.code m_J0_lat.1 m_J0_lat.2.1 m_J0_lat.2.2.1 m_J0_lat.2.2.2.1 ∈ hs_U := hs_t2 80 (by decide +kernel) rfl
theorem cm_J0_lat : hs_CM m_J0_lat 0 := ⟨wc_J0_lat, hs_t1 8 (by decide +kernel) rfl, by decide +kernel, by decide +kernel, by decide +kernel⟩
theorem cv_J0_lat : hs_CV m_J0_lat := ⟨hs_t2 78 (by decide +kernel) rfl, hs_t2 79 (by decide +kernel) rfl⟩
theorem d_J0_lat_0 : decode m_J0_lat.2.1 0 = .ok (.getstatic 38, 3) := by decide +kernel
theorem d_J0_lat_3 : decode m_J0_lat.2.1 3 = .ok (.ifCond .eq 14, 3) := by decide +kernel
theorem d_J0_lat_6 : decode m_J0_lat.2.1 6 = .ok (.aload_n 0, 1) := by decide +kernel
theorem d_J0_lat_7 : decode m_J0_lat.2.1 7 = .ok (.getfield 15, 3) := by decide +kernel
theorem d_J0_lat_10 : decode m_J0_lat.2.1 10 = .ok (.ifCond .ne 7, 3) := by decide +kernel
theorem d_J0_lat_13 : decode m_J0_lat.2.1 13 = .ok (.iconst 1, 1) := by decide +kernel
theorem d_J0_lat_14 : decode m_J0_lat.2.1 14 = .ok (.goto 4, 3) := by decide +kernel
theorem d_J0_lat_17 : decode m_J0_lat.2.1 17 = .ok (.iconst 0, 1) := by decide +kernel
theorem d_J0_lat_18 : decode m_J0_lat.2.1 18 = .ok (.ireturn, 1) := by decide +kernel
def m_J0_cod : hs_M := (⟨"java/lang/String", "coder", "()B"⟩, prog_10_method_152_code, 1, (some .byte), 0, 0)
theorem wc_J0_cod : Cond.code m_J0_cod.1 m_J0_cod.2.1 m_J0_cod.2.2.1 m_J0_cod.2.2.2.1 ∈ hs_U := hs_t2 70 (by decide +kernel) rfl
theorem cm_J0_cod : hs_CM m_J0_cod 0 := ⟨wc_J0_cod, hs_t1 8 (by decide +kernel) rfl, by decide +kernel, by decide +kernel, by decide +kernel⟩
theorem cv_J0_cod : hs_CV m_J0_cod := ⟨hs_t2 68 (by decide +kernel) rfl, hs_t2 69 (by decide +kernel) rfl⟩
theorem d_J0_cod_0 : decode m_J0_cod.2.1 0 = .ok (.getstatic 38, 3) := by decide +kernel
theorem d_J0_cod_3 : decode m_J0_cod.2.1 3 = .ok (.ifCond .eq 10, 3) := by decide +kernel
theorem d_J0_cod_6 : decode m_J0_cod.2.1 6 = .ok (.aload_n 0, 1) := by decide +kernel
theorem d_J0_cod_7 : decode m_J0_cod.2.1 7 = .ok (.getfield 15, 3) := by decide +kernel
theorem d_J0_cod_10 : decode m_J0_cod.2.1 10 = .ok (.goto 4, 3) := by decide +kernel
theorem d_J0_cod_13 : decode m_J0_cod.2.1 13 = .ok (.iconst 1, 1) := by decide +kernel
theorem d_J0_cod_14 : decode m_J0_cod.2.1 14 = .ok (.ireturn, 1) := by decide +kernel
def m_J0_len : hs_M := (⟨"java/lang/String", "length", "()I"⟩, prog_10_method_54_code, 1, (some .int), 1, 20)
theorem wc_J0_len : Cond.code m_J0_len.1 m_J0_len.2.1 m_J0_len.2.2.1 m_J0_len.2.2.2.1 ∈ hs_U := hs_t2 66 (by decide +kernel) rfl
theorem cm_J0_len : hs_CM m_J0_len 0 := ⟨wc_J0_len, hs_t1 8 (by decide +kernel) rfl, by decide +kernel, by decide +kernel, by decide +kernel⟩
theorem cv_J0_len : hs_CV m_J0_len := ⟨hs_t2 64 (by decide +kernel) rfl, hs_t2 65 (by decide +kernel) rfl⟩
theorem d_J0_len_0 : decode m_J0_len.2.1 0 = .ok (.aload_n 0, 1) := by decide +kernel
theorem d_J0_len_1 : decode m_J0_len.2.1 1 = .ok (.getfield 9, 3) := by decide +kernel
theorem d_J0_len_4 : decode m_J0_len.2.1 4 = .ok (.arraylength, 1) := by decide +kernel
theorem d_J0_len_5 : decode m_J0_len.2.1 5 = .ok (.aload_n 0, 1) := by decide +kernel
theorem d_J0_len_6 : decode m_J0_len.2.1 6 = .ok (.invokevirtual 335, 3) := by decide +kernel
theorem d_J0_len_9 : decode m_J0_len.2.1 9 = .ok (.ishr, 1) := by decide +kernel
theorem d_J0_len_10 : decode m_J0_len.2.1 10 = .ok (.ireturn, 1) := by decide +kernel
def m_J0_char : hs_M := (⟨"java/lang/String", "charAt", "(I)C"⟩, prog_10_method_56_code, 2, (some .char), 3, 64)
theorem wc_J0_char : Cond.code m_J0_char.1 m_J0_char.2.1 m_J0_char.2.2.1 m_J0_char.2.2.2.1 ∈ hs_U := hs_t2 76 (by decide +kernel) rfl
theorem cm_J0_char : hs_CM m_J0_char 1 := ⟨wc_J0_char, hs_t1 8 (by decide +kernel) rfl, by decide +kernel, by decide +kernel, by decide +kernel⟩
theorem cv_J0_char : hs_CV m_J0_char := ⟨hs_t2 74 (by decide +kernel) rfl, hs_t2 75 (by decide +kernel) rfl⟩
theorem d_J0_char_0 : decode m_J0_char.2.1 0 = .ok (.aload_n 0, 1) := by decide +kernel
theorem d_J0_char_1 : decode m_J0_char.2.1 1 = .ok (.invokevirtual 492, 3) := by decide +kernel
theorem d_J0_char_4 : decode m_J0_char.2.1 4 = .ok (.ifCond .eq 12, 3) := by decide +kernel
theorem d_J0_char_7 : decode m_J0_char.2.1 7 = .ok (.aload_n 0, 1) := by decide +kernel
theorem d_J0_char_8 : decode m_J0_char.2.1 8 = .ok (.getfield 9, 3) := by decide +kernel
theorem d_J0_char_11 : decode m_J0_char.2.1 11 = .ok (.iload_n 1, 1) := by decide +kernel
theorem d_J0_char_12 : decode m_J0_char.2.1 12 = .ok (.invokestatic 495, 3) := by decide +kernel
theorem d_J0_char_15 : decode m_J0_char.2.1 15 = .ok (.ireturn, 1) := by decide +kernel
theorem d_J0_char_16 : decode m_J0_char.2.1 16 = .ok (.aload_n 0, 1) := by decide +kernel
theorem d_J0_char_17 : decode m_J0_char.2.1 17 = .ok (.getfield 9, 3) := by decide +kernel
theorem d_J0_char_20 : decode m_J0_char.2.1 20 = .ok (.iload_n 1, 1) := by decide +kernel
theorem d_J0_char_21 : decode m_J0_char.2.1 21 = .ok (.invokestatic 498, 3) := by decide +kernel
theorem d_J0_char_24 : decode m_J0_char.2.1 24 = .ok (.ireturn, 1) := by decide +kernel
theorem ml_len : Cond.methodLink "HauntSums$Reader" 105 m_J0_len.1 ∈ hs_U := hs_t2 63 (by decide +kernel) rfl
theorem ml_cod : Cond.methodLink "java/lang/String" 335 m_J0_cod.1 ∈ hs_U := hs_t2 67 (by decide +kernel) rfl
theorem ml_char : Cond.methodLink "HauntSums$Reader" 112 m_J0_char.1 ∈ hs_U := hs_t2 73 (by decide +kernel) rfl
theorem ml_lat : Cond.methodLink "java/lang/String" 492 m_J0_lat.1 ∈ hs_U := hs_t2 77 (by decide +kernel) rfl
theorem ml_char1 : Cond.methodLink "java/lang/String" 495 m_J1_char.1 ∈ hs_U := hs_t2 81 (by decide +kernel) rfl
theorem ml_chk0 : Cond.methodLink "java/lang/StringLatin1" 9 m_J0_check.1 ∈ hs_U := hs_t2 84 (by decide +kernel) rfl
theorem ml_chk3 : Cond.methodLink "java/lang/String" 1059 m_J3_check.1 ∈ hs_U := hs_t2 89 (by decide +kernel) rfl
theorem wf_cs : Cond.fieldLink "java/lang/String" 38 "java/lang/String" "COMPACT_STRINGS" "Z" ∈ hs_U := hs_t2 71 (by decide +kernel) rfl
theorem wf_sf : Cond.fieldLink "java/lang/String" 1053 "jdk/internal/util/Preconditions" "SIOOBE_FORMATTER" "Ljava/util/function/BiFunction;" ∈ hs_U := hs_t2 87 (by decide +kernel) rfl
theorem wf_val : Cond.fieldLink "java/lang/String" 9 "java/lang/String" "value" "[B" ∈ hs_U := hs_t5 197 (by decide +kernel) rfl
theorem wf_cod : Cond.fieldLink "java/lang/String" 15 "java/lang/String" "coder" "B" ∈ hs_U := hs_t5 198 (by decide +kernel) rfl
def hj_Pc (G : hs_G) (σ : hs_St) (rav : List Value) (sz : Nat) : Array Value → State → Prop :=
  va_Pc rav (fun U => U.heap.size = sz ∧ va_P G.1 vwCl (hs_enc G σ) U.heap ∧ va_K G.1 vwCl (hs_tys G) U ∧ va_D (fun _ => True) (hs_enc G σ) ∧ hs_N U ∧ hs_X G (va_A (hs_enc G σ) sz) U U.heap)
def hj_K (x : Option Int32) (σ : hs_St) : Option Value → hs_St → Prop := fun r τ => r = x.map Value.int ∧ τ = σ
/-- a method of the JDK that writes nothing: values as they stand in the machine -/
def hj_Ok (y : hs_M) (G : hs_G) (rav : List Value) (σ : hs_St) (x : Option Int32) : Prop :=
  ∀ (l : Launch) (sz : Nat), Met l y.1 (hs_ws y) (hs_rm y) (hj_Pc G σ rav sz) (hs_Qc G (va_A (hs_enc G σ) sz) (hj_K x σ)) 0 0 (va_A (hs_enc G σ) sz)
theorem hj_ok_of {d : hs_M} {G : hs_G} {rav : List Value} {σ : hs_St} {x : Option Int32} (hy : plainName d.1.cls = true) (hn : (lg_sl rav).length ≤ d.2.2.1)
    (h : ∀ (p : Program) (l : Launch) (e : Env) (s : State) (m : MethodId) (args : Array Value) (below : List Frame) (meth : Method) (c : Code) (A : Nat → Prop), hs_Cx d p s m args meth c G A →
      ∀ (H : Heap) (locs : List Loc) (ls : Array Slot), va_P G.1 vwCl (hs_enc G σ) H → va_S A s.heap H locs → lv_has ls d.2.2.1 (lv_args 0 rav) →
        W p l e (hs_rm d) s m args below meth c H locs 0 0 (MQ below (hs_Qc G A (hj_K x σ)) args s 0 0 A) (F0 m 0 ls [])) : hj_Ok d G rav σ x := by
  intro l sz
  refine Met.ofW (cc := d.2.1) (maxL := d.2.2.1) (ret := d.2.2.2.1) hy rfl ?_
  intro p e s m args below meth c s₁ B hml hv
  obtain ⟨rfl, hsz, hP, hK, hD0, hN, hX⟩ := hv
  subst hsz
  have hts := atoms_spec (ws := hs_ws d) B.pre
  have hown : s.vm.findClass d.1.cls = some m.cls := findClass_of_methodNamed B.named
  have hC : hs_Cx d p s m rav.toArray meth c G (va_A (hs_enc G σ) s.heap.size) :=
    ⟨B.exec, B.bytes, B.returns, hml, hown, hts, B.notSynchronized, hK, hN, hX, fun q h => Or.inr h, fun τ => hs_D (σ := σ) (hD0.self (sz := s.heap.size))⟩
  have hl := lv_entry rav (n := d.2.2.1) hn
  rw [lg_entry_eq]
  exact h p l e s m _ below meth c _ hC s.heap [] _ hP va_S.rf hl
theorem hj_blind {G : hs_G} {σ : hs_St} {av : List Value} {sz : Nat} : FrameBlind (hj_Pc G σ av sz) := by
  intro a U g mk q
  obtain ⟨q0, q1, qP, qK, qD, qN, qX⟩ := q
  exact ⟨q0, q1, qP, va_K.moved (u := U) (U := U.calling g mk a) (Vm.Alike.refl U.vm) qK, qD, hs_N.same (u := U) (U := U.calling g mk a) rfl qN, hs_X.same (u := U) (U := U.calling g mk a) rfl qX⟩
section HJ
variable {d y : hs_M} {p : Program} {l : Launch} {e : Env} {s : State} {m : MethodId} {args : Array Value} {below : List Frame} {meth : Method} {c : Code} {G : hs_G} {A : Nat → Prop} {σ : hs_St} {H : Heap} {locs : List Loc} {ls : Array Slot} {lv : List (Nat × Value)} {rest As : List Value} {pc idx n b cells slots : Nat} {Q : State → Prop} {x : Option Int32}
theorem hj_pre (C : hs_Cx d p s m args meth c G A) (hP : va_P G.1 vwCl (hs_enc G σ) H) (hS : va_S A s.heap H locs) (av : List Value) (U : State) (hU : U.heap = H) (hW : s.WarmedH U.vm) : hj_Pc G σ av H.size av.toArray U := by
  obtain ⟨-, -, -, -, -, -, -, hK, hN, hX, hA, hD⟩ := C
  have hsub : ∀ q, va_A (hs_enc G σ) H.size q → A q := by
    intro q h
    rcases h with ⟨k, e, h⟩ | h
    · exact (hD σ).2 k (q, e) h
    · exact hA q (Nat.le_trans hS.1 h)
  refine ⟨rfl, by rw [hU], by rw [hU]; exact hP, va_K.moved hW.alike hK, (hD σ).weaken (fun _ _ _ _ => trivial), hN.warm hW, ?_⟩
  rw [hU]
  exact ((hX.kept (fun a h1 h2 => hS.2.1 a h1 h2)).narrow hsub).warm hW
theorem hj_callV (C : hs_Cx d p s m args meth c G A) (hP : va_P G.1 vwCl (hs_enc G σ) H) (hS : va_S A s.heap H locs) (hl0 : lv_has ls d.2.2.1 lv) (hd : decode d.2.1 pc = .ok (.invokevirtual idx, 3)) (hl : Cond.methodLink d.1.cls idx y.1 ∈ hs_U) (hm : hs_CM y n) (hv : hs_CV y) (hn : As.length = n) (hf : hs_fits d y rest) (hrecv : ∃ cell : Cell, H[b]? = some cell ∧ cell.vm.isStatics = false ∧ s.vm.findClass y.1.cls = some cell.cls)
    (h : hj_Ok y G (.ref b :: As) σ x) (kk : ∀ (H1 : Heap) (locs1 : List Loc), va_P G.1 vwCl (hs_enc G σ) H1 → va_S A s.heap H1 locs1 → W p l e (hs_rm d) s m args below meth c H1 locs1 0 0 Q (F0 m (pc + 3) ls ((x.map Value.int).toList ++ rest))) : W p l e (hs_rm d) s m args below meth c H locs 0 0 Q (F0 m pc ls (As.reverse ++ .ref b :: rest)) := by
  have hCW : CallW (hs_rm d) s args d.1.cls y.1.cls idx y.1 y.2.1 y.2.2.1 y.2.2.2.1 (hs_ws y) (hs_rm y) 0 0 n := ⟨hs_callB C hl hm hf, hs_u C hv.1, hs_u C hv.2⟩
  refine hw_call (G := G) (A := A) (va_runV (As := As) (rest := rest) ⟨C.1, C.2.1, C.2.2.2.1, C.2.2.2.2.1, C.2.2.2.2.2.1⟩ (h l H.size) hCW ⟨hj_blind, hrecv, fun U hU hW => hj_pre C hP hS (.ref b :: As) U hU hW⟩ rfl hn hl0.1 (by simp) (lv_room hf.2.2) hd ⟨Nat.zero_le _, Nat.zero_le _⟩) hS (hs_sub C hS) (hs_sub C hS) (fun r τ H1 locs1 hK' hP1 hS1 => ?_)
  obtain ⟨rfl, rfl⟩ := hK'
  have e1 : ((x.map Value.int).map (hs_tr G.2.2.1)).toList = (x.map Value.int).toList := by cases x <;> rfl
  rw [e1]
  exact kk H1 locs1 hP1 hS1
theorem hj_callS (C : hs_Cx d p s m args meth c G A) (hP : va_P G.1 vwCl (hs_enc G σ) H) (hS : va_S A s.heap H locs) (hl0 : lv_has ls d.2.2.1 lv) (hd : decode d.2.1 pc = .ok (.invokestatic idx, 3)) (hl : Cond.methodLink d.1.cls idx y.1 ∈ hs_U) (hm : hs_CM y n) (hv : Cond.static y.1 ∈ hs_U) (hn : As.length = n) (hf : hs_fits d y rest)
    (h : hj_Ok y G As σ x) (kk : ∀ (H1 : Heap) (locs1 : List Loc), va_P G.1 vwCl (hs_enc G σ) H1 → va_S A s.heap H1 locs1 → W p l e (hs_rm d) s m args below meth c H1 locs1 0 0 Q (F0 m (pc + 3) ls ((x.map Value.int).toList ++ rest))) : W p l e (hs_rm d) s m args below meth c H locs 0 0 Q (F0 m pc ls (As.reverse ++ rest)) := by
  refine hw_call (G := G) (A := A) (va_runS (As := As) (rest := rest) ⟨C.1, C.2.1, C.2.2.2.1, C.2.2.2.2.1, C.2.2.2.2.2.1⟩ (h l H.size) ⟨hs_callB C hl hm hf, hs_u C hv⟩ ⟨hj_blind, fun U hU hW => hj_pre C hP hS As U hU hW⟩ rfl hn hl0.1 (by simp) (lv_room hf.2.2) hd ⟨Nat.zero_le _, Nat.zero_le _⟩) hS (hs_sub C hS) (hs_sub C hS) (fun r τ H1 locs1 hK' hP1 hS1 => ?_)
  obtain ⟨rfl, rfl⟩ := hK'
  have e1 : ((x.map Value.int).map (hs_tr G.2.2.1)).toList = (x.map Value.int).toList := by cases x <;> rfl
  rw [e1]
  exact kk H1 locs1 hP1 hS1
theorem hj_ret (C : hs_Cx d p s m args meth c G A) (hP : va_P G.1 vwCl (hs_enc G σ) H) (hS : va_S A s.heap H locs) {v : Int32} {ty : FieldType} (hr : d.2.2.2.1 = some ty) (hn : narrow ty (.int v) = .int v) (hd : decode d.2.1 pc = .ok (.ireturn, 1)) : W p l e (hs_rm d) s m args below meth c H locs 0 0 (MQ below (hs_Qc G A (hj_K (some v) σ)) args s 0 0 A) (F0 m pc ls [.int v]) :=
  W.zret C.1 C.2.1 (C.2.2.1.trans hr) hn (fun t ht hW => ⟨⟨some (.int v), σ, rfl, ⟨rfl, rfl⟩, by rw [ht]; exact hP⟩, hS.F ht⟩) hS.2.2 hd C.2.2.2.2.2.2.1
end HJ
theorem cj_cod {G : hs_G} {i : Nat} (hi : i < 6) {σ : hs_St} : hj_Ok m_J0_cod G [.ref (G.2.2.1 (1000 + i))] σ (some 0) := by
  refine hj_ok_of rfl (Nat.le_of_ble_eq_true rfl) ?_
  intro p l e s m args below meth c A C H locs ls hP hS hl
  have hl : lv_has ls 1 [(0, .ref (G.2.2.1 (1000 + i)))] := hl
  obtain ⟨hX1, hX2, hX3, v, hv, hX4⟩ := C.2.2.2.2.2.2.2.2.2.1
  refine va_gets C.1 C.2.1 hX3 hS C.2.2.2.2.1 (hs_u C wf_cs) (fun _ h => h) d_J0_cod_0 ?_
  refine lv_if_eq (tgt := 13) C.1 C.2.1 d_J0_cod_3 rfl (fun h => absurd h (by decide)) (fun _ => ?_)
  refine lv_aload_n C.1 C.2.1 d_J0_cod_6 rfl (lv_at hl 0 rfl) ?_
  refine vk_getf C.1 C.2.1 (hX1.1 i hi).2.1 hS C.2.2.2.2.1 (hs_u C wf_cod) (fun _ h => h) d_J0_cod_7 ?_
  refine lv_goto (tgt := 14) C.1 C.2.1 d_J0_cod_10 rfl ?_
  exact hj_ret C hP hS rfl rfl d_J0_cod_14
theorem cj_lat {G : hs_G} {i : Nat} (hi : i < 6) {σ : hs_St} : hj_Ok m_J0_lat G [.ref (G.2.2.1 (1000 + i))] σ (some 1) := by
  refine hj_ok_of rfl (Nat.le_of_ble_eq_true rfl) ?_
  intro p l e s m args below meth c A C H locs ls hP hS hl
  have hl : lv_has ls 1 [(0, .ref (G.2.2.1 (1000 + i)))] := hl
  obtain ⟨hX1, hX2, hX3, v, hv, hX4⟩ := C.2.2.2.2.2.2.2.2.2.1
  refine va_gets C.1 C.2.1 hX3 hS C.2.2.2.2.1 (hs_u C wf_cs) (fun _ h => h) d_J0_lat_0 ?_
  refine lv_if_eq (tgt := 17) C.1 C.2.1 d_J0_lat_3 rfl (fun h => absurd h (by decide)) (fun _ => ?_)
  refine lv_aload_n C.1 C.2.1 d_J0_lat_6 rfl (lv_at hl 0 rfl) ?_
  refine vk_getf C.1 C.2.1 (hX1.1 i hi).2.1 hS C.2.2.2.2.1 (hs_u C wf_cod) (fun _ h => h) d_J0_lat_7 ?_
  refine lv_if_ne (tgt := 17) C.1 C.2.1 d_J0_lat_10 rfl (fun h => absurd rfl h) (fun _ => ?_)
  refine lv_iconst (v := 1) C.1 C.2.1 d_J0_lat_13 rfl ?_
  refine lv_goto (tgt := 18) C.1 C.2.1 d_J0_lat_14 rfl ?_
  exact hj_ret C hP hS rfl rfl d_J0_lat_18
theorem cj_len {G : hs_G} {i : Nat} (hi : i < 6) {σ : hs_St} : hj_Ok m_J0_len G [.ref (G.2.2.1 (1000 + i))] σ (some (nI (hs_len.getD i 0))) := by
  refine hj_ok_of rfl (Nat.le_of_ble_eq_true rfl) ?_
  intro p l e s m args below meth c A C H locs ls hP hS hl
  have hl : lv_has ls 1 [(0, .ref (G.2.2.1 (1000 + i)))] := hl
  obtain ⟨hX1, hX2, hX3, v, hv, hX4⟩ := C.2.2.2.2.2.2.2.2.2.1
  refine lv_aload_n C.1 C.2.1 d_J0_len_0 rfl (lv_at hl 0 rfl) ?_
  refine vk_getf C.1 C.2.1 (hX1.1 i hi).2.2.1 hS C.2.2.2.2.1 (hs_u C wf_val) (fun _ h => h) d_J0_len_1 ?_
  refine va_tlen (v := nI (hs_len.getD i 0)) C.1 C.2.1 (hX1.1 i hi).2.2.2 hS rfl d_J0_len_4 ?_
  refine lv_aload_n C.1 C.2.1 d_J0_len_5 rfl (lv_at hl 0 rfl) ?_
  refine hj_callV (y := m_J0_cod) (As := []) C hP hS hl d_J0_len_6 ml_cod cm_J0_cod cv_J0_cod rfl ⟨Nat.le_of_ble_eq_true rfl, Nat.le_of_ble_eq_true rfl, Nat.le_of_ble_eq_true rfl⟩ (vk_recv (adK := fun i => G.2.2.1 (1000 + i)) hX1 hi hS) (cj_cod hi) (fun H1 locs1 hP1 hS1 => ?_)
  refine lv_ishr C.1 C.2.1 d_J0_len_9 ?_
  have e1 : nI (hs_len.getD i 0) >>> ((0 : Int32) &&& 31) = nI (hs_len.getD i 0) := by
    have h : ∀ j : Nat, j < 6 → nI (hs_len.getD j 0) >>> ((0 : Int32) &&& 31) = nI (hs_len.getD j 0) := by decide
    exact h i hi
  rw [e1]
  exact hj_ret C hP1 hS1 rfl rfl d_J0_len_10
theorem cj_chk3 {G : hs_G} {x : Int32} {n : Nat} (hx : vp_in x n) (hn : n < 2147483648) (v : Value) (hv : v = .null ∨ ∃ a, v = .ref a) {σ : hs_St} : hj_Ok m_J3_check G [.int x, .int (nI n), v] σ (some x) := by
  have hc : v.category = 1 := by rcases hv with rfl | ⟨a, rfl⟩ <;> rfl
  have h1 := vp_in_iff.mp hx
  refine hj_ok_of rfl (by simp [lg_sl, hc]; exact Nat.le_of_ble_eq_true rfl) ?_
  intro p l e s m args below meth c A C H locs ls hP hS hl
  have hl : lv_has ls 3 [(0, .int x), (1, .int (nI n)), (2, v)] := hl
  refine lv_iload_n C.1 C.2.1 d_J3_check_0 rfl (lv_at hl 0 rfl) ?_
  refine lv_if_lt (tgt := 9) C.1 C.2.1 d_J3_check_1 rfl (fun h => ?_) (fun _ => ?_)
  · have := Int32.lt_iff_toInt_lt.mp h
    have h0 : (0 : Int32).toInt = 0 := by decide
    omega
  refine lv_iload_n C.1 C.2.1 d_J3_check_4 rfl (lv_at hl 0 rfl) ?_
  refine lv_iload_n C.1 C.2.1 d_J3_check_5 rfl (lv_at hl 1 rfl) ?_
  refine lv_icmp_lt (tgt := 16) C.1 C.2.1 d_J3_check_6 rfl (fun _ => ?_) (fun h => absurd ?_ h)
  · refine lv_iload_n C.1 C.2.1 d_J3_check_16 rfl (lv_at hl 0 rfl) ?_
    exact hj_ret C hP hS rfl rfl d_J3_check_17
  · rw [Int32.lt_iff_toInt_lt, nI_toInt hn]
    exact h1.2
theorem cj_chk0 {G : hs_G} {x : Int32} {n : Nat} (hx : vp_in x n) (hn : n < 2147483648) {σ : hs_St} : hj_Ok m_J0_check G [.int x, .int (nI n)] σ none := by
  refine hj_ok_of rfl (Nat.le_of_ble_eq_true rfl) ?_
  intro p l e s m args below meth c A C H locs ls hP hS hl
  have hl : lv_has ls 2 [(0, .int x), (1, .int (nI n))] := hl
  obtain ⟨hX1, hX2, hX3, v, hv, hX4⟩ := C.2.2.2.2.2.2.2.2.2.1
  have hc : v.category = 1 := by rcases hv with rfl | ⟨a, rfl⟩ <;> rfl
  refine lv_iload_n C.1 C.2.1 d_J0_check_0 rfl (lv_at hl 0 rfl) ?_
  refine lv_iload_n C.1 C.2.1 d_J0_check_1 rfl (lv_at hl 1 rfl) ?_
  refine va_gets C.1 C.2.1 hX4 hS C.2.2.2.2.1 (hs_u C wf_sf) (fun _ h => h) d_J0_check_2 ?_
  refine hj_callS (y := m_J3_check) (As := [.int x, .int (nI n), v]) (rest := []) C hP hS hl d_J0_check_5 ml_chk3 cm_J3_check wt_J3_check rfl ⟨Nat.le_of_ble_eq_true rfl, Nat.le_of_ble_eq_true rfl, Nat.le_of_ble_eq_true rfl⟩ (cj_chk3 hx hn v hv) (fun H1 locs1 hP1 hS1 => ?_)
  refine lv_pop C.1 C.2.1 d_J0_check_8 rfl ?_
  exact W.vret C.1 C.2.1 (C.2.2.1.trans rfl) (fun t ht hW => ⟨⟨none, σ, rfl, ⟨rfl, rfl⟩, by rw [ht]; exact hP1⟩, hS1.F ht⟩) hS1.2.2 d_J0_check_9 C.2.2.2.2.2.2.1
theorem hj_len : ∀ i : Nat, i < 6 → hs_len.getD i 0 < 2147483648 := by decide
theorem hj_byt : ∀ i : Nat, i < 6 → ∀ j : Nat, j < hs_len.getD i 0 → (((hs_byt.getD i []).getD j 0 &&& 255).toUInt32 % 65536).toInt32 = (hs_byt.getD i []).getD j 0 ∧ vp_nar .char ((hs_byt.getD i []).getD j 0) = (hs_byt.getD i []).getD j 0 := by decide
theorem cj_char1 {G : hs_G} {i : Nat} (hi : i < 6) {x : Int32} (hx : vp_in x (hs_len.getD i 0)) {σ : hs_St} : hj_Ok m_J1_char G [.ref (G.2.2.2 i), .int x] σ (some ((hs_byt.getD i []).getD x.toNatClampNeg 0)) := by
  refine hj_ok_of rfl (Nat.le_of_ble_eq_true rfl) ?_
  intro p l e s m args below meth c A C H locs ls hP hS hl
  have hl : lv_has ls 2 [(0, .ref (G.2.2.2 i)), (1, .int x)] := hl
  obtain ⟨hX1, hX2, hX3, v, hv, hX4⟩ := C.2.2.2.2.2.2.2.2.2.1
  have hlt : x.toNatClampNeg < hs_len.getD i 0 := Nat.not_le.mp fun q => hx (Or.inr q)
  refine lv_iload_n C.1 C.2.1 d_J1_char_0 rfl (lv_at hl 1 rfl) ?_
  refine lv_aload_n C.1 C.2.1 d_J1_char_1 rfl (lv_at hl 0 rfl) ?_
  refine va_tlen (v := nI (hs_len.getD i 0)) C.1 C.2.1 (hX1.1 i hi).2.2.2 hS rfl d_J1_char_2 ?_
  refine hj_callS (y := m_J0_check) (As := [.int x, .int (nI (hs_len.getD i 0))]) (rest := []) C hP hS hl d_J1_char_3 ml_chk0 cm_J0_check wt_J0_check rfl ⟨Nat.le_of_ble_eq_true rfl, Nat.le_of_ble_eq_true rfl, Nat.le_of_ble_eq_true rfl⟩ (cj_chk0 hx (hj_len i hi)) (fun H1 locs1 hP1 hS1 => ?_)
  refine lv_aload_n C.1 C.2.1 d_J1_char_6 rfl (lv_at hl 0 rfl) ?_
  refine lv_iload_n C.1 C.2.1 d_J1_char_7 rfl (lv_at hl 1 rfl) ?_
  refine va_tb C.1 C.2.1 (hX1.1 i hi).2.2.2 hS1 hx rfl d_J1_char_8 ?_
  refine lv_sipush (v := 255) C.1 C.2.1 d_J1_char_9 rfl ?_
  refine lv_iand C.1 C.2.1 d_J1_char_12 ?_
  refine lv_i2c C.1 C.2.1 d_J1_char_13 (hj_byt i hi _ hlt).1 ?_
  exact hj_ret C hP1 hS1 (ty := .char) rfl (congrArg Value.int (hj_byt i hi _ hlt).2) d_J1_char_14
theorem cj_char {G : hs_G} {i : Nat} (hi : i < 6) {x : Int32} (hx : vp_in x (hs_len.getD i 0)) {σ : hs_St} : hj_Ok m_J0_char G [.ref (G.2.2.1 (1000 + i)), .int x] σ (some ((hs_byt.getD i []).getD x.toNatClampNeg 0)) := by
  refine hj_ok_of rfl (Nat.le_of_ble_eq_true rfl) ?_
  intro p l e s m args below meth c A C H locs ls hP hS hl
  have hl : lv_has ls 2 [(0, .ref (G.2.2.1 (1000 + i))), (1, .int x)] := hl
  obtain ⟨hX1, hX2, hX3, v, hv, hX4⟩ := C.2.2.2.2.2.2.2.2.2.1
  have hlt : x.toNatClampNeg < hs_len.getD i 0 := Nat.not_le.mp fun q => hx (Or.inr q)
  refine lv_aload_n C.1 C.2.1 d_J0_char_0 rfl (lv_at hl 0 rfl) ?_
  refine hj_callV (y := m_J0_lat) (As := []) (rest := []) C hP hS hl d_J0_char_1 ml_lat cm_J0_lat cv_J0_lat rfl ⟨Nat.le_of_ble_eq_true rfl, Nat.le_of_ble_eq_true rfl, Nat.le_of_ble_eq_true rfl⟩ (vk_recv (adK := fun i => G.2.2.1 (1000 + i)) hX1 hi hS) (cj_lat hi) (fun H1 locs1 hP1 hS1 => ?_)
  refine lv_if_eq (tgt := 16) C.1 C.2.1 d_J0_char_4 rfl (fun h => absurd h (by decide)) (fun _ => ?_)
  refine lv_aload_n C.1 C.2.1 d_J0_char_7 rfl (lv_at hl 0 rfl) ?_
  refine vk_getf C.1 C.2.1 (hX1.1 i hi).2.2.1 hS1 C.2.2.2.2.1 (hs_u C wf_val) (fun _ h => h) d_J0_char_8 ?_
  refine lv_iload_n C.1 C.2.1 d_J0_char_11 rfl (lv_at hl 1 rfl) ?_
  refine hj_callS (y := m_J1_char) (As := [.ref (G.2.2.2 i), .int x]) (rest := []) C hP1 hS1 hl d_J0_char_12 ml_char1 cm_J1_char wt_J1_char rfl ⟨Nat.le_of_ble_eq_true rfl, Nat.le_of_ble_eq_true rfl, Nat.le_of_ble_eq_true rfl⟩ (cj_char1 hi hx) (fun H2 locs2 hP2 hS2 => ?_)
  exact hj_ret C hP2 hS2 (ty := .char) rfl (congrArg Value.int (hj_byt i hi _ hlt).2) d_J0_char_15
section HJR
variable {d : hs_M} {pc : Nat} {lv : List (Nat × Value)} {st : List Value} {σ : hs_St} {K : Option Value → hs_St → Prop}
theorem hr_slen0 {i : Nat} (hy : d.1.cls = "HauntSums$Reader") (hf : hs_fits d m_J0_len st) (hd : decode d.2.1 pc = .ok (.invokevirtual 105, 3)) (hi : i < 6) (k : hs_Rn d (pc + 3) lv (.int (nI (hs_len.getD i 0)) :: st) σ K) : hs_Rn d pc lv (.ref (1000 + i) :: st) σ K := by
  intro p l e s m args below meth c G A C H locs ls hP hS hl
  exact hj_callV (y := m_J0_len) (As := []) (rest := st.map (hs_tr G.2.2.1)) C hP hS hl hd (hy ▸ ml_len) cm_J0_len cv_J0_len rfl ⟨hf.1, hf.2.1, by rw [hs_tr_sum]; exact hf.2.2⟩ (vk_recv (adK := fun i => G.2.2.1 (1000 + i)) C.2.2.2.2.2.2.2.2.2.1.1 hi hS) (cj_len hi) (fun H1 locs1 hP1 hS1 => k p l e s m args below meth c G A C H1 locs1 ls hP1 hS1 hl)
theorem hr_schar0 {i : Nat} {x : Int32} (hy : d.1.cls = "HauntSums$Reader") (hf : hs_fits d m_J0_char st) (hd : decode d.2.1 pc = .ok (.invokevirtual 112, 3)) (hi : i < 6) (hx : vp_in x (hs_len.getD i 0)) (k : hs_Rn d (pc + 3) lv (.int ((hs_byt.getD i []).getD x.toNatClampNeg 0) :: st) σ K) : hs_Rn d pc lv (.int x :: .ref (1000 + i) :: st) σ K := by
  intro p l e s m args below meth c G A C H locs ls hP hS hl
  exact hj_callV (y := m_J0_char) (As := [.int x]) (rest := st.map (hs_tr G.2.2.1)) C hP hS hl hd (hy ▸ ml_char) cm_J0_char cv_J0_char rfl ⟨hf.1, hf.2.1, by rw [hs_tr_sum]; exact hf.2.2⟩ (vk_recv (adK := fun i => G.2.2.1 (1000 + i)) C.2.2.2.2.2.2.2.2.2.1.1 hi hS) (cj_char hi hx) (fun H1 locs1 hP1 hS1 => k p l e s m args below meth c G A C H1 locs1 ls hP1 hS1 hl)
end HJR
