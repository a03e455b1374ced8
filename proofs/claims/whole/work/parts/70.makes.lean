/-- a final field, of the type -/
def hs_FF (ci j : Nat) (ty : FieldType) : Prop := ∀ (C : String) (T : u_T) (N : Nat), vwCl[ci]? = some (C, T, N) → (T j).2.2.2 = true ∧ parseFieldDescriptor (T j).2.2.1 = some ty ∧ (T j).1 = C
def i_X4 : hs_M := (⟨"HauntSums$Walk", "<init>", "()V"⟩, prog_6_method_1_code, 1, none, 1, 12)
theorem wc_iX4 : Cond.code i_X4.1 i_X4.2.1 i_X4.2.2.1 i_X4.2.2.2.1 ∈ hs_U := hs_t1 26 (by decide +kernel) rfl
theorem cm_iX4 : hs_CM i_X4 0 := ⟨wc_iX4, hs_t1 2 (by decide +kernel) rfl, by decide +kernel, by decide +kernel, by decide +kernel⟩
theorem im_iX4 : Cond.instanceMethod i_X4.1 ∈ hs_U := hs_t1 25 (by decide +kernel) rfl
theorem ob_X4 : Cond.methodLink i_X4.1.cls 3 objectInit ∈ hs_U := hs_t1 27 (by decide +kernel) rfl
theorem in_X4 : Cond.instantiable RX4 9 ∈ hs_U := hs_t1 23 (by decide +kernel) rfl
theorem ii_X4 : Cond.initialized RX4 ∈ hs_U := hs_t1 2 (by decide +kernel) rfl
theorem di_X4_0 : decode i_X4.2.1 0 = .ok (.aload_n 0, 1) := by decide +kernel
theorem di_X4_1 : decode i_X4.2.1 1 = .ok (.invokespecial 3, 3) := by decide +kernel
theorem di_X4_4 : decode i_X4.2.1 4 = .ok (.aload_n 0, 1) := by decide +kernel
theorem di_X4_5 : decode i_X4.2.1 5 = .ok (.iconst 4, 1) := by decide +kernel
theorem di_X4_6 : decode i_X4.2.1 6 = .ok (.newarray .int, 2) := by decide +kernel
theorem di_X4_8 : decode i_X4.2.1 8 = .ok (.putfield 9, 3) := by decide +kernel
theorem di_X4_11 : decode i_X4.2.1 11 = .ok (.aload_n 0, 1) := by decide +kernel
theorem di_X4_12 : decode i_X4.2.1 12 = .ok (.iconst 4, 1) := by decide +kernel
theorem di_X4_13 : decode i_X4.2.1 13 = .ok (.newarray .int, 2) := by decide +kernel
theorem di_X4_15 : decode i_X4.2.1 15 = .ok (.putfield 15, 3) := by decide +kernel
theorem di_X4_18 : decode i_X4.2.1 18 = .ok (.aload_n 0, 1) := by decide +kernel
theorem di_X4_19 : decode i_X4.2.1 19 = .ok (.iconst 4, 1) := by decide +kernel
theorem di_X4_20 : decode i_X4.2.1 20 = .ok (.newarray .int, 2) := by decide +kernel
theorem di_X4_22 : decode i_X4.2.1 22 = .ok (.putfield 18, 3) := by decide +kernel
theorem di_X4_25 : decode i_X4.2.1 25 = .ok (.aload_n 0, 1) := by decide +kernel
theorem di_X4_26 : decode i_X4.2.1 26 = .ok (.iconst 3, 1) := by decide +kernel
theorem di_X4_27 : decode i_X4.2.1 27 = .ok (.newarray .int, 2) := by decide +kernel
theorem di_X4_29 : decode i_X4.2.1 29 = .ok (.putfield 21, 3) := by decide +kernel
theorem di_X4_32 : decode i_X4.2.1 32 = .ok (.aload_n 0, 1) := by decide +kernel
theorem di_X4_33 : decode i_X4.2.1 33 = .ok (.iconst 3, 1) := by decide +kernel
theorem di_X4_34 : decode i_X4.2.1 34 = .ok (.newarray .int, 2) := by decide +kernel
theorem di_X4_36 : decode i_X4.2.1 36 = .ok (.putfield 24, 3) := by decide +kernel
theorem di_X4_39 : decode i_X4.2.1 39 = .ok (.aload_n 0, 1) := by decide +kernel
theorem di_X4_40 : decode i_X4.2.1 40 = .ok (.bipush 6, 2) := by decide +kernel
theorem di_X4_42 : decode i_X4.2.1 42 = .ok (.newarray .int, 2) := by decide +kernel
theorem di_X4_44 : decode i_X4.2.1 44 = .ok (.putfield 27, 3) := by decide +kernel
theorem di_X4_47 : decode i_X4.2.1 47 = .ok (.return_, 1) := by decide +kernel
def i_X3 : hs_M := (⟨"HauntSums$Town", "<init>", "()V"⟩, prog_5_method_1_code, 1, none, 1, 12)
theorem wc_iX3 : Cond.code i_X3.1 i_X3.2.1 i_X3.2.2.1 i_X3.2.2.2.1 ∈ hs_U := hs_t1 70 (by decide +kernel) rfl
theorem cm_iX3 : hs_CM i_X3 0 := ⟨wc_iX3, hs_t1 3 (by decide +kernel) rfl, by decide +kernel, by decide +kernel, by decide +kernel⟩
theorem im_iX3 : Cond.instanceMethod i_X3.1 ∈ hs_U := hs_t1 69 (by decide +kernel) rfl
theorem ob_X3 : Cond.methodLink i_X3.1.cls 3 objectInit ∈ hs_U := hs_t1 71 (by decide +kernel) rfl
theorem in_X3 : Cond.instantiable RX3 14 ∈ hs_U := hs_t1 67 (by decide +kernel) rfl
theorem ii_X3 : Cond.initialized RX3 ∈ hs_U := hs_t1 3 (by decide +kernel) rfl
theorem di_X3_0 : decode i_X3.2.1 0 = .ok (.aload_n 0, 1) := by decide +kernel
theorem di_X3_1 : decode i_X3.2.1 1 = .ok (.invokespecial 3, 3) := by decide +kernel
theorem di_X3_4 : decode i_X3.2.1 4 = .ok (.aload_n 0, 1) := by decide +kernel
theorem di_X3_5 : decode i_X3.2.1 5 = .ok (.iconst 4, 1) := by decide +kernel
theorem di_X3_6 : decode i_X3.2.1 6 = .ok (.newarray .int, 2) := by decide +kernel
theorem di_X3_8 : decode i_X3.2.1 8 = .ok (.putfield 9, 3) := by decide +kernel
theorem di_X3_11 : decode i_X3.2.1 11 = .ok (.aload_n 0, 1) := by decide +kernel
theorem di_X3_12 : decode i_X3.2.1 12 = .ok (.iconst 4, 1) := by decide +kernel
theorem di_X3_13 : decode i_X3.2.1 13 = .ok (.newarray .int, 2) := by decide +kernel
theorem di_X3_15 : decode i_X3.2.1 15 = .ok (.putfield 15, 3) := by decide +kernel
theorem di_X3_18 : decode i_X3.2.1 18 = .ok (.aload_n 0, 1) := by decide +kernel
theorem di_X3_19 : decode i_X3.2.1 19 = .ok (.iconst 4, 1) := by decide +kernel
theorem di_X3_20 : decode i_X3.2.1 20 = .ok (.newarray .int, 2) := by decide +kernel
theorem di_X3_22 : decode i_X3.2.1 22 = .ok (.putfield 18, 3) := by decide +kernel
theorem di_X3_25 : decode i_X3.2.1 25 = .ok (.aload_n 0, 1) := by decide +kernel
theorem di_X3_26 : decode i_X3.2.1 26 = .ok (.iconst 4, 1) := by decide +kernel
theorem di_X3_27 : decode i_X3.2.1 27 = .ok (.newarray .int, 2) := by decide +kernel
theorem di_X3_29 : decode i_X3.2.1 29 = .ok (.putfield 21, 3) := by decide +kernel
theorem di_X3_32 : decode i_X3.2.1 32 = .ok (.aload_n 0, 1) := by decide +kernel
theorem di_X3_33 : decode i_X3.2.1 33 = .ok (.iconst 4, 1) := by decide +kernel
theorem di_X3_34 : decode i_X3.2.1 34 = .ok (.newarray .int, 2) := by decide +kernel
theorem di_X3_36 : decode i_X3.2.1 36 = .ok (.putfield 24, 3) := by decide +kernel
theorem di_X3_39 : decode i_X3.2.1 39 = .ok (.aload_n 0, 1) := by decide +kernel
theorem di_X3_40 : decode i_X3.2.1 40 = .ok (.iconst 3, 1) := by decide +kernel
theorem di_X3_41 : decode i_X3.2.1 41 = .ok (.newarray .int, 2) := by decide +kernel
theorem di_X3_43 : decode i_X3.2.1 43 = .ok (.putfield 27, 3) := by decide +kernel
theorem di_X3_46 : decode i_X3.2.1 46 = .ok (.aload_n 0, 1) := by decide +kernel
theorem di_X3_47 : decode i_X3.2.1 47 = .ok (.iconst 3, 1) := by decide +kernel
theorem di_X3_48 : decode i_X3.2.1 48 = .ok (.newarray .int, 2) := by decide +kernel
theorem di_X3_50 : decode i_X3.2.1 50 = .ok (.putfield 30, 3) := by decide +kernel
theorem di_X3_53 : decode i_X3.2.1 53 = .ok (.aload_n 0, 1) := by decide +kernel
theorem di_X3_54 : decode i_X3.2.1 54 = .ok (.bipush 6, 2) := by decide +kernel
theorem di_X3_56 : decode i_X3.2.1 56 = .ok (.newarray .int, 2) := by decide +kernel
theorem di_X3_58 : decode i_X3.2.1 58 = .ok (.putfield 33, 3) := by decide +kernel
theorem di_X3_61 : decode i_X3.2.1 61 = .ok (.aload_n 0, 1) := by decide +kernel
theorem di_X3_62 : decode i_X3.2.1 62 = .ok (.bipush 6, 2) := by decide +kernel
theorem di_X3_64 : decode i_X3.2.1 64 = .ok (.newarray .int, 2) := by decide +kernel
theorem di_X3_66 : decode i_X3.2.1 66 = .ok (.putfield 36, 3) := by decide +kernel
theorem di_X3_69 : decode i_X3.2.1 69 = .ok (.aload_n 0, 1) := by decide +kernel
theorem di_X3_70 : decode i_X3.2.1 70 = .ok (.bipush 6, 2) := by decide +kernel
theorem di_X3_72 : decode i_X3.2.1 72 = .ok (.newarray .int, 2) := by decide +kernel
theorem di_X3_74 : decode i_X3.2.1 74 = .ok (.putfield 39, 3) := by decide +kernel
theorem di_X3_77 : decode i_X3.2.1 77 = .ok (.return_, 1) := by decide +kernel
def i_X2 : hs_M := (⟨"HauntSums$Tape", "<init>", "()V"⟩, prog_4_method_1_code, 1, none, 1, 12)
theorem wc_iX2 : Cond.code i_X2.1 i_X2.2.1 i_X2.2.2.1 i_X2.2.2.2.1 ∈ hs_U := hs_t1 144 (by decide +kernel) rfl
theorem cm_iX2 : hs_CM i_X2 0 := ⟨wc_iX2, hs_t1 4 (by decide +kernel) rfl, by decide +kernel, by decide +kernel, by decide +kernel⟩
theorem im_iX2 : Cond.instanceMethod i_X2.1 ∈ hs_U := hs_t1 143 (by decide +kernel) rfl
theorem ob_X2 : Cond.methodLink i_X2.1.cls 3 objectInit ∈ hs_U := hs_t1 145 (by decide +kernel) rfl
theorem in_X2 : Cond.instantiable RX2 2 ∈ hs_U := hs_t1 141 (by decide +kernel) rfl
theorem ii_X2 : Cond.initialized RX2 ∈ hs_U := hs_t1 4 (by decide +kernel) rfl
theorem di_X2_0 : decode i_X2.2.1 0 = .ok (.aload_n 0, 1) := by decide +kernel
theorem di_X2_1 : decode i_X2.2.1 1 = .ok (.invokespecial 3, 3) := by decide +kernel
theorem di_X2_4 : decode i_X2.2.1 4 = .ok (.aload_n 0, 1) := by decide +kernel
theorem di_X2_5 : decode i_X2.2.1 5 = .ok (.sipush 160, 3) := by decide +kernel
theorem di_X2_8 : decode i_X2.2.1 8 = .ok (.newarray .int, 2) := by decide +kernel
theorem di_X2_10 : decode i_X2.2.1 10 = .ok (.putfield 9, 3) := by decide +kernel
theorem di_X2_13 : decode i_X2.2.1 13 = .ok (.return_, 1) := by decide +kernel
def i_X1 : hs_M := (⟨"HauntSums$Sheets", "<init>", "()V"⟩, prog_3_method_1_code, 1, none, 1, 12)
theorem wc_iX1 : Cond.code i_X1.1 i_X1.2.1 i_X1.2.2.1 i_X1.2.2.2.1 ∈ hs_U := hs_t1 200 (by decide +kernel) rfl
theorem cm_iX1 : hs_CM i_X1 0 := ⟨wc_iX1, hs_t1 6 (by decide +kernel) rfl, by decide +kernel, by decide +kernel, by decide +kernel⟩
theorem im_iX1 : Cond.instanceMethod i_X1.1 ∈ hs_U := hs_t1 199 (by decide +kernel) rfl
theorem ob_X1 : Cond.methodLink i_X1.1.cls 3 objectInit ∈ hs_U := hs_t1 201 (by decide +kernel) rfl
theorem in_X1 : Cond.instantiable RX1 3 ∈ hs_U := hs_t1 197 (by decide +kernel) rfl
theorem ii_X1 : Cond.initialized RX1 ∈ hs_U := hs_t1 6 (by decide +kernel) rfl
theorem di_X1_0 : decode i_X1.2.1 0 = .ok (.aload_n 0, 1) := by decide +kernel
theorem di_X1_1 : decode i_X1.2.1 1 = .ok (.invokespecial 3, 3) := by decide +kernel
theorem di_X1_4 : decode i_X1.2.1 4 = .ok (.aload_n 0, 1) := by decide +kernel
theorem di_X1_5 : decode i_X1.2.1 5 = .ok (.iconst 4, 1) := by decide +kernel
theorem di_X1_6 : decode i_X1.2.1 6 = .ok (.newarray .int, 2) := by decide +kernel
theorem di_X1_8 : decode i_X1.2.1 8 = .ok (.dup, 1) := by decide +kernel
theorem di_X1_9 : decode i_X1.2.1 9 = .ok (.iconst 0, 1) := by decide +kernel
theorem di_X1_10 : decode i_X1.2.1 10 = .ok (.iconst (-1), 1) := by decide +kernel
theorem di_X1_11 : decode i_X1.2.1 11 = .ok (.iastore, 1) := by decide +kernel
theorem di_X1_12 : decode i_X1.2.1 12 = .ok (.dup, 1) := by decide +kernel
theorem di_X1_13 : decode i_X1.2.1 13 = .ok (.iconst 1, 1) := by decide +kernel
theorem di_X1_14 : decode i_X1.2.1 14 = .ok (.iconst (-1), 1) := by decide +kernel
theorem di_X1_15 : decode i_X1.2.1 15 = .ok (.iastore, 1) := by decide +kernel
theorem di_X1_16 : decode i_X1.2.1 16 = .ok (.dup, 1) := by decide +kernel
theorem di_X1_17 : decode i_X1.2.1 17 = .ok (.iconst 2, 1) := by decide +kernel
theorem di_X1_18 : decode i_X1.2.1 18 = .ok (.iconst (-1), 1) := by decide +kernel
theorem di_X1_19 : decode i_X1.2.1 19 = .ok (.iastore, 1) := by decide +kernel
theorem di_X1_20 : decode i_X1.2.1 20 = .ok (.dup, 1) := by decide +kernel
theorem di_X1_21 : decode i_X1.2.1 21 = .ok (.iconst 3, 1) := by decide +kernel
theorem di_X1_22 : decode i_X1.2.1 22 = .ok (.iconst (-1), 1) := by decide +kernel
theorem di_X1_23 : decode i_X1.2.1 23 = .ok (.iastore, 1) := by decide +kernel
theorem di_X1_24 : decode i_X1.2.1 24 = .ok (.putfield 11, 3) := by decide +kernel
theorem di_X1_27 : decode i_X1.2.1 27 = .ok (.aload_n 0, 1) := by decide +kernel
theorem di_X1_28 : decode i_X1.2.1 28 = .ok (.iconst 4, 1) := by decide +kernel
theorem di_X1_29 : decode i_X1.2.1 29 = .ok (.newarray .int, 2) := by decide +kernel
theorem di_X1_31 : decode i_X1.2.1 31 = .ok (.putfield 15, 3) := by decide +kernel
theorem di_X1_34 : decode i_X1.2.1 34 = .ok (.aload_n 0, 1) := by decide +kernel
theorem di_X1_35 : decode i_X1.2.1 35 = .ok (.sipush 160, 3) := by decide +kernel
theorem di_X1_38 : decode i_X1.2.1 38 = .ok (.newarray .int, 2) := by decide +kernel
theorem di_X1_40 : decode i_X1.2.1 40 = .ok (.putfield 18, 3) := by decide +kernel
theorem di_X1_43 : decode i_X1.2.1 43 = .ok (.return_, 1) := by decide +kernel
def i_X0 : hs_M := (⟨"HauntSums$Reader", "<init>", "(LHauntSums$Tape;)V"⟩, prog_2_method_1_code, 2, none, 2, 32)
theorem wc_iX0 : Cond.code i_X0.1 i_X0.2.1 i_X0.2.2.1 i_X0.2.2.2.1 ∈ hs_U := hs_t1 160 (by decide +kernel) rfl
theorem cm_iX0 : hs_CM i_X0 1 := ⟨wc_iX0, hs_t1 5 (by decide +kernel) rfl, by decide +kernel, by decide +kernel, by decide +kernel⟩
theorem im_iX0 : Cond.instanceMethod i_X0.1 ∈ hs_U := hs_t1 159 (by decide +kernel) rfl
theorem ob_X0 : Cond.methodLink i_X0.1.cls 3 objectInit ∈ hs_U := hs_t1 161 (by decide +kernel) rfl
theorem in_X0 : Cond.instantiable RX0 9 ∈ hs_U := hs_t1 157 (by decide +kernel) rfl
theorem ii_X0 : Cond.initialized RX0 ∈ hs_U := hs_t1 5 (by decide +kernel) rfl
theorem di_X0_0 : decode i_X0.2.1 0 = .ok (.aload_n 0, 1) := by decide +kernel
theorem di_X0_1 : decode i_X0.2.1 1 = .ok (.invokespecial 3, 3) := by decide +kernel
theorem di_X0_4 : decode i_X0.2.1 4 = .ok (.aload_n 0, 1) := by decide +kernel
theorem di_X0_5 : decode i_X0.2.1 5 = .ok (.new 9, 3) := by decide +kernel
theorem di_X0_8 : decode i_X0.2.1 8 = .ok (.dup, 1) := by decide +kernel
theorem di_X0_9 : decode i_X0.2.1 9 = .ok (.invokespecial 11, 3) := by decide +kernel
theorem di_X0_12 : decode i_X0.2.1 12 = .ok (.putfield 12, 3) := by decide +kernel
theorem di_X0_15 : decode i_X0.2.1 15 = .ok (.aload_n 0, 1) := by decide +kernel
theorem di_X0_16 : decode i_X0.2.1 16 = .ok (.iconst 4, 1) := by decide +kernel
theorem di_X0_17 : decode i_X0.2.1 17 = .ok (.newarray .int, 2) := by decide +kernel
theorem di_X0_19 : decode i_X0.2.1 19 = .ok (.putfield 18, 3) := by decide +kernel
theorem di_X0_22 : decode i_X0.2.1 22 = .ok (.aload_n 0, 1) := by decide +kernel
theorem di_X0_23 : decode i_X0.2.1 23 = .ok (.aload_n 1, 1) := by decide +kernel
theorem di_X0_24 : decode i_X0.2.1 24 = .ok (.putfield 22, 3) := by decide +kernel
theorem di_X0_27 : decode i_X0.2.1 27 = .ok (.return_, 1) := by decide +kernel
def i_X5 : hs_M := (⟨"HauntSums", "<init>", "()V"⟩, prog_1_method_1_code, 1, none, 3, 60)
theorem wc_iX5 : Cond.code i_X5.1 i_X5.2.1 i_X5.2.2.1 i_X5.2.2.2.1 ∈ hs_U := hs_t1 18 (by decide +kernel) rfl
theorem cm_iX5 : hs_CM i_X5 0 := ⟨wc_iX5, hs_t1 1 (by decide +kernel) rfl, by decide +kernel, by decide +kernel, by decide +kernel⟩
theorem im_iX5 : Cond.instanceMethod i_X5.1 ∈ hs_U := hs_t1 17 (by decide +kernel) rfl
theorem ob_X5 : Cond.methodLink i_X5.1.cls 1 objectInit ∈ hs_U := hs_t1 19 (by decide +kernel) rfl
theorem in_X5 : Cond.instantiable RX5 10 ∈ hs_U := hs_t1 15 (by decide +kernel) rfl
theorem ii_X5 : Cond.initialized RX5 ∈ hs_U := hs_t1 1 (by decide +kernel) rfl
theorem di_X5_0 : decode i_X5.2.1 0 = .ok (.aload_n 0, 1) := by decide +kernel
theorem di_X5_1 : decode i_X5.2.1 1 = .ok (.invokespecial 1, 3) := by decide +kernel
theorem di_X5_4 : decode i_X5.2.1 4 = .ok (.aload_n 0, 1) := by decide +kernel
theorem di_X5_5 : decode i_X5.2.1 5 = .ok (.new 7, 3) := by decide +kernel
theorem di_X5_8 : decode i_X5.2.1 8 = .ok (.dup, 1) := by decide +kernel
theorem di_X5_9 : decode i_X5.2.1 9 = .ok (.invokespecial 9, 3) := by decide +kernel
theorem di_X5_12 : decode i_X5.2.1 12 = .ok (.putfield 10, 3) := by decide +kernel
theorem di_X5_15 : decode i_X5.2.1 15 = .ok (.aload_n 0, 1) := by decide +kernel
theorem di_X5_16 : decode i_X5.2.1 16 = .ok (.new 16, 3) := by decide +kernel
theorem di_X5_19 : decode i_X5.2.1 19 = .ok (.dup, 1) := by decide +kernel
theorem di_X5_20 : decode i_X5.2.1 20 = .ok (.invokespecial 18, 3) := by decide +kernel
theorem di_X5_23 : decode i_X5.2.1 23 = .ok (.putfield 19, 3) := by decide +kernel
theorem di_X5_26 : decode i_X5.2.1 26 = .ok (.aload_n 0, 1) := by decide +kernel
theorem di_X5_27 : decode i_X5.2.1 27 = .ok (.new 23, 3) := by decide +kernel
theorem di_X5_30 : decode i_X5.2.1 30 = .ok (.dup, 1) := by decide +kernel
theorem di_X5_31 : decode i_X5.2.1 31 = .ok (.invokespecial 25, 3) := by decide +kernel
theorem di_X5_34 : decode i_X5.2.1 34 = .ok (.putfield 26, 3) := by decide +kernel
theorem di_X5_37 : decode i_X5.2.1 37 = .ok (.aload_n 0, 1) := by decide +kernel
theorem di_X5_38 : decode i_X5.2.1 38 = .ok (.new 30, 3) := by decide +kernel
theorem di_X5_41 : decode i_X5.2.1 41 = .ok (.dup, 1) := by decide +kernel
theorem di_X5_42 : decode i_X5.2.1 42 = .ok (.aload_n 0, 1) := by decide +kernel
theorem di_X5_43 : decode i_X5.2.1 43 = .ok (.getfield 26, 3) := by decide +kernel
theorem di_X5_46 : decode i_X5.2.1 46 = .ok (.invokespecial 32, 3) := by decide +kernel
theorem di_X5_49 : decode i_X5.2.1 49 = .ok (.putfield 35, 3) := by decide +kernel
theorem di_X5_52 : decode i_X5.2.1 52 = .ok (.aload_n 0, 1) := by decide +kernel
theorem di_X5_53 : decode i_X5.2.1 53 = .ok (.iconst 2, 1) := by decide +kernel
theorem di_X5_54 : decode i_X5.2.1 54 = .ok (.anewarray 16, 3) := by decide +kernel
theorem di_X5_57 : decode i_X5.2.1 57 = .ok (.dup, 1) := by decide +kernel
theorem di_X5_58 : decode i_X5.2.1 58 = .ok (.iconst 0, 1) := by decide +kernel
theorem di_X5_59 : decode i_X5.2.1 59 = .ok (.new 16, 3) := by decide +kernel
theorem di_X5_62 : decode i_X5.2.1 62 = .ok (.dup, 1) := by decide +kernel
theorem di_X5_63 : decode i_X5.2.1 63 = .ok (.invokespecial 18, 3) := by decide +kernel
theorem di_X5_66 : decode i_X5.2.1 66 = .ok (.aastore, 1) := by decide +kernel
theorem di_X5_67 : decode i_X5.2.1 67 = .ok (.dup, 1) := by decide +kernel
theorem di_X5_68 : decode i_X5.2.1 68 = .ok (.iconst 1, 1) := by decide +kernel
theorem di_X5_69 : decode i_X5.2.1 69 = .ok (.new 16, 3) := by decide +kernel
theorem di_X5_72 : decode i_X5.2.1 72 = .ok (.dup, 1) := by decide +kernel
theorem di_X5_73 : decode i_X5.2.1 73 = .ok (.invokespecial 18, 3) := by decide +kernel
theorem di_X5_76 : decode i_X5.2.1 76 = .ok (.aastore, 1) := by decide +kernel
theorem di_X5_77 : decode i_X5.2.1 77 = .ok (.putfield 39, 3) := by decide +kernel
theorem di_X5_80 : decode i_X5.2.1 80 = .ok (.aload_n 0, 1) := by decide +kernel
theorem di_X5_81 : decode i_X5.2.1 81 = .ok (.iconst 2, 1) := by decide +kernel
theorem di_X5_82 : decode i_X5.2.1 82 = .ok (.newarray .boolean, 2) := by decide +kernel
theorem di_X5_84 : decode i_X5.2.1 84 = .ok (.putfield 43, 3) := by decide +kernel
theorem di_X5_87 : decode i_X5.2.1 87 = .ok (.aload_n 0, 1) := by decide +kernel
theorem di_X5_88 : decode i_X5.2.1 88 = .ok (.new 47, 3) := by decide +kernel
theorem di_X5_91 : decode i_X5.2.1 91 = .ok (.dup, 1) := by decide +kernel
theorem di_X5_92 : decode i_X5.2.1 92 = .ok (.invokespecial 49, 3) := by decide +kernel
theorem di_X5_95 : decode i_X5.2.1 95 = .ok (.putfield 50, 3) := by decide +kernel
theorem di_X5_98 : decode i_X5.2.1 98 = .ok (.aload_n 0, 1) := by decide +kernel
theorem di_X5_99 : decode i_X5.2.1 99 = .ok (.bipush 126, 2) := by decide +kernel
theorem di_X5_101 : decode i_X5.2.1 101 = .ok (.newarray .int, 2) := by decide +kernel
theorem di_X5_103 : decode i_X5.2.1 103 = .ok (.putfield 54, 3) := by decide +kernel
theorem di_X5_106 : decode i_X5.2.1 106 = .ok (.return_, 1) := by decide +kernel
def i_X6 : hs_M := (⟨"HauntSumsModel", "<init>", "()V"⟩, prog_8_method_1_code, 2, none, 8, 200)
theorem wc_iX6 : Cond.code i_X6.1 i_X6.2.1 i_X6.2.2.1 i_X6.2.2.2.1 ∈ hs_U := hs_t4 16 (by decide +kernel) rfl
theorem cm_iX6 : hs_CM i_X6 0 := ⟨wc_iX6, hs_t1 7 (by decide +kernel) rfl, by decide +kernel, by decide +kernel, by decide +kernel⟩
theorem im_iX6 : Cond.instanceMethod i_X6.1 ∈ hs_U := hs_t4 15 (by decide +kernel) rfl
theorem ob_X6 : Cond.methodLink i_X6.1.cls 1 objectInit ∈ hs_U := hs_t4 17 (by decide +kernel) rfl
theorem in_X6 : Cond.instantiable RX6 29 ∈ hs_U := hs_t4 13 (by decide +kernel) rfl
theorem ii_X6 : Cond.initialized RX6 ∈ hs_U := hs_t1 7 (by decide +kernel) rfl
theorem di_X6_0 : decode i_X6.2.1 0 = .ok (.aload_n 0, 1) := by decide +kernel
theorem di_X6_1 : decode i_X6.2.1 1 = .ok (.invokespecial 1, 3) := by decide +kernel
theorem di_X6_4 : decode i_X6.2.1 4 = .ok (.aload_n 0, 1) := by decide +kernel
theorem di_X6_5 : decode i_X6.2.1 5 = .ok (.sipush 141, 3) := by decide +kernel
theorem di_X6_8 : decode i_X6.2.1 8 = .ok (.newarray .int, 2) := by decide +kernel
theorem di_X6_10 : decode i_X6.2.1 10 = .ok (.putfield 7, 3) := by decide +kernel
theorem di_X6_13 : decode i_X6.2.1 13 = .ok (.aload_n 0, 1) := by decide +kernel
theorem di_X6_14 : decode i_X6.2.1 14 = .ok (.bipush 47, 2) := by decide +kernel
theorem di_X6_16 : decode i_X6.2.1 16 = .ok (.newarray .int, 2) := by decide +kernel
theorem di_X6_18 : decode i_X6.2.1 18 = .ok (.putfield 13, 3) := by decide +kernel
theorem di_X6_21 : decode i_X6.2.1 21 = .ok (.aload_n 0, 1) := by decide +kernel
theorem di_X6_22 : decode i_X6.2.1 22 = .ok (.iconst 2, 1) := by decide +kernel
theorem di_X6_23 : decode i_X6.2.1 23 = .ok (.newarray .boolean, 2) := by decide +kernel
theorem di_X6_25 : decode i_X6.2.1 25 = .ok (.putfield 16, 3) := by decide +kernel
theorem di_X6_28 : decode i_X6.2.1 28 = .ok (.aload_n 0, 1) := by decide +kernel
theorem di_X6_29 : decode i_X6.2.1 29 = .ok (.bipush 47, 2) := by decide +kernel
theorem di_X6_31 : decode i_X6.2.1 31 = .ok (.newarray .int, 2) := by decide +kernel
theorem di_X6_33 : decode i_X6.2.1 33 = .ok (.putfield 20, 3) := by decide +kernel
theorem di_X6_36 : decode i_X6.2.1 36 = .ok (.aload_n 0, 1) := by decide +kernel
theorem di_X6_37 : decode i_X6.2.1 37 = .ok (.iconst 4, 1) := by decide +kernel
theorem di_X6_38 : decode i_X6.2.1 38 = .ok (.newarray .int, 2) := by decide +kernel
theorem di_X6_40 : decode i_X6.2.1 40 = .ok (.putfield 23, 3) := by decide +kernel
theorem di_X6_43 : decode i_X6.2.1 43 = .ok (.aload_n 0, 1) := by decide +kernel
theorem di_X6_44 : decode i_X6.2.1 44 = .ok (.sipush 160, 3) := by decide +kernel
theorem di_X6_47 : decode i_X6.2.1 47 = .ok (.newarray .int, 2) := by decide +kernel
theorem di_X6_49 : decode i_X6.2.1 49 = .ok (.putfield 26, 3) := by decide +kernel
theorem di_X6_52 : decode i_X6.2.1 52 = .ok (.aload_n 0, 1) := by decide +kernel
theorem di_X6_53 : decode i_X6.2.1 53 = .ok (.bipush 6, 2) := by decide +kernel
theorem di_X6_55 : decode i_X6.2.1 55 = .ok (.newarray .int, 2) := by decide +kernel
theorem di_X6_57 : decode i_X6.2.1 57 = .ok (.putfield 29, 3) := by decide +kernel
theorem di_X6_60 : decode i_X6.2.1 60 = .ok (.aload_n 0, 1) := by decide +kernel
theorem di_X6_61 : decode i_X6.2.1 61 = .ok (.bipush 84, 2) := by decide +kernel
theorem di_X6_63 : decode i_X6.2.1 63 = .ok (.newarray .int, 2) := by decide +kernel
theorem di_X6_65 : decode i_X6.2.1 65 = .ok (.putfield 32, 3) := by decide +kernel
theorem di_X6_68 : decode i_X6.2.1 68 = .ok (.aload_n 0, 1) := by decide +kernel
theorem di_X6_69 : decode i_X6.2.1 69 = .ok (.bipush 126, 2) := by decide +kernel
theorem di_X6_71 : decode i_X6.2.1 71 = .ok (.newarray .int, 2) := by decide +kernel
theorem di_X6_73 : decode i_X6.2.1 73 = .ok (.putfield 35, 3) := by decide +kernel
theorem di_X6_76 : decode i_X6.2.1 76 = .ok (.aload_n 0, 1) := by decide +kernel
theorem di_X6_77 : decode i_X6.2.1 77 = .ok (.iconst 4, 1) := by decide +kernel
theorem di_X6_78 : decode i_X6.2.1 78 = .ok (.newarray .int, 2) := by decide +kernel
theorem di_X6_80 : decode i_X6.2.1 80 = .ok (.putfield 38, 3) := by decide +kernel
theorem di_X6_83 : decode i_X6.2.1 83 = .ok (.aload_n 0, 1) := by decide +kernel
theorem di_X6_84 : decode i_X6.2.1 84 = .ok (.iconst 4, 1) := by decide +kernel
theorem di_X6_85 : decode i_X6.2.1 85 = .ok (.newarray .int, 2) := by decide +kernel
theorem di_X6_87 : decode i_X6.2.1 87 = .ok (.putfield 41, 3) := by decide +kernel
theorem di_X6_90 : decode i_X6.2.1 90 = .ok (.aload_n 0, 1) := by decide +kernel
theorem di_X6_91 : decode i_X6.2.1 91 = .ok (.sipush 160, 3) := by decide +kernel
theorem di_X6_94 : decode i_X6.2.1 94 = .ok (.newarray .int, 2) := by decide +kernel
theorem di_X6_96 : decode i_X6.2.1 96 = .ok (.putfield 44, 3) := by decide +kernel
theorem di_X6_99 : decode i_X6.2.1 99 = .ok (.aload_n 0, 1) := by decide +kernel
theorem di_X6_100 : decode i_X6.2.1 100 = .ok (.bipush 47, 2) := by decide +kernel
theorem di_X6_102 : decode i_X6.2.1 102 = .ok (.newarray .int, 2) := by decide +kernel
theorem di_X6_104 : decode i_X6.2.1 104 = .ok (.putfield 47, 3) := by decide +kernel
theorem di_X6_107 : decode i_X6.2.1 107 = .ok (.iconst 0, 1) := by decide +kernel
theorem di_X6_108 : decode i_X6.2.1 108 = .ok (.istore_n 1, 1) := by decide +kernel
theorem di_X6_109 : decode i_X6.2.1 109 = .ok (.iload_n 1, 1) := by decide +kernel
theorem di_X6_110 : decode i_X6.2.1 110 = .ok (.iconst 4, 1) := by decide +kernel
theorem di_X6_111 : decode i_X6.2.1 111 = .ok (.if_icmp .ge 17, 3) := by decide +kernel
theorem di_X6_114 : decode i_X6.2.1 114 = .ok (.aload_n 0, 1) := by decide +kernel
theorem di_X6_115 : decode i_X6.2.1 115 = .ok (.getfield 38, 3) := by decide +kernel
theorem di_X6_118 : decode i_X6.2.1 118 = .ok (.iload_n 1, 1) := by decide +kernel
theorem di_X6_119 : decode i_X6.2.1 119 = .ok (.bipush (-4), 2) := by decide +kernel
theorem di_X6_121 : decode i_X6.2.1 121 = .ok (.iastore, 1) := by decide +kernel
theorem di_X6_122 : decode i_X6.2.1 122 = .ok (.iinc 1 1, 3) := by decide +kernel
theorem di_X6_125 : decode i_X6.2.1 125 = .ok (.goto (-16), 3) := by decide +kernel
theorem di_X6_128 : decode i_X6.2.1 128 = .ok (.aload_n 0, 1) := by decide +kernel
theorem di_X6_129 : decode i_X6.2.1 129 = .ok (.invokevirtual 50, 3) := by decide +kernel
theorem di_X6_132 : decode i_X6.2.1 132 = .ok (.aload_n 0, 1) := by decide +kernel
theorem di_X6_133 : decode i_X6.2.1 133 = .ok (.invokevirtual 53, 3) := by decide +kernel
theorem di_X6_136 : decode i_X6.2.1 136 = .ok (.return_, 1) := by decide +kernel
theorem cl_L_7 : Cond.classLink "HauntSumsLaw" 7 RX5 ∈ hs_U := hs_t1 14 (by decide +kernel) rfl
theorem cl_X5_7 : Cond.classLink "HauntSums" 7 RX4 ∈ hs_U := hs_t1 22 (by decide +kernel) rfl
theorem cl_X5_16 : Cond.classLink "HauntSums" 16 RX3 ∈ hs_U := hs_t1 66 (by decide +kernel) rfl
theorem cl_X5_23 : Cond.classLink "HauntSums" 23 RX2 ∈ hs_U := hs_t1 140 (by decide +kernel) rfl
theorem cl_X5_30 : Cond.classLink "HauntSums" 30 RX0 ∈ hs_U := hs_t1 156 (by decide +kernel) rfl
theorem cl_X0_9 : Cond.classLink "HauntSums$Reader" 9 RX3 ∈ hs_U := hs_t1 162 (by decide +kernel) rfl
theorem cl_X5_47 : Cond.classLink "HauntSums" 47 RX1 ∈ hs_U := hs_t1 196 (by decide +kernel) rfl
theorem cl_L_10 : Cond.classLink "HauntSumsLaw" 10 RX6 ∈ hs_U := hs_t4 12 (by decide +kernel) rfl
theorem ml_X5_32 : Cond.methodLink RX5 32 i_X0.1 ∈ hs_U := hs_t1 158 (by decide +kernel) rfl
theorem ml_L_9 : Cond.methodLink R_law 9 i_X5.1 ∈ hs_U := hs_t1 16 (by decide +kernel) rfl
theorem ml_L_12 : Cond.methodLink R_law 12 i_X6.1 ∈ hs_U := hs_t4 14 (by decide +kernel) rfl
theorem mn_X5_9 : Cond.methodLinkNest RX5 9 i_X4.1 "HauntSums" ∈ hs_nest := by decide +kernel
theorem mn_X5_18 : Cond.methodLinkNest RX5 18 i_X3.1 "HauntSums" ∈ hs_nest := by decide +kernel
theorem mn_X5_25 : Cond.methodLinkNest RX5 25 i_X2.1 "HauntSums" ∈ hs_nest := by decide +kernel
theorem mn_X0_11 : Cond.methodLinkNest RX0 11 i_X3.1 "HauntSums" ∈ hs_nest := by decide +kernel
theorem mn_X5_49 : Cond.methodLinkNest RX5 49 i_X1.1 "HauntSums" ∈ hs_nest := by decide +kernel
theorem w_ac_int : Cond.arrayClass .int ∈ hs_U := hs_t1 65 (by decide +kernel) rfl
theorem w_ac_bool : Cond.arrayClass .boolean ∈ hs_U := hs_t1 214 (by decide +kernel) rfl
theorem w_oi : Cond.instanceMethod objectInit ∈ hs_U := hs_t1 20 (by decide +kernel) rfl
theorem w_oc : Cond.code objectInit ⟨#[0xb1]⟩ 1 none ∈ hs_U := hs_t1 21 (by decide +kernel) rfl
theorem ff_0_0 : hs_FF 0 0 (.object "HauntSums$Tape") := fun C T N h => by cases h; exact ⟨rfl, by decide +kernel, rfl⟩
theorem ff_0_1 : hs_FF 0 1 (.object "HauntSums$Town") := fun C T N h => by cases h; exact ⟨rfl, by decide +kernel, rfl⟩
theorem ff_0_2 : hs_FF 0 2 (.array .int) := fun C T N h => by cases h; exact ⟨rfl, by decide +kernel, rfl⟩
theorem ff_1_0 : hs_FF 1 0 (.array .int) := fun C T N h => by cases h; exact ⟨rfl, by decide +kernel, rfl⟩
theorem ff_1_1 : hs_FF 1 1 (.array .int) := fun C T N h => by cases h; exact ⟨rfl, by decide +kernel, rfl⟩
theorem ff_1_2 : hs_FF 1 2 (.array .int) := fun C T N h => by cases h; exact ⟨rfl, by decide +kernel, rfl⟩
theorem ff_2_0 : hs_FF 2 0 (.array .int) := fun C T N h => by cases h; exact ⟨rfl, by decide +kernel, rfl⟩
theorem ff_3_1 : hs_FF 3 1 (.array .int) := fun C T N h => by cases h; exact ⟨rfl, by decide +kernel, rfl⟩
theorem ff_3_2 : hs_FF 3 2 (.array .int) := fun C T N h => by cases h; exact ⟨rfl, by decide +kernel, rfl⟩
theorem ff_3_3 : hs_FF 3 3 (.array .int) := fun C T N h => by cases h; exact ⟨rfl, by decide +kernel, rfl⟩
theorem ff_3_4 : hs_FF 3 4 (.array .int) := fun C T N h => by cases h; exact ⟨rfl, by decide +kernel, rfl⟩
theorem ff_3_5 : hs_FF 3 5 (.array .int) := fun C T N h => by cases h; exact ⟨rfl, by decide +kernel, rfl⟩
theorem ff_3_7 : hs_FF 3 7 (.array .int) := fun C T N h => by cases h; exact ⟨rfl, by decide +kernel, rfl⟩
theorem ff_3_8 : hs_FF 3 8 (.array .int) := fun C T N h => by cases h; exact ⟨rfl, by decide +kernel, rfl⟩
theorem ff_3_11 : hs_FF 3 11 (.array .int) := fun C T N h => by cases h; exact ⟨rfl, by decide +kernel, rfl⟩
theorem ff_3_12 : hs_FF 3 12 (.array .int) := fun C T N h => by cases h; exact ⟨rfl, by decide +kernel, rfl⟩
theorem ff_3_13 : hs_FF 3 13 (.array .int) := fun C T N h => by cases h; exact ⟨rfl, by decide +kernel, rfl⟩
theorem ff_4_1 : hs_FF 4 1 (.array .int) := fun C T N h => by cases h; exact ⟨rfl, by decide +kernel, rfl⟩
theorem ff_4_2 : hs_FF 4 2 (.array .int) := fun C T N h => by cases h; exact ⟨rfl, by decide +kernel, rfl⟩
theorem ff_4_3 : hs_FF 4 3 (.array .int) := fun C T N h => by cases h; exact ⟨rfl, by decide +kernel, rfl⟩
theorem ff_4_5 : hs_FF 4 5 (.array .int) := fun C T N h => by cases h; exact ⟨rfl, by decide +kernel, rfl⟩
theorem ff_4_6 : hs_FF 4 6 (.array .int) := fun C T N h => by cases h; exact ⟨rfl, by decide +kernel, rfl⟩
theorem ff_4_8 : hs_FF 4 8 (.array .int) := fun C T N h => by cases h; exact ⟨rfl, by decide +kernel, rfl⟩
theorem ff_5_0 : hs_FF 5 0 (.object "HauntSums$Walk") := fun C T N h => by cases h; exact ⟨rfl, by decide +kernel, rfl⟩
theorem ff_5_1 : hs_FF 5 1 (.object "HauntSums$Town") := fun C T N h => by cases h; exact ⟨rfl, by decide +kernel, rfl⟩
theorem ff_5_2 : hs_FF 5 2 (.object "HauntSums$Tape") := fun C T N h => by cases h; exact ⟨rfl, by decide +kernel, rfl⟩
theorem ff_5_3 : hs_FF 5 3 (.object "HauntSums$Reader") := fun C T N h => by cases h; exact ⟨rfl, by decide +kernel, rfl⟩
theorem ff_5_4 : hs_FF 5 4 (.array (.object "HauntSums$Town")) := fun C T N h => by cases h; exact ⟨rfl, by decide +kernel, rfl⟩
theorem ff_5_5 : hs_FF 5 5 (.array .boolean) := fun C T N h => by cases h; exact ⟨rfl, by decide +kernel, rfl⟩
theorem ff_5_6 : hs_FF 5 6 (.object "HauntSums$Sheets") := fun C T N h => by cases h; exact ⟨rfl, by decide +kernel, rfl⟩
theorem ff_5_7 : hs_FF 5 7 (.array .int) := fun C T N h => by cases h; exact ⟨rfl, by decide +kernel, rfl⟩
theorem ff_6_0 : hs_FF 6 0 (.array .int) := fun C T N h => by cases h; exact ⟨rfl, by decide +kernel, rfl⟩
theorem ff_6_1 : hs_FF 6 1 (.array .int) := fun C T N h => by cases h; exact ⟨rfl, by decide +kernel, rfl⟩
theorem ff_6_2 : hs_FF 6 2 (.array .boolean) := fun C T N h => by cases h; exact ⟨rfl, by decide +kernel, rfl⟩
theorem ff_6_4 : hs_FF 6 4 (.array .int) := fun C T N h => by cases h; exact ⟨rfl, by decide +kernel, rfl⟩
theorem ff_6_7 : hs_FF 6 7 (.array .int) := fun C T N h => by cases h; exact ⟨rfl, by decide +kernel, rfl⟩
theorem ff_6_9 : hs_FF 6 9 (.array .int) := fun C T N h => by cases h; exact ⟨rfl, by decide +kernel, rfl⟩
theorem ff_6_18 : hs_FF 6 18 (.array .int) := fun C T N h => by cases h; exact ⟨rfl, by decide +kernel, rfl⟩
theorem ff_6_22 : hs_FF 6 22 (.array .int) := fun C T N h => by cases h; exact ⟨rfl, by decide +kernel, rfl⟩
theorem ff_6_23 : hs_FF 6 23 (.array .int) := fun C T N h => by cases h; exact ⟨rfl, by decide +kernel, rfl⟩
theorem ff_6_24 : hs_FF 6 24 (.array .int) := fun C T N h => by cases h; exact ⟨rfl, by decide +kernel, rfl⟩
theorem ff_6_25 : hs_FF 6 25 (.array .int) := fun C T N h => by cases h; exact ⟨rfl, by decide +kernel, rfl⟩
theorem ff_6_26 : hs_FF 6 26 (.array .int) := fun C T N h => by cases h; exact ⟨rfl, by decide +kernel, rfl⟩
theorem ff_6_28 : hs_FF 6 28 (.array .int) := fun C T N h => by cases h; exact ⟨rfl, by decide +kernel, rfl⟩
/-! MAKING: worlds that grow; the object that is made stands first -/
def hk_tys (tI tZ tQ : ClassId) : List (ClassId × FieldType) := [(tI, .int), (tZ, .boolean), (tQ, .object "HauntSums$Town")]
def hk_rm (d : hs_M) (mc ms : Nat) : Room := { frames := d.2.2.2.2.1, cells := mc, slots := ms, locals := d.2.2.2.2.2 }
abbrev hk_T : Type := va_G × ClassId × ClassId × ClassId
def hk_Pc (D : hk_T) (w : va_W) (rav : List Value) (sz : Nat) : Array Value → State → Prop :=
  va_Pc rav (fun U => U.heap.size = sz ∧ va_P D.1 vwCl w U.heap ∧ va_K D.1 vwCl (hk_tys D.2.1 D.2.2.1 D.2.2.2) U ∧ va_D (fun _ => True) w ∧ hs_N U ∧ va_AO "HauntSums$Town" U)
def hk_Qc (D : hk_T) (A : Nat → Prop) (Wd : (Nat → Nat) → va_W) : Array Value → State → Outcome → State → Prop :=
  va_Qv (fun _ : Nat → Nat => True) (fun a t => va_P D.1 vwCl (Wd a) t.heap ∧ va_D A (Wd a)) A
def hk_Ok (d : hs_M) (mc ms : Nat) (D : hk_T) (w : va_W) (rav : List Value) (Wd : (Nat → Nat) → va_W) : Prop :=
  ∀ (l : Launch) (sz : Nat), Met l d.1 (hs_ws d) (hk_rm d mc ms) (hk_Pc D w rav sz) (hk_Qc D (va_A w sz) Wd) mc ms (va_A w sz)
def hk_Cx (d : hs_M) (p : Program) (s : State) (m : MethodId) (args : Array Value) (meth : Method) (c : Code) (D : hk_T) (A : Nat → Prop) : Prop :=
  p.tables.exec = Jvm.exec ∧ c.code = d.2.1 ∧ meth.sig.returnType = none ∧ c.maxLocals = d.2.2.1 ∧ s.vm.findClass d.1.cls = some m.cls ∧ (∀ w ∈ hs_U, w.before args s = true) ∧ meth.locks = false ∧ meth.name = "<init>" ∧
  va_K D.1 vwCl (hk_tys D.2.1 D.2.2.1 D.2.2.2) s ∧ hs_N s ∧ va_AO "HauntSums$Town" s ∧ ∀ q, s.heap.size ≤ q → A q
theorem hk_ok_of {d : hs_M} {mc ms : Nat} {D : hk_T} {w : va_W} {rav : List Value} {Wd : (Nat → Nat) → va_W} (hy : plainName d.1.cls = true) (hi : d.1.name = "<init>") (hr : d.2.2.2.1 = none) (hn : (lg_sl rav).length ≤ d.2.2.1)
    (h : ∀ (p : Program) (l : Launch) (e : Env) (s : State) (m : MethodId) (args : Array Value) (below : List Frame) (meth : Method) (c : Code) (A : Nat → Prop), hk_Cx d p s m args meth c D A → va_D A w →
      ∀ (H : Heap) (locs : List Loc) (ls : Array Slot), va_P D.1 vwCl w H → va_S A s.heap H locs → lv_has ls d.2.2.1 (lv_args 0 rav) →
        W p l e (hk_rm d mc ms) s m args below meth c H locs 0 0 (MQ below (hk_Qc D A Wd) args s mc ms A) (F0 m 0 ls [])) : hk_Ok d mc ms D w rav Wd := by
  intro l sz
  refine Met.ofW (cc := d.2.1) (maxL := d.2.2.1) (ret := d.2.2.2.1) hy rfl ?_
  intro p e s m args below meth c s₁ B hml hv
  obtain ⟨rfl, hsz, hP, hK, hD0, hN, hO⟩ := hv
  subst hsz
  have hts := atoms_spec (ws := hs_ws d) B.pre
  have hown : s.vm.findClass d.1.cls = some m.cls := findClass_of_methodNamed B.named
  have hC : hk_Cx d p s m rav.toArray meth c D (va_A w s.heap.size) :=
    ⟨B.exec, B.bytes, B.returns.trans hr, hml, hown, fun w hw => hts w (List.mem_cons_of_mem _ hw), B.notSynchronized, (name_of_methodNamed B.named B.method).1.trans hi, hK, hN, hO, fun q h => Or.inr h⟩
  have hl := lv_entry rav (n := d.2.2.1) hn
  rw [lg_entry_eq]
  exact h p l e s m _ below meth c _ hC (hD0.self (sz := s.heap.size)) s.heap [] _ hP va_S.rf hl
theorem hk_join {A0 : Nat → Prop} {D : va_G} {cl : List vw_C} {ws wc w1 : va_W} {H H1 : Heap} (hP : va_P D cl (ws ++ wc) H) (hD : va_D A0 (ws ++ wc)) (hk : ∀ q : Nat, q < H.size → ¬ va_A wc H.size q → H1[q]? = H[q]?) (hF : ∀ q, va_A wc H.size q → A0 q) (hP1 : va_P D cl w1 H1) (hD1 : va_D (va_A wc H.size) w1) : va_P D cl (ws ++ w1) H1 ∧ va_D A0 (ws ++ w1) := by
  have inL : ∀ {k : Nat} {q : Nat × va_E}, ws[k]? = some q → (ws ++ wc)[k]? = some q := by
    intro k q h
    rw [List.getElem?_append_left (List.getElem?_eq_some_iff.mp h).1]; exact h
  have inR : ∀ {k : Nat} {q : Nat × va_E}, wc[k]? = some q → (ws ++ wc)[ws.length + k]? = some q := by
    intro k q h
    rw [List.getElem?_append_right (by omega), show ws.length + k - ws.length = k by omega]; exact h
  have apart : ∀ (k : Nat) (q : Nat × va_E), ws[k]? = some q → q.1 < H.size ∧ ¬ va_A wc H.size q.1 := by
    intro k q hq
    have hl := (hP k q (inL hq)).lt
    refine ⟨hl, fun h => ?_⟩
    rcases h with ⟨k2, e, h⟩ | h
    · have h1 := hD.1 k (ws.length + k2) q (q.1, e) (inL hq) (inR h) rfl
      have h2 := (List.getElem?_eq_some_iff.mp hq).1
      omega
    · omega
  exact ⟨va_P.app (fun k q hq => (hP k q (inL hq)).kept (hk q.1 (apart k q hq).1 (apart k q hq).2)) hP1, va_D.app ⟨fun i j x y hi hj h => hD.1 i j x y (inL hi) (inL hj) h, fun k q hq => hD.2 k q (inL hq)⟩ (hD1.weaken (fun k q _ h => hF q.1 h)) (fun i j x y hx hy hxy => (apart i x hx).2 (by rw [hxy]; exact hD1.2 j y hy))⟩
/-- the last part of a world may be changed and may grow -/
theorem hk_free {A0 : Nat → Prop} {ws wc : va_W} {H0 H : Heap} {locs : List Loc} (hD : va_D A0 (ws ++ wc)) (hS : va_S A0 H0 H locs) (hA : ∀ q, H0.size ≤ q → A0 q) : ∀ q, va_A wc H.size q → A0 q := by
  intro q h
  rcases h with ⟨k, e, h⟩ | h
  · exact hD.2 (ws.length + k) (q, e) (by rw [List.getElem?_append_right (by omega), show ws.length + k - ws.length = k by omega]; exact h)
  · exact hA q (Nat.le_trans hS.1 h)
theorem hk_right {A0 : Nat → Prop} {D : va_G} {cl : List vw_C} {ws wc : va_W} {H : Heap} (hP : va_P D cl (ws ++ wc) H) (hD : va_D A0 (ws ++ wc)) : va_P D cl wc H ∧ va_D A0 wc := by
  have inR : ∀ {k : Nat} {q : Nat × va_E}, wc[k]? = some q → (ws ++ wc)[ws.length + k]? = some q := by
    intro k q h
    rw [List.getElem?_append_right (by omega), show ws.length + k - ws.length = k by omega]; exact h
  exact ⟨fun k q hq => hP _ q (inR hq), fun i j x y hi hj h => by have := hD.1 _ _ x y (inR hi) (inR hj) h; omega, fun k q hq => hD.2 _ q (inR hq)⟩
section HK
variable {d y : hs_M} {p : Program} {l : Launch} {e : Env} {s : State} {m : MethodId} {args : Array Value} {below : List Frame} {meth : Method} {c : Code} {D : hk_T} {A : Nat → Prop} {H : Heap} {locs : List Loc} {ls : Array Slot} {rest As : List Value} {pc idx n b ci cells slots mc ms mc1 ms1 h0 : Nat} {Q : State → Prop} {ws : va_W} {x o : va_E} {fs : List Value}
theorem hk_obj (C : hk_Cx d p s m args meth c D A) (hsz : ls.size = d.2.2.1) (hl : Cond.methodLink d.1.cls idx objectInit ∈ hs_U) (hd : decode d.2.1 pc = .ok (.invokespecial idx, 3)) (hf : 1 ≤ d.2.2.2.2.1) (hlo : 12 ≤ d.2.2.2.2.2) (kk : W p l e (hk_rm d mc ms) s m args below meth c H locs cells slots Q (F0 m (pc + 3) ls [])) : W p l e (hk_rm d mc ms) s m args below meth c H locs cells slots Q (F0 m pc ls [.ref b]) := by
  refine W.objInit C.1 C.2.1 C.2.2.2.2.1 (C.2.2.2.2.2.1 _ hl) (C.2.2.2.2.2.1 _ w_oi) (C.2.2.2.2.2.1 _ w_oc) rfl (by rw [C.2.2.2.1]; exact hsz) rfl hd hf (by show 2 * 0 + 0 + 12 ≤ d.2.2.2.2.2; omega) ?_
  exact kk
theorem hk_newi {n : Int32} {N : Nat} (C : hk_Cx d p s m args meth c D A) (hP : va_P D.1 vwCl ((h0, x) :: ws) H) (hD : va_D A ((h0, x) :: ws)) (hS : va_S A s.heap H locs) (hn : ¬ n < 0) (hN : n.toNatClampNeg = N) (hby : N * 4 ≤ 536870912) (hc : cells + 1 ≤ mc) (hsl : slots + N ≤ ms) (hdg : decode d.2.1 pc = .ok (.newarray .int, 2))
    (kk : ∀ (q : Nat) (H1 : Heap), va_P D.1 vwCl ((h0, x) :: (ws ++ [(q, .inl (D.2.1, N, .inl (fun _ => 0)))])) H1 → va_D A ((h0, x) :: (ws ++ [(q, .inl (D.2.1, N, .inl (fun _ => 0)))])) → va_S A s.heap H1 locs → W p l e (hk_rm d mc ms) s m args below meth c H1 locs (cells + 1) (slots + N) Q (F0 m (pc + 2) ls (.ref q :: rest))) : W p l e (hk_rm d mc ms) s m args below meth c H locs cells slots Q (F0 m pc ls (.int n :: rest)) := by
  refine va_newa (atype := .int) (ty := .int) (a0 := (N, .inl (fun _ => 0))) C.1 C.2.1 (C.2.2.2.2.2.1 _ w_ac_int) rfl C.2.2.2.2.2.2.2.2.1 hP hD hS C.2.2.2.2.2.2.2.2.2.2.2 (fun _ => rfl) hn hN hby hc hsl hdg (fun q cA H1 hK1 hP1 hD1 hS1 => ?_)
  have e1 : s.vm.findClass ("[" ++ (FieldType.int).toString) = some cA := (hK1.2 3 _ rfl).2
  have e2 : s.vm.findClass ("[" ++ (FieldType.int).toString) = some D.2.1 := (C.2.2.2.2.2.2.2.2.1.2 0 _ rfl).2
  have e3 : cA = D.2.1 := Option.some.inj (e1.symm.trans e2)
  subst e3
  exact kk q H1 hP1 hD1 hS1
theorem hk_newz {n : Int32} {N : Nat} (C : hk_Cx d p s m args meth c D A) (hP : va_P D.1 vwCl ((h0, x) :: ws) H) (hD : va_D A ((h0, x) :: ws)) (hS : va_S A s.heap H locs) (hn : ¬ n < 0) (hN : n.toNatClampNeg = N) (hby : N * 1 ≤ 536870912) (hc : cells + 1 ≤ mc) (hsl : slots + N ≤ ms) (hdg : decode d.2.1 pc = .ok (.newarray .boolean, 2))
    (kk : ∀ (q : Nat) (H1 : Heap), va_P D.1 vwCl ((h0, x) :: (ws ++ [(q, .inl (D.2.2.1, N, .inl (fun _ => 0)))])) H1 → va_D A ((h0, x) :: (ws ++ [(q, .inl (D.2.2.1, N, .inl (fun _ => 0)))])) → va_S A s.heap H1 locs → W p l e (hk_rm d mc ms) s m args below meth c H1 locs (cells + 1) (slots + N) Q (F0 m (pc + 2) ls (.ref q :: rest))) : W p l e (hk_rm d mc ms) s m args below meth c H locs cells slots Q (F0 m pc ls (.int n :: rest)) := by
  refine va_newa (atype := .boolean) (ty := .boolean) (a0 := (N, .inl (fun _ => 0))) C.1 C.2.1 (C.2.2.2.2.2.1 _ w_ac_bool) rfl C.2.2.2.2.2.2.2.2.1 hP hD hS C.2.2.2.2.2.2.2.2.2.2.2 (fun _ => rfl) hn hN hby hc hsl hdg (fun q cA H1 hK1 hP1 hD1 hS1 => ?_)
  have e1 : s.vm.findClass ("[" ++ (FieldType.boolean).toString) = some cA := (hK1.2 3 _ rfl).2
  have e2 : s.vm.findClass ("[" ++ (FieldType.boolean).toString) = some D.2.2.1 := (C.2.2.2.2.2.2.2.2.1.2 1 _ rfl).2
  have e3 : cA = D.2.2.1 := Option.some.inj (e1.symm.trans e2)
  subst e3
  exact kk q H1 hP1 hD1 hS1
theorem hk_newq {n : Int32} {N : Nat} (C : hk_Cx d p s m args meth c D A) (hP : va_P D.1 vwCl ((h0, x) :: ws) H) (hD : va_D A ((h0, x) :: ws)) (hS : va_S A s.heap H locs) (hl : Cond.classLink d.1.cls idx "HauntSums$Town" ∈ hs_U) (hn : ¬ n < 0) (hN : n.toNatClampNeg = N) (hby : N * 4 ≤ 536870912) (hc : cells + 1 ≤ mc) (hsl : slots + N ≤ ms) (hdg : decode d.2.1 pc = .ok (.anewarray idx, 3))
    (kk : ∀ (q : Nat) (H1 : Heap), va_P D.1 vwCl ((h0, x) :: (ws ++ [(q, .inl (D.2.2.2, N, .inr (.inr (.inr (.inr (fun _ => none))))))])) H1 → va_D A ((h0, x) :: (ws ++ [(q, .inl (D.2.2.2, N, .inr (.inr (.inr (.inr (fun _ => none))))))])) → va_S A s.heap H1 locs → W p l e (hk_rm d mc ms) s m args below meth c H1 locs (cells + 1) (slots + N) Q (F0 m (pc + 3) ls (.ref q :: rest))) : W p l e (hk_rm d mc ms) s m args below meth c H locs cells slots Q (F0 m pc ls (.int n :: rest)) := by
  refine va_newq (C := "HauntSums$Town") C.1 C.2.1 C.2.2.2.2.1 (C.2.2.2.2.2.1 _ hl) C.2.2.2.2.2.2.2.2.2.2.1 C.2.2.2.2.2.2.2.2.1 hP hD hS C.2.2.2.2.2.2.2.2.2.2.2 hn hN hby hc hsl hdg (fun q cA H1 hK1 hP1 hD1 hS1 => ?_)
  obtain ⟨_, _, -, -, -, e1⟩ := (hK1.2 3 _ rfl).2
  obtain ⟨_, _, -, -, -, e2⟩ := (C.2.2.2.2.2.2.2.2.1.2 2 _ rfl).2
  have e3 : cA = D.2.2.2 := Option.some.inj (e1.symm.trans e2)
  subst e3
  exact kk q H1 hP1 hD1 hS1
theorem hk_new {Cn : String} {T : u_T} {N : Nat} {ty : Nat → FieldType} (C : hk_Cx d p s m args meth c D A) (hP : va_P D.1 vwCl ((h0, x) :: ws) H) (hD : va_D A ((h0, x) :: ws)) (hS : va_S A s.heap H locs) (hin : ∀ w ∈ u_ws Cn T N, w ∈ hs_U) (hty : ∀ k, k < N → parseFieldDescriptor (T k).2.2.1 = some (ty k)) (hl : Cond.classLink d.1.cls idx Cn ∈ hs_U) (hi : Cond.instantiable Cn N ∈ hs_U) (hii : Cond.initialized Cn ∈ hs_U) (hcl : vwCl[ci]? = some (Cn, T, N)) (hfs : ∀ j, j < N → defaultValue (ty j) = vp_V fs j) (hc : cells + 1 ≤ mc) (hsl : slots + N ≤ ms) (hdg : decode d.2.1 pc = .ok (.new idx, 3))
    (kk : ∀ (q : Nat) (H1 : Heap), va_P D.1 vwCl ((h0, x) :: (ws ++ [(q, .inr (ci, fs))])) H1 → va_D A ((h0, x) :: (ws ++ [(q, .inr (ci, fs))])) → va_S A s.heap H1 locs → W p l e (hk_rm d mc ms) s m args below meth c H1 locs (cells + 1) (slots + N) Q (F0 m (pc + 3) ls (.ref q :: rest))) : W p l e (hk_rm d mc ms) s m args below meth c H locs cells slots Q (F0 m pc ls rest) :=
  va_new (C := Cn) (T := T) (N := N) C.1 C.2.1 C.2.2.2.2.2.1 hin ty hty C.2.2.2.2.1 (C.2.2.2.2.2.1 _ hl) (C.2.2.2.2.2.1 _ hi) (C.2.2.2.2.2.1 _ hii) C.2.2.2.2.2.2.2.2.1 hP hD hS C.2.2.2.2.2.2.2.2.2.2.2 hcl hfs hc hsl hdg kk
theorem hk_putF {j r : Nat} {ty : FieldType} (C : hk_Cx d p s m args meth c D A) (hP : va_P D.1 vwCl ((h0, .inr (ci, fs)) :: ws) H) (hD : va_D A ((h0, .inr (ci, fs)) :: ws)) (hS : va_S A s.heap H locs) (hL : hs_FL d.1.cls idx ci j) (hF : hs_FF ci j ty) (hcn : (vwCl[ci]?.map (·.1)) = some d.1.cls) (hn : narrow ty (.ref r) = .ref r) (hfit : fits ty (.ref r) = true) (hj : j < fs.length) (hdg : decode d.2.1 pc = .ok (.putfield idx, 3))
    (kk : ∀ (H1 : Heap) (locs1 : List Loc), va_P D.1 vwCl ((h0, .inr (ci, fs.set j (.ref r))) :: ws) H1 → va_D A ((h0, .inr (ci, fs.set j (.ref r))) :: ws) → va_S A s.heap H1 locs1 → W p l e (hk_rm d mc ms) s m args below meth c H1 locs1 cells slots Q (F0 m (pc + 3) ls rest)) : W p l e (hk_rm d mc ms) s m args below meth c H locs cells slots Q (F0 m pc ls (.ref r :: .ref h0 :: rest)) := by
  obtain ⟨Cn, T, N, ty0, hc, hin, hjN, hlink, hT, hty, hnm⟩ := hL
  have hcn2 : Cn = d.1.cls := by rw [hc] at hcn; exact Option.some.inj hcn
  obtain ⟨f1, f2, f3⟩ := hF _ _ _ hc
  exact va_putF (D := D.1) (ci := ci) (v := .ref r) (ty := ty) (C := Cn) (T := T) (N := N) (ref := Cn) C.1 C.2.1 C.2.2.2.2.2.1 hin ty0 hty hnm C.2.2.2.2.1 C.2.2.2.2.2.2.2.2.1 hP hD hS 0 rfl hc j hjN (C.2.2.2.2.2.1 _ hlink) (by rw [hT]; exact fun _ h => h) f1 C.2.2.2.2.2.2.2.1 (f3.trans hcn2) f2 hn hfit hj hdg kk
theorem hk_ret {Wd : (Nat → Nat) → va_W} (C : hk_Cx d p s m args meth c D A) (a : Nat → Nat) (hP : va_P D.1 vwCl (Wd a) H) (hD : va_D A (Wd a)) (hS : va_S A s.heap H locs) (hdg : decode d.2.1 pc = .ok (.return_, 1)) : W p l e (hk_rm d mc ms) s m args below meth c H locs mc ms (MQ below (hk_Qc D A Wd) args s mc ms A) (F0 m pc ls []) :=
  W.vret C.1 C.2.1 C.2.2.1 (fun t ht hW => ⟨⟨a, rfl, trivial, by rw [ht]; exact hP, hD⟩, hS.F ht⟩) hS.2.2 hdg C.2.2.2.2.2.2.1
theorem hk_blind {w : va_W} {av : List Value} {sz : Nat} : FrameBlind (hk_Pc D w av sz) := by
  intro a U g mk q
  obtain ⟨q0, q1, qP, qK, qD, qN, qO⟩ := q
  exact ⟨q0, q1, qP, va_K.moved (u := U) (U := U.calling g mk a) (Vm.Alike.refl U.vm) qK, qD, hs_N.same (u := U) (U := U.calling g mk a) rfl qN, va_AO.moved (u := U) (U := U.calling g mk a) (Vm.Alike.refl U.vm) qO⟩
theorem hk_pre {w : va_W} (hK : va_K D.1 vwCl (hk_tys D.2.1 D.2.2.1 D.2.2.2) s) (hN : hs_N s) (hO : va_AO "HauntSums$Town" s) (hP : va_P D.1 vwCl w H) (hD : va_D A w) (av : List Value) (U : State) (hU : U.heap = H) (hW : s.WarmedH U.vm) : hk_Pc D w av H.size av.toArray U :=
  ⟨rfl, by rw [hU], by rw [hU]; exact hP, va_K.moved hW.alike hK, hD.weaken (fun _ _ _ _ => trivial), hN.warm hW, hO.moved hW.alike⟩
theorem hk_callN {host : String} {Wd : (Nat → Nat) → va_W} (C : hk_Cx d p s m args meth c D A) (hP : va_P D.1 vwCl ((h0, x) :: (ws ++ [(b, o)])) H) (hD : va_D A ((h0, x) :: (ws ++ [(b, o)]))) (hS : va_S A s.heap H locs) (hsz : ls.size = d.2.2.1) (hl : Cond.methodLinkNest d.1.cls idx y.1 host ∈ hs_nest) (hm : hs_CM y n) (hr : y.2.2.2.1 = none) (hi : y.1.name = "<init>") (him : Cond.instanceMethod y.1 ∈ hs_U) (hn : As.length = n) (hf : y.2.2.2.2.1 + 1 ≤ d.2.2.2.2.1 ∧ 8 + (y.2.2.1 + 11) + y.2.2.2.2.2 ≤ d.2.2.2.2.2) (hrs : (rest.map fun v => v.category).sum ≤ 8) (hc : cells + mc1 ≤ mc) (hsl : slots + ms1 ≤ ms) (hM : hk_Ok y mc1 ms1 D [(b, o)] (.ref b :: As) Wd) (hdg : decode d.2.1 pc = .ok (.invokespecial idx, 3))
    (kk : ∀ (a : Nat → Nat) (H1 : Heap) (locs1 : List Loc), va_P D.1 vwCl ((h0, x) :: (ws ++ Wd a)) H1 → va_D A ((h0, x) :: (ws ++ Wd a)) → va_S A s.heap H1 locs1 → W p l e (hk_rm d mc ms) s m args below meth c H1 locs1 (cells + mc1) (slots + ms1) Q (F0 m (pc + 3) ls rest)) : W p l e (hk_rm d mc ms) s m args below meth c H locs cells slots Q (F0 m pc ls (As.reverse ++ .ref b :: rest)) := by
  have hA := C.2.2.2.2.2.2.2.2.2.2.2
  have hF := hk_free (ws := (h0, x) :: ws) (wc := [(b, o)]) hD hS hA
  obtain ⟨hPc, hDc⟩ := hk_right (ws := (h0, x) :: ws) (wc := [(b, o)]) hP hD
  have hCN : va_CN (hk_rm d mc ms) s args d.1.cls idx y.1 host y.2.1 y.2.2.1 none (hs_ws y) (hk_rm y mc1 ms1) mc1 ms1 n := va_cnB n C.2.2.2.2.2.1 (hl_goodIn y hm.1) (by rw [hs_ws, hr]) rfl rfl (C.2.2.2.2.2.2.2.2.2.1 _ hl) (C.2.2.2.2.2.1 _ hm.2.1) hm.2.2 hf
  refine va_callv (va_runIN (As := As) (rest := rest) ⟨C.1, C.2.1, C.2.2.2.1, C.2.2.2.2.1, C.2.2.2.2.2.1⟩ (hM l H.size) ⟨hCN, hi, C.2.2.2.2.2.1 _ him⟩ ⟨hk_blind, fun U hU hW => hk_pre C.2.2.2.2.2.2.2.2.1 C.2.2.2.2.2.2.2.2.2.1 C.2.2.2.2.2.2.2.2.2.2.1 hPc hDc (.ref b :: As) U hU hW⟩ rfl hn hsz rfl (lv_room hrs) hdg ⟨hc, hsl⟩) hS (fun q _ h => hF q h) hF (fun a t H1 locs1 ht hvm _ hB hz1 hk1 hS1 => ?_)
  obtain ⟨hP1, hD1⟩ := hB
  rw [ht] at hP1
  obtain ⟨hP2, hD2⟩ := hk_join (ws := (h0, x) :: ws) (wc := [(b, o)]) hP hD hk1 hF hP1 hD1
  exact kk a H1 locs1 hP2 hD2 hS1
theorem hk_callI {Wd : (Nat → Nat) → va_W} (C : hk_Cx d p s m args meth c D A) (hP : va_P D.1 vwCl ((h0, x) :: (ws ++ [(b, o)])) H) (hD : va_D A ((h0, x) :: (ws ++ [(b, o)]))) (hS : va_S A s.heap H locs) (hsz : ls.size = d.2.2.1) (hl : Cond.methodLink d.1.cls idx y.1 ∈ hs_U) (hm : hs_CM y n) (hr : y.2.2.2.1 = none) (hi : y.1.name = "<init>") (him : Cond.instanceMethod y.1 ∈ hs_U) (hn : As.length = n) (hf : y.2.2.2.2.1 + 1 ≤ d.2.2.2.2.1 ∧ 8 + (y.2.2.1 + 11) + y.2.2.2.2.2 ≤ d.2.2.2.2.2) (hrs : (rest.map fun v => v.category).sum ≤ 8) (hc : cells + mc1 ≤ mc) (hsl : slots + ms1 ≤ ms) (hM : hk_Ok y mc1 ms1 D [(b, o)] (.ref b :: As) Wd) (hdg : decode d.2.1 pc = .ok (.invokespecial idx, 3))
    (kk : ∀ (a : Nat → Nat) (H1 : Heap) (locs1 : List Loc), va_P D.1 vwCl ((h0, x) :: (ws ++ Wd a)) H1 → va_D A ((h0, x) :: (ws ++ Wd a)) → va_S A s.heap H1 locs1 → W p l e (hk_rm d mc ms) s m args below meth c H1 locs1 (cells + mc1) (slots + ms1) Q (F0 m (pc + 3) ls rest)) : W p l e (hk_rm d mc ms) s m args below meth c H locs cells slots Q (F0 m pc ls (As.reverse ++ .ref b :: rest)) := by
  have hA := C.2.2.2.2.2.2.2.2.2.2.2
  have hF := hk_free (ws := (h0, x) :: ws) (wc := [(b, o)]) hD hS hA
  obtain ⟨hPc, hDc⟩ := hk_right (ws := (h0, x) :: ws) (wc := [(b, o)]) hP hD
  refine va_callv (va_runI (As := As) (rest := rest) ⟨C.1, C.2.1, C.2.2.2.1, C.2.2.2.2.1, C.2.2.2.2.2.1⟩ (hM l H.size) (cwI (bytes := y.2.1) (maxL := y.2.2.1) n C.2.2.2.2.2.1 (hl_goodIn y hm.1) (by rw [hs_ws, hr]) rfl rfl (C.2.2.2.2.2.1 _ hm.2.1) (C.2.2.2.2.2.1 _ hl) (C.2.2.2.2.2.1 _ him) hi hm.2.2 hf) ⟨hk_blind, fun U hU hW => hk_pre C.2.2.2.2.2.2.2.2.1 C.2.2.2.2.2.2.2.2.2.1 C.2.2.2.2.2.2.2.2.2.2.1 hPc hDc (.ref b :: As) U hU hW⟩ rfl hn hsz rfl (lv_room hrs) hdg ⟨hc, hsl⟩) hS (fun q _ h => hF q h) hF (fun a t H1 locs1 ht hvm _ hB hz1 hk1 hS1 => ?_)
  obtain ⟨hP1, hD1⟩ := hB
  rw [ht] at hP1
  obtain ⟨hP2, hD2⟩ := hk_join (ws := (h0, x) :: ws) (wc := [(b, o)]) hP hD hk1 hF hP1 hD1
  exact kk a H1 locs1 hP2 hD2 hS1
end HK
