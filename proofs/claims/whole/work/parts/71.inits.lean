section HK2
variable {d : hs_M} {p : Program} {l : Launch} {e : Env} {s : State} {m : MethodId} {args : Array Value} {below : List Frame} {meth : Method} {c : Code} {D : hk_T} {A : Nat → Prop} {H : Heap} {locs : List Loc} {ls : Array Slot} {rest : List Value} {pc idx ci cells slots mc ms h0 : Nat} {Q : State → Prop} {ws w2 : va_W} {x : va_E} {fs : List Value}
theorem hk_get {j : Nat} {v : Value} (C : hk_Cx d p s m args meth c D A) (hP : va_P D.1 vwCl ((h0, .inr (ci, fs)) :: ws) H) (hL : hs_FL d.1.cls idx ci j) (hf : fs[j]? = some v) (hdg : decode d.2.1 pc = .ok (.getfield idx, 3)) (kk : W p l e (hk_rm d mc ms) s m args below meth c H locs cells slots Q (F0 m (pc + 3) ls (v :: rest))) : W p l e (hk_rm d mc ms) s m args below meth c H locs cells slots Q (F0 m pc ls (.ref h0 :: rest)) := by
  obtain ⟨Cn, T, N, ty, hc, hin, hj, hlink, hT, -, -⟩ := hL
  exact va_get (D := D.1) (cl := vwCl) (ci := ci) (v := v) (C := Cn) (T := T) (N := N) (ref := Cn) C.1 C.2.1 C.2.2.2.2.2.1 hin C.2.2.2.2.1 C.2.2.2.2.2.2.2.2.1 hP 0 (fs := fs) rfl hc j hj (C.2.2.2.2.2.1 _ hlink) (by rw [hT]; exact fun _ h => h) hf hdg kk
theorem hk_ast {i : Int32} {k2 qi qt N : Nat} {f : Nat → Option Nat} {vs : List Value} (C : hk_Cx d p s m args meth c D A) (hP : va_P D.1 vwCl ((h0, x) :: ((ws ++ [(qi, .inl (D.2.2.2, N, .inr (.inr (.inr (.inr f)))))]) ++ w2)) H) (hD : va_D A ((h0, x) :: ((ws ++ [(qi, .inl (D.2.2.2, N, .inr (.inr (.inr (.inr f)))))]) ++ w2))) (hS : va_S A s.heap H locs) (h2 : w2[k2]? = some (qt, .inr (3, vs))) (hin : vp_in i N) (hdg : decode d.2.1 pc = .ok (.aastore, 1))
    (kk : ∀ (H1 : Heap) (locs1 : List Loc), va_P D.1 vwCl ((h0, x) :: ((ws ++ [(qi, .inl (D.2.2.2, N, .inr (.inr (.inr (.inr (va_up f i.toNatClampNeg (some qt)))))))]) ++ w2)) H1 → va_D A ((h0, x) :: ((ws ++ [(qi, .inl (D.2.2.2, N, .inr (.inr (.inr (.inr (va_up f i.toNatClampNeg (some qt)))))))]) ++ w2)) → va_S A s.heap H1 locs1 → W p l e (hk_rm d mc ms) s m args below meth c H1 locs1 cells slots Q (F0 m (pc + 1) ls rest)) : W p l e (hk_rm d mc ms) s m args below meth c H locs cells slots Q (F0 m pc ls (.ref qt :: .int i :: .ref qi :: rest)) := by
  have e0 : ∀ z : Nat × va_E, ((h0, x) :: ((ws ++ [z]) ++ w2))[ws.length + 1]? = some z := by intro z; simp
  have e1 : ∀ z z2 : Nat × va_E, ((h0, x) :: ((ws ++ [z]) ++ w2)).set (ws.length + 1) z2 = (h0, x) :: ((ws ++ [z2]) ++ w2) := by intro z z2; simp
  have e2 : ∀ z : Nat × va_E, ((h0, x) :: ((ws ++ [z]) ++ w2))[ws.length + 1 + 1 + k2]? = w2[k2]? := by
    intro z
    rw [show ws.length + 1 + 1 + k2 = (ws.length + 1 + k2) + 1 by omega, List.getElem?_cons_succ, List.getElem?_append_right (by simp)]
    congr 1
    simp
  refine va_astq (r := (RX3, TX3, 14)) C.1 C.2.1 C.2.2.2.2.2.2.2.2.1 hP hD hS (ws.length + 1) 2 (ws.length + 1 + 1 + k2) 3 (e0 _) rfl ((e2 _).trans h2) rfl hin hdg (fun H1 locs1 hP1 hD1 hS1 => ?_)
  rw [e1] at hP1 hD1
  exact kk H1 locs1 hP1 hD1 hS1
end HK2
def z_X0 : List Value := [.null, .null, .null, .int 0, .int 0, .int 0, .int 0, .int 0, .int 0]
theorem df_X0 : ∀ j, j < 9 → defaultValue (tyX0 j) = vp_V z_X0 j := by
  intro j hj
  rcases (show j = 0 ∨ j = 1 ∨ j = 2 ∨ j = 3 ∨ j = 4 ∨ j = 5 ∨ j = 6 ∨ j = 7 ∨ j = 8 by omega) with rfl | rfl | rfl | rfl | rfl | rfl | rfl | rfl | rfl <;> rfl
def z_X1 : List Value := [.null, .null, .null]
theorem df_X1 : ∀ j, j < 3 → defaultValue (tyX1 j) = vp_V z_X1 j := by
  intro j hj
  rcases (show j = 0 ∨ j = 1 ∨ j = 2 by omega) with rfl | rfl | rfl <;> rfl
def z_X2 : List Value := [.null, .int 0]
theorem df_X2 : ∀ j, j < 2 → defaultValue (tyX2 j) = vp_V z_X2 j := by
  intro j hj
  rcases (show j = 0 ∨ j = 1 by omega) with rfl | rfl <;> rfl
def z_X3 : List Value := [.int 0, .null, .null, .null, .null, .null, .int 0, .null, .null, .int 0, .int 0, .null, .null, .null]
theorem df_X3 : ∀ j, j < 14 → defaultValue (tyX3 j) = vp_V z_X3 j := by
  intro j hj
  rcases (show j = 0 ∨ j = 1 ∨ j = 2 ∨ j = 3 ∨ j = 4 ∨ j = 5 ∨ j = 6 ∨ j = 7 ∨ j = 8 ∨ j = 9 ∨ j = 10 ∨ j = 11 ∨ j = 12 ∨ j = 13 by omega) with rfl | rfl | rfl | rfl | rfl | rfl | rfl | rfl | rfl | rfl | rfl | rfl | rfl | rfl <;> rfl
def z_X4 : List Value := [.int 0, .null, .null, .null, .int 0, .null, .null, .int 0, .null]
theorem df_X4 : ∀ j, j < 9 → defaultValue (tyX4 j) = vp_V z_X4 j := by
  intro j hj
  rcases (show j = 0 ∨ j = 1 ∨ j = 2 ∨ j = 3 ∨ j = 4 ∨ j = 5 ∨ j = 6 ∨ j = 7 ∨ j = 8 by omega) with rfl | rfl | rfl | rfl | rfl | rfl | rfl | rfl | rfl <;> rfl
def z_X5 : List Value := [.null, .null, .null, .null, .null, .null, .null, .null, .int 0, .int 0]
theorem df_X5 : ∀ j, j < 10 → defaultValue (tyX5 j) = vp_V z_X5 j := by
  intro j hj
  rcases (show j = 0 ∨ j = 1 ∨ j = 2 ∨ j = 3 ∨ j = 4 ∨ j = 5 ∨ j = 6 ∨ j = 7 ∨ j = 8 ∨ j = 9 by omega) with rfl | rfl | rfl | rfl | rfl | rfl | rfl | rfl | rfl | rfl <;> rfl
def z_X6 : List Value := [.null, .null, .null, .int 0, .null, .int 0, .int 0, .null, .int 0, .null, .int 0, .int 0, .int 0, .int 0, .int 0, .int 0, .int 0, .int 0, .null, .long 0, .long 0, .long 0, .null, .null, .null, .null, .null, .int 0, .null]
theorem df_X6 : ∀ j, j < 29 → defaultValue (tyX6 j) = vp_V z_X6 j := by
  intro j hj
  rcases (show j = 0 ∨ j = 1 ∨ j = 2 ∨ j = 3 ∨ j = 4 ∨ j = 5 ∨ j = 6 ∨ j = 7 ∨ j = 8 ∨ j = 9 ∨ j = 10 ∨ j = 11 ∨ j = 12 ∨ j = 13 ∨ j = 14 ∨ j = 15 ∨ j = 16 ∨ j = 17 ∨ j = 18 ∨ j = 19 ∨ j = 20 ∨ j = 21 ∨ j = 22 ∨ j = 23 ∨ j = 24 ∨ j = 25 ∨ j = 26 ∨ j = 27 ∨ j = 28 by omega) with rfl | rfl | rfl | rfl | rfl | rfl | rfl | rfl | rfl | rfl | rfl | rfl | rfl | rfl | rfl | rfl | rfl | rfl | rfl | rfl | rfl | rfl | rfl | rfl | rfl | rfl | rfl | rfl | rfl <;> rfl
def f59 : Nat → Int32 := upd (upd (upd (upd (fun _ => 0) 0 (-1)) 1 (-1)) 2 (-1)) 3 (-1)
def w_X4 (D : hk_T) (h : Nat) (a : Nat → Nat) : va_W := (h, .inr (4, [.int 0, .ref (a 0), .ref (a 1), .ref (a 2), .int 0, .ref (a 3), .ref (a 4), .int 0, .ref (a 5)])) :: [(a 0, .inl (D.2.1, 4, .inl (fun _ => 0))), (a 1, .inl (D.2.1, 4, .inl (fun _ => 0))), (a 2, .inl (D.2.1, 4, .inl (fun _ => 0))), (a 3, .inl (D.2.1, 3, .inl (fun _ => 0))), (a 4, .inl (D.2.1, 3, .inl (fun _ => 0))), (a 5, .inl (D.2.1, 6, .inl (fun _ => 0)))]
def w_X3 (D : hk_T) (h : Nat) (a : Nat → Nat) : va_W := (h, .inr (3, [.int 0, .ref (a 0), .ref (a 1), .ref (a 2), .ref (a 3), .ref (a 4), .int 0, .ref (a 5), .ref (a 6), .int 0, .int 0, .ref (a 7), .ref (a 8), .ref (a 9)])) :: [(a 0, .inl (D.2.1, 4, .inl (fun _ => 0))), (a 1, .inl (D.2.1, 4, .inl (fun _ => 0))), (a 2, .inl (D.2.1, 4, .inl (fun _ => 0))), (a 3, .inl (D.2.1, 4, .inl (fun _ => 0))), (a 4, .inl (D.2.1, 4, .inl (fun _ => 0))), (a 5, .inl (D.2.1, 3, .inl (fun _ => 0))), (a 6, .inl (D.2.1, 3, .inl (fun _ => 0))), (a 7, .inl (D.2.1, 6, .inl (fun _ => 0))), (a 8, .inl (D.2.1, 6, .inl (fun _ => 0))), (a 9, .inl (D.2.1, 6, .inl (fun _ => 0)))]
def w_X2 (D : hk_T) (h : Nat) (a : Nat → Nat) : va_W := (h, .inr (2, [.ref (a 0), .int 0])) :: [(a 0, .inl (D.2.1, 160, .inl (fun _ => 0)))]
def w_X1 (D : hk_T) (h : Nat) (a : Nat → Nat) : va_W := (h, .inr (1, [.ref (a 0), .ref (a 1), .ref (a 2)])) :: [(a 0, .inl (D.2.1, 4, .inl f59)), (a 1, .inl (D.2.1, 4, .inl (fun _ => 0))), (a 2, .inl (D.2.1, 160, .inl (fun _ => 0)))]
def w_X0 (D : hk_T) (t h : Nat) (a : Nat → Nat) : va_W := (h, .inr (0, [.ref t, .ref (a 0), .ref (a 11), .int 0, .int 0, .int 0, .int 0, .int 0, .int 0])) :: [(a 0, .inr (3, [.int 0, .ref (a 1), .ref (a 2), .ref (a 3), .ref (a 4), .ref (a 5), .int 0, .ref (a 6), .ref (a 7), .int 0, .int 0, .ref (a 8), .ref (a 9), .ref (a 10)])), (a 1, .inl (D.2.1, 4, .inl (fun _ => 0))), (a 2, .inl (D.2.1, 4, .inl (fun _ => 0))), (a 3, .inl (D.2.1, 4, .inl (fun _ => 0))), (a 4, .inl (D.2.1, 4, .inl (fun _ => 0))), (a 5, .inl (D.2.1, 4, .inl (fun _ => 0))), (a 6, .inl (D.2.1, 3, .inl (fun _ => 0))), (a 7, .inl (D.2.1, 3, .inl (fun _ => 0))), (a 8, .inl (D.2.1, 6, .inl (fun _ => 0))), (a 9, .inl (D.2.1, 6, .inl (fun _ => 0))), (a 10, .inl (D.2.1, 6, .inl (fun _ => 0))), (a 11, .inl (D.2.1, 4, .inl (fun _ => 0)))]
def w_X5 (D : hk_T) (h : Nat) (a : Nat → Nat) : va_W := (h, .inr (5, [.ref (a 1), .ref (a 8), .ref (a 19), .ref (a 21), .ref (a 34), .ref (a 57), .ref (a 58), .ref (a 62), .int 0, .int 0])) :: [(a 1, .inr (4, [.int 0, .ref (a 2), .ref (a 3), .ref (a 4), .int 0, .ref (a 5), .ref (a 6), .int 0, .ref (a 7)])), (a 2, .inl (D.2.1, 4, .inl (fun _ => 0))), (a 3, .inl (D.2.1, 4, .inl (fun _ => 0))), (a 4, .inl (D.2.1, 4, .inl (fun _ => 0))), (a 5, .inl (D.2.1, 3, .inl (fun _ => 0))), (a 6, .inl (D.2.1, 3, .inl (fun _ => 0))), (a 7, .inl (D.2.1, 6, .inl (fun _ => 0))), (a 8, .inr (3, [.int 0, .ref (a 9), .ref (a 10), .ref (a 11), .ref (a 12), .ref (a 13), .int 0, .ref (a 14), .ref (a 15), .int 0, .int 0, .ref (a 16), .ref (a 17), .ref (a 18)])), (a 9, .inl (D.2.1, 4, .inl (fun _ => 0))), (a 10, .inl (D.2.1, 4, .inl (fun _ => 0))), (a 11, .inl (D.2.1, 4, .inl (fun _ => 0))), (a 12, .inl (D.2.1, 4, .inl (fun _ => 0))), (a 13, .inl (D.2.1, 4, .inl (fun _ => 0))), (a 14, .inl (D.2.1, 3, .inl (fun _ => 0))), (a 15, .inl (D.2.1, 3, .inl (fun _ => 0))), (a 16, .inl (D.2.1, 6, .inl (fun _ => 0))), (a 17, .inl (D.2.1, 6, .inl (fun _ => 0))), (a 18, .inl (D.2.1, 6, .inl (fun _ => 0))), (a 19, .inr (2, [.ref (a 20), .int 0])), (a 20, .inl (D.2.1, 160, .inl (fun _ => 0))), (a 21, .inr (0, [.ref (a 19), .ref (a 22), .ref (a 33), .int 0, .int 0, .int 0, .int 0, .int 0, .int 0])), (a 22, .inr (3, [.int 0, .ref (a 23), .ref (a 24), .ref (a 25), .ref (a 26), .ref (a 27), .int 0, .ref (a 28), .ref (a 29), .int 0, .int 0, .ref (a 30), .ref (a 31), .ref (a 32)])), (a 23, .inl (D.2.1, 4, .inl (fun _ => 0))), (a 24, .inl (D.2.1, 4, .inl (fun _ => 0))), (a 25, .inl (D.2.1, 4, .inl (fun _ => 0))), (a 26, .inl (D.2.1, 4, .inl (fun _ => 0))), (a 27, .inl (D.2.1, 4, .inl (fun _ => 0))), (a 28, .inl (D.2.1, 3, .inl (fun _ => 0))), (a 29, .inl (D.2.1, 3, .inl (fun _ => 0))), (a 30, .inl (D.2.1, 6, .inl (fun _ => 0))), (a 31, .inl (D.2.1, 6, .inl (fun _ => 0))), (a 32, .inl (D.2.1, 6, .inl (fun _ => 0))), (a 33, .inl (D.2.1, 4, .inl (fun _ => 0))), (a 34, .inl (D.2.2.2, 2, .inr (.inr (.inr (.inr (va_up (va_up (fun _ => none) 0 (some (a 35))) 1 (some (a 46)))))))), (a 35, .inr (3, [.int 0, .ref (a 36), .ref (a 37), .ref (a 38), .ref (a 39), .ref (a 40), .int 0, .ref (a 41), .ref (a 42), .int 0, .int 0, .ref (a 43), .ref (a 44), .ref (a 45)])), (a 36, .inl (D.2.1, 4, .inl (fun _ => 0))), (a 37, .inl (D.2.1, 4, .inl (fun _ => 0))), (a 38, .inl (D.2.1, 4, .inl (fun _ => 0))), (a 39, .inl (D.2.1, 4, .inl (fun _ => 0))), (a 40, .inl (D.2.1, 4, .inl (fun _ => 0))), (a 41, .inl (D.2.1, 3, .inl (fun _ => 0))), (a 42, .inl (D.2.1, 3, .inl (fun _ => 0))), (a 43, .inl (D.2.1, 6, .inl (fun _ => 0))), (a 44, .inl (D.2.1, 6, .inl (fun _ => 0))), (a 45, .inl (D.2.1, 6, .inl (fun _ => 0))), (a 46, .inr (3, [.int 0, .ref (a 47), .ref (a 48), .ref (a 49), .ref (a 50), .ref (a 51), .int 0, .ref (a 52), .ref (a 53), .int 0, .int 0, .ref (a 54), .ref (a 55), .ref (a 56)])), (a 47, .inl (D.2.1, 4, .inl (fun _ => 0))), (a 48, .inl (D.2.1, 4, .inl (fun _ => 0))), (a 49, .inl (D.2.1, 4, .inl (fun _ => 0))), (a 50, .inl (D.2.1, 4, .inl (fun _ => 0))), (a 51, .inl (D.2.1, 4, .inl (fun _ => 0))), (a 52, .inl (D.2.1, 3, .inl (fun _ => 0))), (a 53, .inl (D.2.1, 3, .inl (fun _ => 0))), (a 54, .inl (D.2.1, 6, .inl (fun _ => 0))), (a 55, .inl (D.2.1, 6, .inl (fun _ => 0))), (a 56, .inl (D.2.1, 6, .inl (fun _ => 0))), (a 57, .inl (D.2.2.1, 2, .inl (fun _ => 0))), (a 58, .inr (1, [.ref (a 59), .ref (a 60), .ref (a 61)])), (a 59, .inl (D.2.1, 4, .inl f59)), (a 60, .inl (D.2.1, 4, .inl (fun _ => 0))), (a 61, .inl (D.2.1, 160, .inl (fun _ => 0))), (a 62, .inl (D.2.1, 126, .inl (fun _ => 0)))]
set_option maxHeartbeats 4000000 in
set_option maxRecDepth 100000 in
theorem ci_X4 {D : hk_T} {h0 : Nat} : hk_Ok i_X4 6 24 D [(h0, .inr (4, z_X4))] [.ref h0] (w_X4 D h0) := by
  refine hk_ok_of rfl rfl rfl (Nat.le_of_ble_eq_true rfl) ?_
  intro p l e s m args below meth c A C hD H locs ls hP hS hl
  have hl : lv_has ls 1 [(0, .ref h0)] := hl
  refine lv_aload_n C.1 C.2.1 di_X4_0 rfl (lv_at hl 0 rfl) ?_
  refine hk_obj C hl.1 ob_X4 di_X4_1 (Nat.le_of_ble_eq_true rfl) (Nat.le_of_ble_eq_true rfl) ?_
  refine lv_aload_n C.1 C.2.1 di_X4_4 rfl (lv_at hl 0 rfl) ?_
  refine lv_iconst (v := 4) C.1 C.2.1 di_X4_5 (by decide) ?_
  refine hk_newi (N := 4) C hP hD hS (by decide) (by decide) (by decide) (Nat.le_of_ble_eq_true rfl) (Nat.le_of_ble_eq_true rfl) di_X4_6 (fun q0 H hP hD hS => ?_)
  refine hk_putF C hP hD hS fl_X4_9 ff_4_1 rfl rfl rfl (Nat.le_of_ble_eq_true rfl) di_X4_8 (fun H locs hP hD hS => ?_)
  refine lv_aload_n C.1 C.2.1 di_X4_11 rfl (lv_at hl 0 rfl) ?_
  refine lv_iconst (v := 4) C.1 C.2.1 di_X4_12 (by decide) ?_
  refine hk_newi (N := 4) C hP hD hS (by decide) (by decide) (by decide) (Nat.le_of_ble_eq_true rfl) (Nat.le_of_ble_eq_true rfl) di_X4_13 (fun q1 H hP hD hS => ?_)
  refine hk_putF C hP hD hS fl_X4_15 ff_4_2 rfl rfl rfl (Nat.le_of_ble_eq_true rfl) di_X4_15 (fun H locs hP hD hS => ?_)
  refine lv_aload_n C.1 C.2.1 di_X4_18 rfl (lv_at hl 0 rfl) ?_
  refine lv_iconst (v := 4) C.1 C.2.1 di_X4_19 (by decide) ?_
  refine hk_newi (N := 4) C hP hD hS (by decide) (by decide) (by decide) (Nat.le_of_ble_eq_true rfl) (Nat.le_of_ble_eq_true rfl) di_X4_20 (fun q2 H hP hD hS => ?_)
  refine hk_putF C hP hD hS fl_X4_18 ff_4_3 rfl rfl rfl (Nat.le_of_ble_eq_true rfl) di_X4_22 (fun H locs hP hD hS => ?_)
  refine lv_aload_n C.1 C.2.1 di_X4_25 rfl (lv_at hl 0 rfl) ?_
  refine lv_iconst (v := 3) C.1 C.2.1 di_X4_26 (by decide) ?_
  refine hk_newi (N := 3) C hP hD hS (by decide) (by decide) (by decide) (Nat.le_of_ble_eq_true rfl) (Nat.le_of_ble_eq_true rfl) di_X4_27 (fun q3 H hP hD hS => ?_)
  refine hk_putF C hP hD hS fl_X4_21 ff_4_5 rfl rfl rfl (Nat.le_of_ble_eq_true rfl) di_X4_29 (fun H locs hP hD hS => ?_)
  refine lv_aload_n C.1 C.2.1 di_X4_32 rfl (lv_at hl 0 rfl) ?_
  refine lv_iconst (v := 3) C.1 C.2.1 di_X4_33 (by decide) ?_
  refine hk_newi (N := 3) C hP hD hS (by decide) (by decide) (by decide) (Nat.le_of_ble_eq_true rfl) (Nat.le_of_ble_eq_true rfl) di_X4_34 (fun q4 H hP hD hS => ?_)
  refine hk_putF C hP hD hS fl_X4_24 ff_4_6 rfl rfl rfl (Nat.le_of_ble_eq_true rfl) di_X4_36 (fun H locs hP hD hS => ?_)
  refine lv_aload_n C.1 C.2.1 di_X4_39 rfl (lv_at hl 0 rfl) ?_
  refine lv_bipush (v := 6) C.1 C.2.1 di_X4_40 (by decide) ?_
  refine hk_newi (N := 6) C hP hD hS (by decide) (by decide) (by decide) (Nat.le_of_ble_eq_true rfl) (Nat.le_of_ble_eq_true rfl) di_X4_42 (fun q5 H hP hD hS => ?_)
  refine hk_putF C hP hD hS fl_X4_27 ff_4_8 rfl rfl rfl (Nat.le_of_ble_eq_true rfl) di_X4_44 (fun H locs hP hD hS => ?_)
  exact hk_ret (Wd := (w_X4 D h0)) C (fun k => [q0, q1, q2, q3, q4, q5].getD k 0) hP hD hS di_X4_47
set_option maxHeartbeats 4000000 in
set_option maxRecDepth 100000 in
theorem ci_X3 {D : hk_T} {h0 : Nat} : hk_Ok i_X3 10 44 D [(h0, .inr (3, z_X3))] [.ref h0] (w_X3 D h0) := by
  refine hk_ok_of rfl rfl rfl (Nat.le_of_ble_eq_true rfl) ?_
  intro p l e s m args below meth c A C hD H locs ls hP hS hl
  have hl : lv_has ls 1 [(0, .ref h0)] := hl
  refine lv_aload_n C.1 C.2.1 di_X3_0 rfl (lv_at hl 0 rfl) ?_
  refine hk_obj C hl.1 ob_X3 di_X3_1 (Nat.le_of_ble_eq_true rfl) (Nat.le_of_ble_eq_true rfl) ?_
  refine lv_aload_n C.1 C.2.1 di_X3_4 rfl (lv_at hl 0 rfl) ?_
  refine lv_iconst (v := 4) C.1 C.2.1 di_X3_5 (by decide) ?_
  refine hk_newi (N := 4) C hP hD hS (by decide) (by decide) (by decide) (Nat.le_of_ble_eq_true rfl) (Nat.le_of_ble_eq_true rfl) di_X3_6 (fun q0 H hP hD hS => ?_)
  refine hk_putF C hP hD hS fl_X3_9 ff_3_1 rfl rfl rfl (Nat.le_of_ble_eq_true rfl) di_X3_8 (fun H locs hP hD hS => ?_)
  refine lv_aload_n C.1 C.2.1 di_X3_11 rfl (lv_at hl 0 rfl) ?_
  refine lv_iconst (v := 4) C.1 C.2.1 di_X3_12 (by decide) ?_
  refine hk_newi (N := 4) C hP hD hS (by decide) (by decide) (by decide) (Nat.le_of_ble_eq_true rfl) (Nat.le_of_ble_eq_true rfl) di_X3_13 (fun q1 H hP hD hS => ?_)
  refine hk_putF C hP hD hS fl_X3_15 ff_3_2 rfl rfl rfl (Nat.le_of_ble_eq_true rfl) di_X3_15 (fun H locs hP hD hS => ?_)
  refine lv_aload_n C.1 C.2.1 di_X3_18 rfl (lv_at hl 0 rfl) ?_
  refine lv_iconst (v := 4) C.1 C.2.1 di_X3_19 (by decide) ?_
  refine hk_newi (N := 4) C hP hD hS (by decide) (by decide) (by decide) (Nat.le_of_ble_eq_true rfl) (Nat.le_of_ble_eq_true rfl) di_X3_20 (fun q2 H hP hD hS => ?_)
  refine hk_putF C hP hD hS fl_X3_18 ff_3_3 rfl rfl rfl (Nat.le_of_ble_eq_true rfl) di_X3_22 (fun H locs hP hD hS => ?_)
  refine lv_aload_n C.1 C.2.1 di_X3_25 rfl (lv_at hl 0 rfl) ?_
  refine lv_iconst (v := 4) C.1 C.2.1 di_X3_26 (by decide) ?_
  refine hk_newi (N := 4) C hP hD hS (by decide) (by decide) (by decide) (Nat.le_of_ble_eq_true rfl) (Nat.le_of_ble_eq_true rfl) di_X3_27 (fun q3 H hP hD hS => ?_)
  refine hk_putF C hP hD hS fl_X3_21 ff_3_4 rfl rfl rfl (Nat.le_of_ble_eq_true rfl) di_X3_29 (fun H locs hP hD hS => ?_)
  refine lv_aload_n C.1 C.2.1 di_X3_32 rfl (lv_at hl 0 rfl) ?_
  refine lv_iconst (v := 4) C.1 C.2.1 di_X3_33 (by decide) ?_
  refine hk_newi (N := 4) C hP hD hS (by decide) (by decide) (by decide) (Nat.le_of_ble_eq_true rfl) (Nat.le_of_ble_eq_true rfl) di_X3_34 (fun q4 H hP hD hS => ?_)
  refine hk_putF C hP hD hS fl_X3_24 ff_3_5 rfl rfl rfl (Nat.le_of_ble_eq_true rfl) di_X3_36 (fun H locs hP hD hS => ?_)
  refine lv_aload_n C.1 C.2.1 di_X3_39 rfl (lv_at hl 0 rfl) ?_
  refine lv_iconst (v := 3) C.1 C.2.1 di_X3_40 (by decide) ?_
  refine hk_newi (N := 3) C hP hD hS (by decide) (by decide) (by decide) (Nat.le_of_ble_eq_true rfl) (Nat.le_of_ble_eq_true rfl) di_X3_41 (fun q5 H hP hD hS => ?_)
  refine hk_putF C hP hD hS fl_X3_27 ff_3_7 rfl rfl rfl (Nat.le_of_ble_eq_true rfl) di_X3_43 (fun H locs hP hD hS => ?_)
  refine lv_aload_n C.1 C.2.1 di_X3_46 rfl (lv_at hl 0 rfl) ?_
  refine lv_iconst (v := 3) C.1 C.2.1 di_X3_47 (by decide) ?_
  refine hk_newi (N := 3) C hP hD hS (by decide) (by decide) (by decide) (Nat.le_of_ble_eq_true rfl) (Nat.le_of_ble_eq_true rfl) di_X3_48 (fun q6 H hP hD hS => ?_)
  refine hk_putF C hP hD hS fl_X3_30 ff_3_8 rfl rfl rfl (Nat.le_of_ble_eq_true rfl) di_X3_50 (fun H locs hP hD hS => ?_)
  refine lv_aload_n C.1 C.2.1 di_X3_53 rfl (lv_at hl 0 rfl) ?_
  refine lv_bipush (v := 6) C.1 C.2.1 di_X3_54 (by decide) ?_
  refine hk_newi (N := 6) C hP hD hS (by decide) (by decide) (by decide) (Nat.le_of_ble_eq_true rfl) (Nat.le_of_ble_eq_true rfl) di_X3_56 (fun q7 H hP hD hS => ?_)
  refine hk_putF C hP hD hS fl_X3_33 ff_3_11 rfl rfl rfl (Nat.le_of_ble_eq_true rfl) di_X3_58 (fun H locs hP hD hS => ?_)
  refine lv_aload_n C.1 C.2.1 di_X3_61 rfl (lv_at hl 0 rfl) ?_
  refine lv_bipush (v := 6) C.1 C.2.1 di_X3_62 (by decide) ?_
  refine hk_newi (N := 6) C hP hD hS (by decide) (by decide) (by decide) (Nat.le_of_ble_eq_true rfl) (Nat.le_of_ble_eq_true rfl) di_X3_64 (fun q8 H hP hD hS => ?_)
  refine hk_putF C hP hD hS fl_X3_36 ff_3_12 rfl rfl rfl (Nat.le_of_ble_eq_true rfl) di_X3_66 (fun H locs hP hD hS => ?_)
  refine lv_aload_n C.1 C.2.1 di_X3_69 rfl (lv_at hl 0 rfl) ?_
  refine lv_bipush (v := 6) C.1 C.2.1 di_X3_70 (by decide) ?_
  refine hk_newi (N := 6) C hP hD hS (by decide) (by decide) (by decide) (Nat.le_of_ble_eq_true rfl) (Nat.le_of_ble_eq_true rfl) di_X3_72 (fun q9 H hP hD hS => ?_)
  refine hk_putF C hP hD hS fl_X3_39 ff_3_13 rfl rfl rfl (Nat.le_of_ble_eq_true rfl) di_X3_74 (fun H locs hP hD hS => ?_)
  exact hk_ret (Wd := (w_X3 D h0)) C (fun k => [q0, q1, q2, q3, q4, q5, q6, q7, q8, q9].getD k 0) hP hD hS di_X3_77
set_option maxHeartbeats 4000000 in
set_option maxRecDepth 100000 in
theorem ci_X2 {D : hk_T} {h0 : Nat} : hk_Ok i_X2 1 160 D [(h0, .inr (2, z_X2))] [.ref h0] (w_X2 D h0) := by
  refine hk_ok_of rfl rfl rfl (Nat.le_of_ble_eq_true rfl) ?_
  intro p l e s m args below meth c A C hD H locs ls hP hS hl
  have hl : lv_has ls 1 [(0, .ref h0)] := hl
  refine lv_aload_n C.1 C.2.1 di_X2_0 rfl (lv_at hl 0 rfl) ?_
  refine hk_obj C hl.1 ob_X2 di_X2_1 (Nat.le_of_ble_eq_true rfl) (Nat.le_of_ble_eq_true rfl) ?_
  refine lv_aload_n C.1 C.2.1 di_X2_4 rfl (lv_at hl 0 rfl) ?_
  refine lv_sipush (v := 160) C.1 C.2.1 di_X2_5 (by decide) ?_
  refine hk_newi (N := 160) C hP hD hS (by decide) (by decide) (by decide) (Nat.le_of_ble_eq_true rfl) (Nat.le_of_ble_eq_true rfl) di_X2_8 (fun q0 H hP hD hS => ?_)
  refine hk_putF C hP hD hS fl_X2_9 ff_2_0 rfl rfl rfl (Nat.le_of_ble_eq_true rfl) di_X2_10 (fun H locs hP hD hS => ?_)
  exact hk_ret (Wd := (w_X2 D h0)) C (fun k => [q0].getD k 0) hP hD hS di_X2_13
set_option maxHeartbeats 4000000 in
set_option maxRecDepth 100000 in
theorem ci_X1 {D : hk_T} {h0 : Nat} : hk_Ok i_X1 3 168 D [(h0, .inr (1, z_X1))] [.ref h0] (w_X1 D h0) := by
  refine hk_ok_of rfl rfl rfl (Nat.le_of_ble_eq_true rfl) ?_
  intro p l e s m args below meth c A C hD H locs ls hP hS hl
  have hl : lv_has ls 1 [(0, .ref h0)] := hl
  refine lv_aload_n C.1 C.2.1 di_X1_0 rfl (lv_at hl 0 rfl) ?_
  refine hk_obj C hl.1 ob_X1 di_X1_1 (Nat.le_of_ble_eq_true rfl) (Nat.le_of_ble_eq_true rfl) ?_
  refine lv_aload_n C.1 C.2.1 di_X1_4 rfl (lv_at hl 0 rfl) ?_
  refine lv_iconst (v := 4) C.1 C.2.1 di_X1_5 (by decide) ?_
  refine hk_newi (N := 4) C hP hD hS (by decide) (by decide) (by decide) (Nat.le_of_ble_eq_true rfl) (Nat.le_of_ble_eq_true rfl) di_X1_6 (fun q0 H hP hD hS => ?_)
  refine lv_dup C.1 C.2.1 di_X1_8 rfl ?_
  refine lv_iconst (v := 0) C.1 C.2.1 di_X1_9 (by decide) ?_
  refine lv_iconst (v := (-1)) C.1 C.2.1 di_X1_10 (by decide) ?_
  refine va_iast C.1 C.2.1 C.2.2.2.2.2.2.2.2.1 hP hD hS 1 0 rfl rfl (by unfold vp_in; decide) di_X1_11 (fun H locs hP hD hS => ?_)
  rw [show (0 : Int32).toNatClampNeg = 0 by decide] at hP hD
  refine lv_dup C.1 C.2.1 di_X1_12 rfl ?_
  refine lv_iconst (v := 1) C.1 C.2.1 di_X1_13 (by decide) ?_
  refine lv_iconst (v := (-1)) C.1 C.2.1 di_X1_14 (by decide) ?_
  refine va_iast C.1 C.2.1 C.2.2.2.2.2.2.2.2.1 hP hD hS 1 0 rfl rfl (by unfold vp_in; decide) di_X1_15 (fun H locs hP hD hS => ?_)
  rw [show (1 : Int32).toNatClampNeg = 1 by decide] at hP hD
  refine lv_dup C.1 C.2.1 di_X1_16 rfl ?_
  refine lv_iconst (v := 2) C.1 C.2.1 di_X1_17 (by decide) ?_
  refine lv_iconst (v := (-1)) C.1 C.2.1 di_X1_18 (by decide) ?_
  refine va_iast C.1 C.2.1 C.2.2.2.2.2.2.2.2.1 hP hD hS 1 0 rfl rfl (by unfold vp_in; decide) di_X1_19 (fun H locs hP hD hS => ?_)
  rw [show (2 : Int32).toNatClampNeg = 2 by decide] at hP hD
  refine lv_dup C.1 C.2.1 di_X1_20 rfl ?_
  refine lv_iconst (v := 3) C.1 C.2.1 di_X1_21 (by decide) ?_
  refine lv_iconst (v := (-1)) C.1 C.2.1 di_X1_22 (by decide) ?_
  refine va_iast C.1 C.2.1 C.2.2.2.2.2.2.2.2.1 hP hD hS 1 0 rfl rfl (by unfold vp_in; decide) di_X1_23 (fun H locs hP hD hS => ?_)
  rw [show (3 : Int32).toNatClampNeg = 3 by decide] at hP hD
  refine hk_putF C hP hD hS fl_X1_11 ff_1_0 rfl rfl rfl (Nat.le_of_ble_eq_true rfl) di_X1_24 (fun H locs hP hD hS => ?_)
  refine lv_aload_n C.1 C.2.1 di_X1_27 rfl (lv_at hl 0 rfl) ?_
  refine lv_iconst (v := 4) C.1 C.2.1 di_X1_28 (by decide) ?_
  refine hk_newi (N := 4) C hP hD hS (by decide) (by decide) (by decide) (Nat.le_of_ble_eq_true rfl) (Nat.le_of_ble_eq_true rfl) di_X1_29 (fun q1 H hP hD hS => ?_)
  refine hk_putF C hP hD hS fl_X1_15 ff_1_1 rfl rfl rfl (Nat.le_of_ble_eq_true rfl) di_X1_31 (fun H locs hP hD hS => ?_)
  refine lv_aload_n C.1 C.2.1 di_X1_34 rfl (lv_at hl 0 rfl) ?_
  refine lv_sipush (v := 160) C.1 C.2.1 di_X1_35 (by decide) ?_
  refine hk_newi (N := 160) C hP hD hS (by decide) (by decide) (by decide) (Nat.le_of_ble_eq_true rfl) (Nat.le_of_ble_eq_true rfl) di_X1_38 (fun q2 H hP hD hS => ?_)
  refine hk_putF C hP hD hS fl_X1_18 ff_1_2 rfl rfl rfl (Nat.le_of_ble_eq_true rfl) di_X1_40 (fun H locs hP hD hS => ?_)
  exact hk_ret (Wd := (w_X1 D h0)) C (fun k => [q0, q1, q2].getD k 0) hP hD hS di_X1_43
set_option maxHeartbeats 4000000 in
set_option maxRecDepth 100000 in
theorem ci_X0 {t : Nat} {D : hk_T} {h0 : Nat} : hk_Ok i_X0 12 62 D [(h0, .inr (0, z_X0))] [.ref h0, .ref t] (w_X0 D t h0) := by
  refine hk_ok_of rfl rfl rfl (Nat.le_of_ble_eq_true rfl) ?_
  intro p l e s m args below meth c A C hD H locs ls hP hS hl
  have hl : lv_has ls 2 [(0, .ref h0), (1, .ref t)] := hl
  refine lv_aload_n C.1 C.2.1 di_X0_0 rfl (lv_at hl 0 rfl) ?_
  refine hk_obj C hl.1 ob_X0 di_X0_1 (Nat.le_of_ble_eq_true rfl) (Nat.le_of_ble_eq_true rfl) ?_
  refine lv_aload_n C.1 C.2.1 di_X0_4 rfl (lv_at hl 0 rfl) ?_
  refine hk_new (ci := 3) (fs := z_X3) C hP hD hS inX3 tyX3_ok cl_X0_9 in_X3 ii_X3 rfl df_X3 (Nat.le_of_ble_eq_true rfl) (Nat.le_of_ble_eq_true rfl) di_X0_5 (fun q0 H hP hD hS => ?_)
  refine lv_dup C.1 C.2.1 di_X0_8 rfl ?_
  refine hk_callN (y := i_X3) (As := []) (rest := [.ref q0, .ref h0]) (Wd := (w_X3 D q0)) C hP hD hS hl.1 mn_X0_11 cm_iX3 rfl rfl im_iX3 rfl ⟨(Nat.le_of_ble_eq_true rfl), (Nat.le_of_ble_eq_true rfl)⟩ (Nat.le_of_ble_eq_true rfl) (Nat.le_of_ble_eq_true rfl) (Nat.le_of_ble_eq_true rfl) ci_X3 di_X0_9 (fun a_q0 H locs hP hD hS => ?_)
  refine hk_putF C hP hD hS fl_X0_12 ff_0_1 rfl rfl rfl (Nat.le_of_ble_eq_true rfl) di_X0_12 (fun H locs hP hD hS => ?_)
  refine lv_aload_n C.1 C.2.1 di_X0_15 rfl (lv_at hl 0 rfl) ?_
  refine lv_iconst (v := 4) C.1 C.2.1 di_X0_16 (by decide) ?_
  refine hk_newi (N := 4) C hP hD hS (by decide) (by decide) (by decide) (Nat.le_of_ble_eq_true rfl) (Nat.le_of_ble_eq_true rfl) di_X0_17 (fun q1 H hP hD hS => ?_)
  refine hk_putF C hP hD hS fl_X0_18 ff_0_2 rfl rfl rfl (Nat.le_of_ble_eq_true rfl) di_X0_19 (fun H locs hP hD hS => ?_)
  refine lv_aload_n C.1 C.2.1 di_X0_22 rfl (lv_at hl 0 rfl) ?_
  refine lv_aload_n C.1 C.2.1 di_X0_23 rfl (lv_at hl 1 rfl) ?_
  refine hk_putF C hP hD hS fl_X0_22 ff_0_0 rfl rfl rfl (Nat.le_of_ble_eq_true rfl) di_X0_24 (fun H locs hP hD hS => ?_)
  exact hk_ret (Wd := (w_X0 D t h0)) C (fun k => [q0, a_q0 0, a_q0 1, a_q0 2, a_q0 3, a_q0 4, a_q0 5, a_q0 6, a_q0 7, a_q0 8, a_q0 9, q1].getD k 0) hP hD hS di_X0_27
set_option maxHeartbeats 4000000 in
set_option maxRecDepth 100000 in
theorem ci_X5 {D : hk_T} {h0 : Nat} : hk_Ok i_X5 62 741 D [(h0, .inr (5, z_X5))] [.ref h0] (w_X5 D h0) := by
  refine hk_ok_of rfl rfl rfl (Nat.le_of_ble_eq_true rfl) ?_
  intro p l e s m args below meth c A C hD H locs ls hP hS hl
  have hl : lv_has ls 1 [(0, .ref h0)] := hl
  refine lv_aload_n C.1 C.2.1 di_X5_0 rfl (lv_at hl 0 rfl) ?_
  refine hk_obj C hl.1 ob_X5 di_X5_1 (Nat.le_of_ble_eq_true rfl) (Nat.le_of_ble_eq_true rfl) ?_
  refine lv_aload_n C.1 C.2.1 di_X5_4 rfl (lv_at hl 0 rfl) ?_
  refine hk_new (ci := 4) (fs := z_X4) C hP hD hS inX4 tyX4_ok cl_X5_7 in_X4 ii_X4 rfl df_X4 (Nat.le_of_ble_eq_true rfl) (Nat.le_of_ble_eq_true rfl) di_X5_5 (fun q0 H hP hD hS => ?_)
  refine lv_dup C.1 C.2.1 di_X5_8 rfl ?_
  refine hk_callN (y := i_X4) (As := []) (rest := [.ref q0, .ref h0]) (Wd := (w_X4 D q0)) C hP hD hS hl.1 mn_X5_9 cm_iX4 rfl rfl im_iX4 rfl ⟨(Nat.le_of_ble_eq_true rfl), (Nat.le_of_ble_eq_true rfl)⟩ (Nat.le_of_ble_eq_true rfl) (Nat.le_of_ble_eq_true rfl) (Nat.le_of_ble_eq_true rfl) ci_X4 di_X5_9 (fun a_q0 H locs hP hD hS => ?_)
  refine hk_putF C hP hD hS fl_X5_10 ff_5_0 rfl rfl rfl (Nat.le_of_ble_eq_true rfl) di_X5_12 (fun H locs hP hD hS => ?_)
  refine lv_aload_n C.1 C.2.1 di_X5_15 rfl (lv_at hl 0 rfl) ?_
  refine hk_new (ci := 3) (fs := z_X3) C hP hD hS inX3 tyX3_ok cl_X5_16 in_X3 ii_X3 rfl df_X3 (Nat.le_of_ble_eq_true rfl) (Nat.le_of_ble_eq_true rfl) di_X5_16 (fun q1 H hP hD hS => ?_)
  refine lv_dup C.1 C.2.1 di_X5_19 rfl ?_
  refine hk_callN (y := i_X3) (As := []) (rest := [.ref q1, .ref h0]) (Wd := (w_X3 D q1)) C hP hD hS hl.1 mn_X5_18 cm_iX3 rfl rfl im_iX3 rfl ⟨(Nat.le_of_ble_eq_true rfl), (Nat.le_of_ble_eq_true rfl)⟩ (Nat.le_of_ble_eq_true rfl) (Nat.le_of_ble_eq_true rfl) (Nat.le_of_ble_eq_true rfl) ci_X3 di_X5_20 (fun a_q1 H locs hP hD hS => ?_)
  refine hk_putF C hP hD hS fl_X5_19 ff_5_1 rfl rfl rfl (Nat.le_of_ble_eq_true rfl) di_X5_23 (fun H locs hP hD hS => ?_)
  refine lv_aload_n C.1 C.2.1 di_X5_26 rfl (lv_at hl 0 rfl) ?_
  refine hk_new (ci := 2) (fs := z_X2) C hP hD hS inX2 tyX2_ok cl_X5_23 in_X2 ii_X2 rfl df_X2 (Nat.le_of_ble_eq_true rfl) (Nat.le_of_ble_eq_true rfl) di_X5_27 (fun q2 H hP hD hS => ?_)
  refine lv_dup C.1 C.2.1 di_X5_30 rfl ?_
  refine hk_callN (y := i_X2) (As := []) (rest := [.ref q2, .ref h0]) (Wd := (w_X2 D q2)) C hP hD hS hl.1 mn_X5_25 cm_iX2 rfl rfl im_iX2 rfl ⟨(Nat.le_of_ble_eq_true rfl), (Nat.le_of_ble_eq_true rfl)⟩ (Nat.le_of_ble_eq_true rfl) (Nat.le_of_ble_eq_true rfl) (Nat.le_of_ble_eq_true rfl) ci_X2 di_X5_31 (fun a_q2 H locs hP hD hS => ?_)
  refine hk_putF C hP hD hS fl_X5_26 ff_5_2 rfl rfl rfl (Nat.le_of_ble_eq_true rfl) di_X5_34 (fun H locs hP hD hS => ?_)
  refine lv_aload_n C.1 C.2.1 di_X5_37 rfl (lv_at hl 0 rfl) ?_
  refine hk_new (ci := 0) (fs := z_X0) C hP hD hS inX0 tyX0_ok cl_X5_30 in_X0 ii_X0 rfl df_X0 (Nat.le_of_ble_eq_true rfl) (Nat.le_of_ble_eq_true rfl) di_X5_38 (fun q3 H hP hD hS => ?_)
  refine lv_dup C.1 C.2.1 di_X5_41 rfl ?_
  refine lv_aload_n C.1 C.2.1 di_X5_42 rfl (lv_at hl 0 rfl) ?_
  refine hk_get (v := .ref q2) C hP fl_X5_26 rfl di_X5_43 ?_
  refine hk_callI (y := i_X0) (As := [.ref q2]) (rest := [.ref q3, .ref h0]) (Wd := (w_X0 D q2 q3)) C hP hD hS hl.1 ml_X5_32 cm_iX0 rfl rfl im_iX0 rfl ⟨(Nat.le_of_ble_eq_true rfl), (Nat.le_of_ble_eq_true rfl)⟩ (Nat.le_of_ble_eq_true rfl) (Nat.le_of_ble_eq_true rfl) (Nat.le_of_ble_eq_true rfl) ci_X0 di_X5_46 (fun a_q3 H locs hP hD hS => ?_)
  refine hk_putF C hP hD hS fl_X5_35 ff_5_3 rfl rfl rfl (Nat.le_of_ble_eq_true rfl) di_X5_49 (fun H locs hP hD hS => ?_)
  refine lv_aload_n C.1 C.2.1 di_X5_52 rfl (lv_at hl 0 rfl) ?_
  refine lv_iconst (v := 2) C.1 C.2.1 di_X5_53 (by decide) ?_
  refine hk_newq (N := 2) C hP hD hS cl_X5_16 (by decide) (by decide) (by decide) (Nat.le_of_ble_eq_true rfl) (Nat.le_of_ble_eq_true rfl) di_X5_54 (fun q4 H hP hD hS => ?_)
  refine lv_dup C.1 C.2.1 di_X5_57 rfl ?_
  refine lv_iconst (v := 0) C.1 C.2.1 di_X5_58 (by decide) ?_
  refine hk_new (ci := 3) (fs := z_X3) C hP hD hS inX3 tyX3_ok cl_X5_16 in_X3 ii_X3 rfl df_X3 (Nat.le_of_ble_eq_true rfl) (Nat.le_of_ble_eq_true rfl) di_X5_59 (fun q5 H hP hD hS => ?_)
  refine lv_dup C.1 C.2.1 di_X5_62 rfl ?_
  refine hk_callN (y := i_X3) (As := []) (rest := [.ref q5, .int 0, .ref q4, .ref q4, .ref h0]) (Wd := (w_X3 D q5)) C hP hD hS hl.1 mn_X5_18 cm_iX3 rfl rfl im_iX3 rfl ⟨(Nat.le_of_ble_eq_true rfl), (Nat.le_of_ble_eq_true rfl)⟩ (Nat.le_of_ble_eq_true rfl) (Nat.le_of_ble_eq_true rfl) (Nat.le_of_ble_eq_true rfl) ci_X3 di_X5_63 (fun a_q5 H locs hP hD hS => ?_)
  refine hk_ast (k2 := 0) C hP hD hS rfl (by unfold vp_in; decide) di_X5_66 (fun H locs hP hD hS => ?_)
  rw [show (0 : Int32).toNatClampNeg = 0 by decide] at hP hD
  refine lv_dup C.1 C.2.1 di_X5_67 rfl ?_
  refine lv_iconst (v := 1) C.1 C.2.1 di_X5_68 (by decide) ?_
  refine hk_new (ci := 3) (fs := z_X3) C hP hD hS inX3 tyX3_ok cl_X5_16 in_X3 ii_X3 rfl df_X3 (Nat.le_of_ble_eq_true rfl) (Nat.le_of_ble_eq_true rfl) di_X5_69 (fun q6 H hP hD hS => ?_)
  refine lv_dup C.1 C.2.1 di_X5_72 rfl ?_
  refine hk_callN (y := i_X3) (As := []) (rest := [.ref q6, .int 1, .ref q4, .ref q4, .ref h0]) (Wd := (w_X3 D q6)) C hP hD hS hl.1 mn_X5_18 cm_iX3 rfl rfl im_iX3 rfl ⟨(Nat.le_of_ble_eq_true rfl), (Nat.le_of_ble_eq_true rfl)⟩ (Nat.le_of_ble_eq_true rfl) (Nat.le_of_ble_eq_true rfl) (Nat.le_of_ble_eq_true rfl) ci_X3 di_X5_73 (fun a_q6 H locs hP hD hS => ?_)
  rw [List.append_assoc] at hP hD
  refine hk_ast (k2 := 11) C hP hD hS rfl (by unfold vp_in; decide) di_X5_76 (fun H locs hP hD hS => ?_)
  rw [show (1 : Int32).toNatClampNeg = 1 by decide] at hP hD
  refine hk_putF C hP hD hS fl_X5_39 ff_5_4 rfl rfl rfl (Nat.le_of_ble_eq_true rfl) di_X5_77 (fun H locs hP hD hS => ?_)
  refine lv_aload_n C.1 C.2.1 di_X5_80 rfl (lv_at hl 0 rfl) ?_
  refine lv_iconst (v := 2) C.1 C.2.1 di_X5_81 (by decide) ?_
  refine hk_newz (N := 2) C hP hD hS (by decide) (by decide) (by decide) (Nat.le_of_ble_eq_true rfl) (Nat.le_of_ble_eq_true rfl) di_X5_82 (fun q7 H hP hD hS => ?_)
  refine hk_putF C hP hD hS fl_X5_43 ff_5_5 rfl rfl rfl (Nat.le_of_ble_eq_true rfl) di_X5_84 (fun H locs hP hD hS => ?_)
  refine lv_aload_n C.1 C.2.1 di_X5_87 rfl (lv_at hl 0 rfl) ?_
  refine hk_new (ci := 1) (fs := z_X1) C hP hD hS inX1 tyX1_ok cl_X5_47 in_X1 ii_X1 rfl df_X1 (Nat.le_of_ble_eq_true rfl) (Nat.le_of_ble_eq_true rfl) di_X5_88 (fun q8 H hP hD hS => ?_)
  refine lv_dup C.1 C.2.1 di_X5_91 rfl ?_
  refine hk_callN (y := i_X1) (As := []) (rest := [.ref q8, .ref h0]) (Wd := (w_X1 D q8)) C hP hD hS hl.1 mn_X5_49 cm_iX1 rfl rfl im_iX1 rfl ⟨(Nat.le_of_ble_eq_true rfl), (Nat.le_of_ble_eq_true rfl)⟩ (Nat.le_of_ble_eq_true rfl) (Nat.le_of_ble_eq_true rfl) (Nat.le_of_ble_eq_true rfl) ci_X1 di_X5_92 (fun a_q8 H locs hP hD hS => ?_)
  refine hk_putF C hP hD hS fl_X5_50 ff_5_6 rfl rfl rfl (Nat.le_of_ble_eq_true rfl) di_X5_95 (fun H locs hP hD hS => ?_)
  refine lv_aload_n C.1 C.2.1 di_X5_98 rfl (lv_at hl 0 rfl) ?_
  refine lv_bipush (v := 126) C.1 C.2.1 di_X5_99 (by decide) ?_
  refine hk_newi (N := 126) C hP hD hS (by decide) (by decide) (by decide) (Nat.le_of_ble_eq_true rfl) (Nat.le_of_ble_eq_true rfl) di_X5_101 (fun q9 H hP hD hS => ?_)
  refine hk_putF C hP hD hS fl_X5_54 ff_5_7 rfl rfl rfl (Nat.le_of_ble_eq_true rfl) di_X5_103 (fun H locs hP hD hS => ?_)
  exact hk_ret (Wd := (w_X5 D h0)) C (fun k => [0, q0, (a_q0 0), (a_q0 1), (a_q0 2), (a_q0 3), (a_q0 4), (a_q0 5), q1, (a_q1 0), (a_q1 1), (a_q1 2), (a_q1 3), (a_q1 4), (a_q1 5), (a_q1 6), (a_q1 7), (a_q1 8), (a_q1 9), q2, (a_q2 0), q3, (a_q3 0), (a_q3 1), (a_q3 2), (a_q3 3), (a_q3 4), (a_q3 5), (a_q3 6), (a_q3 7), (a_q3 8), (a_q3 9), (a_q3 10), (a_q3 11), q4, q5, (a_q5 0), (a_q5 1), (a_q5 2), (a_q5 3), (a_q5 4), (a_q5 5), (a_q5 6), (a_q5 7), (a_q5 8), (a_q5 9), q6, (a_q6 0), (a_q6 1), (a_q6 2), (a_q6 3), (a_q6 4), (a_q6 5), (a_q6 6), (a_q6 7), (a_q6 8), (a_q6 9), q7, q8, (a_q8 0), (a_q8 1), (a_q8 2), q9].getD k 0) hP hD hS di_X5_106
