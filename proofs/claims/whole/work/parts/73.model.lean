/-! the model's constructor -/
def hz_G (D : hk_T) (x h : Nat) (a b aK aV : Nat → Nat) : hs_G := (D.1, fun t => if t = 0 then D.2.1 else if t = 1 then D.2.2.1 else D.2.2.2, fun k => if k = 0 then x else if k < 63 then a k else if k = 63 then h else if k < 77 then b (k - 64) else aK (k - 1000), aV)
def hz_s : hs_St := (fun k => if k = 59 then f59 else fun _ => 0, fun _ => 0)
def v_X6 (D : hk_T) (b : Nat → Nat) : va_W := [(b 0, .inl (D.2.1, 141, .inl (fun _ => 0))), (b 1, .inl (D.2.1, 47, .inl (fun _ => 0))), (b 2, .inl (D.2.2.1, 2, .inl (fun _ => 0))), (b 3, .inl (D.2.1, 47, .inl (fun _ => 0))), (b 4, .inl (D.2.1, 4, .inl (fun _ => 0))), (b 5, .inl (D.2.1, 160, .inl (fun _ => 0))), (b 6, .inl (D.2.1, 6, .inl (fun _ => 0))), (b 7, .inl (D.2.1, 84, .inl (fun _ => 0))), (b 8, .inl (D.2.1, 126, .inl (fun _ => 0))), (b 9, .inl (D.2.1, 4, .inl (fun _ => 0))), (b 10, .inl (D.2.1, 4, .inl (fun _ => 0))), (b 11, .inl (D.2.1, 160, .inl (fun _ => 0))), (b 12, .inl (D.2.1, 47, .inl (fun _ => 0)))]
def w_X6 (D : hk_T) (x h : Nat) (a b : Nat → Nat) : va_W := (h, .inr (6, [.ref (b 0), .ref (b 1), .ref (b 2), .int 0, .ref (b 3), .int 0, .int 0, .ref (b 4), .int 0, .ref (b 5), .int 0, .int 0, .int 0, .int 0, .int 0, .int 0, .int 0, .int 0, .ref (b 6), .long 0, .long 0, .long 0, .ref (b 7), .ref (b 8), .ref (b 9), .ref (b 10), .ref (b 11), .int 0, .ref (b 12)])) :: (w_X5 D x a ++ v_X6 D b)
def e_77 (D : hk_T) (x h : Nat) (a b aK aV : Nat → Nat) : va_W := [(x, .inr (5, [.ref (a 1), .ref (a 8), .ref (a 19), .ref (a 21), .ref (a 34), .ref (a 57), .ref (a 58), .ref (a 62), .int 0, .int 0])), (a 1, .inr (4, [.int 0, .ref (a 2), .ref (a 3), .ref (a 4), .int 0, .ref (a 5), .ref (a 6), .int 0, .ref (a 7)])), (a 2, .inl (D.2.1, 4, .inl (fun _ => 0))), (a 3, .inl (D.2.1, 4, .inl (fun _ => 0))), (a 4, .inl (D.2.1, 4, .inl (fun _ => 0))), (a 5, .inl (D.2.1, 3, .inl (fun _ => 0))), (a 6, .inl (D.2.1, 3, .inl (fun _ => 0))), (a 7, .inl (D.2.1, 6, .inl (fun _ => 0))), (a 8, .inr (3, [.int 0, .ref (a 9), .ref (a 10), .ref (a 11), .ref (a 12), .ref (a 13), .int 0, .ref (a 14), .ref (a 15), .int 0, .int 0, .ref (a 16), .ref (a 17), .ref (a 18)])), (a 9, .inl (D.2.1, 4, .inl (fun _ => 0))), (a 10, .inl (D.2.1, 4, .inl (fun _ => 0))), (a 11, .inl (D.2.1, 4, .inl (fun _ => 0))), (a 12, .inl (D.2.1, 4, .inl (fun _ => 0))), (a 13, .inl (D.2.1, 4, .inl (fun _ => 0))), (a 14, .inl (D.2.1, 3, .inl (fun _ => 0))), (a 15, .inl (D.2.1, 3, .inl (fun _ => 0))), (a 16, .inl (D.2.1, 6, .inl (fun _ => 0))), (a 17, .inl (D.2.1, 6, .inl (fun _ => 0))), (a 18, .inl (D.2.1, 6, .inl (fun _ => 0))), (a 19, .inr (2, [.ref (a 20), .int 0])), (a 20, .inl (D.2.1, 160, .inl (fun _ => 0))), (a 21, .inr (0, [.ref (a 19), .ref (a 22), .ref (a 33), .int 0, .int 0, .int 0, .int 0, .int 0, .int 0])), (a 22, .inr (3, [.int 0, .ref (a 23), .ref (a 24), .ref (a 25), .ref (a 26), .ref (a 27), .int 0, .ref (a 28), .ref (a 29), .int 0, .int 0, .ref (a 30), .ref (a 31), .ref (a 32)])), (a 23, .inl (D.2.1, 4, .inl (fun _ => 0))), (a 24, .inl (D.2.1, 4, .inl (fun _ => 0))), (a 25, .inl (D.2.1, 4, .inl (fun _ => 0))), (a 26, .inl (D.2.1, 4, .inl (fun _ => 0))), (a 27, .inl (D.2.1, 4, .inl (fun _ => 0))), (a 28, .inl (D.2.1, 3, .inl (fun _ => 0))), (a 29, .inl (D.2.1, 3, .inl (fun _ => 0))), (a 30, .inl (D.2.1, 6, .inl (fun _ => 0))), (a 31, .inl (D.2.1, 6, .inl (fun _ => 0))), (a 32, .inl (D.2.1, 6, .inl (fun _ => 0))), (a 33, .inl (D.2.1, 4, .inl (fun _ => 0))), (a 34, .inl (D.2.2.2, 2, .inr (.inr (.inr (.inr (fun j => some ((hz_G D x h a b aK aV).2.2.1 (hs_img j)))))))), (a 35, .inr (3, [.int 0, .ref (a 36), .ref (a 37), .ref (a 38), .ref (a 39), .ref (a 40), .int 0, .ref (a 41), .ref (a 42), .int 0, .int 0, .ref (a 43), .ref (a 44), .ref (a 45)])), (a 36, .inl (D.2.1, 4, .inl (fun _ => 0))), (a 37, .inl (D.2.1, 4, .inl (fun _ => 0))), (a 38, .inl (D.2.1, 4, .inl (fun _ => 0))), (a 39, .inl (D.2.1, 4, .inl (fun _ => 0))), (a 40, .inl (D.2.1, 4, .inl (fun _ => 0))), (a 41, .inl (D.2.1, 3, .inl (fun _ => 0))), (a 42, .inl (D.2.1, 3, .inl (fun _ => 0))), (a 43, .inl (D.2.1, 6, .inl (fun _ => 0))), (a 44, .inl (D.2.1, 6, .inl (fun _ => 0))), (a 45, .inl (D.2.1, 6, .inl (fun _ => 0))), (a 46, .inr (3, [.int 0, .ref (a 47), .ref (a 48), .ref (a 49), .ref (a 50), .ref (a 51), .int 0, .ref (a 52), .ref (a 53), .int 0, .int 0, .ref (a 54), .ref (a 55), .ref (a 56)])), (a 47, .inl (D.2.1, 4, .inl (fun _ => 0))), (a 48, .inl (D.2.1, 4, .inl (fun _ => 0))), (a 49, .inl (D.2.1, 4, .inl (fun _ => 0))), (a 50, .inl (D.2.1, 4, .inl (fun _ => 0))), (a 51, .inl (D.2.1, 4, .inl (fun _ => 0))), (a 52, .inl (D.2.1, 3, .inl (fun _ => 0))), (a 53, .inl (D.2.1, 3, .inl (fun _ => 0))), (a 54, .inl (D.2.1, 6, .inl (fun _ => 0))), (a 55, .inl (D.2.1, 6, .inl (fun _ => 0))), (a 56, .inl (D.2.1, 6, .inl (fun _ => 0))), (a 57, .inl (D.2.2.1, 2, .inl (fun _ => 0))), (a 58, .inr (1, [.ref (a 59), .ref (a 60), .ref (a 61)])), (a 59, .inl (D.2.1, 4, .inl f59)), (a 60, .inl (D.2.1, 4, .inl (fun _ => 0))), (a 61, .inl (D.2.1, 160, .inl (fun _ => 0))), (a 62, .inl (D.2.1, 126, .inl (fun _ => 0))), (h, .inr (6, [.ref (b 0), .ref (b 1), .ref (b 2), .int 0, .ref (b 3), .int 0, .int 0, .ref (b 4), .int 0, .ref (b 5), .int 0, .int 0, .int 0, .int 0, .int 0, .int 0, .int 0, .int 0, .ref (b 6), .long 0, .long 0, .long 0, .ref (b 7), .ref (b 8), .ref (b 9), .ref (b 10), .ref (b 11), .int 0, .ref (b 12)])), (b 0, .inl (D.2.1, 141, .inl (fun _ => 0))), (b 1, .inl (D.2.1, 47, .inl (fun _ => 0))), (b 2, .inl (D.2.2.1, 2, .inl (fun _ => 0))), (b 3, .inl (D.2.1, 47, .inl (fun _ => 0))), (b 4, .inl (D.2.1, 4, .inl (fun _ => 0))), (b 5, .inl (D.2.1, 160, .inl (fun _ => 0))), (b 6, .inl (D.2.1, 6, .inl (fun _ => 0))), (b 7, .inl (D.2.1, 84, .inl (fun _ => 0))), (b 8, .inl (D.2.1, 126, .inl (fun _ => 0))), (b 9, .inl (D.2.1, 4, .inl (fun _ => 0))), (b 10, .inl (D.2.1, 4, .inl (fun _ => 0))), (b 11, .inl (D.2.1, 160, .inl (fun _ => 0))), (b 12, .inl (D.2.1, 47, .inl (fun _ => 0)))]
set_option maxHeartbeats 4000000 in
set_option maxRecDepth 100000 in
theorem hz_enc (D : hk_T) (x h : Nat) (a b aK aV : Nat → Nat) : hs_enc (hz_G D x h a b aK aV) hz_s = e_77 D x h a b aK aV := by
  rw [hs_en77]
  rfl
theorem arrV_ext {cA : ClassId} {n : Nat} {f g : Nat → Value} (h : ∀ j, j < n → f j = g j) : arrV cA n f = arrV cA n g := by
  unfold arrV
  congr 1
  apply Array.ext
  · simp
  · intro i h1 h2
    simp only [Array.size_ofFn] at h1
    simp [h i h1]
set_option maxHeartbeats 4000000 in
set_option maxRecDepth 100000 in
theorem hz_fin {D : hk_T} {x h : Nat} {a b aK aV : Nat → Nat} {A : Nat → Prop} {H : Heap} (hP : va_P D.1 vwCl (w_X6 D x h a b) H) (hD : va_D A (w_X6 D x h a b)) : va_P D.1 vwCl (hs_enc (hz_G D x h a b aK aV) hz_s) H ∧ va_D A (hs_enc (hz_G D x h a b aK aV) hz_s) := by
  have h34 : (w_X6 D x h a b)[35]? = some (a 34, .inl (D.2.2.2, 2, .inr (.inr (.inr (.inr (va_up (va_up (fun _ => none) 0 (some (a 35))) 1 (some (a 46)))))))) := rfl
  have hc : H[a 34]? = some (vp_cell D.2.2.2 (2, .inr (.inr (.inr (.inr (fun j => some ((hz_G D x h a b aK aV).2.2.1 (hs_img j)))))))) := by
    have h1 : H[a 34]? = some (vp_cell D.2.2.2 (2, .inr (.inr (.inr (.inr (va_up (va_up (fun _ => none) 0 (some (a 35))) 1 (some (a 46)))))))) := hP 35 _ h34
    rw [h1]
    rw [vp_cell_q, vp_cell_q]
    refine congrArg some (arrV_ext (fun j hj => ?_))
    rcases (show j = 0 ∨ j = 1 by omega) with rfl | rfl <;> rfl
  have hP1 := hP.set hD h34 (e := .inl (D.2.2.2, 2, .inr (.inr (.inr (.inr (fun j => some ((hz_G D x h a b aK aV).2.2.1 (hs_img j)))))))) hc (fun q _ => rfl)
  have hD1 := hD.set (e := .inl (D.2.2.2, 2, .inr (.inr (.inr (.inr (fun j => some ((hz_G D x h a b aK aV).2.2.1 (hs_img j)))))))) h34
  rw [hz_enc]
  exact ⟨hP1.sub [1, 2, 3, 4, 5, 6, 7, 8, 9, 10, 11, 12, 13, 14, 15, 16, 17, 18, 19, 20, 21, 22, 23, 24, 25, 26, 27, 28, 29, 30, 31, 32, 33, 34, 35, 36, 37, 38, 39, 40, 41, 42, 43, 44, 45, 46, 47, 48, 49, 50, 51, 52, 53, 54, 55, 56, 57, 58, 59, 60, 61, 62, 63, 0, 64, 65, 66, 67, 68, 69, 70, 71, 72, 73, 74, 75, 76] rfl, hD1.sub [1, 2, 3, 4, 5, 6, 7, 8, 9, 10, 11, 12, 13, 14, 15, 16, 17, 18, 19, 20, 21, 22, 23, 24, 25, 26, 27, 28, 29, 30, 31, 32, 33, 34, 35, 36, 37, 38, 39, 40, 41, 42, 43, 44, 45, 46, 47, 48, 49, 50, 51, 52, 53, 54, 55, 56, 57, 58, 59, 60, 61, 62, 63, 0, 64, 65, 66, 67, 68, 69, 70, 71, 72, 73, 74, 75, 76] (by decide +kernel) rfl⟩
def hz_X (aK aV : Nat → Nat) (A : Nat → Prop) (U : State) (H : Heap) : Prop :=
  vk_S 6 hs_len hs_byt aK aV A U H ∧ (∀ i q, hs_txt[i]? = some q → vk_R "HauntSums$Reader" q.1 q.2 (aK i) U) ∧ va_Z "java/lang/String" "COMPACT_STRINGS" "Z" (.int 1) A U H ∧ ∃ v : Value, (v = .null ∨ ∃ a, v = .ref a) ∧ va_Z "jdk/internal/util/Preconditions" "SIOOBE_FORMATTER" "Ljava/util/function/BiFunction;" v A U H
theorem hz_XG {D : hk_T} {x h : Nat} {a b aK aV : Nat → Nat} {A : Nat → Prop} {U : State} {H : Heap} (hX : hz_X aK aV A U H) : hs_X (hz_G D x h a b aK aV) A U H := by
  have e : ∀ i, (hz_G D x h a b aK aV).2.2.1 (1000 + i) = aK i := by
    intro i
    show (if 1000 + i = 0 then x else if 1000 + i < 63 then a (1000 + i) else if 1000 + i = 63 then h else if 1000 + i < 77 then b (1000 + i - 64) else aK (1000 + i - 1000)) = aK i
    rw [if_neg (by omega), if_neg (by omega), if_neg (by omega), if_neg (by omega), show 1000 + i - 1000 = i by omega]
  have e2 : (fun i => (hz_G D x h a b aK aV).2.2.1 (1000 + i)) = aK := funext e
  unfold hs_X
  rw [e2]
  refine ⟨hX.1, fun i q hq => ?_, hX.2.2⟩
  rw [e i]
  exact hX.2.1 i q hq
theorem hz_RX : RX hz_s (t_dn t_0 (fun _ => false) (fun _ => 0)) (fun _ => t_0) (fun _ => false) 0 (fun _ => 0) (fun _ => 0) (fun _ => 0) (fun _ _ => 0) 0 0 := by
  refine ⟨xt_8.mpr ⟨rfl, rfl, rfl, rfl, fun g hg => absurd hg (Nat.not_lt_zero _), fun g hg => absurd hg (Nat.not_lt_zero _), fun g hg => absurd hg (Nat.not_lt_zero _)⟩, ⟨rfl, rfl, fun h => (by cases h), fun h => (by cases h)⟩, ⟨rfl, fun i hi => absurd hi (Nat.not_lt_zero _)⟩, fun k hk => ⟨?_, fun h => absurd rfl h⟩, rfl, rfl⟩
  rcases (show k = 0 ∨ k = 1 ∨ k = 2 ∨ k = 3 by omega) with rfl | rfl | rfl | rfl <;> rfl
section HZ
variable {d : hs_M} {p : Program} {l : Launch} {e : Env} {s : State} {m : MethodId} {args : Array Value} {below : List Frame} {meth : Method} {c : Code} {D : hk_T} {A : Nat → Prop} {H : Heap} {locs : List Loc} {ls : Array Slot} {pc idx k ci mc ms cells slots : Nat} {Q : State → Prop} {G : hs_G} {σ : hs_St}
/-- a call of a method of the whole world, out of a constructor -/
theorem hz_callV {y : hs_M} {fd : List (Option (Option Nat))} (C : hk_Cx d p s m args meth c D A) (hK : va_K G.1 vwCl (hs_tys G) s) (hX : hs_X G A s s.heap) (hDa : ∀ σ, va_D A (hs_enc G σ)) (hP : va_P G.1 vwCl (hs_enc G σ) H) (hS : va_S A s.heap H locs) (hsz : ls.size = d.2.2.1) (hd : decode d.2.1 pc = .ok (.invokevirtual idx, 3)) (hl : Cond.methodLink d.1.cls idx y.1 ∈ hs_U) (hm : hs_CM y 0) (hv : hs_CV y) (hf : y.2.2.2.2.1 + 1 ≤ d.2.2.2.2.1 ∧ 8 + (y.2.2.1 + 11) + y.2.2.2.2.2 ≤ d.2.2.2.2.2) (hk : hs_shape[k]? = some (.inr (ci, fd))) (hc : (vwCl[ci]?.map (·.1)) = some y.1.cls) (hcs : cells + 0 ≤ mc ∧ slots + 0 ≤ ms)
    (h : OkV y [.ref k] σ (fun τ => ∀ (H1 : Heap) (locs1 : List Loc), va_P G.1 vwCl (hs_enc G τ) H1 → va_S A s.heap H1 locs1 → W p l e (hk_rm d mc ms) s m args below meth c H1 locs1 cells slots Q (F0 m (pc + 3) ls []))) : W p l e (hk_rm d mc ms) s m args below meth c H locs cells slots Q (F0 m pc ls [.ref (G.2.2.1 k)]) := by
  have hA := C.2.2.2.2.2.2.2.2.2.2.2
  have hts := C.2.2.2.2.2.1
  have hsub : ∀ q, va_A (hs_enc G σ) H.size q → A q := by
    intro q h
    rcases h with ⟨k, e, h⟩ | h
    · exact (hDa σ).2 k (q, e) h
    · exact hA q (Nat.le_trans hS.1 h)
  have hCB : CallB (hk_rm d mc ms) s args d.1.cls idx y.1 y.2.1 y.2.2.1 y.2.2.2.1 (hs_ws y) (hs_rm y) 0 0 0 := callB_of 0 hts (hl_goodIn y hm.1) rfl rfl rfl (hts _ hm.2.1) (hts _ hl) hm.2.2 hf
  have hpre : ∀ U : State, U.heap = H → s.WarmedH U.vm → hs_Pc G σ [.ref k] H.size (([.ref k] : List Value).map (hs_tr G.2.2.1)).toArray U := by
    intro U hU hW
    refine ⟨rfl, by rw [hU], by rw [hU]; exact hP, va_K.moved hW.alike hK, (hDa σ).weaken (fun _ _ _ _ => trivial), C.2.2.2.2.2.2.2.2.2.1.warm hW, ?_⟩
    rw [hU]
    exact ((hX.kept (fun a h1 h2 => hS.2.1 a h1 h2)).narrow hsub).warm hW
  refine hw_call (G := G) (A := A) (va_runV (As := []) (rest := []) ⟨C.1, C.2.1, C.2.2.2.1, C.2.2.2.2.1, hts⟩ (h l G H.size) ⟨hCB, hts _ hv.1, hts _ hv.2⟩ ⟨hs_blind, hl_recv hK hP hk hc, hpre⟩ rfl rfl hsz rfl (lv_room (Nat.le_of_ble_eq_true rfl)) hd hcs) hS hsub hsub (fun r τ H1 locs1 hK' hP1 hS1 => ?_)
  obtain ⟨rfl, hK'⟩ := hK'
  exact hK' H1 locs1 hP1 hS1
end HZ
theorem hz_tail {p : Program} {l : Launch} {e : Env} {s : State} {m : MethodId} {args : Array Value} {below : List Frame} {meth : Method} {c : Code} {A : Nat → Prop} {H : Heap} {locs : List Loc} {ls : Array Slot} {G : hs_G} {Q : State → Prop} (C : hk_Cx i_X6 p s m args meth c (G.1, G.2.1 0, G.2.1 1, G.2.1 2) A) (hX : hs_X G A s s.heap) (hDa : ∀ σ, va_D A (hs_enc G σ)) (hP : va_P G.1 vwCl (hs_enc G hz_s) H) (hS : va_S A s.heap H locs) (hl : lv_has ls 2 [(0, .ref (G.2.2.1 63))])
    (kk : ∀ (τ : hs_St) (H : Heap) (locs : List Loc) (ls : Array Slot), RR τ → va_P G.1 vwCl (hs_enc G τ) H → va_S A s.heap H locs → W p l e (hk_rm i_X6 13 832) s m args below meth c H locs 13 832 Q (F0 m 136 ls [])) : W p l e (hk_rm i_X6 13 832) s m args below meth c H locs 13 832 Q (F0 m 107 ls []) := by
  have hK : va_K G.1 vwCl (hs_tys G) s := C.2.2.2.2.2.2.2.2.1
  have hts := C.2.2.2.2.2.1
  have fin : ∀ (τ : hs_St) (H : Heap) (locs : List Loc) (ls : Array Slot), hs_fr [73] hz_s τ → (∀ k, k < 4 → τ.1 73 k = -4) → va_P G.1 vwCl (hs_enc G τ) H → va_S A s.heap H locs → lv_has ls 2 [(0, .ref (G.2.2.1 63))] → W p l e (hk_rm i_X6 13 832) s m args below meth c H locs 13 832 Q (F0 m 128 ls []) := by
    intro τ H locs ls hf h73 hP hS hl
    refine lv_aload_n C.1 C.2.1 di_X6_128 rfl (lv_at hl 0 rfl) ?_
    refine hz_callV (y := m_X6_firstDraft) (k := 63) C hK hX hDa hP hS hl.1 di_X6_129 ml_X6_50 cm_X6_firstDraft cv_X6_firstDraft ⟨Nat.le_of_ble_eq_true rfl, Nat.le_of_ble_eq_true rfl⟩ rfl rfl ⟨Nat.le_of_ble_eq_true rfl, Nat.le_of_ble_eq_true rfl⟩ (cm_firstDraft (fun τ1 g1 hd1 H1 locs1 hP1 hS1 => ?_))
    refine lv_aload_n C.1 C.2.1 di_X6_132 rfl (lv_at hl 0 rfl) ?_
    refine hz_callV (y := m_X6_keepDraft) (k := 63) C hK hX hDa hP1 hS1 hl.1 di_X6_133 ml_X6_53 cm_X6_keepDraft cv_X6_keepDraft ⟨Nat.le_of_ble_eq_true rfl, Nat.le_of_ble_eq_true rfl⟩ rfl rfl ⟨Nat.le_of_ble_eq_true rfl, Nat.le_of_ble_eq_true rfl⟩ (cm_keepDraft hd1 dkk_0.1 (fun τ2 g2 hmt h66 h661 H2 locs2 hP2 hS2 => ?_))
    have e63 : ∀ i, i ∉ [5, 6, 8] → i ∉ [3] → τ2.1 63 i = 0 := fun i h1 h2 => by
      rw [g2.2 i h2, g1.2 i h1, hf.2 63 (by decide)]; rfl
    refine kk τ2 H2 locs2 ls ⟨t_dn t_0 (fun _ => false) (fun _ => 0), fun _ => t_0, fun _ => false, 0, fun _ => 0, fun _ => 0, fun _ => 0, fun _ _ => 0, 0, 0, ⟨t_dn_tk dkk_0, fun j hj => (by cases hj), by omega, fun i hi => absurd hi (Nat.not_lt_zero _), fun k hk => ⟨Nat.zero_le _, Nat.zero_le _⟩⟩, hz_RX.hi (fun k hk => ?_), hmt, fun k hk => ⟨?_, fun h => (by cases h)⟩, ⟨e63 10 (by decide) (by decide), fun i hi => absurd hi (Nat.not_lt_zero _)⟩, fun k hk => ⟨?_, fun h => absurd rfl h⟩, e63 15 (by decide) (by decide), e63 27 (by decide) (by decide)⟩ hP2 hS2
    · rw [mg_hi g2 (by decide) k hk, mg_hi g1 (by decide) k hk, hf.2 k (by simp; omega)]
    · rcases (show k = 0 ∨ k = 1 by omega) with rfl | rfl
      · exact h66
      · exact h661
    · rw [g2.1 73 (by decide) (by decide), g1.1 73 (by decide) (by decide)]
      exact h73 k hk
  have loop : ∀ n i (τ : hs_St) (H : Heap) (locs : List Loc) (ls : Array Slot), 4 - i = n → i ≤ 4 → hs_fr [73] hz_s τ → (∀ k, k < i → τ.1 73 k = -4) → va_P G.1 vwCl (hs_enc G τ) H → va_S A s.heap H locs → lv_has ls 2 [(0, .ref (G.2.2.1 63)), (1, .int (nI i))] → W p l e (hk_rm i_X6 13 832) s m args below meth c H locs 13 832 Q (F0 m 109 ls []) := by
    intro n
    induction n with
    | zero =>
      intro i τ H locs ls hn hi hf h73 hP hS hl
      refine lv_iload_n C.1 C.2.1 di_X6_109 rfl (lv_at hl 1 rfl) ?_
      refine lv_iconst (v := 4) C.1 C.2.1 di_X6_110 (by decide) ?_
      refine lv_icmp_ge (tgt := 128) C.1 C.2.1 di_X6_111 (by decide) (fun _ => ?_) (fun h => absurd ?_ h)
      · exact fin τ H locs ls hf (fun k hk => h73 k (by omega)) hP hS (lv_sub hl [0] rfl)
      · rw [nl_4, il (by omega) (by omega)]; omega
    | succ n ih =>
      intro i τ H locs ls hn hi hf h73 hP hS hl
      refine lv_iload_n C.1 C.2.1 di_X6_109 rfl (lv_at hl 1 rfl) ?_
      refine lv_iconst (v := 4) C.1 C.2.1 di_X6_110 (by decide) ?_
      refine lv_icmp_ge (tgt := 128) C.1 C.2.1 di_X6_111 (by decide) (fun h => ?_) (fun _ => ?_)
      · rw [nl_4, il (by omega) (by omega)] at h; omega
      · refine lv_aload_n C.1 C.2.1 di_X6_114 rfl (lv_at hl 0 rfl) ?_
        obtain ⟨fd, hk, hx⟩ := fx_63_24
        refine va_get (D := G.1) (cl := vwCl) (ci := 6) (v := .ref (G.2.2.1 73)) (C := RX6) (T := TX6) (N := 29) (ref := RX6) C.1 C.2.1 hts inX6 C.2.2.2.2.1 hK hP 63 (fs := hs_fs G τ 63 fd) (hs_enc_at hk) rfl 24 (by decide) (hts _ wf_X6_38) (fun _ h => h) (hs_fs_at hx) di_X6_115 ?_
        refine lv_iload_n C.1 C.2.1 di_X6_118 rfl (lv_at hl 1 rfl) ?_
        refine lv_bipush (v := -4) C.1 C.2.1 di_X6_119 (by decide) ?_
        refine va_iast C.1 C.2.1 hK hP (hDa τ) hS 73 0 (hs_enc_arr ax_73 (by decide)) rfl (vp_in_nI (by omega) (by omega)) di_X6_121 (fun H1 locs1 hP1 hD1 hS1 => ?_)
        rw [hs_enc_ua ax_73 (by decide), nI_clamp (by omega)] at hP1
        refine lv_iinc (v := nI (i + 1)) (lv' := [(1, .int (nI (i + 1))), (0, .ref (G.2.2.1 63))]) C.1 C.2.1 di_X6_122 hl (k := 1) rfl (by rw [show Int32.ofInt 1 = nI 1 by decide, nI_add]) (by decide) rfl (fun ls hl => ?_)
        refine lv_goto (tgt := 109) C.1 C.2.1 di_X6_125 (by decide) ?_
        refine ih (i + 1) (hs_w τ 73 i (-4)) H1 locs1 ls (by omega) (by omega) (hf.w (by decide)) (fun k hk => ?_) hP1 hS1 (lv_sub hl [1, 0] rfl)
        by_cases e : k = i
        · subst e; exact w_eq
        · rw [w_at e]; exact h73 k (by omega)
  refine lv_iconst (v := 0) C.1 C.2.1 di_X6_107 (by decide) ?_
  refine lv_istore_n (lv' := [(1, .int 0), (0, .ref (G.2.2.1 63))]) C.1 C.2.1 di_X6_108 rfl hl (by decide) rfl (fun ls hl => ?_)
  refine loop 4 0 hz_s H locs ls rfl (by omega) hs_fr.rf (fun k hk => absurd hk (Nat.not_lt_zero _)) hP hS (lv_sub hl [1, 0] rfl)
def hz_Pc (D : hk_T) (w : va_W) (rav : List Value) (aK aV : Nat → Nat) (sz : Nat) : Array Value → State → Prop :=
  va_Pc rav (fun U => U.heap.size = sz ∧ va_P D.1 vwCl w U.heap ∧ va_K D.1 vwCl (hk_tys D.2.1 D.2.2.1 D.2.2.2) U ∧ va_D (fun _ => True) w ∧ hs_N U ∧ va_AO "HauntSums$Town" U ∧ hz_X aK aV (va_A w sz) U U.heap)
def hz_Qc (D : hk_T) (A : Nat → Prop) (x h : Nat) (a aK aV : Nat → Nat) : Array Value → State → Outcome → State → Prop :=
  va_Qv (fun u : (Nat → Nat) × hs_St => RR u.2) (fun u t => va_P D.1 vwCl (hs_enc (hz_G D x h a u.1 aK aV) u.2) t.heap ∧ va_D A (hs_enc (hz_G D x h a u.1 aK aV) u.2)) A
set_option maxHeartbeats 4000000 in
set_option maxRecDepth 100000 in
theorem ci_X6 {D : hk_T} {x h : Nat} {a aK aV : Nat → Nat} (l : Launch) (sz : Nat) : Met l i_X6.1 (hs_ws i_X6) (hk_rm i_X6 13 832) (hz_Pc D ((h, .inr (6, z_X6)) :: w_X5 D x a) [.ref h] aK aV sz) (hz_Qc D (va_A ((h, .inr (6, z_X6)) :: w_X5 D x a) sz) x h a aK aV) 13 832 (va_A ((h, .inr (6, z_X6)) :: w_X5 D x a) sz) := by
  refine Met.ofW (cc := i_X6.2.1) (maxL := 2) (ret := none) rfl rfl ?_
  intro p e s m args below meth c s₁ B hml hv
  obtain ⟨rfl, hsz, hP, hK, hD0, hN, hO, hX⟩ := hv
  subst hsz
  have hts := atoms_spec (ws := hs_ws i_X6) B.pre
  have hown : s.vm.findClass i_X6.1.cls = some m.cls := findClass_of_methodNamed B.named
  have C : hk_Cx i_X6 p s m ([Value.ref h] : List Value).toArray meth c D (va_A ((h, .inr (6, z_X6)) :: w_X5 D x a) s.heap.size) :=
    ⟨B.exec, B.bytes, B.returns, hml, hown, fun w hw => hts w (List.mem_cons_of_mem _ hw), B.notSynchronized, (name_of_methodNamed B.named B.method).1, hK, hN, hO, fun q h => Or.inr h⟩
  have hl := lv_entry [Value.ref h] (n := 2) (Nat.le_of_ble_eq_true rfl)
  rw [lg_entry_eq]
  have hD := hD0.self (sz := s.heap.size)
  generalize va_A ((h, .inr (6, z_X6)) :: w_X5 D x a) s.heap.size = A at C hX hD ⊢
  generalize (lg_sl ([Value.ref h]) ++ List.replicate (2 - (lg_sl ([Value.ref h])).length) Slot.unset).toArray = ls at hl ⊢
  have hl : lv_has ls 2 [(0, .ref h)] := hl
  have hS : va_S A s.heap s.heap [] := va_S.rf
  refine lv_aload_n C.1 C.2.1 di_X6_0 rfl (lv_at hl 0 rfl) ?_
  refine hk_obj C hl.1 ob_X6 di_X6_1 (Nat.le_of_ble_eq_true rfl) (Nat.le_of_ble_eq_true rfl) ?_
  refine lv_aload_n C.1 C.2.1 di_X6_4 rfl (lv_at hl 0 rfl) ?_
  refine lv_sipush (v := 141) C.1 C.2.1 di_X6_5 (by decide) ?_
  refine hk_newi (N := 141) C hP hD hS (by decide) (by decide) (by decide) (Nat.le_of_ble_eq_true rfl) (Nat.le_of_ble_eq_true rfl) di_X6_8 (fun q0 H hP hD hS => ?_)
  refine hk_putF C hP hD hS fl_X6_7 ff_6_0 rfl rfl rfl (Nat.le_of_ble_eq_true rfl) di_X6_10 (fun H locs hP hD hS => ?_)
  refine lv_aload_n C.1 C.2.1 di_X6_13 rfl (lv_at hl 0 rfl) ?_
  refine lv_bipush (v := 47) C.1 C.2.1 di_X6_14 (by decide) ?_
  refine hk_newi (N := 47) C hP hD hS (by decide) (by decide) (by decide) (Nat.le_of_ble_eq_true rfl) (Nat.le_of_ble_eq_true rfl) di_X6_16 (fun q1 H hP hD hS => ?_)
  refine hk_putF C hP hD hS fl_X6_13 ff_6_1 rfl rfl rfl (Nat.le_of_ble_eq_true rfl) di_X6_18 (fun H locs hP hD hS => ?_)
  refine lv_aload_n C.1 C.2.1 di_X6_21 rfl (lv_at hl 0 rfl) ?_
  refine lv_iconst (v := 2) C.1 C.2.1 di_X6_22 (by decide) ?_
  refine hk_newz (N := 2) C hP hD hS (by decide) (by decide) (by decide) (Nat.le_of_ble_eq_true rfl) (Nat.le_of_ble_eq_true rfl) di_X6_23 (fun q2 H hP hD hS => ?_)
  refine hk_putF C hP hD hS fl_X6_16 ff_6_2 rfl rfl rfl (Nat.le_of_ble_eq_true rfl) di_X6_25 (fun H locs hP hD hS => ?_)
  refine lv_aload_n C.1 C.2.1 di_X6_28 rfl (lv_at hl 0 rfl) ?_
  refine lv_bipush (v := 47) C.1 C.2.1 di_X6_29 (by decide) ?_
  refine hk_newi (N := 47) C hP hD hS (by decide) (by decide) (by decide) (Nat.le_of_ble_eq_true rfl) (Nat.le_of_ble_eq_true rfl) di_X6_31 (fun q3 H hP hD hS => ?_)
  refine hk_putF C hP hD hS fl_X6_20 ff_6_4 rfl rfl rfl (Nat.le_of_ble_eq_true rfl) di_X6_33 (fun H locs hP hD hS => ?_)
  refine lv_aload_n C.1 C.2.1 di_X6_36 rfl (lv_at hl 0 rfl) ?_
  refine lv_iconst (v := 4) C.1 C.2.1 di_X6_37 (by decide) ?_
  refine hk_newi (N := 4) C hP hD hS (by decide) (by decide) (by decide) (Nat.le_of_ble_eq_true rfl) (Nat.le_of_ble_eq_true rfl) di_X6_38 (fun q4 H hP hD hS => ?_)
  refine hk_putF C hP hD hS fl_X6_23 ff_6_7 rfl rfl rfl (Nat.le_of_ble_eq_true rfl) di_X6_40 (fun H locs hP hD hS => ?_)
  refine lv_aload_n C.1 C.2.1 di_X6_43 rfl (lv_at hl 0 rfl) ?_
  refine lv_sipush (v := 160) C.1 C.2.1 di_X6_44 (by decide) ?_
  refine hk_newi (N := 160) C hP hD hS (by decide) (by decide) (by decide) (Nat.le_of_ble_eq_true rfl) (Nat.le_of_ble_eq_true rfl) di_X6_47 (fun q5 H hP hD hS => ?_)
  refine hk_putF C hP hD hS fl_X6_26 ff_6_9 rfl rfl rfl (Nat.le_of_ble_eq_true rfl) di_X6_49 (fun H locs hP hD hS => ?_)
  refine lv_aload_n C.1 C.2.1 di_X6_52 rfl (lv_at hl 0 rfl) ?_
  refine lv_bipush (v := 6) C.1 C.2.1 di_X6_53 (by decide) ?_
  refine hk_newi (N := 6) C hP hD hS (by decide) (by decide) (by decide) (Nat.le_of_ble_eq_true rfl) (Nat.le_of_ble_eq_true rfl) di_X6_55 (fun q6 H hP hD hS => ?_)
  refine hk_putF C hP hD hS fl_X6_29 ff_6_18 rfl rfl rfl (Nat.le_of_ble_eq_true rfl) di_X6_57 (fun H locs hP hD hS => ?_)
  refine lv_aload_n C.1 C.2.1 di_X6_60 rfl (lv_at hl 0 rfl) ?_
  refine lv_bipush (v := 84) C.1 C.2.1 di_X6_61 (by decide) ?_
  refine hk_newi (N := 84) C hP hD hS (by decide) (by decide) (by decide) (Nat.le_of_ble_eq_true rfl) (Nat.le_of_ble_eq_true rfl) di_X6_63 (fun q7 H hP hD hS => ?_)
  refine hk_putF C hP hD hS fl_X6_32 ff_6_22 rfl rfl rfl (Nat.le_of_ble_eq_true rfl) di_X6_65 (fun H locs hP hD hS => ?_)
  refine lv_aload_n C.1 C.2.1 di_X6_68 rfl (lv_at hl 0 rfl) ?_
  refine lv_bipush (v := 126) C.1 C.2.1 di_X6_69 (by decide) ?_
  refine hk_newi (N := 126) C hP hD hS (by decide) (by decide) (by decide) (Nat.le_of_ble_eq_true rfl) (Nat.le_of_ble_eq_true rfl) di_X6_71 (fun q8 H hP hD hS => ?_)
  refine hk_putF C hP hD hS fl_X6_35 ff_6_23 rfl rfl rfl (Nat.le_of_ble_eq_true rfl) di_X6_73 (fun H locs hP hD hS => ?_)
  refine lv_aload_n C.1 C.2.1 di_X6_76 rfl (lv_at hl 0 rfl) ?_
  refine lv_iconst (v := 4) C.1 C.2.1 di_X6_77 (by decide) ?_
  refine hk_newi (N := 4) C hP hD hS (by decide) (by decide) (by decide) (Nat.le_of_ble_eq_true rfl) (Nat.le_of_ble_eq_true rfl) di_X6_78 (fun q9 H hP hD hS => ?_)
  refine hk_putF C hP hD hS fl_X6_38 ff_6_24 rfl rfl rfl (Nat.le_of_ble_eq_true rfl) di_X6_80 (fun H locs hP hD hS => ?_)
  refine lv_aload_n C.1 C.2.1 di_X6_83 rfl (lv_at hl 0 rfl) ?_
  refine lv_iconst (v := 4) C.1 C.2.1 di_X6_84 (by decide) ?_
  refine hk_newi (N := 4) C hP hD hS (by decide) (by decide) (by decide) (Nat.le_of_ble_eq_true rfl) (Nat.le_of_ble_eq_true rfl) di_X6_85 (fun q10 H hP hD hS => ?_)
  refine hk_putF C hP hD hS fl_X6_41 ff_6_25 rfl rfl rfl (Nat.le_of_ble_eq_true rfl) di_X6_87 (fun H locs hP hD hS => ?_)
  refine lv_aload_n C.1 C.2.1 di_X6_90 rfl (lv_at hl 0 rfl) ?_
  refine lv_sipush (v := 160) C.1 C.2.1 di_X6_91 (by decide) ?_
  refine hk_newi (N := 160) C hP hD hS (by decide) (by decide) (by decide) (Nat.le_of_ble_eq_true rfl) (Nat.le_of_ble_eq_true rfl) di_X6_94 (fun q11 H hP hD hS => ?_)
  refine hk_putF C hP hD hS fl_X6_44 ff_6_26 rfl rfl rfl (Nat.le_of_ble_eq_true rfl) di_X6_96 (fun H locs hP hD hS => ?_)
  refine lv_aload_n C.1 C.2.1 di_X6_99 rfl (lv_at hl 0 rfl) ?_
  refine lv_bipush (v := 47) C.1 C.2.1 di_X6_100 (by decide) ?_
  refine hk_newi (N := 47) C hP hD hS (by decide) (by decide) (by decide) (Nat.le_of_ble_eq_true rfl) (Nat.le_of_ble_eq_true rfl) di_X6_102 (fun q12 H hP hD hS => ?_)
  refine hk_putF C hP hD hS fl_X6_47 ff_6_28 rfl rfl rfl (Nat.le_of_ble_eq_true rfl) di_X6_104 (fun H locs hP hD hS => ?_)
  obtain ⟨hP9, hD9⟩ := hz_fin (aK := aK) (aV := aV) (b := fun k => [q0, q1, q2, q3, q4, q5, q6, q7, q8, q9, q10, q11, q12].getD k 0) hP hD
  refine hz_tail (G := hz_G D x h a (fun k => [q0, q1, q2, q3, q4, q5, q6, q7, q8, q9, q10, q11, q12].getD k 0) aK aV) C (hz_XG hX) (fun σ => hs_D hD9) hP9 hS hl (fun τ H locs ls hR hP2 hS2 => ?_)
  exact W.vret C.1 C.2.1 C.2.2.1 (fun t ht hW => ⟨⟨(fun k => [q0, q1, q2, q3, q4, q5, q6, q7, q8, q9, q10, q11, q12].getD k 0, τ), rfl, hR, by rw [ht]; exact hP2, hs_D hD9⟩, hS2.F ht⟩) hS2.2.2 di_X6_136 C.2.2.2.2.2.2.1
