/-! THE LAW'S LOOP -/
def hl_Cx (p : Program) (s : State) (m : MethodId) (meth : Method) (c : Code) (G : hs_G) (b L : Nat) (xs : Nat → Int32) : Prop :=
  lw_At p s m meth c b L xs ∧ va_K G.1 vwCl (hs_tys G) s ∧ hs_N s ∧ hs_X G (fun q => s.heap.size ≤ q) s s.heap ∧ ∀ σ, va_D (fun q => s.heap.size ≤ q) (hs_enc G σ)
section HL
variable {p : Program} {l : Launch} {e : Env} {s : State} {m : MethodId} {below : List Frame} {meth : Method} {c : Code} {G : hs_G} {b L q : Nat} {xs : Nat → Int32} {σ : hs_St} {H : Heap} {locs : List Loc} {ls : Array Slot} {rest As : List Value} {pc idx n k ci : Nat} {Q : State → Prop} {cells slots : Nat}
theorem hl_u (C : hl_Cx p s m meth c G b L xs) {w : Cond} (h : w ∈ hs_U) : w.before #[Value.ref b] s = true := C.1.2.2.2.2.2.1 w (List.mem_filter.mp h).1
theorem hl_pre (C : hl_Cx p s m meth c G b L xs) (hP : va_P G.1 vwCl (hs_enc G σ) H) (hS : va_S (fun q => s.heap.size ≤ q) s.heap H locs) (av : List Value) (U : State) (hU : U.heap = H) (hW : s.WarmedH U.vm) : hs_Pc G σ av H.size (av.map (hs_tr G.2.2.1)).toArray U := by
  obtain ⟨-, hK, hN, hX, hD⟩ := C
  have hsub : ∀ q, va_A (hs_enc G σ) H.size q → s.heap.size ≤ q := by
    intro q h
    rcases h with ⟨k, e, h⟩ | h
    · exact (hD σ).2 k (q, e) h
    · exact Nat.le_trans hS.1 h
  refine ⟨rfl, by rw [hU], by rw [hU]; exact hP, va_K.moved hW.alike hK, (hD σ).weaken (fun _ _ _ _ => trivial), hN.warm hW, ?_⟩
  rw [hU]
  exact ((hX.kept (fun a h1 h2 => hS.2.1 a h1 h2)).narrow hsub).warm hW
theorem hl_sub (C : hl_Cx p s m meth c G b L xs) (hS : va_S (fun q => s.heap.size ≤ q) s.heap H locs) : ∀ q, va_A (hs_enc G σ) H.size q → s.heap.size ≤ q := by
  intro q h
  rcases h with ⟨k, e, h⟩ | h
  · exact (C.2.2.2.2 σ).2 k (q, e) h
  · exact Nat.le_trans hS.1 h
theorem hl_goodIn (y : hs_M) (h : Cond.code y.1 y.2.1 y.2.2.1 y.2.2.2.1 ∈ hs_U) : GoodIn hs_U (hs_ws y) := by
  intro w hw
  have h1 : w ∈ hs_U := by
    rcases List.mem_cons.mp hw with h2 | h2
    · rw [h2]; exact h
    · exact h2
  exact ⟨h1, hs_good w h1⟩
theorem hl_recv (hK : va_K G.1 vwCl (hs_tys G) s) (hP : va_P G.1 vwCl (hs_enc G σ) H) {fd : List (Option (Option Nat))} (hk : hs_shape[k]? = some (.inr (ci, fd))) {Cn : String} (hc : (vwCl[ci]?.map (·.1)) = some Cn) : ∃ cell : Cell, H[G.2.2.1 k]? = some cell ∧ cell.vm.isStatics = false ∧ s.vm.findClass Cn = some cell.cls := by
  cases hq : vwCl[ci]? with
  | none => rw [hq] at hc; cases hc
  | some q =>
    rw [hq] at hc
    obtain ⟨cell, h1, h2, h3⟩ := va_recv hK hP hq (hs_enc_at hk)
    cases hc
    exact ⟨cell, h1, h2, h3⟩
theorem hl_callV {y : hs_M} {fd : List (Option (Option Nat))} (C : hl_Cx p s m meth c G b L xs) (hP : va_P G.1 vwCl (hs_enc G σ) H) (hS : va_S (fun q => s.heap.size ≤ q) s.heap H locs) (hsz : ls.size = 4) (hd : decode code pc = .ok (.invokevirtual idx, 3)) (hl : Cond.methodLink R_law idx y.1 ∈ hs_U) (hm : hs_CM y n) (hv : hs_CV y) (hn : As.length = n) (hf : y.2.2.2.2.1 + 1 ≤ 12 ∧ 8 + (y.2.2.1 + 11) + y.2.2.2.2.2 ≤ 426) (hr : (rest.map fun v => v.category).sum ≤ 8) (hk : hs_shape[k]? = some (.inr (ci, fd))) (hc : (vwCl[ci]?.map (·.1)) = some y.1.cls) (hAs : As.map (hs_tr G.2.2.1) = As)
    (h : hs_Ok y (.ref k :: As) σ (fun r τ => ∀ (H1 : Heap) (locs1 : List Loc), va_P G.1 vwCl (hs_enc G τ) H1 → va_S (fun q => s.heap.size ≤ q) s.heap H1 locs1 → W p l e room_1 s m #[Value.ref b] below meth c H1 locs1 77 1612 Q (F0 m (pc + 3) ls ((r.map (hs_tr G.2.2.1)).toList ++ rest)))) : W p l e room_1 s m #[Value.ref b] below meth c H locs 77 1612 Q (F0 m pc ls (As.reverse ++ .ref (G.2.2.1 k) :: rest)) := by
  have hts : ∀ w ∈ hs_U, w.before #[Value.ref b] s = true := fun w hw => hl_u C hw
  have hCB : CallB room_1 s #[Value.ref b] R_law idx y.1 y.2.1 y.2.2.1 y.2.2.2.1 (hs_ws y) (hs_rm y) 0 0 n := callB_of n hts (hl_goodIn y hm.1) rfl rfl rfl (hl_u C hm.2.1) (hl_u C hl) hm.2.2 hf
  have hCW : CallW room_1 s #[Value.ref b] R_law y.1.cls idx y.1 y.2.1 y.2.2.1 y.2.2.2.1 (hs_ws y) (hs_rm y) 0 0 n := ⟨hCB, hl_u C hv.1, hl_u C hv.2⟩
  have hpre := fun U hU hW => hl_pre C hP hS (.ref k :: As) U hU hW
  simp only [List.map_cons, hAs, hs_tr] at hpre
  refine hw_call (G := G) (A := fun q => s.heap.size ≤ q) (va_runV (As := As) (rest := rest) ⟨C.1.1, C.1.2.1, C.1.2.2.2.1, C.1.2.2.2.2.1, hts⟩ (h l G H.size) hCW ⟨hs_blind, hl_recv C.2.1 hP hk hc, hpre⟩ rfl hn hsz (by simp) (lv_room hr) hd ⟨Nat.le_of_ble_eq_true rfl, Nat.le_of_ble_eq_true rfl⟩) hS (hl_sub C hS) (hl_sub C hS) (fun r τ H1 locs1 hK' hP1 hS1 => ?_)
  exact hK' H1 locs1 hP1 hS1
theorem hl_arg {j : Int} {jn : Nat} (C : hl_Cx p s m meth c G b L xs) (hS : va_S (fun q => s.heap.size ≤ q) s.heap H locs) (hl : lv_has ls 4 [(0, .ref b), (1, .ref (G.2.2.1 0)), (2, .ref (G.2.2.1 63)), (3, .int (nI q))]) (hL : L ≤ 320) (hq : q + jn < L) (hj : Int32.ofInt j = nI jn) (h0 : decode code pc = .ok (.aload_n 0, 1)) (h1 : decode code (pc + 1) = .ok (.iload_n 3, 1)) (h2 : decode code (pc + 1 + 1) = .ok (.iconst j, 1)) (h3 : decode code (pc + 1 + 1 + 1) = .ok (.iadd, 1)) (h4 : decode code (pc + 1 + 1 + 1 + 1) = .ok (.iaload, 1))
    (kk : W p l e room_1 s m #[Value.ref b] below meth c H locs cells slots Q (F0 m (pc + 1 + 1 + 1 + 1 + 1) ls (.int (xs (q + jn)) :: rest))) : W p l e room_1 s m #[Value.ref b] below meth c H locs cells slots Q (F0 m pc ls rest) := by
  obtain ⟨⟨hx, hb, hr, hml, hown, hts, hX, hbl, hlocks, hgv⟩, -⟩ := C
  have hbA : ¬ (fun q : Nat => s.heap.size ≤ q) b := Nat.not_le.mpr hbl
  refine lv_aload_n hx hb h0 rfl (lv_at hl 0 rfl) ?_
  refine lv_iload_n hx hb h1 rfl (lv_at hl 3 rfl) ?_
  refine lv_iconst (v := nI jn) hx hb h2 hj ?_
  refine lv_iadd hx hb h3 ?_
  rw [nI_add]
  refine va_sld hx hb hX hbl hbA hS (vp_in_nI hq (by omega)) h4 ?_
  rw [nI_clamp (by omega)]
  exact kk
end HL
section HLC
variable {p : Program} {l : Launch} {e : Env} {s : State} {m : MethodId} {below : List Frame} {meth : Method} {c : Code} {G : hs_G} {b L q : Nat} {xs : Nat → Int32}
/-- behind a case: the loop's step -/
def hl_k (p : Program) (l : Launch) (e : Env) (s : State) (m : MethodId) (below : List Frame) (meth : Method) (c : Code) (G : hs_G) (b q pc : Nat) : Prop := ∀ (τ : hs_St) (H : Heap) (locs : List Loc) (ls : Array Slot), RR τ → va_P G.1 vwCl (hs_enc G τ) H → va_S (fun q => s.heap.size ≤ q) s.heap H locs → lv_has ls 4 [(0, .ref b), (1, .ref (G.2.2.1 0)), (2, .ref (G.2.2.1 63)), (3, .int (nI q))] → W p l e room_1 s m #[Value.ref b] below meth c H locs 77 1612 (lw_Z below #[Value.ref b] s) (F0 m pc ls [])
def tab_L_feed : List (Nat × Instr × Nat) := [(192, .aload_n 1, 1), (193, .aload_n 0, 1), (194, .iload_n 3, 1), (195, .iconst 1, 1), (196, .iadd, 1), (197, .iaload, 1), (198, .invokevirtual 13, 3), (201, .aload_n 2, 1), (202, .aload_n 0, 1), (203, .iload_n 3, 1), (204, .iconst 1, 1), (205, .iadd, 1), (206, .iaload, 1), (207, .invokevirtual 17, 3), (210, .if_icmp .eq 1162, 3), (213, .iconst 0, 1), (214, .ireturn, 1)]
theorem tb_L_feed : ∀ q ∈ tab_L_feed, decode code q.1 = .ok q.2 := by decide +kernel
theorem ml_L_13 : Cond.methodLink R_law 13 m_X5_feed.1 ∈ hs_U := hs_t2 6 (by decide +kernel) rfl
theorem ml_L_17 : Cond.methodLink R_law 17 m_X6_feed.1 ∈ hs_U := hs_t4 114 (by decide +kernel) rfl
set_option maxHeartbeats 1000000 in
theorem lc_feed (C : hl_Cx p s m meth c G b L xs) (hL : L ≤ 320) (hq : q + 5 ≤ L) (hk : hl_k p l e s m below meth c G b q 1372) : hl_k p l e s m below meth c G b q 192 := by
  intro σ H locs ls hR hP hS hl
  obtain ⟨hx, hb, -⟩ := id C.1
  refine lv_aload_n hx hb (hs_tb tb_L_feed 0 rfl) rfl (lv_at hl 1 rfl) ?_
  refine hl_arg (j := 1) (jn := 1) C hS hl hL (by omega) rfl (hs_tb tb_L_feed 1 rfl) (hs_tb tb_L_feed 2 rfl) (hs_tb tb_L_feed 3 rfl) (hs_tb tb_L_feed 4 rfl) (hs_tb tb_L_feed 5 rfl) ?_
  refine hl_callV (y := m_X5_feed) (As := [.int (xs (q + 1))]) (rest := []) (k := 0) C hP hS hl.1 (hs_tb tb_L_feed 6 rfl) ml_L_13 cm_X5_feed cv_X5_feed rfl ⟨Nat.le_of_ble_eq_true rfl, Nat.le_of_ble_eq_true rfl⟩ (Nat.le_of_ble_eq_true rfl) rfl rfl rfl (OkI.go (pr_feed (K := fun q1 q2 τ => ∀ (H1 : Heap) (locs1 : List Loc), va_P G.1 vwCl (hs_enc G τ) H1 → va_S (fun q => s.heap.size ≤ q) s.heap H1 locs1 → W p l e room_1 s m #[Value.ref b] below meth c H1 locs1 77 1612 (lw_Z below #[Value.ref b] s) (F0 m 210 ls [.int q2, .int q1])) hR (fun q1 τ hR1 H1 locs1 hP1 hS1 => ?_)) (fun q1 σ2 h2 H1 locs1 hP1 hS1 => ?_))
  · exact lv_icmp_eq (tgt := 1372) hx hb (hs_tb tb_L_feed 14 rfl) rfl (fun _ => hk τ H1 locs1 ls hR1 hP1 hS1 hl) (fun h => absurd rfl h)
  · refine lv_aload_n (rest := [.int q1]) hx hb (hs_tb tb_L_feed 7 rfl) rfl (lv_at hl 2 rfl) ?_
    refine hl_arg (j := 1) (jn := 1) C hS1 hl hL (by omega) rfl (hs_tb tb_L_feed 8 rfl) (hs_tb tb_L_feed 9 rfl) (hs_tb tb_L_feed 10 rfl) (hs_tb tb_L_feed 11 rfl) (hs_tb tb_L_feed 12 rfl) ?_
    exact hl_callV (y := m_X6_feed) (As := [.int (xs (q + 1))]) (rest := [.int q1]) (k := 63) C hP1 hS1 hl.1 (hs_tb tb_L_feed 13 rfl) ml_L_17 cm_X6_feed cv_X6_feed rfl ⟨Nat.le_of_ble_eq_true rfl, Nat.le_of_ble_eq_true rfl⟩ (Nat.le_of_ble_eq_true rfl) rfl rfl rfl (OkI.go h2 (fun q2 τ h3 H2 locs2 hP2 hS2 => h3 H2 locs2 hP2 hS2))
def tab_L_end : List (Nat × Instr × Nat) := [(215, .aload_n 1, 1), (216, .aload_n 0, 1), (217, .iload_n 3, 1), (218, .iconst 1, 1), (219, .iadd, 1), (220, .iaload, 1), (221, .invokevirtual 18, 3), (224, .aload_n 2, 1), (225, .aload_n 0, 1), (226, .iload_n 3, 1), (227, .iconst 1, 1), (228, .iadd, 1), (229, .iaload, 1), (230, .invokevirtual 21, 3), (233, .if_icmp .eq 1139, 3), (236, .iconst 0, 1), (237, .ireturn, 1)]
theorem tb_L_end : ∀ q ∈ tab_L_end, decode code q.1 = .ok q.2 := by decide +kernel
theorem ml_L_18 : Cond.methodLink R_law 18 m_X5_end.1 ∈ hs_U := hs_t2 13 (by decide +kernel) rfl
theorem ml_L_21 : Cond.methodLink R_law 21 m_X6_end.1 ∈ hs_U := hs_t4 122 (by decide +kernel) rfl
set_option maxHeartbeats 1000000 in
theorem lc_end (C : hl_Cx p s m meth c G b L xs) (hL : L ≤ 320) (hq : q + 5 ≤ L) (hk : hl_k p l e s m below meth c G b q 1372) : hl_k p l e s m below meth c G b q 215 := by
  intro σ H locs ls hR hP hS hl
  obtain ⟨hx, hb, -⟩ := id C.1
  refine lv_aload_n hx hb (hs_tb tb_L_end 0 rfl) rfl (lv_at hl 1 rfl) ?_
  refine hl_arg (j := 1) (jn := 1) C hS hl hL (by omega) rfl (hs_tb tb_L_end 1 rfl) (hs_tb tb_L_end 2 rfl) (hs_tb tb_L_end 3 rfl) (hs_tb tb_L_end 4 rfl) (hs_tb tb_L_end 5 rfl) ?_
  refine hl_callV (y := m_X5_end) (As := [.int (xs (q + 1))]) (rest := []) (k := 0) C hP hS hl.1 (hs_tb tb_L_end 6 rfl) ml_L_18 cm_X5_end cv_X5_end rfl ⟨Nat.le_of_ble_eq_true rfl, Nat.le_of_ble_eq_true rfl⟩ (Nat.le_of_ble_eq_true rfl) rfl rfl rfl (OkI.go (pr_end (K := fun q1 q2 τ => ∀ (H1 : Heap) (locs1 : List Loc), va_P G.1 vwCl (hs_enc G τ) H1 → va_S (fun q => s.heap.size ≤ q) s.heap H1 locs1 → W p l e room_1 s m #[Value.ref b] below meth c H1 locs1 77 1612 (lw_Z below #[Value.ref b] s) (F0 m 233 ls [.int q2, .int q1])) hR (fun q1 τ hR1 H1 locs1 hP1 hS1 => ?_)) (fun q1 σ2 h2 H1 locs1 hP1 hS1 => ?_))
  · exact lv_icmp_eq (tgt := 1372) hx hb (hs_tb tb_L_end 14 rfl) rfl (fun _ => hk τ H1 locs1 ls hR1 hP1 hS1 hl) (fun h => absurd rfl h)
  · refine lv_aload_n (rest := [.int q1]) hx hb (hs_tb tb_L_end 7 rfl) rfl (lv_at hl 2 rfl) ?_
    refine hl_arg (j := 1) (jn := 1) C hS1 hl hL (by omega) rfl (hs_tb tb_L_end 8 rfl) (hs_tb tb_L_end 9 rfl) (hs_tb tb_L_end 10 rfl) (hs_tb tb_L_end 11 rfl) (hs_tb tb_L_end 12 rfl) ?_
    exact hl_callV (y := m_X6_end) (As := [.int (xs (q + 1))]) (rest := [.int q1]) (k := 63) C hP1 hS1 hl.1 (hs_tb tb_L_end 13 rfl) ml_L_21 cm_X6_end cv_X6_end rfl ⟨Nat.le_of_ble_eq_true rfl, Nat.le_of_ble_eq_true rfl⟩ (Nat.le_of_ble_eq_true rfl) rfl rfl rfl (OkI.go h2 (fun q2 τ h3 H2 locs2 hP2 hS2 => h3 H2 locs2 hP2 hS2))
def tab_L_text : List (Nat × Instr × Nat) := [(238, .aload_n 1, 1), (239, .invokevirtual 22, 3), (242, .aload_n 2, 1), (243, .invokevirtual 26, 3), (246, .if_icmp .eq 1126, 3), (249, .iconst 0, 1), (250, .ireturn, 1)]
theorem tb_L_text : ∀ q ∈ tab_L_text, decode code q.1 = .ok q.2 := by decide +kernel
theorem ml_L_22 : Cond.methodLink R_law 22 m_X5_text.1 ∈ hs_U := hs_t2 17 (by decide +kernel) rfl
theorem ml_L_26 : Cond.methodLink R_law 26 m_X6_text.1 ∈ hs_U := hs_t4 126 (by decide +kernel) rfl
set_option maxHeartbeats 1000000 in
theorem lc_text (C : hl_Cx p s m meth c G b L xs) (hL : L ≤ 320) (hq : q + 5 ≤ L) (hk : hl_k p l e s m below meth c G b q 1372) : hl_k p l e s m below meth c G b q 238 := by
  intro σ H locs ls hR hP hS hl
  obtain ⟨hx, hb, -⟩ := id C.1
  refine lv_aload_n hx hb (hs_tb tb_L_text 0 rfl) rfl (lv_at hl 1 rfl) ?_
  refine hl_callV (y := m_X5_text) (As := []) (rest := []) (k := 0) C hP hS hl.1 (hs_tb tb_L_text 1 rfl) ml_L_22 cm_X5_text cv_X5_text rfl ⟨Nat.le_of_ble_eq_true rfl, Nat.le_of_ble_eq_true rfl⟩ (Nat.le_of_ble_eq_true rfl) rfl rfl rfl (OkI.go (pr_text (K := fun q1 q2 τ => ∀ (H1 : Heap) (locs1 : List Loc), va_P G.1 vwCl (hs_enc G τ) H1 → va_S (fun q => s.heap.size ≤ q) s.heap H1 locs1 → W p l e room_1 s m #[Value.ref b] below meth c H1 locs1 77 1612 (lw_Z below #[Value.ref b] s) (F0 m 246 ls [.int q2, .int q1])) hR (fun q1 τ hR1 H1 locs1 hP1 hS1 => ?_)) (fun q1 σ2 h2 H1 locs1 hP1 hS1 => ?_))
  · exact lv_icmp_eq (tgt := 1372) hx hb (hs_tb tb_L_text 4 rfl) rfl (fun _ => hk τ H1 locs1 ls hR1 hP1 hS1 hl) (fun h => absurd rfl h)
  · refine lv_aload_n (rest := [.int q1]) hx hb (hs_tb tb_L_text 2 rfl) rfl (lv_at hl 2 rfl) ?_
    exact hl_callV (y := m_X6_text) (As := []) (rest := [.int q1]) (k := 63) C hP1 hS1 hl.1 (hs_tb tb_L_text 3 rfl) ml_L_26 cm_X6_text cv_X6_text rfl ⟨Nat.le_of_ble_eq_true rfl, Nat.le_of_ble_eq_true rfl⟩ (Nat.le_of_ble_eq_true rfl) rfl rfl rfl (OkI.go h2 (fun q2 τ h3 H2 locs2 hP2 hS2 => h3 H2 locs2 hP2 hS2))
def tab_L_fault : List (Nat × Instr × Nat) := [(251, .aload_n 1, 1), (252, .invokevirtual 27, 3), (255, .aload_n 2, 1), (256, .invokevirtual 30, 3), (259, .if_icmp .eq 1113, 3), (262, .iconst 0, 1), (263, .ireturn, 1)]
theorem tb_L_fault : ∀ q ∈ tab_L_fault, decode code q.1 = .ok q.2 := by decide +kernel
theorem ml_L_27 : Cond.methodLink R_law 27 m_X5_fault.1 ∈ hs_U := hs_t2 153 (by decide +kernel) rfl
theorem ml_L_30 : Cond.methodLink R_law 30 m_X6_fault.1 ∈ hs_U := hs_t4 174 (by decide +kernel) rfl
set_option maxHeartbeats 1000000 in
theorem lc_fault (C : hl_Cx p s m meth c G b L xs) (hL : L ≤ 320) (hq : q + 5 ≤ L) (hk : hl_k p l e s m below meth c G b q 1372) : hl_k p l e s m below meth c G b q 251 := by
  intro σ H locs ls hR hP hS hl
  obtain ⟨hx, hb, -⟩ := id C.1
  refine lv_aload_n hx hb (hs_tb tb_L_fault 0 rfl) rfl (lv_at hl 1 rfl) ?_
  refine hl_callV (y := m_X5_fault) (As := []) (rest := []) (k := 0) C hP hS hl.1 (hs_tb tb_L_fault 1 rfl) ml_L_27 cm_X5_fault cv_X5_fault rfl ⟨Nat.le_of_ble_eq_true rfl, Nat.le_of_ble_eq_true rfl⟩ (Nat.le_of_ble_eq_true rfl) rfl rfl rfl (OkI.go (pr_fault (K := fun q1 q2 τ => ∀ (H1 : Heap) (locs1 : List Loc), va_P G.1 vwCl (hs_enc G τ) H1 → va_S (fun q => s.heap.size ≤ q) s.heap H1 locs1 → W p l e room_1 s m #[Value.ref b] below meth c H1 locs1 77 1612 (lw_Z below #[Value.ref b] s) (F0 m 259 ls [.int q2, .int q1])) hR (fun q1 τ hR1 H1 locs1 hP1 hS1 => ?_)) (fun q1 σ2 h2 H1 locs1 hP1 hS1 => ?_))
  · exact lv_icmp_eq (tgt := 1372) hx hb (hs_tb tb_L_fault 4 rfl) rfl (fun _ => hk τ H1 locs1 ls hR1 hP1 hS1 hl) (fun h => absurd rfl h)
  · refine lv_aload_n (rest := [.int q1]) hx hb (hs_tb tb_L_fault 2 rfl) rfl (lv_at hl 2 rfl) ?_
    exact hl_callV (y := m_X6_fault) (As := []) (rest := [.int q1]) (k := 63) C hP1 hS1 hl.1 (hs_tb tb_L_fault 3 rfl) ml_L_30 cm_X6_fault cv_X6_fault rfl ⟨Nat.le_of_ble_eq_true rfl, Nat.le_of_ble_eq_true rfl⟩ (Nat.le_of_ble_eq_true rfl) rfl rfl rfl (OkI.go h2 (fun q2 τ h3 H2 locs2 hP2 hS2 => h3 H2 locs2 hP2 hS2))
def tab_L_rule : List (Nat × Instr × Nat) := [(264, .aload_n 1, 1), (265, .aload_n 0, 1), (266, .iload_n 3, 1), (267, .iconst 1, 1), (268, .iadd, 1), (269, .iaload, 1), (270, .invokevirtual 31, 3), (273, .aload_n 2, 1), (274, .aload_n 0, 1), (275, .iload_n 3, 1), (276, .iconst 1, 1), (277, .iadd, 1), (278, .iaload, 1), (279, .invokevirtual 34, 3), (282, .if_icmp .eq 1090, 3), (285, .iconst 0, 1), (286, .ireturn, 1)]
theorem tb_L_rule : ∀ q ∈ tab_L_rule, decode code q.1 = .ok q.2 := by decide +kernel
theorem ml_L_31 : Cond.methodLink R_law 31 m_X5_rule.1 ∈ hs_U := hs_t2 157 (by decide +kernel) rfl
theorem ml_L_34 : Cond.methodLink R_law 34 m_X6_rule.1 ∈ hs_U := hs_t4 178 (by decide +kernel) rfl
set_option maxHeartbeats 1000000 in
theorem lc_rule (C : hl_Cx p s m meth c G b L xs) (hL : L ≤ 320) (hq : q + 5 ≤ L) (hk : hl_k p l e s m below meth c G b q 1372) : hl_k p l e s m below meth c G b q 264 := by
  intro σ H locs ls hR hP hS hl
  obtain ⟨hx, hb, -⟩ := id C.1
  refine lv_aload_n hx hb (hs_tb tb_L_rule 0 rfl) rfl (lv_at hl 1 rfl) ?_
  refine hl_arg (j := 1) (jn := 1) C hS hl hL (by omega) rfl (hs_tb tb_L_rule 1 rfl) (hs_tb tb_L_rule 2 rfl) (hs_tb tb_L_rule 3 rfl) (hs_tb tb_L_rule 4 rfl) (hs_tb tb_L_rule 5 rfl) ?_
  refine hl_callV (y := m_X5_rule) (As := [.int (xs (q + 1))]) (rest := []) (k := 0) C hP hS hl.1 (hs_tb tb_L_rule 6 rfl) ml_L_31 cm_X5_rule cv_X5_rule rfl ⟨Nat.le_of_ble_eq_true rfl, Nat.le_of_ble_eq_true rfl⟩ (Nat.le_of_ble_eq_true rfl) rfl rfl rfl (OkI.go (pr_rule (K := fun q1 q2 τ => ∀ (H1 : Heap) (locs1 : List Loc), va_P G.1 vwCl (hs_enc G τ) H1 → va_S (fun q => s.heap.size ≤ q) s.heap H1 locs1 → W p l e room_1 s m #[Value.ref b] below meth c H1 locs1 77 1612 (lw_Z below #[Value.ref b] s) (F0 m 282 ls [.int q2, .int q1])) hR (fun q1 τ hR1 H1 locs1 hP1 hS1 => ?_)) (fun q1 σ2 h2 H1 locs1 hP1 hS1 => ?_))
  · exact lv_icmp_eq (tgt := 1372) hx hb (hs_tb tb_L_rule 14 rfl) rfl (fun _ => hk τ H1 locs1 ls hR1 hP1 hS1 hl) (fun h => absurd rfl h)
  · refine lv_aload_n (rest := [.int q1]) hx hb (hs_tb tb_L_rule 7 rfl) rfl (lv_at hl 2 rfl) ?_
    refine hl_arg (j := 1) (jn := 1) C hS1 hl hL (by omega) rfl (hs_tb tb_L_rule 8 rfl) (hs_tb tb_L_rule 9 rfl) (hs_tb tb_L_rule 10 rfl) (hs_tb tb_L_rule 11 rfl) (hs_tb tb_L_rule 12 rfl) ?_
    exact hl_callV (y := m_X6_rule) (As := [.int (xs (q + 1))]) (rest := [.int q1]) (k := 63) C hP1 hS1 hl.1 (hs_tb tb_L_rule 13 rfl) ml_L_34 cm_X6_rule cv_X6_rule rfl ⟨Nat.le_of_ble_eq_true rfl, Nat.le_of_ble_eq_true rfl⟩ (Nat.le_of_ble_eq_true rfl) rfl rfl rfl (OkI.go h2 (fun q2 τ h3 H2 locs2 hP2 hS2 => h3 H2 locs2 hP2 hS2))
def tab_L_ghost : List (Nat × Instr × Nat) := [(287, .aload_n 1, 1), (288, .aload_n 0, 1), (289, .iload_n 3, 1), (290, .iconst 1, 1), (291, .iadd, 1), (292, .iaload, 1), (293, .aload_n 0, 1), (294, .iload_n 3, 1), (295, .iconst 2, 1), (296, .iadd, 1), (297, .iaload, 1), (298, .invokevirtual 35, 3), (301, .aload_n 2, 1), (302, .aload_n 0, 1), (303, .iload_n 3, 1), (304, .iconst 1, 1), (305, .iadd, 1), (306, .iaload, 1), (307, .aload_n 0, 1), (308, .iload_n 3, 1), (309, .iconst 2, 1), (310, .iadd, 1), (311, .iaload, 1), (312, .invokevirtual 39, 3), (315, .if_icmp .eq 1057, 3), (318, .iconst 0, 1), (319, .ireturn, 1)]
theorem tb_L_ghost : ∀ q ∈ tab_L_ghost, decode code q.1 = .ok q.2 := by decide +kernel
theorem ml_L_35 : Cond.methodLink R_law 35 m_X5_ghost.1 ∈ hs_U := hs_t2 208 (by decide +kernel) rfl
theorem ml_L_39 : Cond.methodLink R_law 39 m_X6_ghost.1 ∈ hs_U := hs_t4 220 (by decide +kernel) rfl
set_option maxHeartbeats 1000000 in
theorem lc_ghost (C : hl_Cx p s m meth c G b L xs) (hL : L ≤ 320) (hq : q + 5 ≤ L) (hk : hl_k p l e s m below meth c G b q 1372) : hl_k p l e s m below meth c G b q 287 := by
  intro σ H locs ls hR hP hS hl
  obtain ⟨hx, hb, -⟩ := id C.1
  refine lv_aload_n hx hb (hs_tb tb_L_ghost 0 rfl) rfl (lv_at hl 1 rfl) ?_
  refine hl_arg (j := 1) (jn := 1) C hS hl hL (by omega) rfl (hs_tb tb_L_ghost 1 rfl) (hs_tb tb_L_ghost 2 rfl) (hs_tb tb_L_ghost 3 rfl) (hs_tb tb_L_ghost 4 rfl) (hs_tb tb_L_ghost 5 rfl) ?_
  refine hl_arg (j := 2) (jn := 2) C hS hl hL (by omega) rfl (hs_tb tb_L_ghost 6 rfl) (hs_tb tb_L_ghost 7 rfl) (hs_tb tb_L_ghost 8 rfl) (hs_tb tb_L_ghost 9 rfl) (hs_tb tb_L_ghost 10 rfl) ?_
  refine hl_callV (y := m_X5_ghost) (As := [.int (xs (q + 1)), .int (xs (q + 2))]) (rest := []) (k := 0) C hP hS hl.1 (hs_tb tb_L_ghost 11 rfl) ml_L_35 cm_X5_ghost cv_X5_ghost rfl ⟨Nat.le_of_ble_eq_true rfl, Nat.le_of_ble_eq_true rfl⟩ (Nat.le_of_ble_eq_true rfl) rfl rfl rfl (OkI.go (pr_ghost (K := fun q1 q2 τ => ∀ (H1 : Heap) (locs1 : List Loc), va_P G.1 vwCl (hs_enc G τ) H1 → va_S (fun q => s.heap.size ≤ q) s.heap H1 locs1 → W p l e room_1 s m #[Value.ref b] below meth c H1 locs1 77 1612 (lw_Z below #[Value.ref b] s) (F0 m 315 ls [.int q2, .int q1])) hR (fun q1 τ hR1 H1 locs1 hP1 hS1 => ?_)) (fun q1 σ2 h2 H1 locs1 hP1 hS1 => ?_))
  · exact lv_icmp_eq (tgt := 1372) hx hb (hs_tb tb_L_ghost 24 rfl) rfl (fun _ => hk τ H1 locs1 ls hR1 hP1 hS1 hl) (fun h => absurd rfl h)
  · refine lv_aload_n (rest := [.int q1]) hx hb (hs_tb tb_L_ghost 12 rfl) rfl (lv_at hl 2 rfl) ?_
    refine hl_arg (j := 1) (jn := 1) C hS1 hl hL (by omega) rfl (hs_tb tb_L_ghost 13 rfl) (hs_tb tb_L_ghost 14 rfl) (hs_tb tb_L_ghost 15 rfl) (hs_tb tb_L_ghost 16 rfl) (hs_tb tb_L_ghost 17 rfl) ?_
    refine hl_arg (j := 2) (jn := 2) C hS1 hl hL (by omega) rfl (hs_tb tb_L_ghost 18 rfl) (hs_tb tb_L_ghost 19 rfl) (hs_tb tb_L_ghost 20 rfl) (hs_tb tb_L_ghost 21 rfl) (hs_tb tb_L_ghost 22 rfl) ?_
    exact hl_callV (y := m_X6_ghost) (As := [.int (xs (q + 1)), .int (xs (q + 2))]) (rest := [.int q1]) (k := 63) C hP1 hS1 hl.1 (hs_tb tb_L_ghost 23 rfl) ml_L_39 cm_X6_ghost cv_X6_ghost rfl ⟨Nat.le_of_ble_eq_true rfl, Nat.le_of_ble_eq_true rfl⟩ (Nat.le_of_ble_eq_true rfl) rfl rfl rfl (OkI.go h2 (fun q2 τ h3 H2 locs2 hP2 hS2 => h3 H2 locs2 hP2 hS2))
def tab_L_clerk : List (Nat × Instr × Nat) := [(320, .aload_n 1, 1), (321, .aload_n 0, 1), (322, .iload_n 3, 1), (323, .iconst 1, 1), (324, .iadd, 1), (325, .iaload, 1), (326, .aload_n 0, 1), (327, .iload_n 3, 1), (328, .iconst 2, 1), (329, .iadd, 1), (330, .iaload, 1), (331, .invokevirtual 40, 3), (334, .aload_n 2, 1), (335, .aload_n 0, 1), (336, .iload_n 3, 1), (337, .iconst 1, 1), (338, .iadd, 1), (339, .iaload, 1), (340, .aload_n 0, 1), (341, .iload_n 3, 1), (342, .iconst 2, 1), (343, .iadd, 1), (344, .iaload, 1), (345, .invokevirtual 43, 3), (348, .if_icmp .eq 1024, 3), (351, .iconst 0, 1), (352, .ireturn, 1)]
theorem tb_L_clerk : ∀ q ∈ tab_L_clerk, decode code q.1 = .ok q.2 := by decide +kernel
theorem ml_L_40 : Cond.methodLink R_law 40 m_X5_clerk.1 ∈ hs_U := hs_t2 230 (by decide +kernel) rfl
theorem ml_L_43 : Cond.methodLink R_law 43 m_X6_clerk.1 ∈ hs_U := hs_t4 228 (by decide +kernel) rfl
set_option maxHeartbeats 1000000 in
theorem lc_clerk (C : hl_Cx p s m meth c G b L xs) (hL : L ≤ 320) (hq : q + 5 ≤ L) (hk : hl_k p l e s m below meth c G b q 1372) : hl_k p l e s m below meth c G b q 320 := by
  intro σ H locs ls hR hP hS hl
  obtain ⟨hx, hb, -⟩ := id C.1
  refine lv_aload_n hx hb (hs_tb tb_L_clerk 0 rfl) rfl (lv_at hl 1 rfl) ?_
  refine hl_arg (j := 1) (jn := 1) C hS hl hL (by omega) rfl (hs_tb tb_L_clerk 1 rfl) (hs_tb tb_L_clerk 2 rfl) (hs_tb tb_L_clerk 3 rfl) (hs_tb tb_L_clerk 4 rfl) (hs_tb tb_L_clerk 5 rfl) ?_
  refine hl_arg (j := 2) (jn := 2) C hS hl hL (by omega) rfl (hs_tb tb_L_clerk 6 rfl) (hs_tb tb_L_clerk 7 rfl) (hs_tb tb_L_clerk 8 rfl) (hs_tb tb_L_clerk 9 rfl) (hs_tb tb_L_clerk 10 rfl) ?_
  refine hl_callV (y := m_X5_clerk) (As := [.int (xs (q + 1)), .int (xs (q + 2))]) (rest := []) (k := 0) C hP hS hl.1 (hs_tb tb_L_clerk 11 rfl) ml_L_40 cm_X5_clerk cv_X5_clerk rfl ⟨Nat.le_of_ble_eq_true rfl, Nat.le_of_ble_eq_true rfl⟩ (Nat.le_of_ble_eq_true rfl) rfl rfl rfl (OkI.go (pr_clerk (K := fun q1 q2 τ => ∀ (H1 : Heap) (locs1 : List Loc), va_P G.1 vwCl (hs_enc G τ) H1 → va_S (fun q => s.heap.size ≤ q) s.heap H1 locs1 → W p l e room_1 s m #[Value.ref b] below meth c H1 locs1 77 1612 (lw_Z below #[Value.ref b] s) (F0 m 348 ls [.int q2, .int q1])) hR (fun q1 τ hR1 H1 locs1 hP1 hS1 => ?_)) (fun q1 σ2 h2 H1 locs1 hP1 hS1 => ?_))
  · exact lv_icmp_eq (tgt := 1372) hx hb (hs_tb tb_L_clerk 24 rfl) rfl (fun _ => hk τ H1 locs1 ls hR1 hP1 hS1 hl) (fun h => absurd rfl h)
  · refine lv_aload_n (rest := [.int q1]) hx hb (hs_tb tb_L_clerk 12 rfl) rfl (lv_at hl 2 rfl) ?_
    refine hl_arg (j := 1) (jn := 1) C hS1 hl hL (by omega) rfl (hs_tb tb_L_clerk 13 rfl) (hs_tb tb_L_clerk 14 rfl) (hs_tb tb_L_clerk 15 rfl) (hs_tb tb_L_clerk 16 rfl) (hs_tb tb_L_clerk 17 rfl) ?_
    refine hl_arg (j := 2) (jn := 2) C hS1 hl hL (by omega) rfl (hs_tb tb_L_clerk 18 rfl) (hs_tb tb_L_clerk 19 rfl) (hs_tb tb_L_clerk 20 rfl) (hs_tb tb_L_clerk 21 rfl) (hs_tb tb_L_clerk 22 rfl) ?_
    exact hl_callV (y := m_X6_clerk) (As := [.int (xs (q + 1)), .int (xs (q + 2))]) (rest := [.int q1]) (k := 63) C hP1 hS1 hl.1 (hs_tb tb_L_clerk 23 rfl) ml_L_43 cm_X6_clerk cv_X6_clerk rfl ⟨Nat.le_of_ble_eq_true rfl, Nat.le_of_ble_eq_true rfl⟩ (Nat.le_of_ble_eq_true rfl) rfl rfl rfl (OkI.go h2 (fun q2 τ h3 H2 locs2 hP2 hS2 => h3 H2 locs2 hP2 hS2))
def tab_L_alter : List (Nat × Instr × Nat) := [(353, .aload_n 1, 1), (354, .aload_n 0, 1), (355, .iload_n 3, 1), (356, .iconst 1, 1), (357, .iadd, 1), (358, .iaload, 1), (359, .aload_n 0, 1), (360, .iload_n 3, 1), (361, .iconst 2, 1), (362, .iadd, 1), (363, .iaload, 1), (364, .aload_n 0, 1), (365, .iload_n 3, 1), (366, .iconst 3, 1), (367, .iadd, 1), (368, .iaload, 1), (369, .invokevirtual 44, 3), (372, .aload_n 2, 1), (373, .aload_n 0, 1), (374, .iload_n 3, 1), (375, .iconst 1, 1), (376, .iadd, 1), (377, .iaload, 1), (378, .aload_n 0, 1), (379, .iload_n 3, 1), (380, .iconst 2, 1), (381, .iadd, 1), (382, .iaload, 1), (383, .aload_n 0, 1), (384, .iload_n 3, 1), (385, .iconst 3, 1), (386, .iadd, 1), (387, .iaload, 1), (388, .invokevirtual 48, 3), (391, .if_icmp .eq 981, 3), (394, .iconst 0, 1), (395, .ireturn, 1)]
theorem tb_L_alter : ∀ q ∈ tab_L_alter, decode code q.1 = .ok q.2 := by decide +kernel
theorem ml_L_44 : Cond.methodLink R_law 44 m_X5_alter.1 ∈ hs_U := hs_t2 238 (by decide +kernel) rfl
theorem ml_L_48 : Cond.methodLink R_law 48 m_X6_alter.1 ∈ hs_U := hs_t4 239 (by decide +kernel) rfl
set_option maxHeartbeats 1000000 in
theorem lc_alter (C : hl_Cx p s m meth c G b L xs) (hL : L ≤ 320) (hq : q + 5 ≤ L) (hk : hl_k p l e s m below meth c G b q 1372) : hl_k p l e s m below meth c G b q 353 := by
  intro σ H locs ls hR hP hS hl
  obtain ⟨hx, hb, -⟩ := id C.1
  refine lv_aload_n hx hb (hs_tb tb_L_alter 0 rfl) rfl (lv_at hl 1 rfl) ?_
  refine hl_arg (j := 1) (jn := 1) C hS hl hL (by omega) rfl (hs_tb tb_L_alter 1 rfl) (hs_tb tb_L_alter 2 rfl) (hs_tb tb_L_alter 3 rfl) (hs_tb tb_L_alter 4 rfl) (hs_tb tb_L_alter 5 rfl) ?_
  refine hl_arg (j := 2) (jn := 2) C hS hl hL (by omega) rfl (hs_tb tb_L_alter 6 rfl) (hs_tb tb_L_alter 7 rfl) (hs_tb tb_L_alter 8 rfl) (hs_tb tb_L_alter 9 rfl) (hs_tb tb_L_alter 10 rfl) ?_
  refine hl_arg (j := 3) (jn := 3) C hS hl hL (by omega) rfl (hs_tb tb_L_alter 11 rfl) (hs_tb tb_L_alter 12 rfl) (hs_tb tb_L_alter 13 rfl) (hs_tb tb_L_alter 14 rfl) (hs_tb tb_L_alter 15 rfl) ?_
  refine hl_callV (y := m_X5_alter) (As := [.int (xs (q + 1)), .int (xs (q + 2)), .int (xs (q + 3))]) (rest := []) (k := 0) C hP hS hl.1 (hs_tb tb_L_alter 16 rfl) ml_L_44 cm_X5_alter cv_X5_alter rfl ⟨Nat.le_of_ble_eq_true rfl, Nat.le_of_ble_eq_true rfl⟩ (Nat.le_of_ble_eq_true rfl) rfl rfl rfl (OkI.go (pr_alter (K := fun q1 q2 τ => ∀ (H1 : Heap) (locs1 : List Loc), va_P G.1 vwCl (hs_enc G τ) H1 → va_S (fun q => s.heap.size ≤ q) s.heap H1 locs1 → W p l e room_1 s m #[Value.ref b] below meth c H1 locs1 77 1612 (lw_Z below #[Value.ref b] s) (F0 m 391 ls [.int q2, .int q1])) hR (fun q1 τ hR1 H1 locs1 hP1 hS1 => ?_)) (fun q1 σ2 h2 H1 locs1 hP1 hS1 => ?_))
  · exact lv_icmp_eq (tgt := 1372) hx hb (hs_tb tb_L_alter 34 rfl) rfl (fun _ => hk τ H1 locs1 ls hR1 hP1 hS1 hl) (fun h => absurd rfl h)
  · refine lv_aload_n (rest := [.int q1]) hx hb (hs_tb tb_L_alter 17 rfl) rfl (lv_at hl 2 rfl) ?_
    refine hl_arg (j := 1) (jn := 1) C hS1 hl hL (by omega) rfl (hs_tb tb_L_alter 18 rfl) (hs_tb tb_L_alter 19 rfl) (hs_tb tb_L_alter 20 rfl) (hs_tb tb_L_alter 21 rfl) (hs_tb tb_L_alter 22 rfl) ?_
    refine hl_arg (j := 2) (jn := 2) C hS1 hl hL (by omega) rfl (hs_tb tb_L_alter 23 rfl) (hs_tb tb_L_alter 24 rfl) (hs_tb tb_L_alter 25 rfl) (hs_tb tb_L_alter 26 rfl) (hs_tb tb_L_alter 27 rfl) ?_
    refine hl_arg (j := 3) (jn := 3) C hS1 hl hL (by omega) rfl (hs_tb tb_L_alter 28 rfl) (hs_tb tb_L_alter 29 rfl) (hs_tb tb_L_alter 30 rfl) (hs_tb tb_L_alter 31 rfl) (hs_tb tb_L_alter 32 rfl) ?_
    exact hl_callV (y := m_X6_alter) (As := [.int (xs (q + 1)), .int (xs (q + 2)), .int (xs (q + 3))]) (rest := [.int q1]) (k := 63) C hP1 hS1 hl.1 (hs_tb tb_L_alter 33 rfl) ml_L_48 cm_X6_alter cv_X6_alter rfl ⟨Nat.le_of_ble_eq_true rfl, Nat.le_of_ble_eq_true rfl⟩ (Nat.le_of_ble_eq_true rfl) rfl rfl rfl (OkI.go h2 (fun q2 τ h3 H2 locs2 hP2 hS2 => h3 H2 locs2 hP2 hS2))
def tab_L_post : List (Nat × Instr × Nat) := [(396, .aload_n 1, 1), (397, .aload_n 0, 1), (398, .iload_n 3, 1), (399, .iconst 1, 1), (400, .iadd, 1), (401, .iaload, 1), (402, .aload_n 0, 1), (403, .iload_n 3, 1), (404, .iconst 2, 1), (405, .iadd, 1), (406, .iaload, 1), (407, .aload_n 0, 1), (408, .iload_n 3, 1), (409, .iconst 3, 1), (410, .iadd, 1), (411, .iaload, 1), (412, .invokevirtual 49, 3), (415, .aload_n 2, 1), (416, .aload_n 0, 1), (417, .iload_n 3, 1), (418, .iconst 1, 1), (419, .iadd, 1), (420, .iaload, 1), (421, .aload_n 0, 1), (422, .iload_n 3, 1), (423, .iconst 2, 1), (424, .iadd, 1), (425, .iaload, 1), (426, .aload_n 0, 1), (427, .iload_n 3, 1), (428, .iconst 3, 1), (429, .iadd, 1), (430, .iaload, 1), (431, .invokevirtual 52, 3), (434, .if_icmp .eq 938, 3), (437, .iconst 0, 1), (438, .ireturn, 1)]
theorem tb_L_post : ∀ q ∈ tab_L_post, decode code q.1 = .ok q.2 := by decide +kernel
theorem ml_L_49 : Cond.methodLink R_law 49 m_X5_post.1 ∈ hs_U := hs_t3 12 (by decide +kernel) rfl
theorem ml_L_52 : Cond.methodLink R_law 52 m_X6_post.1 ∈ hs_U := hs_t5 14 (by decide +kernel) rfl
set_option maxHeartbeats 1000000 in
theorem lc_post (C : hl_Cx p s m meth c G b L xs) (hL : L ≤ 320) (hq : q + 5 ≤ L) (hk : hl_k p l e s m below meth c G b q 1372) : hl_k p l e s m below meth c G b q 396 := by
  intro σ H locs ls hR hP hS hl
  obtain ⟨hx, hb, -⟩ := id C.1
  refine lv_aload_n hx hb (hs_tb tb_L_post 0 rfl) rfl (lv_at hl 1 rfl) ?_
  refine hl_arg (j := 1) (jn := 1) C hS hl hL (by omega) rfl (hs_tb tb_L_post 1 rfl) (hs_tb tb_L_post 2 rfl) (hs_tb tb_L_post 3 rfl) (hs_tb tb_L_post 4 rfl) (hs_tb tb_L_post 5 rfl) ?_
  refine hl_arg (j := 2) (jn := 2) C hS hl hL (by omega) rfl (hs_tb tb_L_post 6 rfl) (hs_tb tb_L_post 7 rfl) (hs_tb tb_L_post 8 rfl) (hs_tb tb_L_post 9 rfl) (hs_tb tb_L_post 10 rfl) ?_
  refine hl_arg (j := 3) (jn := 3) C hS hl hL (by omega) rfl (hs_tb tb_L_post 11 rfl) (hs_tb tb_L_post 12 rfl) (hs_tb tb_L_post 13 rfl) (hs_tb tb_L_post 14 rfl) (hs_tb tb_L_post 15 rfl) ?_
  refine hl_callV (y := m_X5_post) (As := [.int (xs (q + 1)), .int (xs (q + 2)), .int (xs (q + 3))]) (rest := []) (k := 0) C hP hS hl.1 (hs_tb tb_L_post 16 rfl) ml_L_49 cm_X5_post cv_X5_post rfl ⟨Nat.le_of_ble_eq_true rfl, Nat.le_of_ble_eq_true rfl⟩ (Nat.le_of_ble_eq_true rfl) rfl rfl rfl (OkI.go (pr_post (K := fun q1 q2 τ => ∀ (H1 : Heap) (locs1 : List Loc), va_P G.1 vwCl (hs_enc G τ) H1 → va_S (fun q => s.heap.size ≤ q) s.heap H1 locs1 → W p l e room_1 s m #[Value.ref b] below meth c H1 locs1 77 1612 (lw_Z below #[Value.ref b] s) (F0 m 434 ls [.int q2, .int q1])) hR (fun q1 τ hR1 H1 locs1 hP1 hS1 => ?_)) (fun q1 σ2 h2 H1 locs1 hP1 hS1 => ?_))
  · exact lv_icmp_eq (tgt := 1372) hx hb (hs_tb tb_L_post 34 rfl) rfl (fun _ => hk τ H1 locs1 ls hR1 hP1 hS1 hl) (fun h => absurd rfl h)
  · refine lv_aload_n (rest := [.int q1]) hx hb (hs_tb tb_L_post 17 rfl) rfl (lv_at hl 2 rfl) ?_
    refine hl_arg (j := 1) (jn := 1) C hS1 hl hL (by omega) rfl (hs_tb tb_L_post 18 rfl) (hs_tb tb_L_post 19 rfl) (hs_tb tb_L_post 20 rfl) (hs_tb tb_L_post 21 rfl) (hs_tb tb_L_post 22 rfl) ?_
    refine hl_arg (j := 2) (jn := 2) C hS1 hl hL (by omega) rfl (hs_tb tb_L_post 23 rfl) (hs_tb tb_L_post 24 rfl) (hs_tb tb_L_post 25 rfl) (hs_tb tb_L_post 26 rfl) (hs_tb tb_L_post 27 rfl) ?_
    refine hl_arg (j := 3) (jn := 3) C hS1 hl hL (by omega) rfl (hs_tb tb_L_post 28 rfl) (hs_tb tb_L_post 29 rfl) (hs_tb tb_L_post 30 rfl) (hs_tb tb_L_post 31 rfl) (hs_tb tb_L_post 32 rfl) ?_
    exact hl_callV (y := m_X6_post) (As := [.int (xs (q + 1)), .int (xs (q + 2)), .int (xs (q + 3))]) (rest := [.int q1]) (k := 63) C hP1 hS1 hl.1 (hs_tb tb_L_post 33 rfl) ml_L_52 cm_X6_post cv_X6_post rfl ⟨Nat.le_of_ble_eq_true rfl, Nat.le_of_ble_eq_true rfl⟩ (Nat.le_of_ble_eq_true rfl) rfl rfl rfl (OkI.go h2 (fun q2 τ h3 H2 locs2 hP2 hS2 => h3 H2 locs2 hP2 hS2))
def tab_L_leave : List (Nat × Instr × Nat) := [(439, .aload_n 1, 1), (440, .aload_n 0, 1), (441, .iload_n 3, 1), (442, .iconst 1, 1), (443, .iadd, 1), (444, .iaload, 1), (445, .aload_n 0, 1), (446, .iload_n 3, 1), (447, .iconst 2, 1), (448, .iadd, 1), (449, .iaload, 1), (450, .aload_n 0, 1), (451, .iload_n 3, 1), (452, .iconst 3, 1), (453, .iadd, 1), (454, .iaload, 1), (455, .aload_n 0, 1), (456, .iload_n 3, 1), (457, .iconst 4, 1), (458, .iadd, 1), (459, .iaload, 1), (460, .invokevirtual 53, 3), (463, .aload_n 2, 1), (464, .aload_n 0, 1), (465, .iload_n 3, 1), (466, .iconst 1, 1), (467, .iadd, 1), (468, .iaload, 1), (469, .aload_n 0, 1), (470, .iload_n 3, 1), (471, .iconst 2, 1), (472, .iadd, 1), (473, .iaload, 1), (474, .aload_n 0, 1), (475, .iload_n 3, 1), (476, .iconst 3, 1), (477, .iadd, 1), (478, .iaload, 1), (479, .aload_n 0, 1), (480, .iload_n 3, 1), (481, .iconst 4, 1), (482, .iadd, 1), (483, .iaload, 1), (484, .invokevirtual 57, 3), (487, .if_icmp .eq 885, 3), (490, .iconst 0, 1), (491, .ireturn, 1)]
theorem tb_L_leave : ∀ q ∈ tab_L_leave, decode code q.1 = .ok q.2 := by decide +kernel
theorem ml_L_53 : Cond.methodLink R_law 53 m_X5_leave.1 ∈ hs_U := hs_t3 16 (by decide +kernel) rfl
theorem ml_L_57 : Cond.methodLink R_law 57 m_X6_leave.1 ∈ hs_U := hs_t5 18 (by decide +kernel) rfl
set_option maxHeartbeats 1000000 in
theorem lc_leave (C : hl_Cx p s m meth c G b L xs) (hL : L ≤ 320) (hq : q + 5 ≤ L) (hk : hl_k p l e s m below meth c G b q 1372) : hl_k p l e s m below meth c G b q 439 := by
  intro σ H locs ls hR hP hS hl
  obtain ⟨hx, hb, -⟩ := id C.1
  refine lv_aload_n hx hb (hs_tb tb_L_leave 0 rfl) rfl (lv_at hl 1 rfl) ?_
  refine hl_arg (j := 1) (jn := 1) C hS hl hL (by omega) rfl (hs_tb tb_L_leave 1 rfl) (hs_tb tb_L_leave 2 rfl) (hs_tb tb_L_leave 3 rfl) (hs_tb tb_L_leave 4 rfl) (hs_tb tb_L_leave 5 rfl) ?_
  refine hl_arg (j := 2) (jn := 2) C hS hl hL (by omega) rfl (hs_tb tb_L_leave 6 rfl) (hs_tb tb_L_leave 7 rfl) (hs_tb tb_L_leave 8 rfl) (hs_tb tb_L_leave 9 rfl) (hs_tb tb_L_leave 10 rfl) ?_
  refine hl_arg (j := 3) (jn := 3) C hS hl hL (by omega) rfl (hs_tb tb_L_leave 11 rfl) (hs_tb tb_L_leave 12 rfl) (hs_tb tb_L_leave 13 rfl) (hs_tb tb_L_leave 14 rfl) (hs_tb tb_L_leave 15 rfl) ?_
  refine hl_arg (j := 4) (jn := 4) C hS hl hL (by omega) rfl (hs_tb tb_L_leave 16 rfl) (hs_tb tb_L_leave 17 rfl) (hs_tb tb_L_leave 18 rfl) (hs_tb tb_L_leave 19 rfl) (hs_tb tb_L_leave 20 rfl) ?_
  refine hl_callV (y := m_X5_leave) (As := [.int (xs (q + 1)), .int (xs (q + 2)), .int (xs (q + 3)), .int (xs (q + 4))]) (rest := []) (k := 0) C hP hS hl.1 (hs_tb tb_L_leave 21 rfl) ml_L_53 cm_X5_leave cv_X5_leave rfl ⟨Nat.le_of_ble_eq_true rfl, Nat.le_of_ble_eq_true rfl⟩ (Nat.le_of_ble_eq_true rfl) rfl rfl rfl (OkI.go (pr_leave (K := fun q1 q2 τ => ∀ (H1 : Heap) (locs1 : List Loc), va_P G.1 vwCl (hs_enc G τ) H1 → va_S (fun q => s.heap.size ≤ q) s.heap H1 locs1 → W p l e room_1 s m #[Value.ref b] below meth c H1 locs1 77 1612 (lw_Z below #[Value.ref b] s) (F0 m 487 ls [.int q2, .int q1])) hR (fun q1 τ hR1 H1 locs1 hP1 hS1 => ?_)) (fun q1 σ2 h2 H1 locs1 hP1 hS1 => ?_))
  · exact lv_icmp_eq (tgt := 1372) hx hb (hs_tb tb_L_leave 44 rfl) rfl (fun _ => hk τ H1 locs1 ls hR1 hP1 hS1 hl) (fun h => absurd rfl h)
  · refine lv_aload_n (rest := [.int q1]) hx hb (hs_tb tb_L_leave 22 rfl) rfl (lv_at hl 2 rfl) ?_
    refine hl_arg (j := 1) (jn := 1) C hS1 hl hL (by omega) rfl (hs_tb tb_L_leave 23 rfl) (hs_tb tb_L_leave 24 rfl) (hs_tb tb_L_leave 25 rfl) (hs_tb tb_L_leave 26 rfl) (hs_tb tb_L_leave 27 rfl) ?_
    refine hl_arg (j := 2) (jn := 2) C hS1 hl hL (by omega) rfl (hs_tb tb_L_leave 28 rfl) (hs_tb tb_L_leave 29 rfl) (hs_tb tb_L_leave 30 rfl) (hs_tb tb_L_leave 31 rfl) (hs_tb tb_L_leave 32 rfl) ?_
    refine hl_arg (j := 3) (jn := 3) C hS1 hl hL (by omega) rfl (hs_tb tb_L_leave 33 rfl) (hs_tb tb_L_leave 34 rfl) (hs_tb tb_L_leave 35 rfl) (hs_tb tb_L_leave 36 rfl) (hs_tb tb_L_leave 37 rfl) ?_
    refine hl_arg (j := 4) (jn := 4) C hS1 hl hL (by omega) rfl (hs_tb tb_L_leave 38 rfl) (hs_tb tb_L_leave 39 rfl) (hs_tb tb_L_leave 40 rfl) (hs_tb tb_L_leave 41 rfl) (hs_tb tb_L_leave 42 rfl) ?_
    exact hl_callV (y := m_X6_leave) (As := [.int (xs (q + 1)), .int (xs (q + 2)), .int (xs (q + 3)), .int (xs (q + 4))]) (rest := [.int q1]) (k := 63) C hP1 hS1 hl.1 (hs_tb tb_L_leave 43 rfl) ml_L_57 cm_X6_leave cv_X6_leave rfl ⟨Nat.le_of_ble_eq_true rfl, Nat.le_of_ble_eq_true rfl⟩ (Nat.le_of_ble_eq_true rfl) rfl rfl rfl (OkI.go h2 (fun q2 τ h3 H2 locs2 hP2 hS2 => h3 H2 locs2 hP2 hS2))
def tab_L_nights : List (Nat × Instr × Nat) := [(492, .aload_n 1, 1), (493, .aload_n 0, 1), (494, .iload_n 3, 1), (495, .iconst 1, 1), (496, .iadd, 1), (497, .iaload, 1), (498, .invokevirtual 58, 3), (501, .aload_n 2, 1), (502, .aload_n 0, 1), (503, .iload_n 3, 1), (504, .iconst 1, 1), (505, .iadd, 1), (506, .iaload, 1), (507, .invokevirtual 61, 3), (510, .if_icmp .eq 862, 3), (513, .iconst 0, 1), (514, .ireturn, 1)]
theorem tb_L_nights : ∀ q ∈ tab_L_nights, decode code q.1 = .ok q.2 := by decide +kernel
theorem ml_L_58 : Cond.methodLink R_law 58 m_X5_nights.1 ∈ hs_U := hs_t3 21 (by decide +kernel) rfl
theorem ml_L_61 : Cond.methodLink R_law 61 m_X6_nights.1 ∈ hs_U := hs_t5 22 (by decide +kernel) rfl
set_option maxHeartbeats 1000000 in
theorem lc_nights (C : hl_Cx p s m meth c G b L xs) (hL : L ≤ 320) (hq : q + 5 ≤ L) (hk : hl_k p l e s m below meth c G b q 1372) : hl_k p l e s m below meth c G b q 492 := by
  intro σ H locs ls hR hP hS hl
  obtain ⟨hx, hb, -⟩ := id C.1
  refine lv_aload_n hx hb (hs_tb tb_L_nights 0 rfl) rfl (lv_at hl 1 rfl) ?_
  refine hl_arg (j := 1) (jn := 1) C hS hl hL (by omega) rfl (hs_tb tb_L_nights 1 rfl) (hs_tb tb_L_nights 2 rfl) (hs_tb tb_L_nights 3 rfl) (hs_tb tb_L_nights 4 rfl) (hs_tb tb_L_nights 5 rfl) ?_
  refine hl_callV (y := m_X5_nights) (As := [.int (xs (q + 1))]) (rest := []) (k := 0) C hP hS hl.1 (hs_tb tb_L_nights 6 rfl) ml_L_58 cm_X5_nights cv_X5_nights rfl ⟨Nat.le_of_ble_eq_true rfl, Nat.le_of_ble_eq_true rfl⟩ (Nat.le_of_ble_eq_true rfl) rfl rfl rfl (OkI.go (pr_nights (K := fun q1 q2 τ => ∀ (H1 : Heap) (locs1 : List Loc), va_P G.1 vwCl (hs_enc G τ) H1 → va_S (fun q => s.heap.size ≤ q) s.heap H1 locs1 → W p l e room_1 s m #[Value.ref b] below meth c H1 locs1 77 1612 (lw_Z below #[Value.ref b] s) (F0 m 510 ls [.int q2, .int q1])) hR (fun q1 τ hR1 H1 locs1 hP1 hS1 => ?_)) (fun q1 σ2 h2 H1 locs1 hP1 hS1 => ?_))
  · exact lv_icmp_eq (tgt := 1372) hx hb (hs_tb tb_L_nights 14 rfl) rfl (fun _ => hk τ H1 locs1 ls hR1 hP1 hS1 hl) (fun h => absurd rfl h)
  · refine lv_aload_n (rest := [.int q1]) hx hb (hs_tb tb_L_nights 7 rfl) rfl (lv_at hl 2 rfl) ?_
    refine hl_arg (j := 1) (jn := 1) C hS1 hl hL (by omega) rfl (hs_tb tb_L_nights 8 rfl) (hs_tb tb_L_nights 9 rfl) (hs_tb tb_L_nights 10 rfl) (hs_tb tb_L_nights 11 rfl) (hs_tb tb_L_nights 12 rfl) ?_
    exact hl_callV (y := m_X6_nights) (As := [.int (xs (q + 1))]) (rest := [.int q1]) (k := 63) C hP1 hS1 hl.1 (hs_tb tb_L_nights 13 rfl) ml_L_61 cm_X6_nights cv_X6_nights rfl ⟨Nat.le_of_ble_eq_true rfl, Nat.le_of_ble_eq_true rfl⟩ (Nat.le_of_ble_eq_true rfl) rfl rfl rfl (OkI.go h2 (fun q2 τ h3 H2 locs2 hP2 hS2 => h3 H2 locs2 hP2 hS2))
def tab_L_runs : List (Nat × Instr × Nat) := [(515, .aload_n 1, 1), (516, .aload_n 0, 1), (517, .iload_n 3, 1), (518, .iconst 1, 1), (519, .iadd, 1), (520, .iaload, 1), (521, .aload_n 0, 1), (522, .iload_n 3, 1), (523, .iconst 2, 1), (524, .iadd, 1), (525, .iaload, 1), (526, .invokevirtual 62, 3), (529, .aload_n 2, 1), (530, .aload_n 0, 1), (531, .iload_n 3, 1), (532, .iconst 1, 1), (533, .iadd, 1), (534, .iaload, 1), (535, .aload_n 0, 1), (536, .iload_n 3, 1), (537, .iconst 2, 1), (538, .iadd, 1), (539, .iaload, 1), (540, .invokevirtual 65, 3), (543, .if_icmp .eq 829, 3), (546, .iconst 0, 1), (547, .ireturn, 1)]
theorem tb_L_runs : ∀ q ∈ tab_L_runs, decode code q.1 = .ok q.2 := by decide +kernel
theorem ml_L_62 : Cond.methodLink R_law 62 m_X5_runs.1 ∈ hs_U := hs_t3 50 (by decide +kernel) rfl
theorem ml_L_65 : Cond.methodLink R_law 65 m_X6_runs.1 ∈ hs_U := hs_t5 54 (by decide +kernel) rfl
set_option maxHeartbeats 1000000 in
theorem lc_runs (C : hl_Cx p s m meth c G b L xs) (hL : L ≤ 320) (hq : q + 5 ≤ L) (hk : hl_k p l e s m below meth c G b q 1372) : hl_k p l e s m below meth c G b q 515 := by
  intro σ H locs ls hR hP hS hl
  obtain ⟨hx, hb, -⟩ := id C.1
  refine lv_aload_n hx hb (hs_tb tb_L_runs 0 rfl) rfl (lv_at hl 1 rfl) ?_
  refine hl_arg (j := 1) (jn := 1) C hS hl hL (by omega) rfl (hs_tb tb_L_runs 1 rfl) (hs_tb tb_L_runs 2 rfl) (hs_tb tb_L_runs 3 rfl) (hs_tb tb_L_runs 4 rfl) (hs_tb tb_L_runs 5 rfl) ?_
  refine hl_arg (j := 2) (jn := 2) C hS hl hL (by omega) rfl (hs_tb tb_L_runs 6 rfl) (hs_tb tb_L_runs 7 rfl) (hs_tb tb_L_runs 8 rfl) (hs_tb tb_L_runs 9 rfl) (hs_tb tb_L_runs 10 rfl) ?_
  refine hl_callV (y := m_X5_runs) (As := [.int (xs (q + 1)), .int (xs (q + 2))]) (rest := []) (k := 0) C hP hS hl.1 (hs_tb tb_L_runs 11 rfl) ml_L_62 cm_X5_runs cv_X5_runs rfl ⟨Nat.le_of_ble_eq_true rfl, Nat.le_of_ble_eq_true rfl⟩ (Nat.le_of_ble_eq_true rfl) rfl rfl rfl (OkI.go (pr_runs (K := fun q1 q2 τ => ∀ (H1 : Heap) (locs1 : List Loc), va_P G.1 vwCl (hs_enc G τ) H1 → va_S (fun q => s.heap.size ≤ q) s.heap H1 locs1 → W p l e room_1 s m #[Value.ref b] below meth c H1 locs1 77 1612 (lw_Z below #[Value.ref b] s) (F0 m 543 ls [.int q2, .int q1])) hR (fun q1 τ hR1 H1 locs1 hP1 hS1 => ?_)) (fun q1 σ2 h2 H1 locs1 hP1 hS1 => ?_))
  · exact lv_icmp_eq (tgt := 1372) hx hb (hs_tb tb_L_runs 24 rfl) rfl (fun _ => hk τ H1 locs1 ls hR1 hP1 hS1 hl) (fun h => absurd rfl h)
  · refine lv_aload_n (rest := [.int q1]) hx hb (hs_tb tb_L_runs 12 rfl) rfl (lv_at hl 2 rfl) ?_
    refine hl_arg (j := 1) (jn := 1) C hS1 hl hL (by omega) rfl (hs_tb tb_L_runs 13 rfl) (hs_tb tb_L_runs 14 rfl) (hs_tb tb_L_runs 15 rfl) (hs_tb tb_L_runs 16 rfl) (hs_tb tb_L_runs 17 rfl) ?_
    refine hl_arg (j := 2) (jn := 2) C hS1 hl hL (by omega) rfl (hs_tb tb_L_runs 18 rfl) (hs_tb tb_L_runs 19 rfl) (hs_tb tb_L_runs 20 rfl) (hs_tb tb_L_runs 21 rfl) (hs_tb tb_L_runs 22 rfl) ?_
    exact hl_callV (y := m_X6_runs) (As := [.int (xs (q + 1)), .int (xs (q + 2))]) (rest := [.int q1]) (k := 63) C hP1 hS1 hl.1 (hs_tb tb_L_runs 23 rfl) ml_L_65 cm_X6_runs cv_X6_runs rfl ⟨Nat.le_of_ble_eq_true rfl, Nat.le_of_ble_eq_true rfl⟩ (Nat.le_of_ble_eq_true rfl) rfl rfl rfl (OkI.go h2 (fun q2 τ h3 H2 locs2 hP2 hS2 => h3 H2 locs2 hP2 hS2))
def tab_L_ahead : List (Nat × Instr × Nat) := [(548, .aload_n 1, 1), (549, .aload_n 0, 1), (550, .iload_n 3, 1), (551, .iconst 1, 1), (552, .iadd, 1), (553, .iaload, 1), (554, .aload_n 0, 1), (555, .iload_n 3, 1), (556, .iconst 2, 1), (557, .iadd, 1), (558, .iaload, 1), (559, .aload_n 0, 1), (560, .iload_n 3, 1), (561, .iconst 3, 1), (562, .iadd, 1), (563, .iaload, 1), (564, .invokevirtual 66, 3), (567, .aload_n 2, 1), (568, .aload_n 0, 1), (569, .iload_n 3, 1), (570, .iconst 1, 1), (571, .iadd, 1), (572, .iaload, 1), (573, .aload_n 0, 1), (574, .iload_n 3, 1), (575, .iconst 2, 1), (576, .iadd, 1), (577, .iaload, 1), (578, .aload_n 0, 1), (579, .iload_n 3, 1), (580, .iconst 3, 1), (581, .iadd, 1), (582, .iaload, 1), (583, .invokevirtual 69, 3), (586, .if_icmp .eq 786, 3), (589, .iconst 0, 1), (590, .ireturn, 1)]
theorem tb_L_ahead : ∀ q ∈ tab_L_ahead, decode code q.1 = .ok q.2 := by decide +kernel
theorem ml_L_66 : Cond.methodLink R_law 66 m_X5_ahead.1 ∈ hs_U := hs_t3 59 (by decide +kernel) rfl
theorem ml_L_69 : Cond.methodLink R_law 69 m_X6_ahead.1 ∈ hs_U := hs_t5 62 (by decide +kernel) rfl
set_option maxHeartbeats 1000000 in
theorem lc_ahead (C : hl_Cx p s m meth c G b L xs) (hL : L ≤ 320) (hq : q + 5 ≤ L) (hk : hl_k p l e s m below meth c G b q 1372) : hl_k p l e s m below meth c G b q 548 := by
  intro σ H locs ls hR hP hS hl
  obtain ⟨hx, hb, -⟩ := id C.1
  refine lv_aload_n hx hb (hs_tb tb_L_ahead 0 rfl) rfl (lv_at hl 1 rfl) ?_
  refine hl_arg (j := 1) (jn := 1) C hS hl hL (by omega) rfl (hs_tb tb_L_ahead 1 rfl) (hs_tb tb_L_ahead 2 rfl) (hs_tb tb_L_ahead 3 rfl) (hs_tb tb_L_ahead 4 rfl) (hs_tb tb_L_ahead 5 rfl) ?_
  refine hl_arg (j := 2) (jn := 2) C hS hl hL (by omega) rfl (hs_tb tb_L_ahead 6 rfl) (hs_tb tb_L_ahead 7 rfl) (hs_tb tb_L_ahead 8 rfl) (hs_tb tb_L_ahead 9 rfl) (hs_tb tb_L_ahead 10 rfl) ?_
  refine hl_arg (j := 3) (jn := 3) C hS hl hL (by omega) rfl (hs_tb tb_L_ahead 11 rfl) (hs_tb tb_L_ahead 12 rfl) (hs_tb tb_L_ahead 13 rfl) (hs_tb tb_L_ahead 14 rfl) (hs_tb tb_L_ahead 15 rfl) ?_
  refine hl_callV (y := m_X5_ahead) (As := [.int (xs (q + 1)), .int (xs (q + 2)), .int (xs (q + 3))]) (rest := []) (k := 0) C hP hS hl.1 (hs_tb tb_L_ahead 16 rfl) ml_L_66 cm_X5_ahead cv_X5_ahead rfl ⟨Nat.le_of_ble_eq_true rfl, Nat.le_of_ble_eq_true rfl⟩ (Nat.le_of_ble_eq_true rfl) rfl rfl rfl (OkI.go (pr_ahead (K := fun q1 q2 τ => ∀ (H1 : Heap) (locs1 : List Loc), va_P G.1 vwCl (hs_enc G τ) H1 → va_S (fun q => s.heap.size ≤ q) s.heap H1 locs1 → W p l e room_1 s m #[Value.ref b] below meth c H1 locs1 77 1612 (lw_Z below #[Value.ref b] s) (F0 m 586 ls [.int q2, .int q1])) hR (fun q1 τ hR1 H1 locs1 hP1 hS1 => ?_)) (fun q1 σ2 h2 H1 locs1 hP1 hS1 => ?_))
  · exact lv_icmp_eq (tgt := 1372) hx hb (hs_tb tb_L_ahead 34 rfl) rfl (fun _ => hk τ H1 locs1 ls hR1 hP1 hS1 hl) (fun h => absurd rfl h)
  · refine lv_aload_n (rest := [.int q1]) hx hb (hs_tb tb_L_ahead 17 rfl) rfl (lv_at hl 2 rfl) ?_
    refine hl_arg (j := 1) (jn := 1) C hS1 hl hL (by omega) rfl (hs_tb tb_L_ahead 18 rfl) (hs_tb tb_L_ahead 19 rfl) (hs_tb tb_L_ahead 20 rfl) (hs_tb tb_L_ahead 21 rfl) (hs_tb tb_L_ahead 22 rfl) ?_
    refine hl_arg (j := 2) (jn := 2) C hS1 hl hL (by omega) rfl (hs_tb tb_L_ahead 23 rfl) (hs_tb tb_L_ahead 24 rfl) (hs_tb tb_L_ahead 25 rfl) (hs_tb tb_L_ahead 26 rfl) (hs_tb tb_L_ahead 27 rfl) ?_
    refine hl_arg (j := 3) (jn := 3) C hS1 hl hL (by omega) rfl (hs_tb tb_L_ahead 28 rfl) (hs_tb tb_L_ahead 29 rfl) (hs_tb tb_L_ahead 30 rfl) (hs_tb tb_L_ahead 31 rfl) (hs_tb tb_L_ahead 32 rfl) ?_
    exact hl_callV (y := m_X6_ahead) (As := [.int (xs (q + 1)), .int (xs (q + 2)), .int (xs (q + 3))]) (rest := [.int q1]) (k := 63) C hP1 hS1 hl.1 (hs_tb tb_L_ahead 33 rfl) ml_L_69 cm_X6_ahead cv_X6_ahead rfl ⟨Nat.le_of_ble_eq_true rfl, Nat.le_of_ble_eq_true rfl⟩ (Nat.le_of_ble_eq_true rfl) rfl rfl rfl (OkI.go h2 (fun q2 τ h3 H2 locs2 hP2 hS2 => h3 H2 locs2 hP2 hS2))
def tab_L_rests : List (Nat × Instr × Nat) := [(591, .aload_n 1, 1), (592, .aload_n 0, 1), (593, .iload_n 3, 1), (594, .iconst 1, 1), (595, .iadd, 1), (596, .iaload, 1), (597, .invokevirtual 70, 3), (600, .aload_n 2, 1), (601, .aload_n 0, 1), (602, .iload_n 3, 1), (603, .iconst 1, 1), (604, .iadd, 1), (605, .iaload, 1), (606, .invokevirtual 73, 3), (609, .if_icmp .eq 763, 3), (612, .iconst 0, 1), (613, .ireturn, 1)]
theorem tb_L_rests : ∀ q ∈ tab_L_rests, decode code q.1 = .ok q.2 := by decide +kernel
theorem ml_L_70 : Cond.methodLink R_law 70 m_X5_rests.1 ∈ hs_U := hs_t3 63 (by decide +kernel) rfl
theorem ml_L_73 : Cond.methodLink R_law 73 m_X6_rests.1 ∈ hs_U := hs_t5 66 (by decide +kernel) rfl
set_option maxHeartbeats 1000000 in
theorem lc_rests (C : hl_Cx p s m meth c G b L xs) (hL : L ≤ 320) (hq : q + 5 ≤ L) (hk : hl_k p l e s m below meth c G b q 1372) : hl_k p l e s m below meth c G b q 591 := by
  intro σ H locs ls hR hP hS hl
  obtain ⟨hx, hb, -⟩ := id C.1
  refine lv_aload_n hx hb (hs_tb tb_L_rests 0 rfl) rfl (lv_at hl 1 rfl) ?_
  refine hl_arg (j := 1) (jn := 1) C hS hl hL (by omega) rfl (hs_tb tb_L_rests 1 rfl) (hs_tb tb_L_rests 2 rfl) (hs_tb tb_L_rests 3 rfl) (hs_tb tb_L_rests 4 rfl) (hs_tb tb_L_rests 5 rfl) ?_
  refine hl_callV (y := m_X5_rests) (As := [.int (xs (q + 1))]) (rest := []) (k := 0) C hP hS hl.1 (hs_tb tb_L_rests 6 rfl) ml_L_70 cm_X5_rests cv_X5_rests rfl ⟨Nat.le_of_ble_eq_true rfl, Nat.le_of_ble_eq_true rfl⟩ (Nat.le_of_ble_eq_true rfl) rfl rfl rfl (OkI.go (pr_rests (K := fun q1 q2 τ => ∀ (H1 : Heap) (locs1 : List Loc), va_P G.1 vwCl (hs_enc G τ) H1 → va_S (fun q => s.heap.size ≤ q) s.heap H1 locs1 → W p l e room_1 s m #[Value.ref b] below meth c H1 locs1 77 1612 (lw_Z below #[Value.ref b] s) (F0 m 609 ls [.int q2, .int q1])) hR (fun q1 τ hR1 H1 locs1 hP1 hS1 => ?_)) (fun q1 σ2 h2 H1 locs1 hP1 hS1 => ?_))
  · exact lv_icmp_eq (tgt := 1372) hx hb (hs_tb tb_L_rests 14 rfl) rfl (fun _ => hk τ H1 locs1 ls hR1 hP1 hS1 hl) (fun h => absurd rfl h)
  · refine lv_aload_n (rest := [.int q1]) hx hb (hs_tb tb_L_rests 7 rfl) rfl (lv_at hl 2 rfl) ?_
    refine hl_arg (j := 1) (jn := 1) C hS1 hl hL (by omega) rfl (hs_tb tb_L_rests 8 rfl) (hs_tb tb_L_rests 9 rfl) (hs_tb tb_L_rests 10 rfl) (hs_tb tb_L_rests 11 rfl) (hs_tb tb_L_rests 12 rfl) ?_
    exact hl_callV (y := m_X6_rests) (As := [.int (xs (q + 1))]) (rest := [.int q1]) (k := 63) C hP1 hS1 hl.1 (hs_tb tb_L_rests 13 rfl) ml_L_73 cm_X6_rests cv_X6_rests rfl ⟨Nat.le_of_ble_eq_true rfl, Nat.le_of_ble_eq_true rfl⟩ (Nat.le_of_ble_eq_true rfl) rfl rfl rfl (OkI.go h2 (fun q2 τ h3 H2 locs2 hP2 hS2 => h3 H2 locs2 hP2 hS2))
def tab_L_meets : List (Nat × Instr × Nat) := [(614, .aload_n 1, 1), (615, .aload_n 0, 1), (616, .iload_n 3, 1), (617, .iconst 1, 1), (618, .iadd, 1), (619, .iaload, 1), (620, .aload_n 0, 1), (621, .iload_n 3, 1), (622, .iconst 2, 1), (623, .iadd, 1), (624, .iaload, 1), (625, .invokevirtual 74, 3), (628, .aload_n 2, 1), (629, .aload_n 0, 1), (630, .iload_n 3, 1), (631, .iconst 1, 1), (632, .iadd, 1), (633, .iaload, 1), (634, .aload_n 0, 1), (635, .iload_n 3, 1), (636, .iconst 2, 1), (637, .iadd, 1), (638, .iaload, 1), (639, .invokevirtual 77, 3), (642, .if_icmp .eq 730, 3), (645, .iconst 0, 1), (646, .ireturn, 1)]
theorem tb_L_meets : ∀ q ∈ tab_L_meets, decode code q.1 = .ok q.2 := by decide +kernel
theorem ml_L_74 : Cond.methodLink R_law 74 m_X5_meets.1 ∈ hs_U := hs_t3 67 (by decide +kernel) rfl
theorem ml_L_77 : Cond.methodLink R_law 77 m_X6_meets.1 ∈ hs_U := hs_t5 74 (by decide +kernel) rfl
set_option maxHeartbeats 1000000 in
theorem lc_meets (C : hl_Cx p s m meth c G b L xs) (hL : L ≤ 320) (hq : q + 5 ≤ L) (hk : hl_k p l e s m below meth c G b q 1372) : hl_k p l e s m below meth c G b q 614 := by
  intro σ H locs ls hR hP hS hl
  obtain ⟨hx, hb, -⟩ := id C.1
  refine lv_aload_n hx hb (hs_tb tb_L_meets 0 rfl) rfl (lv_at hl 1 rfl) ?_
  refine hl_arg (j := 1) (jn := 1) C hS hl hL (by omega) rfl (hs_tb tb_L_meets 1 rfl) (hs_tb tb_L_meets 2 rfl) (hs_tb tb_L_meets 3 rfl) (hs_tb tb_L_meets 4 rfl) (hs_tb tb_L_meets 5 rfl) ?_
  refine hl_arg (j := 2) (jn := 2) C hS hl hL (by omega) rfl (hs_tb tb_L_meets 6 rfl) (hs_tb tb_L_meets 7 rfl) (hs_tb tb_L_meets 8 rfl) (hs_tb tb_L_meets 9 rfl) (hs_tb tb_L_meets 10 rfl) ?_
  refine hl_callV (y := m_X5_meets) (As := [.int (xs (q + 1)), .int (xs (q + 2))]) (rest := []) (k := 0) C hP hS hl.1 (hs_tb tb_L_meets 11 rfl) ml_L_74 cm_X5_meets cv_X5_meets rfl ⟨Nat.le_of_ble_eq_true rfl, Nat.le_of_ble_eq_true rfl⟩ (Nat.le_of_ble_eq_true rfl) rfl rfl rfl (OkI.go (pr_meets (K := fun q1 q2 τ => ∀ (H1 : Heap) (locs1 : List Loc), va_P G.1 vwCl (hs_enc G τ) H1 → va_S (fun q => s.heap.size ≤ q) s.heap H1 locs1 → W p l e room_1 s m #[Value.ref b] below meth c H1 locs1 77 1612 (lw_Z below #[Value.ref b] s) (F0 m 642 ls [.int q2, .int q1])) hR (fun q1 τ hR1 H1 locs1 hP1 hS1 => ?_)) (fun q1 σ2 h2 H1 locs1 hP1 hS1 => ?_))
  · exact lv_icmp_eq (tgt := 1372) hx hb (hs_tb tb_L_meets 24 rfl) rfl (fun _ => hk τ H1 locs1 ls hR1 hP1 hS1 hl) (fun h => absurd rfl h)
  · refine lv_aload_n (rest := [.int q1]) hx hb (hs_tb tb_L_meets 12 rfl) rfl (lv_at hl 2 rfl) ?_
    refine hl_arg (j := 1) (jn := 1) C hS1 hl hL (by omega) rfl (hs_tb tb_L_meets 13 rfl) (hs_tb tb_L_meets 14 rfl) (hs_tb tb_L_meets 15 rfl) (hs_tb tb_L_meets 16 rfl) (hs_tb tb_L_meets 17 rfl) ?_
    refine hl_arg (j := 2) (jn := 2) C hS1 hl hL (by omega) rfl (hs_tb tb_L_meets 18 rfl) (hs_tb tb_L_meets 19 rfl) (hs_tb tb_L_meets 20 rfl) (hs_tb tb_L_meets 21 rfl) (hs_tb tb_L_meets 22 rfl) ?_
    exact hl_callV (y := m_X6_meets) (As := [.int (xs (q + 1)), .int (xs (q + 2))]) (rest := [.int q1]) (k := 63) C hP1 hS1 hl.1 (hs_tb tb_L_meets 23 rfl) ml_L_77 cm_X6_meets cv_X6_meets rfl ⟨Nat.le_of_ble_eq_true rfl, Nat.le_of_ble_eq_true rfl⟩ (Nat.le_of_ble_eq_true rfl) rfl rfl rfl (OkI.go h2 (fun q2 τ h3 H2 locs2 hP2 hS2 => h3 H2 locs2 hP2 hS2))
def tab_L_harm : List (Nat × Instr × Nat) := [(647, .aload_n 1, 1), (648, .aload_n 0, 1), (649, .iload_n 3, 1), (650, .iconst 1, 1), (651, .iadd, 1), (652, .iaload, 1), (653, .aload_n 0, 1), (654, .iload_n 3, 1), (655, .iconst 2, 1), (656, .iadd, 1), (657, .iaload, 1), (658, .invokevirtual 78, 3), (661, .aload_n 2, 1), (662, .aload_n 0, 1), (663, .iload_n 3, 1), (664, .iconst 1, 1), (665, .iadd, 1), (666, .iaload, 1), (667, .aload_n 0, 1), (668, .iload_n 3, 1), (669, .iconst 2, 1), (670, .iadd, 1), (671, .iaload, 1), (672, .invokevirtual 81, 3), (675, .if_icmp .eq 697, 3), (678, .iconst 0, 1), (679, .ireturn, 1)]
theorem tb_L_harm : ∀ q ∈ tab_L_harm, decode code q.1 = .ok q.2 := by decide +kernel
theorem ml_L_78 : Cond.methodLink R_law 78 m_X5_harm.1 ∈ hs_U := hs_t3 72 (by decide +kernel) rfl
theorem ml_L_81 : Cond.methodLink R_law 81 m_X6_harm.1 ∈ hs_U := hs_t5 78 (by decide +kernel) rfl
set_option maxHeartbeats 1000000 in
theorem lc_harm (C : hl_Cx p s m meth c G b L xs) (hL : L ≤ 320) (hq : q + 5 ≤ L) (hk : hl_k p l e s m below meth c G b q 1372) : hl_k p l e s m below meth c G b q 647 := by
  intro σ H locs ls hR hP hS hl
  obtain ⟨hx, hb, -⟩ := id C.1
  refine lv_aload_n hx hb (hs_tb tb_L_harm 0 rfl) rfl (lv_at hl 1 rfl) ?_
  refine hl_arg (j := 1) (jn := 1) C hS hl hL (by omega) rfl (hs_tb tb_L_harm 1 rfl) (hs_tb tb_L_harm 2 rfl) (hs_tb tb_L_harm 3 rfl) (hs_tb tb_L_harm 4 rfl) (hs_tb tb_L_harm 5 rfl) ?_
  refine hl_arg (j := 2) (jn := 2) C hS hl hL (by omega) rfl (hs_tb tb_L_harm 6 rfl) (hs_tb tb_L_harm 7 rfl) (hs_tb tb_L_harm 8 rfl) (hs_tb tb_L_harm 9 rfl) (hs_tb tb_L_harm 10 rfl) ?_
  refine hl_callV (y := m_X5_harm) (As := [.int (xs (q + 1)), .int (xs (q + 2))]) (rest := []) (k := 0) C hP hS hl.1 (hs_tb tb_L_harm 11 rfl) ml_L_78 cm_X5_harm cv_X5_harm rfl ⟨Nat.le_of_ble_eq_true rfl, Nat.le_of_ble_eq_true rfl⟩ (Nat.le_of_ble_eq_true rfl) rfl rfl rfl (OkI.go (pr_harm (K := fun q1 q2 τ => ∀ (H1 : Heap) (locs1 : List Loc), va_P G.1 vwCl (hs_enc G τ) H1 → va_S (fun q => s.heap.size ≤ q) s.heap H1 locs1 → W p l e room_1 s m #[Value.ref b] below meth c H1 locs1 77 1612 (lw_Z below #[Value.ref b] s) (F0 m 675 ls [.int q2, .int q1])) hR (fun q1 τ hR1 H1 locs1 hP1 hS1 => ?_)) (fun q1 σ2 h2 H1 locs1 hP1 hS1 => ?_))
  · exact lv_icmp_eq (tgt := 1372) hx hb (hs_tb tb_L_harm 24 rfl) rfl (fun _ => hk τ H1 locs1 ls hR1 hP1 hS1 hl) (fun h => absurd rfl h)
  · refine lv_aload_n (rest := [.int q1]) hx hb (hs_tb tb_L_harm 12 rfl) rfl (lv_at hl 2 rfl) ?_
    refine hl_arg (j := 1) (jn := 1) C hS1 hl hL (by omega) rfl (hs_tb tb_L_harm 13 rfl) (hs_tb tb_L_harm 14 rfl) (hs_tb tb_L_harm 15 rfl) (hs_tb tb_L_harm 16 rfl) (hs_tb tb_L_harm 17 rfl) ?_
    refine hl_arg (j := 2) (jn := 2) C hS1 hl hL (by omega) rfl (hs_tb tb_L_harm 18 rfl) (hs_tb tb_L_harm 19 rfl) (hs_tb tb_L_harm 20 rfl) (hs_tb tb_L_harm 21 rfl) (hs_tb tb_L_harm 22 rfl) ?_
    exact hl_callV (y := m_X6_harm) (As := [.int (xs (q + 1)), .int (xs (q + 2))]) (rest := [.int q1]) (k := 63) C hP1 hS1 hl.1 (hs_tb tb_L_harm 23 rfl) ml_L_81 cm_X6_harm cv_X6_harm rfl ⟨Nat.le_of_ble_eq_true rfl, Nat.le_of_ble_eq_true rfl⟩ (Nat.le_of_ble_eq_true rfl) rfl rfl rfl (OkI.go h2 (fun q2 τ h3 H2 locs2 hP2 hS2 => h3 H2 locs2 hP2 hS2))
def tab_L_best : List (Nat × Instr × Nat) := [(680, .aload_n 1, 1), (681, .aload_n 0, 1), (682, .iload_n 3, 1), (683, .iconst 1, 1), (684, .iadd, 1), (685, .iaload, 1), (686, .aload_n 0, 1), (687, .iload_n 3, 1), (688, .iconst 2, 1), (689, .iadd, 1), (690, .iaload, 1), (691, .invokevirtual 82, 3), (694, .aload_n 2, 1), (695, .aload_n 0, 1), (696, .iload_n 3, 1), (697, .iconst 1, 1), (698, .iadd, 1), (699, .iaload, 1), (700, .aload_n 0, 1), (701, .iload_n 3, 1), (702, .iconst 2, 1), (703, .iadd, 1), (704, .iaload, 1), (705, .invokevirtual 85, 3), (708, .if_icmp .eq 664, 3), (711, .iconst 0, 1), (712, .ireturn, 1)]
theorem tb_L_best : ∀ q ∈ tab_L_best, decode code q.1 = .ok q.2 := by decide +kernel
theorem ml_L_82 : Cond.methodLink R_law 82 m_X5_best.1 ∈ hs_U := hs_t3 76 (by decide +kernel) rfl
theorem ml_L_85 : Cond.methodLink R_law 85 m_X6_best.1 ∈ hs_U := hs_t5 82 (by decide +kernel) rfl
set_option maxHeartbeats 1000000 in
theorem lc_best (C : hl_Cx p s m meth c G b L xs) (hL : L ≤ 320) (hq : q + 5 ≤ L) (hk : hl_k p l e s m below meth c G b q 1372) : hl_k p l e s m below meth c G b q 680 := by
  intro σ H locs ls hR hP hS hl
  obtain ⟨hx, hb, -⟩ := id C.1
  refine lv_aload_n hx hb (hs_tb tb_L_best 0 rfl) rfl (lv_at hl 1 rfl) ?_
  refine hl_arg (j := 1) (jn := 1) C hS hl hL (by omega) rfl (hs_tb tb_L_best 1 rfl) (hs_tb tb_L_best 2 rfl) (hs_tb tb_L_best 3 rfl) (hs_tb tb_L_best 4 rfl) (hs_tb tb_L_best 5 rfl) ?_
  refine hl_arg (j := 2) (jn := 2) C hS hl hL (by omega) rfl (hs_tb tb_L_best 6 rfl) (hs_tb tb_L_best 7 rfl) (hs_tb tb_L_best 8 rfl) (hs_tb tb_L_best 9 rfl) (hs_tb tb_L_best 10 rfl) ?_
  refine hl_callV (y := m_X5_best) (As := [.int (xs (q + 1)), .int (xs (q + 2))]) (rest := []) (k := 0) C hP hS hl.1 (hs_tb tb_L_best 11 rfl) ml_L_82 cm_X5_best cv_X5_best rfl ⟨Nat.le_of_ble_eq_true rfl, Nat.le_of_ble_eq_true rfl⟩ (Nat.le_of_ble_eq_true rfl) rfl rfl rfl (OkI.go (pr_best (K := fun q1 q2 τ => ∀ (H1 : Heap) (locs1 : List Loc), va_P G.1 vwCl (hs_enc G τ) H1 → va_S (fun q => s.heap.size ≤ q) s.heap H1 locs1 → W p l e room_1 s m #[Value.ref b] below meth c H1 locs1 77 1612 (lw_Z below #[Value.ref b] s) (F0 m 708 ls [.int q2, .int q1])) hR (fun q1 τ hR1 H1 locs1 hP1 hS1 => ?_)) (fun q1 σ2 h2 H1 locs1 hP1 hS1 => ?_))
  · exact lv_icmp_eq (tgt := 1372) hx hb (hs_tb tb_L_best 24 rfl) rfl (fun _ => hk τ H1 locs1 ls hR1 hP1 hS1 hl) (fun h => absurd rfl h)
  · refine lv_aload_n (rest := [.int q1]) hx hb (hs_tb tb_L_best 12 rfl) rfl (lv_at hl 2 rfl) ?_
    refine hl_arg (j := 1) (jn := 1) C hS1 hl hL (by omega) rfl (hs_tb tb_L_best 13 rfl) (hs_tb tb_L_best 14 rfl) (hs_tb tb_L_best 15 rfl) (hs_tb tb_L_best 16 rfl) (hs_tb tb_L_best 17 rfl) ?_
    refine hl_arg (j := 2) (jn := 2) C hS1 hl hL (by omega) rfl (hs_tb tb_L_best 18 rfl) (hs_tb tb_L_best 19 rfl) (hs_tb tb_L_best 20 rfl) (hs_tb tb_L_best 21 rfl) (hs_tb tb_L_best 22 rfl) ?_
    exact hl_callV (y := m_X6_best) (As := [.int (xs (q + 1)), .int (xs (q + 2))]) (rest := [.int q1]) (k := 63) C hP1 hS1 hl.1 (hs_tb tb_L_best 23 rfl) ml_L_85 cm_X6_best cv_X6_best rfl ⟨Nat.le_of_ble_eq_true rfl, Nat.le_of_ble_eq_true rfl⟩ (Nat.le_of_ble_eq_true rfl) rfl rfl rfl (OkI.go h2 (fun q2 τ h3 H2 locs2 hP2 hS2 => h3 H2 locs2 hP2 hS2))
def tab_L_learn : List (Nat × Instr × Nat) := [(713, .aload_n 1, 1), (714, .aload_n 0, 1), (715, .iload_n 3, 1), (716, .iconst 1, 1), (717, .iadd, 1), (718, .iaload, 1), (719, .aload_n 0, 1), (720, .iload_n 3, 1), (721, .iconst 2, 1), (722, .iadd, 1), (723, .iaload, 1), (724, .invokevirtual 86, 3), (727, .aload_n 2, 1), (728, .aload_n 0, 1), (729, .iload_n 3, 1), (730, .iconst 1, 1), (731, .iadd, 1), (732, .iaload, 1), (733, .aload_n 0, 1), (734, .iload_n 3, 1), (735, .iconst 2, 1), (736, .iadd, 1), (737, .iaload, 1), (738, .invokevirtual 89, 3), (741, .if_icmp .eq 631, 3), (744, .iconst 0, 1), (745, .ireturn, 1)]
theorem tb_L_learn : ∀ q ∈ tab_L_learn, decode code q.1 = .ok q.2 := by decide +kernel
theorem ml_L_86 : Cond.methodLink R_law 86 m_X5_learn.1 ∈ hs_U := hs_t3 91 (by decide +kernel) rfl
theorem ml_L_89 : Cond.methodLink R_law 89 m_X6_learn.1 ∈ hs_U := hs_t5 94 (by decide +kernel) rfl
set_option maxHeartbeats 1000000 in
theorem lc_learn (C : hl_Cx p s m meth c G b L xs) (hL : L ≤ 320) (hq : q + 5 ≤ L) (hk : hl_k p l e s m below meth c G b q 1372) : hl_k p l e s m below meth c G b q 713 := by
  intro σ H locs ls hR hP hS hl
  obtain ⟨hx, hb, -⟩ := id C.1
  refine lv_aload_n hx hb (hs_tb tb_L_learn 0 rfl) rfl (lv_at hl 1 rfl) ?_
  refine hl_arg (j := 1) (jn := 1) C hS hl hL (by omega) rfl (hs_tb tb_L_learn 1 rfl) (hs_tb tb_L_learn 2 rfl) (hs_tb tb_L_learn 3 rfl) (hs_tb tb_L_learn 4 rfl) (hs_tb tb_L_learn 5 rfl) ?_
  refine hl_arg (j := 2) (jn := 2) C hS hl hL (by omega) rfl (hs_tb tb_L_learn 6 rfl) (hs_tb tb_L_learn 7 rfl) (hs_tb tb_L_learn 8 rfl) (hs_tb tb_L_learn 9 rfl) (hs_tb tb_L_learn 10 rfl) ?_
  refine hl_callV (y := m_X5_learn) (As := [.int (xs (q + 1)), .int (xs (q + 2))]) (rest := []) (k := 0) C hP hS hl.1 (hs_tb tb_L_learn 11 rfl) ml_L_86 cm_X5_learn cv_X5_learn rfl ⟨Nat.le_of_ble_eq_true rfl, Nat.le_of_ble_eq_true rfl⟩ (Nat.le_of_ble_eq_true rfl) rfl rfl rfl (OkI.go (pr_learn (K := fun q1 q2 τ => ∀ (H1 : Heap) (locs1 : List Loc), va_P G.1 vwCl (hs_enc G τ) H1 → va_S (fun q => s.heap.size ≤ q) s.heap H1 locs1 → W p l e room_1 s m #[Value.ref b] below meth c H1 locs1 77 1612 (lw_Z below #[Value.ref b] s) (F0 m 741 ls [.int q2, .int q1])) hR (fun q1 τ hR1 H1 locs1 hP1 hS1 => ?_)) (fun q1 σ2 h2 H1 locs1 hP1 hS1 => ?_))
  · exact lv_icmp_eq (tgt := 1372) hx hb (hs_tb tb_L_learn 24 rfl) rfl (fun _ => hk τ H1 locs1 ls hR1 hP1 hS1 hl) (fun h => absurd rfl h)
  · refine lv_aload_n (rest := [.int q1]) hx hb (hs_tb tb_L_learn 12 rfl) rfl (lv_at hl 2 rfl) ?_
    refine hl_arg (j := 1) (jn := 1) C hS1 hl hL (by omega) rfl (hs_tb tb_L_learn 13 rfl) (hs_tb tb_L_learn 14 rfl) (hs_tb tb_L_learn 15 rfl) (hs_tb tb_L_learn 16 rfl) (hs_tb tb_L_learn 17 rfl) ?_
    refine hl_arg (j := 2) (jn := 2) C hS1 hl hL (by omega) rfl (hs_tb tb_L_learn 18 rfl) (hs_tb tb_L_learn 19 rfl) (hs_tb tb_L_learn 20 rfl) (hs_tb tb_L_learn 21 rfl) (hs_tb tb_L_learn 22 rfl) ?_
    exact hl_callV (y := m_X6_learn) (As := [.int (xs (q + 1)), .int (xs (q + 2))]) (rest := [.int q1]) (k := 63) C hP1 hS1 hl.1 (hs_tb tb_L_learn 23 rfl) ml_L_89 cm_X6_learn cv_X6_learn rfl ⟨Nat.le_of_ble_eq_true rfl, Nat.le_of_ble_eq_true rfl⟩ (Nat.le_of_ble_eq_true rfl) rfl rfl rfl (OkI.go h2 (fun q2 τ h3 H2 locs2 hP2 hS2 => h3 H2 locs2 hP2 hS2))
def tab_L_quiet : List (Nat × Instr × Nat) := [(746, .aload_n 1, 1), (747, .aload_n 0, 1), (748, .iload_n 3, 1), (749, .iconst 1, 1), (750, .iadd, 1), (751, .iaload, 1), (752, .aload_n 0, 1), (753, .iload_n 3, 1), (754, .iconst 2, 1), (755, .iadd, 1), (756, .iaload, 1), (757, .invokevirtual 90, 3), (760, .aload_n 2, 1), (761, .aload_n 0, 1), (762, .iload_n 3, 1), (763, .iconst 1, 1), (764, .iadd, 1), (765, .iaload, 1), (766, .aload_n 0, 1), (767, .iload_n 3, 1), (768, .iconst 2, 1), (769, .iadd, 1), (770, .iaload, 1), (771, .invokevirtual 93, 3), (774, .if_icmp .eq 598, 3), (777, .iconst 0, 1), (778, .ireturn, 1)]
theorem tb_L_quiet : ∀ q ∈ tab_L_quiet, decode code q.1 = .ok q.2 := by decide +kernel
theorem ml_L_90 : Cond.methodLink R_law 90 m_X5_quiet.1 ∈ hs_U := hs_t3 95 (by decide +kernel) rfl
theorem ml_L_93 : Cond.methodLink R_law 93 m_X6_quiet.1 ∈ hs_U := hs_t5 98 (by decide +kernel) rfl
set_option maxHeartbeats 1000000 in
theorem lc_quiet (C : hl_Cx p s m meth c G b L xs) (hL : L ≤ 320) (hq : q + 5 ≤ L) (hk : hl_k p l e s m below meth c G b q 1372) : hl_k p l e s m below meth c G b q 746 := by
  intro σ H locs ls hR hP hS hl
  obtain ⟨hx, hb, -⟩ := id C.1
  refine lv_aload_n hx hb (hs_tb tb_L_quiet 0 rfl) rfl (lv_at hl 1 rfl) ?_
  refine hl_arg (j := 1) (jn := 1) C hS hl hL (by omega) rfl (hs_tb tb_L_quiet 1 rfl) (hs_tb tb_L_quiet 2 rfl) (hs_tb tb_L_quiet 3 rfl) (hs_tb tb_L_quiet 4 rfl) (hs_tb tb_L_quiet 5 rfl) ?_
  refine hl_arg (j := 2) (jn := 2) C hS hl hL (by omega) rfl (hs_tb tb_L_quiet 6 rfl) (hs_tb tb_L_quiet 7 rfl) (hs_tb tb_L_quiet 8 rfl) (hs_tb tb_L_quiet 9 rfl) (hs_tb tb_L_quiet 10 rfl) ?_
  refine hl_callV (y := m_X5_quiet) (As := [.int (xs (q + 1)), .int (xs (q + 2))]) (rest := []) (k := 0) C hP hS hl.1 (hs_tb tb_L_quiet 11 rfl) ml_L_90 cm_X5_quiet cv_X5_quiet rfl ⟨Nat.le_of_ble_eq_true rfl, Nat.le_of_ble_eq_true rfl⟩ (Nat.le_of_ble_eq_true rfl) rfl rfl rfl (OkI.go (pr_quiet (K := fun q1 q2 τ => ∀ (H1 : Heap) (locs1 : List Loc), va_P G.1 vwCl (hs_enc G τ) H1 → va_S (fun q => s.heap.size ≤ q) s.heap H1 locs1 → W p l e room_1 s m #[Value.ref b] below meth c H1 locs1 77 1612 (lw_Z below #[Value.ref b] s) (F0 m 774 ls [.int q2, .int q1])) hR (fun q1 τ hR1 H1 locs1 hP1 hS1 => ?_)) (fun q1 σ2 h2 H1 locs1 hP1 hS1 => ?_))
  · exact lv_icmp_eq (tgt := 1372) hx hb (hs_tb tb_L_quiet 24 rfl) rfl (fun _ => hk τ H1 locs1 ls hR1 hP1 hS1 hl) (fun h => absurd rfl h)
  · refine lv_aload_n (rest := [.int q1]) hx hb (hs_tb tb_L_quiet 12 rfl) rfl (lv_at hl 2 rfl) ?_
    refine hl_arg (j := 1) (jn := 1) C hS1 hl hL (by omega) rfl (hs_tb tb_L_quiet 13 rfl) (hs_tb tb_L_quiet 14 rfl) (hs_tb tb_L_quiet 15 rfl) (hs_tb tb_L_quiet 16 rfl) (hs_tb tb_L_quiet 17 rfl) ?_
    refine hl_arg (j := 2) (jn := 2) C hS1 hl hL (by omega) rfl (hs_tb tb_L_quiet 18 rfl) (hs_tb tb_L_quiet 19 rfl) (hs_tb tb_L_quiet 20 rfl) (hs_tb tb_L_quiet 21 rfl) (hs_tb tb_L_quiet 22 rfl) ?_
    exact hl_callV (y := m_X6_quiet) (As := [.int (xs (q + 1)), .int (xs (q + 2))]) (rest := [.int q1]) (k := 63) C hP1 hS1 hl.1 (hs_tb tb_L_quiet 23 rfl) ml_L_93 cm_X6_quiet cv_X6_quiet rfl ⟨Nat.le_of_ble_eq_true rfl, Nat.le_of_ble_eq_true rfl⟩ (Nat.le_of_ble_eq_true rfl) rfl rfl rfl (OkI.go h2 (fun q2 τ h3 H2 locs2 hP2 hS2 => h3 H2 locs2 hP2 hS2))
def tab_L_better : List (Nat × Instr × Nat) := [(779, .aload_n 1, 1), (780, .aload_n 0, 1), (781, .iload_n 3, 1), (782, .iconst 1, 1), (783, .iadd, 1), (784, .iaload, 1), (785, .aload_n 0, 1), (786, .iload_n 3, 1), (787, .iconst 2, 1), (788, .iadd, 1), (789, .iaload, 1), (790, .aload_n 0, 1), (791, .iload_n 3, 1), (792, .iconst 3, 1), (793, .iadd, 1), (794, .iaload, 1), (795, .invokevirtual 94, 3), (798, .aload_n 2, 1), (799, .aload_n 0, 1), (800, .iload_n 3, 1), (801, .iconst 1, 1), (802, .iadd, 1), (803, .iaload, 1), (804, .aload_n 0, 1), (805, .iload_n 3, 1), (806, .iconst 2, 1), (807, .iadd, 1), (808, .iaload, 1), (809, .aload_n 0, 1), (810, .iload_n 3, 1), (811, .iconst 3, 1), (812, .iadd, 1), (813, .iaload, 1), (814, .invokevirtual 97, 3), (817, .if_icmp .eq 555, 3), (820, .iconst 0, 1), (821, .ireturn, 1)]
theorem tb_L_better : ∀ q ∈ tab_L_better, decode code q.1 = .ok q.2 := by decide +kernel
theorem ml_L_94 : Cond.methodLink R_law 94 m_X5_better.1 ∈ hs_U := hs_t3 99 (by decide +kernel) rfl
theorem ml_L_97 : Cond.methodLink R_law 97 m_X6_better.1 ∈ hs_U := hs_t5 102 (by decide +kernel) rfl
set_option maxHeartbeats 1000000 in
theorem lc_better (C : hl_Cx p s m meth c G b L xs) (hL : L ≤ 320) (hq : q + 5 ≤ L) (hk : hl_k p l e s m below meth c G b q 1372) : hl_k p l e s m below meth c G b q 779 := by
  intro σ H locs ls hR hP hS hl
  obtain ⟨hx, hb, -⟩ := id C.1
  refine lv_aload_n hx hb (hs_tb tb_L_better 0 rfl) rfl (lv_at hl 1 rfl) ?_
  refine hl_arg (j := 1) (jn := 1) C hS hl hL (by omega) rfl (hs_tb tb_L_better 1 rfl) (hs_tb tb_L_better 2 rfl) (hs_tb tb_L_better 3 rfl) (hs_tb tb_L_better 4 rfl) (hs_tb tb_L_better 5 rfl) ?_
  refine hl_arg (j := 2) (jn := 2) C hS hl hL (by omega) rfl (hs_tb tb_L_better 6 rfl) (hs_tb tb_L_better 7 rfl) (hs_tb tb_L_better 8 rfl) (hs_tb tb_L_better 9 rfl) (hs_tb tb_L_better 10 rfl) ?_
  refine hl_arg (j := 3) (jn := 3) C hS hl hL (by omega) rfl (hs_tb tb_L_better 11 rfl) (hs_tb tb_L_better 12 rfl) (hs_tb tb_L_better 13 rfl) (hs_tb tb_L_better 14 rfl) (hs_tb tb_L_better 15 rfl) ?_
  refine hl_callV (y := m_X5_better) (As := [.int (xs (q + 1)), .int (xs (q + 2)), .int (xs (q + 3))]) (rest := []) (k := 0) C hP hS hl.1 (hs_tb tb_L_better 16 rfl) ml_L_94 cm_X5_better cv_X5_better rfl ⟨Nat.le_of_ble_eq_true rfl, Nat.le_of_ble_eq_true rfl⟩ (Nat.le_of_ble_eq_true rfl) rfl rfl rfl (OkI.go (pr_better (K := fun q1 q2 τ => ∀ (H1 : Heap) (locs1 : List Loc), va_P G.1 vwCl (hs_enc G τ) H1 → va_S (fun q => s.heap.size ≤ q) s.heap H1 locs1 → W p l e room_1 s m #[Value.ref b] below meth c H1 locs1 77 1612 (lw_Z below #[Value.ref b] s) (F0 m 817 ls [.int q2, .int q1])) hR (fun q1 τ hR1 H1 locs1 hP1 hS1 => ?_)) (fun q1 σ2 h2 H1 locs1 hP1 hS1 => ?_))
  · exact lv_icmp_eq (tgt := 1372) hx hb (hs_tb tb_L_better 34 rfl) rfl (fun _ => hk τ H1 locs1 ls hR1 hP1 hS1 hl) (fun h => absurd rfl h)
  · refine lv_aload_n (rest := [.int q1]) hx hb (hs_tb tb_L_better 17 rfl) rfl (lv_at hl 2 rfl) ?_
    refine hl_arg (j := 1) (jn := 1) C hS1 hl hL (by omega) rfl (hs_tb tb_L_better 18 rfl) (hs_tb tb_L_better 19 rfl) (hs_tb tb_L_better 20 rfl) (hs_tb tb_L_better 21 rfl) (hs_tb tb_L_better 22 rfl) ?_
    refine hl_arg (j := 2) (jn := 2) C hS1 hl hL (by omega) rfl (hs_tb tb_L_better 23 rfl) (hs_tb tb_L_better 24 rfl) (hs_tb tb_L_better 25 rfl) (hs_tb tb_L_better 26 rfl) (hs_tb tb_L_better 27 rfl) ?_
    refine hl_arg (j := 3) (jn := 3) C hS1 hl hL (by omega) rfl (hs_tb tb_L_better 28 rfl) (hs_tb tb_L_better 29 rfl) (hs_tb tb_L_better 30 rfl) (hs_tb tb_L_better 31 rfl) (hs_tb tb_L_better 32 rfl) ?_
    exact hl_callV (y := m_X6_better) (As := [.int (xs (q + 1)), .int (xs (q + 2)), .int (xs (q + 3))]) (rest := [.int q1]) (k := 63) C hP1 hS1 hl.1 (hs_tb tb_L_better 33 rfl) ml_L_97 cm_X6_better cv_X6_better rfl ⟨Nat.le_of_ble_eq_true rfl, Nat.le_of_ble_eq_true rfl⟩ (Nat.le_of_ble_eq_true rfl) rfl rfl rfl (OkI.go h2 (fun q2 τ h3 H2 locs2 hP2 hS2 => h3 H2 locs2 hP2 hS2))
def tab_L_from : List (Nat × Instr × Nat) := [(822, .aload_n 1, 1), (823, .aload_n 0, 1), (824, .iload_n 3, 1), (825, .iconst 1, 1), (826, .iadd, 1), (827, .iaload, 1), (828, .aload_n 0, 1), (829, .iload_n 3, 1), (830, .iconst 2, 1), (831, .iadd, 1), (832, .iaload, 1), (833, .invokevirtual 98, 3), (836, .aload_n 2, 1), (837, .aload_n 0, 1), (838, .iload_n 3, 1), (839, .iconst 1, 1), (840, .iadd, 1), (841, .iaload, 1), (842, .aload_n 0, 1), (843, .iload_n 3, 1), (844, .iconst 2, 1), (845, .iadd, 1), (846, .iaload, 1), (847, .invokevirtual 101, 3), (850, .if_icmp .eq 522, 3), (853, .iconst 0, 1), (854, .ireturn, 1)]
theorem tb_L_from : ∀ q ∈ tab_L_from, decode code q.1 = .ok q.2 := by decide +kernel
theorem ml_L_98 : Cond.methodLink R_law 98 m_X5_from.1 ∈ hs_U := hs_t3 108 (by decide +kernel) rfl
theorem ml_L_101 : Cond.methodLink R_law 101 m_X6_from.1 ∈ hs_U := hs_t5 106 (by decide +kernel) rfl
set_option maxHeartbeats 1000000 in
theorem lc_from (C : hl_Cx p s m meth c G b L xs) (hL : L ≤ 320) (hq : q + 5 ≤ L) (hk : hl_k p l e s m below meth c G b q 1372) : hl_k p l e s m below meth c G b q 822 := by
  intro σ H locs ls hR hP hS hl
  obtain ⟨hx, hb, -⟩ := id C.1
  refine lv_aload_n hx hb (hs_tb tb_L_from 0 rfl) rfl (lv_at hl 1 rfl) ?_
  refine hl_arg (j := 1) (jn := 1) C hS hl hL (by omega) rfl (hs_tb tb_L_from 1 rfl) (hs_tb tb_L_from 2 rfl) (hs_tb tb_L_from 3 rfl) (hs_tb tb_L_from 4 rfl) (hs_tb tb_L_from 5 rfl) ?_
  refine hl_arg (j := 2) (jn := 2) C hS hl hL (by omega) rfl (hs_tb tb_L_from 6 rfl) (hs_tb tb_L_from 7 rfl) (hs_tb tb_L_from 8 rfl) (hs_tb tb_L_from 9 rfl) (hs_tb tb_L_from 10 rfl) ?_
  refine hl_callV (y := m_X5_from) (As := [.int (xs (q + 1)), .int (xs (q + 2))]) (rest := []) (k := 0) C hP hS hl.1 (hs_tb tb_L_from 11 rfl) ml_L_98 cm_X5_from cv_X5_from rfl ⟨Nat.le_of_ble_eq_true rfl, Nat.le_of_ble_eq_true rfl⟩ (Nat.le_of_ble_eq_true rfl) rfl rfl rfl (OkI.go (pr_from (K := fun q1 q2 τ => ∀ (H1 : Heap) (locs1 : List Loc), va_P G.1 vwCl (hs_enc G τ) H1 → va_S (fun q => s.heap.size ≤ q) s.heap H1 locs1 → W p l e room_1 s m #[Value.ref b] below meth c H1 locs1 77 1612 (lw_Z below #[Value.ref b] s) (F0 m 850 ls [.int q2, .int q1])) hR (fun q1 τ hR1 H1 locs1 hP1 hS1 => ?_)) (fun q1 σ2 h2 H1 locs1 hP1 hS1 => ?_))
  · exact lv_icmp_eq (tgt := 1372) hx hb (hs_tb tb_L_from 24 rfl) rfl (fun _ => hk τ H1 locs1 ls hR1 hP1 hS1 hl) (fun h => absurd rfl h)
  · refine lv_aload_n (rest := [.int q1]) hx hb (hs_tb tb_L_from 12 rfl) rfl (lv_at hl 2 rfl) ?_
    refine hl_arg (j := 1) (jn := 1) C hS1 hl hL (by omega) rfl (hs_tb tb_L_from 13 rfl) (hs_tb tb_L_from 14 rfl) (hs_tb tb_L_from 15 rfl) (hs_tb tb_L_from 16 rfl) (hs_tb tb_L_from 17 rfl) ?_
    refine hl_arg (j := 2) (jn := 2) C hS1 hl hL (by omega) rfl (hs_tb tb_L_from 18 rfl) (hs_tb tb_L_from 19 rfl) (hs_tb tb_L_from 20 rfl) (hs_tb tb_L_from 21 rfl) (hs_tb tb_L_from 22 rfl) ?_
    exact hl_callV (y := m_X6_from) (As := [.int (xs (q + 1)), .int (xs (q + 2))]) (rest := [.int q1]) (k := 63) C hP1 hS1 hl.1 (hs_tb tb_L_from 23 rfl) ml_L_101 cm_X6_from cv_X6_from rfl ⟨Nat.le_of_ble_eq_true rfl, Nat.le_of_ble_eq_true rfl⟩ (Nat.le_of_ble_eq_true rfl) rfl rfl rfl (OkI.go h2 (fun q2 τ h3 H2 locs2 hP2 hS2 => h3 H2 locs2 hP2 hS2))
def tab_L_luck : List (Nat × Instr × Nat) := [(855, .aload_n 1, 1), (856, .aload_n 0, 1), (857, .iload_n 3, 1), (858, .iconst 1, 1), (859, .iadd, 1), (860, .iaload, 1), (861, .aload_n 0, 1), (862, .iload_n 3, 1), (863, .iconst 2, 1), (864, .iadd, 1), (865, .iaload, 1), (866, .aload_n 0, 1), (867, .iload_n 3, 1), (868, .iconst 3, 1), (869, .iadd, 1), (870, .iaload, 1), (871, .aload_n 0, 1), (872, .iload_n 3, 1), (873, .iconst 4, 1), (874, .iadd, 1), (875, .iaload, 1), (876, .invokevirtual 102, 3), (879, .aload_n 2, 1), (880, .aload_n 0, 1), (881, .iload_n 3, 1), (882, .iconst 1, 1), (883, .iadd, 1), (884, .iaload, 1), (885, .aload_n 0, 1), (886, .iload_n 3, 1), (887, .iconst 2, 1), (888, .iadd, 1), (889, .iaload, 1), (890, .aload_n 0, 1), (891, .iload_n 3, 1), (892, .iconst 3, 1), (893, .iadd, 1), (894, .iaload, 1), (895, .aload_n 0, 1), (896, .iload_n 3, 1), (897, .iconst 4, 1), (898, .iadd, 1), (899, .iaload, 1), (900, .invokevirtual 106, 3), (903, .lcmp, 1), (904, .ifCond .eq 468, 3), (907, .iconst 0, 1), (908, .ireturn, 1)]
theorem tb_L_luck : ∀ q ∈ tab_L_luck, decode code q.1 = .ok q.2 := by decide +kernel
theorem ml_L_102 : Cond.methodLink R_law 102 m_X5_luck.1 ∈ hs_U := hs_t3 112 (by decide +kernel) rfl
theorem ml_L_106 : Cond.methodLink R_law 106 m_X6_luck.1 ∈ hs_U := hs_t5 110 (by decide +kernel) rfl
set_option maxHeartbeats 1000000 in
theorem lc_luck (C : hl_Cx p s m meth c G b L xs) (hL : L ≤ 320) (hq : q + 5 ≤ L) (hk : hl_k p l e s m below meth c G b q 1372) : hl_k p l e s m below meth c G b q 855 := by
  intro σ H locs ls hR hP hS hl
  obtain ⟨hx, hb, -⟩ := id C.1
  refine lv_aload_n hx hb (hs_tb tb_L_luck 0 rfl) rfl (lv_at hl 1 rfl) ?_
  refine hl_arg (j := 1) (jn := 1) C hS hl hL (by omega) rfl (hs_tb tb_L_luck 1 rfl) (hs_tb tb_L_luck 2 rfl) (hs_tb tb_L_luck 3 rfl) (hs_tb tb_L_luck 4 rfl) (hs_tb tb_L_luck 5 rfl) ?_
  refine hl_arg (j := 2) (jn := 2) C hS hl hL (by omega) rfl (hs_tb tb_L_luck 6 rfl) (hs_tb tb_L_luck 7 rfl) (hs_tb tb_L_luck 8 rfl) (hs_tb tb_L_luck 9 rfl) (hs_tb tb_L_luck 10 rfl) ?_
  refine hl_arg (j := 3) (jn := 3) C hS hl hL (by omega) rfl (hs_tb tb_L_luck 11 rfl) (hs_tb tb_L_luck 12 rfl) (hs_tb tb_L_luck 13 rfl) (hs_tb tb_L_luck 14 rfl) (hs_tb tb_L_luck 15 rfl) ?_
  refine hl_arg (j := 4) (jn := 4) C hS hl hL (by omega) rfl (hs_tb tb_L_luck 16 rfl) (hs_tb tb_L_luck 17 rfl) (hs_tb tb_L_luck 18 rfl) (hs_tb tb_L_luck 19 rfl) (hs_tb tb_L_luck 20 rfl) ?_
  refine hl_callV (y := m_X5_luck) (As := [.int (xs (q + 1)), .int (xs (q + 2)), .int (xs (q + 3)), .int (xs (q + 4))]) (rest := []) (k := 0) C hP hS hl.1 (hs_tb tb_L_luck 21 rfl) ml_L_102 cm_X5_luck cv_X5_luck rfl ⟨Nat.le_of_ble_eq_true rfl, Nat.le_of_ble_eq_true rfl⟩ (Nat.le_of_ble_eq_true rfl) rfl rfl rfl (OkL.go (pr_luck (K := fun q1 q2 τ => ∀ (H1 : Heap) (locs1 : List Loc), va_P G.1 vwCl (hs_enc G τ) H1 → va_S (fun q => s.heap.size ≤ q) s.heap H1 locs1 → W p l e room_1 s m #[Value.ref b] below meth c H1 locs1 77 1612 (lw_Z below #[Value.ref b] s) (F0 m 903 ls [.long q2, .long q1])) hR (fun q1 τ hR1 H1 locs1 hP1 hS1 => ?_)) (fun q1 σ2 h2 H1 locs1 hP1 hS1 => ?_))
  · refine W.lcmp hx hb (hs_tb tb_L_luck 44 rfl) ?_
    exact lv_if_eq (tgt := 1372) hx hb (hs_tb tb_L_luck 45 rfl) rfl (fun _ => hk τ H1 locs1 ls hR1 hP1 hS1 hl) (fun h => absurd ((lg_cmp_eq q1 q1).mpr rfl) h)
  · refine lv_aload_n (rest := [.long q1]) hx hb (hs_tb tb_L_luck 22 rfl) rfl (lv_at hl 2 rfl) ?_
    refine hl_arg (j := 1) (jn := 1) C hS1 hl hL (by omega) rfl (hs_tb tb_L_luck 23 rfl) (hs_tb tb_L_luck 24 rfl) (hs_tb tb_L_luck 25 rfl) (hs_tb tb_L_luck 26 rfl) (hs_tb tb_L_luck 27 rfl) ?_
    refine hl_arg (j := 2) (jn := 2) C hS1 hl hL (by omega) rfl (hs_tb tb_L_luck 28 rfl) (hs_tb tb_L_luck 29 rfl) (hs_tb tb_L_luck 30 rfl) (hs_tb tb_L_luck 31 rfl) (hs_tb tb_L_luck 32 rfl) ?_
    refine hl_arg (j := 3) (jn := 3) C hS1 hl hL (by omega) rfl (hs_tb tb_L_luck 33 rfl) (hs_tb tb_L_luck 34 rfl) (hs_tb tb_L_luck 35 rfl) (hs_tb tb_L_luck 36 rfl) (hs_tb tb_L_luck 37 rfl) ?_
    refine hl_arg (j := 4) (jn := 4) C hS1 hl hL (by omega) rfl (hs_tb tb_L_luck 38 rfl) (hs_tb tb_L_luck 39 rfl) (hs_tb tb_L_luck 40 rfl) (hs_tb tb_L_luck 41 rfl) (hs_tb tb_L_luck 42 rfl) ?_
    exact hl_callV (y := m_X6_luck) (As := [.int (xs (q + 1)), .int (xs (q + 2)), .int (xs (q + 3)), .int (xs (q + 4))]) (rest := [.long q1]) (k := 63) C hP1 hS1 hl.1 (hs_tb tb_L_luck 43 rfl) ml_L_106 cm_X6_luck cv_X6_luck rfl ⟨Nat.le_of_ble_eq_true rfl, Nat.le_of_ble_eq_true rfl⟩ (Nat.le_of_ble_eq_true rfl) rfl rfl rfl (OkL.go h2 (fun q2 τ h3 H2 locs2 hP2 hS2 => h3 H2 locs2 hP2 hS2))
def tab_L_mean : List (Nat × Instr × Nat) := [(909, .aload_n 1, 1), (910, .aload_n 0, 1), (911, .iload_n 3, 1), (912, .iconst 1, 1), (913, .iadd, 1), (914, .iaload, 1), (915, .aload_n 0, 1), (916, .iload_n 3, 1), (917, .iconst 2, 1), (918, .iadd, 1), (919, .iaload, 1), (920, .aload_n 0, 1), (921, .iload_n 3, 1), (922, .iconst 3, 1), (923, .iadd, 1), (924, .iaload, 1), (925, .invokevirtual 107, 3), (928, .aload_n 2, 1), (929, .aload_n 0, 1), (930, .iload_n 3, 1), (931, .iconst 1, 1), (932, .iadd, 1), (933, .iaload, 1), (934, .aload_n 0, 1), (935, .iload_n 3, 1), (936, .iconst 2, 1), (937, .iadd, 1), (938, .iaload, 1), (939, .aload_n 0, 1), (940, .iload_n 3, 1), (941, .iconst 3, 1), (942, .iadd, 1), (943, .iaload, 1), (944, .invokevirtual 111, 3), (947, .lcmp, 1), (948, .ifCond .eq 424, 3), (951, .iconst 0, 1), (952, .ireturn, 1)]
theorem tb_L_mean : ∀ q ∈ tab_L_mean, decode code q.1 = .ok q.2 := by decide +kernel
theorem ml_L_107 : Cond.methodLink R_law 107 m_X5_mean.1 ∈ hs_U := hs_t3 131 (by decide +kernel) rfl
theorem ml_L_111 : Cond.methodLink R_law 111 m_X6_mean.1 ∈ hs_U := hs_t5 126 (by decide +kernel) rfl
set_option maxHeartbeats 1000000 in
theorem lc_mean (C : hl_Cx p s m meth c G b L xs) (hL : L ≤ 320) (hq : q + 5 ≤ L) (hk : hl_k p l e s m below meth c G b q 1372) : hl_k p l e s m below meth c G b q 909 := by
  intro σ H locs ls hR hP hS hl
  obtain ⟨hx, hb, -⟩ := id C.1
  refine lv_aload_n hx hb (hs_tb tb_L_mean 0 rfl) rfl (lv_at hl 1 rfl) ?_
  refine hl_arg (j := 1) (jn := 1) C hS hl hL (by omega) rfl (hs_tb tb_L_mean 1 rfl) (hs_tb tb_L_mean 2 rfl) (hs_tb tb_L_mean 3 rfl) (hs_tb tb_L_mean 4 rfl) (hs_tb tb_L_mean 5 rfl) ?_
  refine hl_arg (j := 2) (jn := 2) C hS hl hL (by omega) rfl (hs_tb tb_L_mean 6 rfl) (hs_tb tb_L_mean 7 rfl) (hs_tb tb_L_mean 8 rfl) (hs_tb tb_L_mean 9 rfl) (hs_tb tb_L_mean 10 rfl) ?_
  refine hl_arg (j := 3) (jn := 3) C hS hl hL (by omega) rfl (hs_tb tb_L_mean 11 rfl) (hs_tb tb_L_mean 12 rfl) (hs_tb tb_L_mean 13 rfl) (hs_tb tb_L_mean 14 rfl) (hs_tb tb_L_mean 15 rfl) ?_
  refine hl_callV (y := m_X5_mean) (As := [.int (xs (q + 1)), .int (xs (q + 2)), .int (xs (q + 3))]) (rest := []) (k := 0) C hP hS hl.1 (hs_tb tb_L_mean 16 rfl) ml_L_107 cm_X5_mean cv_X5_mean rfl ⟨Nat.le_of_ble_eq_true rfl, Nat.le_of_ble_eq_true rfl⟩ (Nat.le_of_ble_eq_true rfl) rfl rfl rfl (OkL.go (pr_mean (K := fun q1 q2 τ => ∀ (H1 : Heap) (locs1 : List Loc), va_P G.1 vwCl (hs_enc G τ) H1 → va_S (fun q => s.heap.size ≤ q) s.heap H1 locs1 → W p l e room_1 s m #[Value.ref b] below meth c H1 locs1 77 1612 (lw_Z below #[Value.ref b] s) (F0 m 947 ls [.long q2, .long q1])) hR (fun q1 τ hR1 H1 locs1 hP1 hS1 => ?_)) (fun q1 σ2 h2 H1 locs1 hP1 hS1 => ?_))
  · refine W.lcmp hx hb (hs_tb tb_L_mean 34 rfl) ?_
    exact lv_if_eq (tgt := 1372) hx hb (hs_tb tb_L_mean 35 rfl) rfl (fun _ => hk τ H1 locs1 ls hR1 hP1 hS1 hl) (fun h => absurd ((lg_cmp_eq q1 q1).mpr rfl) h)
  · refine lv_aload_n (rest := [.long q1]) hx hb (hs_tb tb_L_mean 17 rfl) rfl (lv_at hl 2 rfl) ?_
    refine hl_arg (j := 1) (jn := 1) C hS1 hl hL (by omega) rfl (hs_tb tb_L_mean 18 rfl) (hs_tb tb_L_mean 19 rfl) (hs_tb tb_L_mean 20 rfl) (hs_tb tb_L_mean 21 rfl) (hs_tb tb_L_mean 22 rfl) ?_
    refine hl_arg (j := 2) (jn := 2) C hS1 hl hL (by omega) rfl (hs_tb tb_L_mean 23 rfl) (hs_tb tb_L_mean 24 rfl) (hs_tb tb_L_mean 25 rfl) (hs_tb tb_L_mean 26 rfl) (hs_tb tb_L_mean 27 rfl) ?_
    refine hl_arg (j := 3) (jn := 3) C hS1 hl hL (by omega) rfl (hs_tb tb_L_mean 28 rfl) (hs_tb tb_L_mean 29 rfl) (hs_tb tb_L_mean 30 rfl) (hs_tb tb_L_mean 31 rfl) (hs_tb tb_L_mean 32 rfl) ?_
    exact hl_callV (y := m_X6_mean) (As := [.int (xs (q + 1)), .int (xs (q + 2)), .int (xs (q + 3))]) (rest := [.long q1]) (k := 63) C hP1 hS1 hl.1 (hs_tb tb_L_mean 33 rfl) ml_L_111 cm_X6_mean cv_X6_mean rfl ⟨Nat.le_of_ble_eq_true rfl, Nat.le_of_ble_eq_true rfl⟩ (Nat.le_of_ble_eq_true rfl) rfl rfl rfl (OkL.go h2 (fun q2 τ h3 H2 locs2 hP2 hS2 => h3 H2 locs2 hP2 hS2))
def tab_L_see : List (Nat × Instr × Nat) := [(953, .aload_n 1, 1), (954, .aload_n 0, 1), (955, .iload_n 3, 1), (956, .iconst 1, 1), (957, .iadd, 1), (958, .iaload, 1), (959, .aload_n 0, 1), (960, .iload_n 3, 1), (961, .iconst 2, 1), (962, .iadd, 1), (963, .iaload, 1), (964, .aload_n 0, 1), (965, .iload_n 3, 1), (966, .iconst 3, 1), (967, .iadd, 1), (968, .iaload, 1), (969, .invokevirtual 112, 3), (972, .aload_n 2, 1), (973, .aload_n 0, 1), (974, .iload_n 3, 1), (975, .iconst 1, 1), (976, .iadd, 1), (977, .iaload, 1), (978, .aload_n 0, 1), (979, .iload_n 3, 1), (980, .iconst 2, 1), (981, .iadd, 1), (982, .iaload, 1), (983, .aload_n 0, 1), (984, .iload_n 3, 1), (985, .iconst 3, 1), (986, .iadd, 1), (987, .iaload, 1), (988, .invokevirtual 115, 3), (991, .if_icmp .eq 381, 3), (994, .iconst 0, 1), (995, .ireturn, 1)]
theorem tb_L_see : ∀ q ∈ tab_L_see, decode code q.1 = .ok q.2 := by decide +kernel
theorem ml_L_112 : Cond.methodLink R_law 112 m_X5_see.1 ∈ hs_U := hs_t3 135 (by decide +kernel) rfl
theorem ml_L_115 : Cond.methodLink R_law 115 m_X6_see.1 ∈ hs_U := hs_t5 130 (by decide +kernel) rfl
set_option maxHeartbeats 1000000 in
theorem lc_see (C : hl_Cx p s m meth c G b L xs) (hL : L ≤ 320) (hq : q + 5 ≤ L) (hk : hl_k p l e s m below meth c G b q 1372) : hl_k p l e s m below meth c G b q 953 := by
  intro σ H locs ls hR hP hS hl
  obtain ⟨hx, hb, -⟩ := id C.1
  refine lv_aload_n hx hb (hs_tb tb_L_see 0 rfl) rfl (lv_at hl 1 rfl) ?_
  refine hl_arg (j := 1) (jn := 1) C hS hl hL (by omega) rfl (hs_tb tb_L_see 1 rfl) (hs_tb tb_L_see 2 rfl) (hs_tb tb_L_see 3 rfl) (hs_tb tb_L_see 4 rfl) (hs_tb tb_L_see 5 rfl) ?_
  refine hl_arg (j := 2) (jn := 2) C hS hl hL (by omega) rfl (hs_tb tb_L_see 6 rfl) (hs_tb tb_L_see 7 rfl) (hs_tb tb_L_see 8 rfl) (hs_tb tb_L_see 9 rfl) (hs_tb tb_L_see 10 rfl) ?_
  refine hl_arg (j := 3) (jn := 3) C hS hl hL (by omega) rfl (hs_tb tb_L_see 11 rfl) (hs_tb tb_L_see 12 rfl) (hs_tb tb_L_see 13 rfl) (hs_tb tb_L_see 14 rfl) (hs_tb tb_L_see 15 rfl) ?_
  refine hl_callV (y := m_X5_see) (As := [.int (xs (q + 1)), .int (xs (q + 2)), .int (xs (q + 3))]) (rest := []) (k := 0) C hP hS hl.1 (hs_tb tb_L_see 16 rfl) ml_L_112 cm_X5_see cv_X5_see rfl ⟨Nat.le_of_ble_eq_true rfl, Nat.le_of_ble_eq_true rfl⟩ (Nat.le_of_ble_eq_true rfl) rfl rfl rfl (OkI.go (pr_see (K := fun q1 q2 τ => ∀ (H1 : Heap) (locs1 : List Loc), va_P G.1 vwCl (hs_enc G τ) H1 → va_S (fun q => s.heap.size ≤ q) s.heap H1 locs1 → W p l e room_1 s m #[Value.ref b] below meth c H1 locs1 77 1612 (lw_Z below #[Value.ref b] s) (F0 m 991 ls [.int q2, .int q1])) hR (fun q1 τ hR1 H1 locs1 hP1 hS1 => ?_)) (fun q1 σ2 h2 H1 locs1 hP1 hS1 => ?_))
  · exact lv_icmp_eq (tgt := 1372) hx hb (hs_tb tb_L_see 34 rfl) rfl (fun _ => hk τ H1 locs1 ls hR1 hP1 hS1 hl) (fun h => absurd rfl h)
  · refine lv_aload_n (rest := [.int q1]) hx hb (hs_tb tb_L_see 17 rfl) rfl (lv_at hl 2 rfl) ?_
    refine hl_arg (j := 1) (jn := 1) C hS1 hl hL (by omega) rfl (hs_tb tb_L_see 18 rfl) (hs_tb tb_L_see 19 rfl) (hs_tb tb_L_see 20 rfl) (hs_tb tb_L_see 21 rfl) (hs_tb tb_L_see 22 rfl) ?_
    refine hl_arg (j := 2) (jn := 2) C hS1 hl hL (by omega) rfl (hs_tb tb_L_see 23 rfl) (hs_tb tb_L_see 24 rfl) (hs_tb tb_L_see 25 rfl) (hs_tb tb_L_see 26 rfl) (hs_tb tb_L_see 27 rfl) ?_
    refine hl_arg (j := 3) (jn := 3) C hS1 hl hL (by omega) rfl (hs_tb tb_L_see 28 rfl) (hs_tb tb_L_see 29 rfl) (hs_tb tb_L_see 30 rfl) (hs_tb tb_L_see 31 rfl) (hs_tb tb_L_see 32 rfl) ?_
    exact hl_callV (y := m_X6_see) (As := [.int (xs (q + 1)), .int (xs (q + 2)), .int (xs (q + 3))]) (rest := [.int q1]) (k := 63) C hP1 hS1 hl.1 (hs_tb tb_L_see 33 rfl) ml_L_115 cm_X6_see cv_X6_see rfl ⟨Nat.le_of_ble_eq_true rfl, Nat.le_of_ble_eq_true rfl⟩ (Nat.le_of_ble_eq_true rfl) rfl rfl rfl (OkI.go h2 (fun q2 τ h3 H2 locs2 hP2 hS2 => h3 H2 locs2 hP2 hS2))
def tab_L_forget : List (Nat × Instr × Nat) := [(996, .aload_n 1, 1), (997, .aload_n 0, 1), (998, .iload_n 3, 1), (999, .iconst 1, 1), (1000, .iadd, 1), (1001, .iaload, 1), (1002, .invokevirtual 116, 3), (1005, .aload_n 2, 1), (1006, .aload_n 0, 1), (1007, .iload_n 3, 1), (1008, .iconst 1, 1), (1009, .iadd, 1), (1010, .iaload, 1), (1011, .invokevirtual 119, 3), (1014, .if_icmp .eq 358, 3), (1017, .iconst 0, 1), (1018, .ireturn, 1)]
theorem tb_L_forget : ∀ q ∈ tab_L_forget, decode code q.1 = .ok q.2 := by decide +kernel
theorem ml_L_116 : Cond.methodLink R_law 116 m_X5_forget.1 ∈ hs_U := hs_t3 139 (by decide +kernel) rfl
theorem ml_L_119 : Cond.methodLink R_law 119 m_X6_forget.1 ∈ hs_U := hs_t5 134 (by decide +kernel) rfl
set_option maxHeartbeats 1000000 in
theorem lc_forget (C : hl_Cx p s m meth c G b L xs) (hL : L ≤ 320) (hq : q + 5 ≤ L) (hk : hl_k p l e s m below meth c G b q 1372) : hl_k p l e s m below meth c G b q 996 := by
  intro σ H locs ls hR hP hS hl
  obtain ⟨hx, hb, -⟩ := id C.1
  refine lv_aload_n hx hb (hs_tb tb_L_forget 0 rfl) rfl (lv_at hl 1 rfl) ?_
  refine hl_arg (j := 1) (jn := 1) C hS hl hL (by omega) rfl (hs_tb tb_L_forget 1 rfl) (hs_tb tb_L_forget 2 rfl) (hs_tb tb_L_forget 3 rfl) (hs_tb tb_L_forget 4 rfl) (hs_tb tb_L_forget 5 rfl) ?_
  refine hl_callV (y := m_X5_forget) (As := [.int (xs (q + 1))]) (rest := []) (k := 0) C hP hS hl.1 (hs_tb tb_L_forget 6 rfl) ml_L_116 cm_X5_forget cv_X5_forget rfl ⟨Nat.le_of_ble_eq_true rfl, Nat.le_of_ble_eq_true rfl⟩ (Nat.le_of_ble_eq_true rfl) rfl rfl rfl (OkI.go (pr_forget (K := fun q1 q2 τ => ∀ (H1 : Heap) (locs1 : List Loc), va_P G.1 vwCl (hs_enc G τ) H1 → va_S (fun q => s.heap.size ≤ q) s.heap H1 locs1 → W p l e room_1 s m #[Value.ref b] below meth c H1 locs1 77 1612 (lw_Z below #[Value.ref b] s) (F0 m 1014 ls [.int q2, .int q1])) hR (fun q1 τ hR1 H1 locs1 hP1 hS1 => ?_)) (fun q1 σ2 h2 H1 locs1 hP1 hS1 => ?_))
  · exact lv_icmp_eq (tgt := 1372) hx hb (hs_tb tb_L_forget 14 rfl) rfl (fun _ => hk τ H1 locs1 ls hR1 hP1 hS1 hl) (fun h => absurd rfl h)
  · refine lv_aload_n (rest := [.int q1]) hx hb (hs_tb tb_L_forget 7 rfl) rfl (lv_at hl 2 rfl) ?_
    refine hl_arg (j := 1) (jn := 1) C hS1 hl hL (by omega) rfl (hs_tb tb_L_forget 8 rfl) (hs_tb tb_L_forget 9 rfl) (hs_tb tb_L_forget 10 rfl) (hs_tb tb_L_forget 11 rfl) (hs_tb tb_L_forget 12 rfl) ?_
    exact hl_callV (y := m_X6_forget) (As := [.int (xs (q + 1))]) (rest := [.int q1]) (k := 63) C hP1 hS1 hl.1 (hs_tb tb_L_forget 13 rfl) ml_L_119 cm_X6_forget cv_X6_forget rfl ⟨Nat.le_of_ble_eq_true rfl, Nat.le_of_ble_eq_true rfl⟩ (Nat.le_of_ble_eq_true rfl) rfl rfl rfl (OkI.go h2 (fun q2 τ h3 H2 locs2 hP2 hS2 => h3 H2 locs2 hP2 hS2))
def tab_L_kinds : List (Nat × Instr × Nat) := [(1019, .aload_n 1, 1), (1020, .aload_n 0, 1), (1021, .iload_n 3, 1), (1022, .iconst 1, 1), (1023, .iadd, 1), (1024, .iaload, 1), (1025, .invokevirtual 120, 3), (1028, .aload_n 2, 1), (1029, .aload_n 0, 1), (1030, .iload_n 3, 1), (1031, .iconst 1, 1), (1032, .iadd, 1), (1033, .iaload, 1), (1034, .invokevirtual 123, 3), (1037, .if_icmp .eq 335, 3), (1040, .iconst 0, 1), (1041, .ireturn, 1)]
theorem tb_L_kinds : ∀ q ∈ tab_L_kinds, decode code q.1 = .ok q.2 := by decide +kernel
theorem ml_L_120 : Cond.methodLink R_law 120 m_X5_kinds.1 ∈ hs_U := hs_t3 143 (by decide +kernel) rfl
theorem ml_L_123 : Cond.methodLink R_law 123 m_X6_kinds.1 ∈ hs_U := hs_t5 138 (by decide +kernel) rfl
set_option maxHeartbeats 1000000 in
theorem lc_kinds (C : hl_Cx p s m meth c G b L xs) (hL : L ≤ 320) (hq : q + 5 ≤ L) (hk : hl_k p l e s m below meth c G b q 1372) : hl_k p l e s m below meth c G b q 1019 := by
  intro σ H locs ls hR hP hS hl
  obtain ⟨hx, hb, -⟩ := id C.1
  refine lv_aload_n hx hb (hs_tb tb_L_kinds 0 rfl) rfl (lv_at hl 1 rfl) ?_
  refine hl_arg (j := 1) (jn := 1) C hS hl hL (by omega) rfl (hs_tb tb_L_kinds 1 rfl) (hs_tb tb_L_kinds 2 rfl) (hs_tb tb_L_kinds 3 rfl) (hs_tb tb_L_kinds 4 rfl) (hs_tb tb_L_kinds 5 rfl) ?_
  refine hl_callV (y := m_X5_kinds) (As := [.int (xs (q + 1))]) (rest := []) (k := 0) C hP hS hl.1 (hs_tb tb_L_kinds 6 rfl) ml_L_120 cm_X5_kinds cv_X5_kinds rfl ⟨Nat.le_of_ble_eq_true rfl, Nat.le_of_ble_eq_true rfl⟩ (Nat.le_of_ble_eq_true rfl) rfl rfl rfl (OkI.go (pr_kinds (K := fun q1 q2 τ => ∀ (H1 : Heap) (locs1 : List Loc), va_P G.1 vwCl (hs_enc G τ) H1 → va_S (fun q => s.heap.size ≤ q) s.heap H1 locs1 → W p l e room_1 s m #[Value.ref b] below meth c H1 locs1 77 1612 (lw_Z below #[Value.ref b] s) (F0 m 1037 ls [.int q2, .int q1])) hR (fun q1 τ hR1 H1 locs1 hP1 hS1 => ?_)) (fun q1 σ2 h2 H1 locs1 hP1 hS1 => ?_))
  · exact lv_icmp_eq (tgt := 1372) hx hb (hs_tb tb_L_kinds 14 rfl) rfl (fun _ => hk τ H1 locs1 ls hR1 hP1 hS1 hl) (fun h => absurd rfl h)
  · refine lv_aload_n (rest := [.int q1]) hx hb (hs_tb tb_L_kinds 7 rfl) rfl (lv_at hl 2 rfl) ?_
    refine hl_arg (j := 1) (jn := 1) C hS1 hl hL (by omega) rfl (hs_tb tb_L_kinds 8 rfl) (hs_tb tb_L_kinds 9 rfl) (hs_tb tb_L_kinds 10 rfl) (hs_tb tb_L_kinds 11 rfl) (hs_tb tb_L_kinds 12 rfl) ?_
    exact hl_callV (y := m_X6_kinds) (As := [.int (xs (q + 1))]) (rest := [.int q1]) (k := 63) C hP1 hS1 hl.1 (hs_tb tb_L_kinds 13 rfl) ml_L_123 cm_X6_kinds cv_X6_kinds rfl ⟨Nat.le_of_ble_eq_true rfl, Nat.le_of_ble_eq_true rfl⟩ (Nat.le_of_ble_eq_true rfl) rfl rfl rfl (OkI.go h2 (fun q2 τ h3 H2 locs2 hP2 hS2 => h3 H2 locs2 hP2 hS2))
def tab_L_second : List (Nat × Instr × Nat) := [(1042, .aload_n 1, 1), (1043, .aload_n 0, 1), (1044, .iload_n 3, 1), (1045, .iconst 1, 1), (1046, .iadd, 1), (1047, .iaload, 1), (1048, .aload_n 0, 1), (1049, .iload_n 3, 1), (1050, .iconst 2, 1), (1051, .iadd, 1), (1052, .iaload, 1), (1053, .invokevirtual 124, 3), (1056, .aload_n 2, 1), (1057, .aload_n 0, 1), (1058, .iload_n 3, 1), (1059, .iconst 1, 1), (1060, .iadd, 1), (1061, .iaload, 1), (1062, .aload_n 0, 1), (1063, .iload_n 3, 1), (1064, .iconst 2, 1), (1065, .iadd, 1), (1066, .iaload, 1), (1067, .invokevirtual 127, 3), (1070, .if_icmp .eq 302, 3), (1073, .iconst 0, 1), (1074, .ireturn, 1)]
theorem tb_L_second : ∀ q ∈ tab_L_second, decode code q.1 = .ok q.2 := by decide +kernel
theorem ml_L_124 : Cond.methodLink R_law 124 m_X5_second.1 ∈ hs_U := hs_t3 159 (by decide +kernel) rfl
theorem ml_L_127 : Cond.methodLink R_law 127 m_X6_second.1 ∈ hs_U := hs_t5 146 (by decide +kernel) rfl
set_option maxHeartbeats 1000000 in
theorem lc_second (C : hl_Cx p s m meth c G b L xs) (hL : L ≤ 320) (hq : q + 5 ≤ L) (hk : hl_k p l e s m below meth c G b q 1372) : hl_k p l e s m below meth c G b q 1042 := by
  intro σ H locs ls hR hP hS hl
  obtain ⟨hx, hb, -⟩ := id C.1
  refine lv_aload_n hx hb (hs_tb tb_L_second 0 rfl) rfl (lv_at hl 1 rfl) ?_
  refine hl_arg (j := 1) (jn := 1) C hS hl hL (by omega) rfl (hs_tb tb_L_second 1 rfl) (hs_tb tb_L_second 2 rfl) (hs_tb tb_L_second 3 rfl) (hs_tb tb_L_second 4 rfl) (hs_tb tb_L_second 5 rfl) ?_
  refine hl_arg (j := 2) (jn := 2) C hS hl hL (by omega) rfl (hs_tb tb_L_second 6 rfl) (hs_tb tb_L_second 7 rfl) (hs_tb tb_L_second 8 rfl) (hs_tb tb_L_second 9 rfl) (hs_tb tb_L_second 10 rfl) ?_
  refine hl_callV (y := m_X5_second) (As := [.int (xs (q + 1)), .int (xs (q + 2))]) (rest := []) (k := 0) C hP hS hl.1 (hs_tb tb_L_second 11 rfl) ml_L_124 cm_X5_second cv_X5_second rfl ⟨Nat.le_of_ble_eq_true rfl, Nat.le_of_ble_eq_true rfl⟩ (Nat.le_of_ble_eq_true rfl) rfl rfl rfl (OkI.go (pr_second (K := fun q1 q2 τ => ∀ (H1 : Heap) (locs1 : List Loc), va_P G.1 vwCl (hs_enc G τ) H1 → va_S (fun q => s.heap.size ≤ q) s.heap H1 locs1 → W p l e room_1 s m #[Value.ref b] below meth c H1 locs1 77 1612 (lw_Z below #[Value.ref b] s) (F0 m 1070 ls [.int q2, .int q1])) hR (fun q1 τ hR1 H1 locs1 hP1 hS1 => ?_)) (fun q1 σ2 h2 H1 locs1 hP1 hS1 => ?_))
  · exact lv_icmp_eq (tgt := 1372) hx hb (hs_tb tb_L_second 24 rfl) rfl (fun _ => hk τ H1 locs1 ls hR1 hP1 hS1 hl) (fun h => absurd rfl h)
  · refine lv_aload_n (rest := [.int q1]) hx hb (hs_tb tb_L_second 12 rfl) rfl (lv_at hl 2 rfl) ?_
    refine hl_arg (j := 1) (jn := 1) C hS1 hl hL (by omega) rfl (hs_tb tb_L_second 13 rfl) (hs_tb tb_L_second 14 rfl) (hs_tb tb_L_second 15 rfl) (hs_tb tb_L_second 16 rfl) (hs_tb tb_L_second 17 rfl) ?_
    refine hl_arg (j := 2) (jn := 2) C hS1 hl hL (by omega) rfl (hs_tb tb_L_second 18 rfl) (hs_tb tb_L_second 19 rfl) (hs_tb tb_L_second 20 rfl) (hs_tb tb_L_second 21 rfl) (hs_tb tb_L_second 22 rfl) ?_
    exact hl_callV (y := m_X6_second) (As := [.int (xs (q + 1)), .int (xs (q + 2))]) (rest := [.int q1]) (k := 63) C hP1 hS1 hl.1 (hs_tb tb_L_second 23 rfl) ml_L_127 cm_X6_second cv_X6_second rfl ⟨Nat.le_of_ble_eq_true rfl, Nat.le_of_ble_eq_true rfl⟩ (Nat.le_of_ble_eq_true rfl) rfl rfl rfl (OkI.go h2 (fun q2 τ h3 H2 locs2 hP2 hS2 => h3 H2 locs2 hP2 hS2))
def tab_L_look : List (Nat × Instr × Nat) := [(1075, .aload_n 1, 1), (1076, .aload_n 0, 1), (1077, .iload_n 3, 1), (1078, .iconst 1, 1), (1079, .iadd, 1), (1080, .iaload, 1), (1081, .aload_n 0, 1), (1082, .iload_n 3, 1), (1083, .iconst 2, 1), (1084, .iadd, 1), (1085, .iaload, 1), (1086, .invokevirtual 128, 3), (1089, .aload_n 2, 1), (1090, .aload_n 0, 1), (1091, .iload_n 3, 1), (1092, .iconst 1, 1), (1093, .iadd, 1), (1094, .iaload, 1), (1095, .aload_n 0, 1), (1096, .iload_n 3, 1), (1097, .iconst 2, 1), (1098, .iadd, 1), (1099, .iaload, 1), (1100, .invokevirtual 131, 3), (1103, .if_icmp .eq 269, 3), (1106, .iconst 0, 1), (1107, .ireturn, 1)]
theorem tb_L_look : ∀ q ∈ tab_L_look, decode code q.1 = .ok q.2 := by decide +kernel
theorem ml_L_128 : Cond.methodLink R_law 128 m_X5_look.1 ∈ hs_U := hs_t3 163 (by decide +kernel) rfl
theorem ml_L_131 : Cond.methodLink R_law 131 m_X6_look.1 ∈ hs_U := hs_t5 151 (by decide +kernel) rfl
set_option maxHeartbeats 1000000 in
theorem lc_look (C : hl_Cx p s m meth c G b L xs) (hL : L ≤ 320) (hq : q + 5 ≤ L) (hk : hl_k p l e s m below meth c G b q 1372) : hl_k p l e s m below meth c G b q 1075 := by
  intro σ H locs ls hR hP hS hl
  obtain ⟨hx, hb, -⟩ := id C.1
  refine lv_aload_n hx hb (hs_tb tb_L_look 0 rfl) rfl (lv_at hl 1 rfl) ?_
  refine hl_arg (j := 1) (jn := 1) C hS hl hL (by omega) rfl (hs_tb tb_L_look 1 rfl) (hs_tb tb_L_look 2 rfl) (hs_tb tb_L_look 3 rfl) (hs_tb tb_L_look 4 rfl) (hs_tb tb_L_look 5 rfl) ?_
  refine hl_arg (j := 2) (jn := 2) C hS hl hL (by omega) rfl (hs_tb tb_L_look 6 rfl) (hs_tb tb_L_look 7 rfl) (hs_tb tb_L_look 8 rfl) (hs_tb tb_L_look 9 rfl) (hs_tb tb_L_look 10 rfl) ?_
  refine hl_callV (y := m_X5_look) (As := [.int (xs (q + 1)), .int (xs (q + 2))]) (rest := []) (k := 0) C hP hS hl.1 (hs_tb tb_L_look 11 rfl) ml_L_128 cm_X5_look cv_X5_look rfl ⟨Nat.le_of_ble_eq_true rfl, Nat.le_of_ble_eq_true rfl⟩ (Nat.le_of_ble_eq_true rfl) rfl rfl rfl (OkI.go (pr_look (K := fun q1 q2 τ => ∀ (H1 : Heap) (locs1 : List Loc), va_P G.1 vwCl (hs_enc G τ) H1 → va_S (fun q => s.heap.size ≤ q) s.heap H1 locs1 → W p l e room_1 s m #[Value.ref b] below meth c H1 locs1 77 1612 (lw_Z below #[Value.ref b] s) (F0 m 1103 ls [.int q2, .int q1])) hR (fun q1 τ hR1 H1 locs1 hP1 hS1 => ?_)) (fun q1 σ2 h2 H1 locs1 hP1 hS1 => ?_))
  · exact lv_icmp_eq (tgt := 1372) hx hb (hs_tb tb_L_look 24 rfl) rfl (fun _ => hk τ H1 locs1 ls hR1 hP1 hS1 hl) (fun h => absurd rfl h)
  · refine lv_aload_n (rest := [.int q1]) hx hb (hs_tb tb_L_look 12 rfl) rfl (lv_at hl 2 rfl) ?_
    refine hl_arg (j := 1) (jn := 1) C hS1 hl hL (by omega) rfl (hs_tb tb_L_look 13 rfl) (hs_tb tb_L_look 14 rfl) (hs_tb tb_L_look 15 rfl) (hs_tb tb_L_look 16 rfl) (hs_tb tb_L_look 17 rfl) ?_
    refine hl_arg (j := 2) (jn := 2) C hS1 hl hL (by omega) rfl (hs_tb tb_L_look 18 rfl) (hs_tb tb_L_look 19 rfl) (hs_tb tb_L_look 20 rfl) (hs_tb tb_L_look 21 rfl) (hs_tb tb_L_look 22 rfl) ?_
    exact hl_callV (y := m_X6_look) (As := [.int (xs (q + 1)), .int (xs (q + 2))]) (rest := [.int q1]) (k := 63) C hP1 hS1 hl.1 (hs_tb tb_L_look 23 rfl) ml_L_131 cm_X6_look cv_X6_look rfl ⟨Nat.le_of_ble_eq_true rfl, Nat.le_of_ble_eq_true rfl⟩ (Nat.le_of_ble_eq_true rfl) rfl rfl rfl (OkI.go h2 (fun q2 τ h3 H2 locs2 hP2 hS2 => h3 H2 locs2 hP2 hS2))
def tab_L_drift : List (Nat × Instr × Nat) := [(1108, .aload_n 1, 1), (1109, .aload_n 0, 1), (1110, .iload_n 3, 1), (1111, .iconst 1, 1), (1112, .iadd, 1), (1113, .iaload, 1), (1114, .aload_n 0, 1), (1115, .iload_n 3, 1), (1116, .iconst 2, 1), (1117, .iadd, 1), (1118, .iaload, 1), (1119, .aload_n 0, 1), (1120, .iload_n 3, 1), (1121, .iconst 3, 1), (1122, .iadd, 1), (1123, .iaload, 1), (1124, .invokevirtual 132, 3), (1127, .aload_n 2, 1), (1128, .aload_n 0, 1), (1129, .iload_n 3, 1), (1130, .iconst 1, 1), (1131, .iadd, 1), (1132, .iaload, 1), (1133, .aload_n 0, 1), (1134, .iload_n 3, 1), (1135, .iconst 2, 1), (1136, .iadd, 1), (1137, .iaload, 1), (1138, .aload_n 0, 1), (1139, .iload_n 3, 1), (1140, .iconst 3, 1), (1141, .iadd, 1), (1142, .iaload, 1), (1143, .invokevirtual 135, 3), (1146, .if_icmp .eq 226, 3), (1149, .iconst 0, 1), (1150, .ireturn, 1)]
theorem tb_L_drift : ∀ q ∈ tab_L_drift, decode code q.1 = .ok q.2 := by decide +kernel
theorem ml_L_132 : Cond.methodLink R_law 132 m_X5_drift.1 ∈ hs_U := hs_t3 180 (by decide +kernel) rfl
theorem ml_L_135 : Cond.methodLink R_law 135 m_X6_drift.1 ∈ hs_U := hs_t5 155 (by decide +kernel) rfl
set_option maxHeartbeats 1000000 in
theorem lc_drift (C : hl_Cx p s m meth c G b L xs) (hL : L ≤ 320) (hq : q + 5 ≤ L) (hk : hl_k p l e s m below meth c G b q 1372) : hl_k p l e s m below meth c G b q 1108 := by
  intro σ H locs ls hR hP hS hl
  obtain ⟨hx, hb, -⟩ := id C.1
  refine lv_aload_n hx hb (hs_tb tb_L_drift 0 rfl) rfl (lv_at hl 1 rfl) ?_
  refine hl_arg (j := 1) (jn := 1) C hS hl hL (by omega) rfl (hs_tb tb_L_drift 1 rfl) (hs_tb tb_L_drift 2 rfl) (hs_tb tb_L_drift 3 rfl) (hs_tb tb_L_drift 4 rfl) (hs_tb tb_L_drift 5 rfl) ?_
  refine hl_arg (j := 2) (jn := 2) C hS hl hL (by omega) rfl (hs_tb tb_L_drift 6 rfl) (hs_tb tb_L_drift 7 rfl) (hs_tb tb_L_drift 8 rfl) (hs_tb tb_L_drift 9 rfl) (hs_tb tb_L_drift 10 rfl) ?_
  refine hl_arg (j := 3) (jn := 3) C hS hl hL (by omega) rfl (hs_tb tb_L_drift 11 rfl) (hs_tb tb_L_drift 12 rfl) (hs_tb tb_L_drift 13 rfl) (hs_tb tb_L_drift 14 rfl) (hs_tb tb_L_drift 15 rfl) ?_
  refine hl_callV (y := m_X5_drift) (As := [.int (xs (q + 1)), .int (xs (q + 2)), .int (xs (q + 3))]) (rest := []) (k := 0) C hP hS hl.1 (hs_tb tb_L_drift 16 rfl) ml_L_132 cm_X5_drift cv_X5_drift rfl ⟨Nat.le_of_ble_eq_true rfl, Nat.le_of_ble_eq_true rfl⟩ (Nat.le_of_ble_eq_true rfl) rfl rfl rfl (OkI.go (pr_drift (K := fun q1 q2 τ => ∀ (H1 : Heap) (locs1 : List Loc), va_P G.1 vwCl (hs_enc G τ) H1 → va_S (fun q => s.heap.size ≤ q) s.heap H1 locs1 → W p l e room_1 s m #[Value.ref b] below meth c H1 locs1 77 1612 (lw_Z below #[Value.ref b] s) (F0 m 1146 ls [.int q2, .int q1])) hR (fun q1 τ hR1 H1 locs1 hP1 hS1 => ?_)) (fun q1 σ2 h2 H1 locs1 hP1 hS1 => ?_))
  · exact lv_icmp_eq (tgt := 1372) hx hb (hs_tb tb_L_drift 34 rfl) rfl (fun _ => hk τ H1 locs1 ls hR1 hP1 hS1 hl) (fun h => absurd rfl h)
  · refine lv_aload_n (rest := [.int q1]) hx hb (hs_tb tb_L_drift 17 rfl) rfl (lv_at hl 2 rfl) ?_
    refine hl_arg (j := 1) (jn := 1) C hS1 hl hL (by omega) rfl (hs_tb tb_L_drift 18 rfl) (hs_tb tb_L_drift 19 rfl) (hs_tb tb_L_drift 20 rfl) (hs_tb tb_L_drift 21 rfl) (hs_tb tb_L_drift 22 rfl) ?_
    refine hl_arg (j := 2) (jn := 2) C hS1 hl hL (by omega) rfl (hs_tb tb_L_drift 23 rfl) (hs_tb tb_L_drift 24 rfl) (hs_tb tb_L_drift 25 rfl) (hs_tb tb_L_drift 26 rfl) (hs_tb tb_L_drift 27 rfl) ?_
    refine hl_arg (j := 3) (jn := 3) C hS1 hl hL (by omega) rfl (hs_tb tb_L_drift 28 rfl) (hs_tb tb_L_drift 29 rfl) (hs_tb tb_L_drift 30 rfl) (hs_tb tb_L_drift 31 rfl) (hs_tb tb_L_drift 32 rfl) ?_
    exact hl_callV (y := m_X6_drift) (As := [.int (xs (q + 1)), .int (xs (q + 2)), .int (xs (q + 3))]) (rest := [.int q1]) (k := 63) C hP1 hS1 hl.1 (hs_tb tb_L_drift 33 rfl) ml_L_135 cm_X6_drift cv_X6_drift rfl ⟨Nat.le_of_ble_eq_true rfl, Nat.le_of_ble_eq_true rfl⟩ (Nat.le_of_ble_eq_true rfl) rfl rfl rfl (OkI.go h2 (fun q2 τ h3 H2 locs2 hP2 hS2 => h3 H2 locs2 hP2 hS2))
def tab_L_keep : List (Nat × Instr × Nat) := [(1151, .aload_n 1, 1), (1152, .aload_n 0, 1), (1153, .iload_n 3, 1), (1154, .iconst 1, 1), (1155, .iadd, 1), (1156, .iaload, 1), (1157, .invokevirtual 136, 3), (1160, .aload_n 2, 1), (1161, .aload_n 0, 1), (1162, .iload_n 3, 1), (1163, .iconst 1, 1), (1164, .iadd, 1), (1165, .iaload, 1), (1166, .invokevirtual 139, 3), (1169, .if_icmp .eq 203, 3), (1172, .iconst 0, 1), (1173, .ireturn, 1)]
theorem tb_L_keep : ∀ q ∈ tab_L_keep, decode code q.1 = .ok q.2 := by decide +kernel
theorem ml_L_136 : Cond.methodLink R_law 136 m_X5_keep.1 ∈ hs_U := hs_t3 185 (by decide +kernel) rfl
theorem ml_L_139 : Cond.methodLink R_law 139 m_X6_keep.1 ∈ hs_U := hs_t5 160 (by decide +kernel) rfl
set_option maxHeartbeats 1000000 in
theorem lc_keep (C : hl_Cx p s m meth c G b L xs) (hL : L ≤ 320) (hq : q + 5 ≤ L) (hk : hl_k p l e s m below meth c G b q 1372) : hl_k p l e s m below meth c G b q 1151 := by
  intro σ H locs ls hR hP hS hl
  obtain ⟨hx, hb, -⟩ := id C.1
  refine lv_aload_n hx hb (hs_tb tb_L_keep 0 rfl) rfl (lv_at hl 1 rfl) ?_
  refine hl_arg (j := 1) (jn := 1) C hS hl hL (by omega) rfl (hs_tb tb_L_keep 1 rfl) (hs_tb tb_L_keep 2 rfl) (hs_tb tb_L_keep 3 rfl) (hs_tb tb_L_keep 4 rfl) (hs_tb tb_L_keep 5 rfl) ?_
  refine hl_callV (y := m_X5_keep) (As := [.int (xs (q + 1))]) (rest := []) (k := 0) C hP hS hl.1 (hs_tb tb_L_keep 6 rfl) ml_L_136 cm_X5_keep cv_X5_keep rfl ⟨Nat.le_of_ble_eq_true rfl, Nat.le_of_ble_eq_true rfl⟩ (Nat.le_of_ble_eq_true rfl) rfl rfl rfl (OkI.go (pr_keep (K := fun q1 q2 τ => ∀ (H1 : Heap) (locs1 : List Loc), va_P G.1 vwCl (hs_enc G τ) H1 → va_S (fun q => s.heap.size ≤ q) s.heap H1 locs1 → W p l e room_1 s m #[Value.ref b] below meth c H1 locs1 77 1612 (lw_Z below #[Value.ref b] s) (F0 m 1169 ls [.int q2, .int q1])) hR (fun q1 τ hR1 H1 locs1 hP1 hS1 => ?_)) (fun q1 σ2 h2 H1 locs1 hP1 hS1 => ?_))
  · exact lv_icmp_eq (tgt := 1372) hx hb (hs_tb tb_L_keep 14 rfl) rfl (fun _ => hk τ H1 locs1 ls hR1 hP1 hS1 hl) (fun h => absurd rfl h)
  · refine lv_aload_n (rest := [.int q1]) hx hb (hs_tb tb_L_keep 7 rfl) rfl (lv_at hl 2 rfl) ?_
    refine hl_arg (j := 1) (jn := 1) C hS1 hl hL (by omega) rfl (hs_tb tb_L_keep 8 rfl) (hs_tb tb_L_keep 9 rfl) (hs_tb tb_L_keep 10 rfl) (hs_tb tb_L_keep 11 rfl) (hs_tb tb_L_keep 12 rfl) ?_
    exact hl_callV (y := m_X6_keep) (As := [.int (xs (q + 1))]) (rest := [.int q1]) (k := 63) C hP1 hS1 hl.1 (hs_tb tb_L_keep 13 rfl) ml_L_139 cm_X6_keep cv_X6_keep rfl ⟨Nat.le_of_ble_eq_true rfl, Nat.le_of_ble_eq_true rfl⟩ (Nat.le_of_ble_eq_true rfl) rfl rfl rfl (OkI.go h2 (fun q2 τ h3 H2 locs2 hP2 hS2 => h3 H2 locs2 hP2 hS2))
def tab_L_back : List (Nat × Instr × Nat) := [(1174, .aload_n 1, 1), (1175, .aload_n 0, 1), (1176, .iload_n 3, 1), (1177, .iconst 1, 1), (1178, .iadd, 1), (1179, .iaload, 1), (1180, .invokevirtual 140, 3), (1183, .aload_n 2, 1), (1184, .aload_n 0, 1), (1185, .iload_n 3, 1), (1186, .iconst 1, 1), (1187, .iadd, 1), (1188, .iaload, 1), (1189, .invokevirtual 143, 3), (1192, .if_icmp .eq 180, 3), (1195, .iconst 0, 1), (1196, .ireturn, 1)]
theorem tb_L_back : ∀ q ∈ tab_L_back, decode code q.1 = .ok q.2 := by decide +kernel
theorem ml_L_140 : Cond.methodLink R_law 140 m_X5_back.1 ∈ hs_U := hs_t3 189 (by decide +kernel) rfl
theorem ml_L_143 : Cond.methodLink R_law 143 m_X6_back.1 ∈ hs_U := hs_t5 168 (by decide +kernel) rfl
set_option maxHeartbeats 1000000 in
theorem lc_back (C : hl_Cx p s m meth c G b L xs) (hL : L ≤ 320) (hq : q + 5 ≤ L) (hk : hl_k p l e s m below meth c G b q 1372) : hl_k p l e s m below meth c G b q 1174 := by
  intro σ H locs ls hR hP hS hl
  obtain ⟨hx, hb, -⟩ := id C.1
  refine lv_aload_n hx hb (hs_tb tb_L_back 0 rfl) rfl (lv_at hl 1 rfl) ?_
  refine hl_arg (j := 1) (jn := 1) C hS hl hL (by omega) rfl (hs_tb tb_L_back 1 rfl) (hs_tb tb_L_back 2 rfl) (hs_tb tb_L_back 3 rfl) (hs_tb tb_L_back 4 rfl) (hs_tb tb_L_back 5 rfl) ?_
  refine hl_callV (y := m_X5_back) (As := [.int (xs (q + 1))]) (rest := []) (k := 0) C hP hS hl.1 (hs_tb tb_L_back 6 rfl) ml_L_140 cm_X5_back cv_X5_back rfl ⟨Nat.le_of_ble_eq_true rfl, Nat.le_of_ble_eq_true rfl⟩ (Nat.le_of_ble_eq_true rfl) rfl rfl rfl (OkI.go (pr_back (K := fun q1 q2 τ => ∀ (H1 : Heap) (locs1 : List Loc), va_P G.1 vwCl (hs_enc G τ) H1 → va_S (fun q => s.heap.size ≤ q) s.heap H1 locs1 → W p l e room_1 s m #[Value.ref b] below meth c H1 locs1 77 1612 (lw_Z below #[Value.ref b] s) (F0 m 1192 ls [.int q2, .int q1])) hR (fun q1 τ hR1 H1 locs1 hP1 hS1 => ?_)) (fun q1 σ2 h2 H1 locs1 hP1 hS1 => ?_))
  · exact lv_icmp_eq (tgt := 1372) hx hb (hs_tb tb_L_back 14 rfl) rfl (fun _ => hk τ H1 locs1 ls hR1 hP1 hS1 hl) (fun h => absurd rfl h)
  · refine lv_aload_n (rest := [.int q1]) hx hb (hs_tb tb_L_back 7 rfl) rfl (lv_at hl 2 rfl) ?_
    refine hl_arg (j := 1) (jn := 1) C hS1 hl hL (by omega) rfl (hs_tb tb_L_back 8 rfl) (hs_tb tb_L_back 9 rfl) (hs_tb tb_L_back 10 rfl) (hs_tb tb_L_back 11 rfl) (hs_tb tb_L_back 12 rfl) ?_
    exact hl_callV (y := m_X6_back) (As := [.int (xs (q + 1))]) (rest := [.int q1]) (k := 63) C hP1 hS1 hl.1 (hs_tb tb_L_back 13 rfl) ml_L_143 cm_X6_back cv_X6_back rfl ⟨Nat.le_of_ble_eq_true rfl, Nat.le_of_ble_eq_true rfl⟩ (Nat.le_of_ble_eq_true rfl) rfl rfl rfl (OkI.go h2 (fun q2 τ h3 H2 locs2 hP2 hS2 => h3 H2 locs2 hP2 hS2))
def tab_L_sheet : List (Nat × Instr × Nat) := [(1197, .aload_n 1, 1), (1198, .aload_n 0, 1), (1199, .iload_n 3, 1), (1200, .iconst 1, 1), (1201, .iadd, 1), (1202, .iaload, 1), (1203, .aload_n 0, 1), (1204, .iload_n 3, 1), (1205, .iconst 2, 1), (1206, .iadd, 1), (1207, .iaload, 1), (1208, .aload_n 0, 1), (1209, .iload_n 3, 1), (1210, .iconst 3, 1), (1211, .iadd, 1), (1212, .iaload, 1), (1213, .invokevirtual 144, 3), (1216, .aload_n 2, 1), (1217, .aload_n 0, 1), (1218, .iload_n 3, 1), (1219, .iconst 1, 1), (1220, .iadd, 1), (1221, .iaload, 1), (1222, .aload_n 0, 1), (1223, .iload_n 3, 1), (1224, .iconst 2, 1), (1225, .iadd, 1), (1226, .iaload, 1), (1227, .aload_n 0, 1), (1228, .iload_n 3, 1), (1229, .iconst 3, 1), (1230, .iadd, 1), (1231, .iaload, 1), (1232, .invokevirtual 147, 3), (1235, .if_icmp .eq 137, 3), (1238, .iconst 0, 1), (1239, .ireturn, 1)]
theorem tb_L_sheet : ∀ q ∈ tab_L_sheet, decode code q.1 = .ok q.2 := by decide +kernel
theorem ml_L_144 : Cond.methodLink R_law 144 m_X5_sheet.1 ∈ hs_U := hs_t3 193 (by decide +kernel) rfl
theorem ml_L_147 : Cond.methodLink R_law 147 m_X6_sheet.1 ∈ hs_U := hs_t5 172 (by decide +kernel) rfl
set_option maxHeartbeats 1000000 in
theorem lc_sheet (C : hl_Cx p s m meth c G b L xs) (hL : L ≤ 320) (hq : q + 5 ≤ L) (hk : hl_k p l e s m below meth c G b q 1372) : hl_k p l e s m below meth c G b q 1197 := by
  intro σ H locs ls hR hP hS hl
  obtain ⟨hx, hb, -⟩ := id C.1
  refine lv_aload_n hx hb (hs_tb tb_L_sheet 0 rfl) rfl (lv_at hl 1 rfl) ?_
  refine hl_arg (j := 1) (jn := 1) C hS hl hL (by omega) rfl (hs_tb tb_L_sheet 1 rfl) (hs_tb tb_L_sheet 2 rfl) (hs_tb tb_L_sheet 3 rfl) (hs_tb tb_L_sheet 4 rfl) (hs_tb tb_L_sheet 5 rfl) ?_
  refine hl_arg (j := 2) (jn := 2) C hS hl hL (by omega) rfl (hs_tb tb_L_sheet 6 rfl) (hs_tb tb_L_sheet 7 rfl) (hs_tb tb_L_sheet 8 rfl) (hs_tb tb_L_sheet 9 rfl) (hs_tb tb_L_sheet 10 rfl) ?_
  refine hl_arg (j := 3) (jn := 3) C hS hl hL (by omega) rfl (hs_tb tb_L_sheet 11 rfl) (hs_tb tb_L_sheet 12 rfl) (hs_tb tb_L_sheet 13 rfl) (hs_tb tb_L_sheet 14 rfl) (hs_tb tb_L_sheet 15 rfl) ?_
  refine hl_callV (y := m_X5_sheet) (As := [.int (xs (q + 1)), .int (xs (q + 2)), .int (xs (q + 3))]) (rest := []) (k := 0) C hP hS hl.1 (hs_tb tb_L_sheet 16 rfl) ml_L_144 cm_X5_sheet cv_X5_sheet rfl ⟨Nat.le_of_ble_eq_true rfl, Nat.le_of_ble_eq_true rfl⟩ (Nat.le_of_ble_eq_true rfl) rfl rfl rfl (OkI.go (pr_sheet (K := fun q1 q2 τ => ∀ (H1 : Heap) (locs1 : List Loc), va_P G.1 vwCl (hs_enc G τ) H1 → va_S (fun q => s.heap.size ≤ q) s.heap H1 locs1 → W p l e room_1 s m #[Value.ref b] below meth c H1 locs1 77 1612 (lw_Z below #[Value.ref b] s) (F0 m 1235 ls [.int q2, .int q1])) hR (fun q1 τ hR1 H1 locs1 hP1 hS1 => ?_)) (fun q1 σ2 h2 H1 locs1 hP1 hS1 => ?_))
  · exact lv_icmp_eq (tgt := 1372) hx hb (hs_tb tb_L_sheet 34 rfl) rfl (fun _ => hk τ H1 locs1 ls hR1 hP1 hS1 hl) (fun h => absurd rfl h)
  · refine lv_aload_n (rest := [.int q1]) hx hb (hs_tb tb_L_sheet 17 rfl) rfl (lv_at hl 2 rfl) ?_
    refine hl_arg (j := 1) (jn := 1) C hS1 hl hL (by omega) rfl (hs_tb tb_L_sheet 18 rfl) (hs_tb tb_L_sheet 19 rfl) (hs_tb tb_L_sheet 20 rfl) (hs_tb tb_L_sheet 21 rfl) (hs_tb tb_L_sheet 22 rfl) ?_
    refine hl_arg (j := 2) (jn := 2) C hS1 hl hL (by omega) rfl (hs_tb tb_L_sheet 23 rfl) (hs_tb tb_L_sheet 24 rfl) (hs_tb tb_L_sheet 25 rfl) (hs_tb tb_L_sheet 26 rfl) (hs_tb tb_L_sheet 27 rfl) ?_
    refine hl_arg (j := 3) (jn := 3) C hS1 hl hL (by omega) rfl (hs_tb tb_L_sheet 28 rfl) (hs_tb tb_L_sheet 29 rfl) (hs_tb tb_L_sheet 30 rfl) (hs_tb tb_L_sheet 31 rfl) (hs_tb tb_L_sheet 32 rfl) ?_
    exact hl_callV (y := m_X6_sheet) (As := [.int (xs (q + 1)), .int (xs (q + 2)), .int (xs (q + 3))]) (rest := [.int q1]) (k := 63) C hP1 hS1 hl.1 (hs_tb tb_L_sheet 33 rfl) ml_L_147 cm_X6_sheet cv_X6_sheet rfl ⟨Nat.le_of_ble_eq_true rfl, Nat.le_of_ble_eq_true rfl⟩ (Nat.le_of_ble_eq_true rfl) rfl rfl rfl (OkI.go h2 (fun q2 τ h3 H2 locs2 hP2 hS2 => h3 H2 locs2 hP2 hS2))
def tab_L_lay : List (Nat × Instr × Nat) := [(1240, .aload_n 1, 1), (1241, .aload_n 0, 1), (1242, .iload_n 3, 1), (1243, .iconst 1, 1), (1244, .iadd, 1), (1245, .iaload, 1), (1246, .aload_n 0, 1), (1247, .iload_n 3, 1), (1248, .iconst 2, 1), (1249, .iadd, 1), (1250, .iaload, 1), (1251, .aload_n 0, 1), (1252, .iload_n 3, 1), (1253, .iconst 3, 1), (1254, .iadd, 1), (1255, .iaload, 1), (1256, .invokevirtual 148, 3), (1259, .aload_n 2, 1), (1260, .aload_n 0, 1), (1261, .iload_n 3, 1), (1262, .iconst 1, 1), (1263, .iadd, 1), (1264, .iaload, 1), (1265, .aload_n 0, 1), (1266, .iload_n 3, 1), (1267, .iconst 2, 1), (1268, .iadd, 1), (1269, .iaload, 1), (1270, .aload_n 0, 1), (1271, .iload_n 3, 1), (1272, .iconst 3, 1), (1273, .iadd, 1), (1274, .iaload, 1), (1275, .invokevirtual 151, 3), (1278, .if_icmp .eq 94, 3), (1281, .iconst 0, 1), (1282, .ireturn, 1)]
theorem tb_L_lay : ∀ q ∈ tab_L_lay, decode code q.1 = .ok q.2 := by decide +kernel
theorem ml_L_148 : Cond.methodLink R_law 148 m_X5_lay.1 ∈ hs_U := hs_t3 210 (by decide +kernel) rfl
theorem ml_L_151 : Cond.methodLink R_law 151 m_X6_lay.1 ∈ hs_U := hs_t5 179 (by decide +kernel) rfl
set_option maxHeartbeats 1000000 in
theorem lc_lay (C : hl_Cx p s m meth c G b L xs) (hL : L ≤ 320) (hq : q + 5 ≤ L) (hk : hl_k p l e s m below meth c G b q 1372) : hl_k p l e s m below meth c G b q 1240 := by
  intro σ H locs ls hR hP hS hl
  obtain ⟨hx, hb, -⟩ := id C.1
  refine lv_aload_n hx hb (hs_tb tb_L_lay 0 rfl) rfl (lv_at hl 1 rfl) ?_
  refine hl_arg (j := 1) (jn := 1) C hS hl hL (by omega) rfl (hs_tb tb_L_lay 1 rfl) (hs_tb tb_L_lay 2 rfl) (hs_tb tb_L_lay 3 rfl) (hs_tb tb_L_lay 4 rfl) (hs_tb tb_L_lay 5 rfl) ?_
  refine hl_arg (j := 2) (jn := 2) C hS hl hL (by omega) rfl (hs_tb tb_L_lay 6 rfl) (hs_tb tb_L_lay 7 rfl) (hs_tb tb_L_lay 8 rfl) (hs_tb tb_L_lay 9 rfl) (hs_tb tb_L_lay 10 rfl) ?_
  refine hl_arg (j := 3) (jn := 3) C hS hl hL (by omega) rfl (hs_tb tb_L_lay 11 rfl) (hs_tb tb_L_lay 12 rfl) (hs_tb tb_L_lay 13 rfl) (hs_tb tb_L_lay 14 rfl) (hs_tb tb_L_lay 15 rfl) ?_
  refine hl_callV (y := m_X5_lay) (As := [.int (xs (q + 1)), .int (xs (q + 2)), .int (xs (q + 3))]) (rest := []) (k := 0) C hP hS hl.1 (hs_tb tb_L_lay 16 rfl) ml_L_148 cm_X5_lay cv_X5_lay rfl ⟨Nat.le_of_ble_eq_true rfl, Nat.le_of_ble_eq_true rfl⟩ (Nat.le_of_ble_eq_true rfl) rfl rfl rfl (OkI.go (pr_lay (K := fun q1 q2 τ => ∀ (H1 : Heap) (locs1 : List Loc), va_P G.1 vwCl (hs_enc G τ) H1 → va_S (fun q => s.heap.size ≤ q) s.heap H1 locs1 → W p l e room_1 s m #[Value.ref b] below meth c H1 locs1 77 1612 (lw_Z below #[Value.ref b] s) (F0 m 1278 ls [.int q2, .int q1])) hR (fun q1 τ hR1 H1 locs1 hP1 hS1 => ?_)) (fun q1 σ2 h2 H1 locs1 hP1 hS1 => ?_))
  · exact lv_icmp_eq (tgt := 1372) hx hb (hs_tb tb_L_lay 34 rfl) rfl (fun _ => hk τ H1 locs1 ls hR1 hP1 hS1 hl) (fun h => absurd rfl h)
  · refine lv_aload_n (rest := [.int q1]) hx hb (hs_tb tb_L_lay 17 rfl) rfl (lv_at hl 2 rfl) ?_
    refine hl_arg (j := 1) (jn := 1) C hS1 hl hL (by omega) rfl (hs_tb tb_L_lay 18 rfl) (hs_tb tb_L_lay 19 rfl) (hs_tb tb_L_lay 20 rfl) (hs_tb tb_L_lay 21 rfl) (hs_tb tb_L_lay 22 rfl) ?_
    refine hl_arg (j := 2) (jn := 2) C hS1 hl hL (by omega) rfl (hs_tb tb_L_lay 23 rfl) (hs_tb tb_L_lay 24 rfl) (hs_tb tb_L_lay 25 rfl) (hs_tb tb_L_lay 26 rfl) (hs_tb tb_L_lay 27 rfl) ?_
    refine hl_arg (j := 3) (jn := 3) C hS1 hl hL (by omega) rfl (hs_tb tb_L_lay 28 rfl) (hs_tb tb_L_lay 29 rfl) (hs_tb tb_L_lay 30 rfl) (hs_tb tb_L_lay 31 rfl) (hs_tb tb_L_lay 32 rfl) ?_
    exact hl_callV (y := m_X6_lay) (As := [.int (xs (q + 1)), .int (xs (q + 2)), .int (xs (q + 3))]) (rest := [.int q1]) (k := 63) C hP1 hS1 hl.1 (hs_tb tb_L_lay 33 rfl) ml_L_151 cm_X6_lay cv_X6_lay rfl ⟨Nat.le_of_ble_eq_true rfl, Nat.le_of_ble_eq_true rfl⟩ (Nat.le_of_ble_eq_true rfl) rfl rfl rfl (OkI.go h2 (fun q2 τ h3 H2 locs2 hP2 hS2 => h3 H2 locs2 hP2 hS2))
def tab_L_read : List (Nat × Instr × Nat) := [(1283, .aload_n 1, 1), (1284, .aload_n 0, 1), (1285, .iload_n 3, 1), (1286, .iconst 1, 1), (1287, .iadd, 1), (1288, .iaload, 1), (1289, .aload_n 0, 1), (1290, .iload_n 3, 1), (1291, .iconst 2, 1), (1292, .iadd, 1), (1293, .iaload, 1), (1294, .aload_n 0, 1), (1295, .iload_n 3, 1), (1296, .iconst 3, 1), (1297, .iadd, 1), (1298, .iaload, 1), (1299, .aload_n 0, 1), (1300, .iload_n 3, 1), (1301, .iconst 4, 1), (1302, .iadd, 1), (1303, .iaload, 1), (1304, .invokevirtual 152, 3), (1307, .aload_n 2, 1), (1308, .aload_n 0, 1), (1309, .iload_n 3, 1), (1310, .iconst 1, 1), (1311, .iadd, 1), (1312, .iaload, 1), (1313, .aload_n 0, 1), (1314, .iload_n 3, 1), (1315, .iconst 2, 1), (1316, .iadd, 1), (1317, .iaload, 1), (1318, .aload_n 0, 1), (1319, .iload_n 3, 1), (1320, .iconst 3, 1), (1321, .iadd, 1), (1322, .iaload, 1), (1323, .aload_n 0, 1), (1324, .iload_n 3, 1), (1325, .iconst 4, 1), (1326, .iadd, 1), (1327, .iaload, 1), (1328, .invokevirtual 155, 3), (1331, .if_icmp .eq 41, 3), (1334, .iconst 0, 1), (1335, .ireturn, 1)]
theorem tb_L_read : ∀ q ∈ tab_L_read, decode code q.1 = .ok q.2 := by decide +kernel
theorem ml_L_152 : Cond.methodLink R_law 152 m_X5_read.1 ∈ hs_U := hs_t3 226 (by decide +kernel) rfl
theorem ml_L_155 : Cond.methodLink R_law 155 m_X6_read.1 ∈ hs_U := hs_t5 183 (by decide +kernel) rfl
set_option maxHeartbeats 1000000 in
theorem lc_read (C : hl_Cx p s m meth c G b L xs) (hL : L ≤ 320) (hq : q + 5 ≤ L) (hk : hl_k p l e s m below meth c G b q 1372) : hl_k p l e s m below meth c G b q 1283 := by
  intro σ H locs ls hR hP hS hl
  obtain ⟨hx, hb, -⟩ := id C.1
  refine lv_aload_n hx hb (hs_tb tb_L_read 0 rfl) rfl (lv_at hl 1 rfl) ?_
  refine hl_arg (j := 1) (jn := 1) C hS hl hL (by omega) rfl (hs_tb tb_L_read 1 rfl) (hs_tb tb_L_read 2 rfl) (hs_tb tb_L_read 3 rfl) (hs_tb tb_L_read 4 rfl) (hs_tb tb_L_read 5 rfl) ?_
  refine hl_arg (j := 2) (jn := 2) C hS hl hL (by omega) rfl (hs_tb tb_L_read 6 rfl) (hs_tb tb_L_read 7 rfl) (hs_tb tb_L_read 8 rfl) (hs_tb tb_L_read 9 rfl) (hs_tb tb_L_read 10 rfl) ?_
  refine hl_arg (j := 3) (jn := 3) C hS hl hL (by omega) rfl (hs_tb tb_L_read 11 rfl) (hs_tb tb_L_read 12 rfl) (hs_tb tb_L_read 13 rfl) (hs_tb tb_L_read 14 rfl) (hs_tb tb_L_read 15 rfl) ?_
  refine hl_arg (j := 4) (jn := 4) C hS hl hL (by omega) rfl (hs_tb tb_L_read 16 rfl) (hs_tb tb_L_read 17 rfl) (hs_tb tb_L_read 18 rfl) (hs_tb tb_L_read 19 rfl) (hs_tb tb_L_read 20 rfl) ?_
  refine hl_callV (y := m_X5_read) (As := [.int (xs (q + 1)), .int (xs (q + 2)), .int (xs (q + 3)), .int (xs (q + 4))]) (rest := []) (k := 0) C hP hS hl.1 (hs_tb tb_L_read 21 rfl) ml_L_152 cm_X5_read cv_X5_read rfl ⟨Nat.le_of_ble_eq_true rfl, Nat.le_of_ble_eq_true rfl⟩ (Nat.le_of_ble_eq_true rfl) rfl rfl rfl (OkI.go (pr_read (K := fun q1 q2 τ => ∀ (H1 : Heap) (locs1 : List Loc), va_P G.1 vwCl (hs_enc G τ) H1 → va_S (fun q => s.heap.size ≤ q) s.heap H1 locs1 → W p l e room_1 s m #[Value.ref b] below meth c H1 locs1 77 1612 (lw_Z below #[Value.ref b] s) (F0 m 1331 ls [.int q2, .int q1])) hR (fun q1 τ hR1 H1 locs1 hP1 hS1 => ?_)) (fun q1 σ2 h2 H1 locs1 hP1 hS1 => ?_))
  · exact lv_icmp_eq (tgt := 1372) hx hb (hs_tb tb_L_read 44 rfl) rfl (fun _ => hk τ H1 locs1 ls hR1 hP1 hS1 hl) (fun h => absurd rfl h)
  · refine lv_aload_n (rest := [.int q1]) hx hb (hs_tb tb_L_read 22 rfl) rfl (lv_at hl 2 rfl) ?_
    refine hl_arg (j := 1) (jn := 1) C hS1 hl hL (by omega) rfl (hs_tb tb_L_read 23 rfl) (hs_tb tb_L_read 24 rfl) (hs_tb tb_L_read 25 rfl) (hs_tb tb_L_read 26 rfl) (hs_tb tb_L_read 27 rfl) ?_
    refine hl_arg (j := 2) (jn := 2) C hS1 hl hL (by omega) rfl (hs_tb tb_L_read 28 rfl) (hs_tb tb_L_read 29 rfl) (hs_tb tb_L_read 30 rfl) (hs_tb tb_L_read 31 rfl) (hs_tb tb_L_read 32 rfl) ?_
    refine hl_arg (j := 3) (jn := 3) C hS1 hl hL (by omega) rfl (hs_tb tb_L_read 33 rfl) (hs_tb tb_L_read 34 rfl) (hs_tb tb_L_read 35 rfl) (hs_tb tb_L_read 36 rfl) (hs_tb tb_L_read 37 rfl) ?_
    refine hl_arg (j := 4) (jn := 4) C hS1 hl hL (by omega) rfl (hs_tb tb_L_read 38 rfl) (hs_tb tb_L_read 39 rfl) (hs_tb tb_L_read 40 rfl) (hs_tb tb_L_read 41 rfl) (hs_tb tb_L_read 42 rfl) ?_
    exact hl_callV (y := m_X6_read) (As := [.int (xs (q + 1)), .int (xs (q + 2)), .int (xs (q + 3)), .int (xs (q + 4))]) (rest := [.int q1]) (k := 63) C hP1 hS1 hl.1 (hs_tb tb_L_read 43 rfl) ml_L_155 cm_X6_read cv_X6_read rfl ⟨Nat.le_of_ble_eq_true rfl, Nat.le_of_ble_eq_true rfl⟩ (Nat.le_of_ble_eq_true rfl) rfl rfl rfl (OkI.go h2 (fun q2 τ h3 H2 locs2 hP2 hS2 => h3 H2 locs2 hP2 hS2))
def tab_L_torn : List (Nat × Instr × Nat) := [(1336, .aload_n 1, 1), (1337, .invokevirtual 156, 3), (1340, .aload_n 2, 1), (1341, .invokevirtual 159, 3), (1344, .if_icmp .eq 28, 3), (1347, .iconst 0, 1), (1348, .ireturn, 1)]
theorem tb_L_torn : ∀ q ∈ tab_L_torn, decode code q.1 = .ok q.2 := by decide +kernel
theorem ml_L_156 : Cond.methodLink R_law 156 m_X5_torn.1 ∈ hs_U := hs_t3 239 (by decide +kernel) rfl
theorem ml_L_159 : Cond.methodLink R_law 159 m_X6_torn.1 ∈ hs_U := hs_t5 189 (by decide +kernel) rfl
set_option maxHeartbeats 1000000 in
theorem lc_torn (C : hl_Cx p s m meth c G b L xs) (hL : L ≤ 320) (hq : q + 5 ≤ L) (hk : hl_k p l e s m below meth c G b q 1372) : hl_k p l e s m below meth c G b q 1336 := by
  intro σ H locs ls hR hP hS hl
  obtain ⟨hx, hb, -⟩ := id C.1
  refine lv_aload_n hx hb (hs_tb tb_L_torn 0 rfl) rfl (lv_at hl 1 rfl) ?_
  refine hl_callV (y := m_X5_torn) (As := []) (rest := []) (k := 0) C hP hS hl.1 (hs_tb tb_L_torn 1 rfl) ml_L_156 cm_X5_torn cv_X5_torn rfl ⟨Nat.le_of_ble_eq_true rfl, Nat.le_of_ble_eq_true rfl⟩ (Nat.le_of_ble_eq_true rfl) rfl rfl rfl (OkI.go (pr_torn (K := fun q1 q2 τ => ∀ (H1 : Heap) (locs1 : List Loc), va_P G.1 vwCl (hs_enc G τ) H1 → va_S (fun q => s.heap.size ≤ q) s.heap H1 locs1 → W p l e room_1 s m #[Value.ref b] below meth c H1 locs1 77 1612 (lw_Z below #[Value.ref b] s) (F0 m 1344 ls [.int q2, .int q1])) hR (fun q1 τ hR1 H1 locs1 hP1 hS1 => ?_)) (fun q1 σ2 h2 H1 locs1 hP1 hS1 => ?_))
  · exact lv_icmp_eq (tgt := 1372) hx hb (hs_tb tb_L_torn 4 rfl) rfl (fun _ => hk τ H1 locs1 ls hR1 hP1 hS1 hl) (fun h => absurd rfl h)
  · refine lv_aload_n (rest := [.int q1]) hx hb (hs_tb tb_L_torn 2 rfl) rfl (lv_at hl 2 rfl) ?_
    exact hl_callV (y := m_X6_torn) (As := []) (rest := [.int q1]) (k := 63) C hP1 hS1 hl.1 (hs_tb tb_L_torn 3 rfl) ml_L_159 cm_X6_torn cv_X6_torn rfl ⟨Nat.le_of_ble_eq_true rfl, Nat.le_of_ble_eq_true rfl⟩ (Nat.le_of_ble_eq_true rfl) rfl rfl rfl (OkI.go h2 (fun q2 τ h3 H2 locs2 hP2 hS2 => h3 H2 locs2 hP2 hS2))
def tab_L_count : List (Nat × Instr × Nat) := [(1349, .aload_n 1, 1), (1350, .aload_n 0, 1), (1351, .iload_n 3, 1), (1352, .iconst 1, 1), (1353, .iadd, 1), (1354, .iaload, 1), (1355, .invokevirtual 160, 3), (1358, .aload_n 2, 1), (1359, .aload_n 0, 1), (1360, .iload_n 3, 1), (1361, .iconst 1, 1), (1362, .iadd, 1), (1363, .iaload, 1), (1364, .invokevirtual 163, 3), (1367, .if_icmp .eq 5, 3), (1370, .iconst 0, 1), (1371, .ireturn, 1)]
theorem tb_L_count : ∀ q ∈ tab_L_count, decode code q.1 = .ok q.2 := by decide +kernel
theorem ml_L_160 : Cond.methodLink R_law 160 m_X5_count.1 ∈ hs_U := hs_t4 3 (by decide +kernel) rfl
theorem ml_L_163 : Cond.methodLink R_law 163 m_X6_count.1 ∈ hs_U := hs_t5 193 (by decide +kernel) rfl
set_option maxHeartbeats 1000000 in
theorem lc_count (C : hl_Cx p s m meth c G b L xs) (hL : L ≤ 320) (hq : q + 5 ≤ L) (hk : hl_k p l e s m below meth c G b q 1372) : hl_k p l e s m below meth c G b q 1349 := by
  intro σ H locs ls hR hP hS hl
  obtain ⟨hx, hb, -⟩ := id C.1
  refine lv_aload_n hx hb (hs_tb tb_L_count 0 rfl) rfl (lv_at hl 1 rfl) ?_
  refine hl_arg (j := 1) (jn := 1) C hS hl hL (by omega) rfl (hs_tb tb_L_count 1 rfl) (hs_tb tb_L_count 2 rfl) (hs_tb tb_L_count 3 rfl) (hs_tb tb_L_count 4 rfl) (hs_tb tb_L_count 5 rfl) ?_
  refine hl_callV (y := m_X5_count) (As := [.int (xs (q + 1))]) (rest := []) (k := 0) C hP hS hl.1 (hs_tb tb_L_count 6 rfl) ml_L_160 cm_X5_count cv_X5_count rfl ⟨Nat.le_of_ble_eq_true rfl, Nat.le_of_ble_eq_true rfl⟩ (Nat.le_of_ble_eq_true rfl) rfl rfl rfl (OkI.go (pr_count (K := fun q1 q2 τ => ∀ (H1 : Heap) (locs1 : List Loc), va_P G.1 vwCl (hs_enc G τ) H1 → va_S (fun q => s.heap.size ≤ q) s.heap H1 locs1 → W p l e room_1 s m #[Value.ref b] below meth c H1 locs1 77 1612 (lw_Z below #[Value.ref b] s) (F0 m 1367 ls [.int q2, .int q1])) hR (fun q1 τ hR1 H1 locs1 hP1 hS1 => ?_)) (fun q1 σ2 h2 H1 locs1 hP1 hS1 => ?_))
  · exact lv_icmp_eq (tgt := 1372) hx hb (hs_tb tb_L_count 14 rfl) rfl (fun _ => hk τ H1 locs1 ls hR1 hP1 hS1 hl) (fun h => absurd rfl h)
  · refine lv_aload_n (rest := [.int q1]) hx hb (hs_tb tb_L_count 7 rfl) rfl (lv_at hl 2 rfl) ?_
    refine hl_arg (j := 1) (jn := 1) C hS1 hl hL (by omega) rfl (hs_tb tb_L_count 8 rfl) (hs_tb tb_L_count 9 rfl) (hs_tb tb_L_count 10 rfl) (hs_tb tb_L_count 11 rfl) (hs_tb tb_L_count 12 rfl) ?_
    exact hl_callV (y := m_X6_count) (As := [.int (xs (q + 1))]) (rest := [.int q1]) (k := 63) C hP1 hS1 hl.1 (hs_tb tb_L_count 13 rfl) ml_L_163 cm_X6_count cv_X6_count rfl ⟨Nat.le_of_ble_eq_true rfl, Nat.le_of_ble_eq_true rfl⟩ (Nat.le_of_ble_eq_true rfl) rfl rfl rfl (OkI.go h2 (fun q2 τ h3 H2 locs2 hP2 hS2 => h3 H2 locs2 hP2 hS2))
end HLC
