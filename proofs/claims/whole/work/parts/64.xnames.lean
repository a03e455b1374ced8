set_option maxHeartbeats 4000000 in
set_option maxRecDepth 100000 in
theorem vc_X0_isNamed_20 {a2 : Int32} {i : Nat} {σ : hs_St} {K : Bool → hs_St → Prop} (hi : i < 6) (h : ((nI (hs_len.getD i 0)) ≤ a2 → (K true σ)) ∧ (¬ (nI (hs_len.getD i 0)) ≤ a2 → (vp_in ((σ.1 21 5) + a2) 160 ∧ (vp_in a2 (hs_len.getD i 0) ∧ (((σ.1 20 (((σ.1 21 5) + a2).toNatClampNeg)) = ((hs_byt.getD i []).getD (a2).toNatClampNeg 0) → (RnB m_X0_isNamed 20 [(0, .ref 21), (1, .ref ((1000 + i))), (2, .int (a2 + 1))] [] σ K)) ∧ (¬ (σ.1 20 (((σ.1 21 5) + a2).toNatClampNeg)) = ((hs_byt.getD i []).getD (a2).toNatClampNeg 0) → (K false σ))))))) : RnB m_X0_isNamed 20 [(0, .ref 21), (1, .ref ((1000 + i))), (2, .int a2)] [] σ K := (hr_iload_n (hs_tb tb_X0_isNamed 12 rfl) 2 rfl (hr_aload_n (hs_tb tb_X0_isNamed 13 rfl) 1 rfl (hr_slen0 rfl ⟨Nat.le_of_ble_eq_true rfl, Nat.le_of_ble_eq_true rfl, Nat.le_of_ble_eq_true rfl⟩ (hs_tb tb_X0_isNamed 14 rfl) hi (hr_icmp_ge (tgt := 58) (hs_tb tb_X0_isNamed 15 rfl) rfl (fun c1 => have h2 := h.1 c1; (hr_iconst (v := 1) (hs_tb tb_X0_isNamed 32 rfl) rfl (hr_zret (b := true) (hs_tb tb_X0_isNamed 33 rfl) rfl rfl ⟨_, rfl, h2⟩))) (fun c1 => have h3 := h.2 c1; (hr_aload_n (hs_tb tb_X0_isNamed 16 rfl) 0 rfl (hr_getR (hs_tb tb_X0_isNamed 17 rfl) fl_X0_22 fx_21_0 (hr_getR (hs_tb tb_X0_isNamed 18 rfl) fl_X0_109 fx_19_0 (hr_aload_n (hs_tb tb_X0_isNamed 19 rfl) 0 rfl (hr_getI (hs_tb tb_X0_isNamed 20 rfl) fl_X0_72 fx_21_5 (hr_iload_n (hs_tb tb_X0_isNamed 21 rfl) 2 rfl (hr_iadd (hs_tb tb_X0_isNamed 22 rfl) (hr_iald (hs_tb tb_X0_isNamed 23 rfl) ax_20 h3.1 (hr_aload_n (hs_tb tb_X0_isNamed 24 rfl) 1 rfl (hr_iload_n (hs_tb tb_X0_isNamed 25 rfl) 2 rfl (hr_schar0 rfl ⟨Nat.le_of_ble_eq_true rfl, Nat.le_of_ble_eq_true rfl, Nat.le_of_ble_eq_true rfl⟩ (hs_tb tb_X0_isNamed 26 rfl) hi h3.2.1 (hr_icmp_eq (tgt := 52) (hs_tb tb_X0_isNamed 27 rfl) rfl (fun c4 => have h5 := h3.2.2.1 c4; (hr_iinc (v := a2 + 1) (lv1 := [(0, .ref 21), (1, .ref ((1000 + i))), (2, .int (a2 + 1))]) (hs_tb tb_X0_isNamed 30 rfl) 2 rfl rfl (by decide) rfl rfl (hr_goto (tgt := 20) (hs_tb tb_X0_isNamed 31 rfl) rfl h5))) (fun c4 => have h6 := h3.2.2.2 c4; (hr_iconst (v := 0) (hs_tb tb_X0_isNamed 28 rfl) rfl (hr_zret (b := false) (hs_tb tb_X0_isNamed 29 rfl) rfl rfl ⟨_, rfl, h6⟩))))))))))))))))))))
set_option maxHeartbeats 4000000 in
set_option maxRecDepth 100000 in
theorem vc_X0_isNamed {i : Nat} {σ : hs_St} {K : Bool → hs_St → Prop} (hi : i < 6) (h : (((σ.1 21 3) - (σ.1 21 5)) = (nI (hs_len.getD i 0)) → (RnB m_X0_isNamed 20 [(0, .ref 21), (1, .ref ((1000 + i))), (2, .int 0)] [] σ K)) ∧ (¬ ((σ.1 21 3) - (σ.1 21 5)) = (nI (hs_len.getD i 0)) → (K false σ))) : OkB m_X0_isNamed [.ref 21, .ref ((1000 + i))] σ K := hs_ok_of rfl (Nat.le_of_ble_eq_true rfl) (show hs_Rn m_X0_isNamed 0 [(0, .ref 21), (1, .ref ((1000 + i)))] [] σ _ from (hr_aload_n (hs_tb tb_X0_isNamed 0 rfl) 0 rfl (hr_getI (hs_tb tb_X0_isNamed 1 rfl) fl_X0_29 fx_21_3 (hr_aload_n (hs_tb tb_X0_isNamed 2 rfl) 0 rfl (hr_getI (hs_tb tb_X0_isNamed 3 rfl) fl_X0_72 fx_21_5 (hr_isub (hs_tb tb_X0_isNamed 4 rfl) (hr_aload_n (hs_tb tb_X0_isNamed 5 rfl) 1 rfl (hr_slen0 rfl ⟨Nat.le_of_ble_eq_true rfl, Nat.le_of_ble_eq_true rfl, Nat.le_of_ble_eq_true rfl⟩ (hs_tb tb_X0_isNamed 6 rfl) hi (hr_icmp_eq (tgt := 18) (hs_tb tb_X0_isNamed 7 rfl) rfl (fun c1 => have h2 := h.1 c1; (hr_iconst (v := 0) (hs_tb tb_X0_isNamed 10 rfl) rfl (hr_istore_n (lv1 := [(0, .ref 21), (1, .ref ((1000 + i))), (2, .int 0)]) (hs_tb tb_X0_isNamed 11 rfl) (by decide) rfl rfl h2))) (fun c1 => have h3 := h.2 c1; (hr_iconst (v := 0) (hs_tb tb_X0_isNamed 8 rfl) rfl (hr_zret (b := false) (hs_tb tb_X0_isNamed 9 rfl) rfl rfl ⟨_, rfl, h3⟩))))))))))))
/-! text of the class: names of lines -/
def nbyt : List (List Nat) := [[112, 108, 117, 115], [108, 101, 115, 115], [116, 105, 109, 101, 115], [111, 118, 101, 114], [100, 111, 110, 101], [99, 108, 101, 114, 107]]
theorem nbyt_ok : ∀ i : Nat, i < 6 → ∀ j : Nat, j < hs_len.getD i 0 → (hs_byt.getD i []).getD j 0 = nI ((nbyt.getD i []).getD j 0) ∧ (nbyt.getD i []).getD j 0 ≤ 127 := by decide
theorem nlen_ok : ∀ i : Nat, i < 6 → hs_len.getD i 0 ≤ 5 := by decide
theorem cx_isNamed {σ : hs_St} {K : Bool → hs_St → Prop} {n st pl i : Nat} {b : Nat → Nat} (hi : i < 6) (hp : xp σ n b) (hn : n ≤ 160) (hb : ∀ i, i < n → b i ≤ 127) (c5 : σ.1 21 5 = nI st) (c3 : σ.1 21 3 = nI pl) (h1 : st ≤ pl) (h2 : pl ≤ n)
    (hK : ∀ r : Bool, (r = true ↔ (pl = st + hs_len.getD i 0 ∧ ∀ j, j < hs_len.getD i 0 → b (st + j) = (nbyt.getD i []).getD j 0)) → K r σ) : OkB m_X0_isNamed [.ref 21, .ref (1000 + i)] σ K := by
  have h5 := nlen_ok i hi
  have hby := nbyt_ok i hi
  have loop : pl = st + hs_len.getD i 0 → ∀ m j, hs_len.getD i 0 - j = m → j ≤ hs_len.getD i 0 → (∀ q, q < j → b (st + q) = (nbyt.getD i []).getD q 0) → RnB m_X0_isNamed 20 [(0, .ref 21), (1, .ref (1000 + i)), (2, .int (nI j))] [] σ K := by
    intro hl m
    induction m with
    | zero =>
      intro j hm hj hq
      refine vc_X0_isNamed_20 hi ⟨fun _ => hK true ⟨fun _ => ⟨hl, fun q hq2 => hq q (by omega)⟩, fun _ => rfl⟩, fun h => absurd ?_ h⟩
      rw [il (by omega) (by omega)]; omega
    | succ m ih =>
      intro j hm hj hq
      have hbj := hb (st + j) (by omega)
      obtain ⟨e1, e2⟩ := hby j (by omega)
      refine vc_X0_isNamed_20 hi ⟨fun h => ?_, fun _ => ?_⟩
      · rw [il (by omega) (by omega)] at h; omega
      · rw [c5, nI_add]
        refine ⟨vp_in_nI (by omega) (by omega), vp_in_nI (by omega) (by omega), ?_⟩
        rw [nI_clamp (by omega), nI_clamp (by omega), hp.2 (st + j) (by omega), e1, ieq (by omega) (by omega), nI_1]
        refine ⟨fun he => ih (j + 1) (by omega) (by omega) (fun q hq2 => ?_), fun he => hK false ⟨fun h => (by cases h), fun h => absurd (h.2 j (by omega)) he⟩⟩
        by_cases e : q = j
        · subst e; exact he
        · exact hq q (by omega)
  refine vc_X0_isNamed hi ?_
  rw [c3, c5, pk_sub h1, ieq (by omega) (by omega)]
  refine ⟨fun hl => ?_, fun hl => hK false ⟨fun h => (by cases h), fun h => absurd h.1 (by omega)⟩⟩
  rw [nl_0]
  exact loop (by omega) _ 0 rfl (by omega) (fun q hq => by omega)
theorem cx_is4 {σ : hs_St} {K : Bool → hs_St → Prop} {n st pl i w x y z : Nat} {b : Nat → Nat} (hi : i < 6) (hl : hs_len.getD i 0 = 4) (hw : nbyt.getD i [] = [w, x, y, z]) (hp : xp σ n b) (hn : n ≤ 160) (hb : ∀ i, i < n → b i ≤ 127) (c5 : σ.1 21 5 = nI st) (c3 : σ.1 21 3 = nI pl) (h1 : st ≤ pl) (h2 : pl ≤ n) (hK : K (nd4 b st pl w x y z) σ) : OkB m_X0_isNamed [.ref 21, .ref (1000 + i)] σ K := by
  refine cx_isNamed hi hp hn hb c5 c3 h1 h2 (fun r hr => ?_)
  rw [hl, hw] at hr
  have e : r = nd4 b st pl w x y z := by
    rw [Bool.eq_iff_iff, hr]
    unfold nd4
    rw [decide_eq_true_eq]
    refine ⟨fun h => ⟨h.1, h.2 0 (by omega), h.2 1 (by omega), h.2 2 (by omega), h.2 3 (by omega)⟩, fun ⟨g0, g1, g2, g3, g4⟩ => ⟨g0, fun j hj => ?_⟩⟩
    rcases (show j = 0 ∨ j = 1 ∨ j = 2 ∨ j = 3 by omega) with rfl | rfl | rfl | rfl
    · exact g1
    · exact g2
    · exact g3
    · exact g4
  rw [e]; exact hK
theorem cx_is5 {σ : hs_St} {K : Bool → hs_St → Prop} {n st pl i w x y z u : Nat} {b : Nat → Nat} (hi : i < 6) (hl : hs_len.getD i 0 = 5) (hw : nbyt.getD i [] = [w, x, y, z, u]) (hp : xp σ n b) (hn : n ≤ 160) (hb : ∀ i, i < n → b i ≤ 127) (c5 : σ.1 21 5 = nI st) (c3 : σ.1 21 3 = nI pl) (h1 : st ≤ pl) (h2 : pl ≤ n) (hK : K (nd5 b st pl w x y z u) σ) : OkB m_X0_isNamed [.ref 21, .ref (1000 + i)] σ K := by
  refine cx_isNamed hi hp hn hb c5 c3 h1 h2 (fun r hr => ?_)
  rw [hl, hw] at hr
  have e : r = nd5 b st pl w x y z u := by
    rw [Bool.eq_iff_iff, hr]
    unfold nd5
    rw [decide_eq_true_eq]
    refine ⟨fun h => ⟨h.1, h.2 0 (by omega), h.2 1 (by omega), h.2 2 (by omega), h.2 3 (by omega), h.2 4 (by omega)⟩, fun ⟨g0, g1, g2, g3, g4, g5⟩ => ⟨g0, fun j hj => ?_⟩⟩
    rcases (show j = 0 ∨ j = 1 ∨ j = 2 ∨ j = 3 ∨ j = 4 by omega) with rfl | rfl | rfl | rfl | rfl
    · exact g1
    · exact g2
    · exact g3
    · exact g4
    · exact g5
  rw [e]; exact hK
theorem cx_sortOfLine {σ : hs_St} {K : Int32 → hs_St → Prop} {n st pl : Nat} {b : Nat → Nat} (hp : xp σ n b) (hn : n ≤ 160) (hb : ∀ i, i < n → b i ≤ 127) (c5 : σ.1 21 5 = nI st) (c3 : σ.1 21 3 = nI pl) (h1 : st ≤ pl) (h2 : pl ≤ n) (hK : K (if knd b st pl = 6 then -4 else nI (knd b st pl)) σ) : OkI m_X0_sortOfLine [.ref 21] σ K := by
  unfold knd at hK
  refine vc_X0_sortOfLine ?_
  refine cx_is4 (i := 0) (by decide) rfl rfl hp hn hb c5 c3 h1 h2 ⟨fun e0 => ?_, fun e0 => ?_⟩
  · rw [if_neg (c := nd4 b st pl 112 108 117 115 = true) (by rw [e0]; decide)] at hK
    refine cx_is4 (i := 1) (by decide) rfl rfl hp hn hb c5 c3 h1 h2 ⟨fun e1 => ?_, fun e1 => ?_⟩
    · rw [if_neg (c := nd4 b st pl 108 101 115 115 = true) (by rw [e1]; decide)] at hK
      refine cx_is5 (i := 2) (by decide) rfl rfl hp hn hb c5 c3 h1 h2 ⟨fun e2 => ?_, fun e2 => ?_⟩
      · rw [if_neg (c := nd5 b st pl 116 105 109 101 115 = true) (by rw [e2]; decide)] at hK
        refine cx_is4 (i := 3) (by decide) rfl rfl hp hn hb c5 c3 h1 h2 ⟨fun e3 => ?_, fun e3 => ?_⟩
        · rw [if_neg (c := nd4 b st pl 111 118 101 114 = true) (by rw [e3]; decide)] at hK
          refine cx_is4 (i := 4) (by decide) rfl rfl hp hn hb c5 c3 h1 h2 ⟨fun e4 => ?_, fun e4 => ?_⟩
          · rw [if_neg (c := nd4 b st pl 100 111 110 101 = true) (by rw [e4]; decide)] at hK
            refine cx_is5 (i := 5) (by decide) rfl rfl hp hn hb c5 c3 h1 h2 ⟨fun e5 => ?_, fun e5 => ?_⟩
            · rw [if_neg (c := nd5 b st pl 99 108 101 114 107 = true) (by rw [e5]; decide), if_pos rfl] at hK; exact hK
            · rw [if_pos e5, if_neg (by decide)] at hK; exact hK
          · rw [if_pos e4, if_neg (by decide)] at hK; exact hK
        · rw [if_pos e3, if_neg (by decide)] at hK; exact hK
      · rw [if_pos e2, if_neg (by decide)] at hK; exact hK
    · rw [if_pos e1, if_neg (by decide)] at hK; exact hK
  · rw [if_pos e0, if_neg (by decide)] at hK; exact hK
theorem ln1_bds (n : Nat) (b : Nat → Nat) (D : sp_T) (dt : Nat → Bool) (dv : Nat → Nat) (s st pl : Nat) : ln1 n b D dt dv s st pl = if s = 1 ∧ knd b st pl ≠ 6 then (if knd b st pl = 4 ∨ (knd b st pl = 5 ∧ D 6 0 < 3) ∨ (knd b st pl < 4 ∧ D 0 0 < 4) then bds n b D dt dv (knd b st pl) pl else .error (5, st)) else .error (2, st) := rfl
theorem cx_takeLine {σ : hs_St} {K : Bool → hs_St → Prop} {n p s st pl v : Nat} {b : Nat → Nat} {D : sp_T} {dt : Nat → Bool} {dv : Nat → Nat} (hp : xp σ n b) (hn : n ≤ 160) (hb : ∀ i, i < n → b i ≤ 127) (hpn : p ≤ n) (htk : tk1 n b p = .ok (s, st, pl, v)) (c4 : σ.1 21 4 = nI s) (c5 : σ.1 21 5 = nI st) (c3 : σ.1 21 3 = nI pl) (hd : xdr σ D dt dv) (hk : dkk D dt dv) (hK : ∀ τ, hs_fr SB σ τ → xln σ τ (ln1 n b D dt dv s st pl) → K (isOk (ln1 n b D dt dv s st pl)) τ) : OkB m_X0_takeLine [.ref 21] σ K := by
  have h0 := tk1_ok hb hpn htk
  have hkn := knd_le (b := b) (st := st) (pl := pl)
  have k0 := hk.1.1
  have k6 := hk.1.2.1
  have d0 : σ.1 22 0 = nI (D 0 0) := hd.1.1
  have d6 : σ.1 22 6 = nI (D 6 0) := hd.1.2.1
  rw [ln1_bds] at hK
  have bad : ∀ {f : Nat} {fi : Int32}, fi = nI f → (∀ τ, hs_fr SB σ τ → xln σ τ (.error (f, st)) → K false τ) → OkB m_X0_refuse [.ref 21, .int fi, .int (σ.1 21 5)] σ (fun r4 σ5 => K r4 σ5) := by
    intro f fi e h
    subst e
    rw [c5]
    refine cx_refuse (h _ ((hs_fr.rf.w (by decide)).w (by decide)) ⟨?_, w_eq⟩)
    rw [w_at (by decide), w_eq]
  refine vc_X0_takeLine ?_
  rw [c4, nl_1, ieq (by omega) (by omega)]
  refine ⟨fun hs => bad (f := 2) nl_2 (by rw [if_neg (fun h => hs h.1)] at hK; exact hK), fun hs => cx_sortOfLine hp hn hb c5 c3 h0.2.1 h0.2.2.1 ?_⟩
  generalize knd b st pl = k at hK hkn
  by_cases h6 : k = 6
  · rw [if_pos h6]
    refine ⟨fun h => absurd rfl h, fun _ => bad (f := 2) nl_2 (by rw [if_neg (fun h => h.2 h6)] at hK; exact hK)⟩
  · rw [if_neg h6]
    rw [if_pos ⟨hs, h6⟩] at hK
    refine ⟨fun _ => ?_, fun h => absurd h (im4 (by omega))⟩
    rw [nl_4, ieq (by omega) (by omega), nl_5, ieq (by omega) (by omega), d0, il (by omega) (by omega), d6, nl_3, il (by omega) (by omega)]
    refine ⟨fun h4 => ⟨fun h5 => ⟨fun hf => bad (f := 5) rfl (by rw [if_neg (by omega)] at hK; exact hK), fun hf => ?_⟩, fun h5 => ⟨fun hf => bad (f := 5) rfl (by rw [if_neg (by omega)] at hK; exact hK), fun hf => ?_⟩⟩, fun h4 => ?_⟩
    · rw [if_pos (by omega)] at hK
      exact cx_takeGhost (by omega) hp hn hb h0.2.2.1 c3 hd (by omega) hK
    · rw [if_pos (by omega), h5] at hK
      exact cx_takeClerk hp hn hb h0.2.2.1 c3 hd (by omega) hK
    · rw [if_pos (by omega), h4] at hK
      exact cx_takeDone hp hn hb h0.2.2.1 c3 hd hk hK
