/-! what was seen -/
def sp_so (T : sp_T) : Bool := decide (∀ i, i < T 10 0 → (tr T (T 12 i)).1 (T 11 i) = T 13 i)
theorem cx_lastSeenBehind {σ : hs_St} {K : Int32 → hs_St → Prop} {T : sp_T} (hx : xt 8 σ T) (hk : tk T) (hK : ∀ (m : Nat) (z : Int32), m ≤ 21 → z.toInt = (m : Int) - 1 → (∀ i, i < T 10 0 → T 12 i < m) → K z σ) : OkI m_X3_lastSeenBehind [.ref 8] σ K := by
  obtain ⟨x0, x6, x9, x10, xg, xc, xs⟩ := xt_8.mp hx
  obtain ⟨k0, k6, k9, k10, kg, kc, ks⟩ := hk
  have loop : ∀ n i (m : Nat) (z : Int32), T 10 0 - i = n → i ≤ T 10 0 → m ≤ 21 → z.toInt = (m : Int) - 1 → (∀ j, j < i → T 12 j < m) → RnI m_X3_lastSeenBehind 4 [(0, .ref 8), (1, .int z), (2, .int (nI i))] [] σ K := by
    intro n
    induction n with
    | zero =>
      intro i m z hn hi hm hz hj
      have : i = T 10 0 := by omega
      subst this
      exact vc_X3_lastSeenBehind_4 ⟨fun _ => hK m z hm hz hj, fun h => absurd (by rw [x10, il (by omega) (by omega)]; omega) h⟩
    | succ n ih =>
      intro i m z hn hi hm hz hj
      have hsi := (xs i (by omega)).2.1
      have ksi := (ks i (by omega)).2.1
      refine vc_X3_lastSeenBehind_4 ⟨fun h => ?_, fun _ => ⟨vp_in_nI (by omega) (by omega), ?_⟩⟩
      · rw [x10, il (by omega) (by omega)] at h; omega
      · rintro _ rfl
        rw [nI_1, nI_clamp (by omega), hsi]
        unfold hs_mx
        by_cases h : z < nI (T 12 i)
        · rw [if_pos h]
          rw [Int32.lt_iff_toInt_lt, hz, nI_toInt (by omega)] at h
          refine ih (i + 1) (T 12 i + 1) _ (by omega) (by omega) (by omega) (by rw [nI_toInt (by omega)]; omega) (fun j hji => ?_)
          by_cases e : j = i
          · subst e; omega
          · have := hj j (by omega); omega
        · rw [if_neg h]
          rw [Int32.lt_iff_toInt_lt, hz, nI_toInt (by omega)] at h
          refine ih (i + 1) m z (by omega) (by omega) hm hz (fun j hji => ?_)
          by_cases e : j = i
          · subst e; omega
          · exact hj j (by omega)
  refine vc_X3_lastSeenBehind ?_
  rw [nl_0]
  exact loop (T 10 0) 0 0 _ (by omega) (by omega) (by omega) (by decide) (fun j hj => by omega)
theorem cx_agrees {σ : hs_St} {K : Bool → hs_St → Prop} {T : sp_T} {p : sp_P} {w : sp_W} {n : Nat} (hn : n ≤ 100) (hx : xt 8 σ T) (hk : tk T) (hw : xw σ p w) (ho : sp_ok p w) (hp : p.1 = T 0 0) (hK : K (decide (∀ i, i < T 10 0 → T 12 i = n → w.1 (T 11 i) = T 13 i)) σ) : OkB m_X3_agrees [.ref 8, .ref 1, .int (nI n)] σ K := by
  obtain ⟨x0, x6, x9, x10, xg, xc, xs⟩ := xt_8.mp hx
  obtain ⟨k0, k6, k9, k10, kg, kc, ks⟩ := hk
  have loop : ∀ m i, T 10 0 - i = m → i ≤ T 10 0 → (∀ j, j < i → T 12 j = n → w.1 (T 11 j) = T 13 j) → RnB m_X3_agrees 2 [(0, .ref 8), (1, .ref 1), (2, .int (nI n)), (3, .int (nI i))] [] σ K := by
    intro m
    induction m with
    | zero =>
      intro i hm hi hj
      have : i = T 10 0 := by omega
      subst this
      refine vc_X3_agrees_2 ⟨fun _ => ?_, fun h => absurd (by rw [x10, il (by omega) (by omega)]; omega) h⟩
      rw [decide_eq_true hj] at hK; exact hK
    | succ m ih =>
      intro i hm hi hj
      have hsi := xs i (by omega)
      have ksi := ks i (by omega)
      have hwi := hw.2.2.2.1 (T 11 i) (by omega)
      have hoi := (ho.2.2.1 (T 11 i) (by omega)).2.2
      refine vc_X3_agrees_2 ⟨fun h => ?_, fun _ => ⟨vp_in_nI (by omega) (by omega), fun h => ?_, fun h => ⟨?_, fun h2 => ?_, fun h2 => ?_⟩⟩⟩
      · rw [x10, il (by omega) (by omega)] at h; omega
      · rw [nI_clamp (by omega), hsi.2.1, ieq (by omega) (by omega)] at h
        rw [nI_1]
        refine ih (i + 1) (by omega) (by omega) (fun j hji => ?_)
        by_cases e : j = i
        · subst e; exact fun z => absurd z h
        · exact hj j (by omega)
      · rw [nI_clamp (by omega), hsi.1]; exact vp_in_nI (by omega) (by omega)
      · rw [nI_clamp (by omega), hsi.1, hsi.2.2, nI_clamp (by omega), hwi.1, ieq (by omega) (by omega)] at h2
        rw [nI_1]
        refine ih (i + 1) (by omega) (by omega) (fun j hji => ?_)
        by_cases e : j = i
        · subst e; exact fun _ => h2
        · exact hj j (by omega)
      · rw [nI_clamp (by omega), hsi.1, hsi.2.2, nI_clamp (by omega), hwi.1, ieq (by omega) (by omega)] at h2
        rw [nI_clamp (by omega), hsi.2.1, ieq (by omega) (by omega)] at h
        rw [decide_eq_false (fun z => h2 (z i (by omega) h))] at hK; exact hK
  refine vc_X3_agrees ?_
  rw [nl_0]
  exact loop (T 10 0) 0 (by omega) (by omega) (fun j hj => by omega)
theorem cx_isAsSeen {σ : hs_St} {K : Bool → hs_St → Prop} {T : sp_T} {g k b : Nat} (hg : g < T 0 0) (hk4 : k < 4) (hb1 : 1 ≤ b) (hb : b ≤ 99) (hx : xt 8 σ T) (hk : tk T) (hK : ∀ τ, hs_fr [1, 2, 3, 4, 5, 6, 7] σ τ → K (sp_so (tb T g k b)) τ) : OkB m_X5_isAsSeen [.ref 0, .int (nI g), .int (nI k), .int (nI b)] σ K := by
  have kg := hk.2.2.2.2.1 g hg
  have hg4 := hk.1
  have hk2 := tk_b (g := g) hk hk4 hb1 hb
  have ho := tk_ok hk2
  have e0 : tb T g k b 0 = T 0 := tb_ne (by decide) (by decide)
  have e10 : tb T g k b 10 = T 10 := tb_ne (by decide) (by decide)
  have e11 : tb T g k b 11 = T 11 := tb_ne (by decide) (by decide)
  have e12 : tb T g k b 12 = T 12 := tb_ne (by decide) (by decide)
  have e13 : tb T g k b 13 = T 13 := tb_ne (by decide) (by decide)
  refine vc_X5_isAsSeen (cx_begin hx hk (fun τ hf hw => ⟨vp_in_nI (by omega) (by omega), ?_⟩))
  have xg := (xt_8.mp hx).2.2.2.2.1 g hg
  rw [nI_clamp (by omega), hf.2 10 (by decide), hf.2 13 (by decide), xg.2.1, xg.2.2.2.2]
  refine cx_reckon (by omega) hk4 kg.2.1.2 hb hb1 kg.2.2.2.2 ?_
  have hw1 := xw_reck (g := g) (k := k) (b := b) hw
  have hf1 : hs_fr [1, 2, 3, 4, 5, 6, 7] σ (hs_w (hs_w τ 3 g (nI (sp_stp k (sp_ans k (T 2 g) b) - T 5 g))) 4 g (nI (sp_ans k (T 2 g) b % 6))) := (hf.w (by decide)).w (by decide)
  generalize hs_w (hs_w τ 3 g (nI (sp_stp k (sp_ans k (T 2 g) b) - T 5 g))) 4 g (nI (sp_ans k (T 2 g) b % 6)) = τ1 at hw1 hf1 ⊢
  refine cx_lastSeenBehind (T := T) (xt_fr hf1 (by decide) hx) hk (fun m z hm hz hall => ?_)
  have loop : ∀ n i (υ : hs_St), m - i = n → i ≤ m → hs_fr [1, 2, 3, 4, 5, 6, 7] σ υ → xw υ (tp (tb T g k b)) (tr (tb T g k b) i) → (∀ j, j < T 10 0 → T 12 j < i → (tr (tb T g k b) (T 12 j)).1 (T 11 j) = T 13 j) → ∀ a1 a2 a3, RnB m_X5_isAsSeen 51 [(0, .ref 0), (1, .int a1), (2, .int a2), (3, .int a3), (4, .int z), (5, .int (nI i))] [] υ K := by
    intro n
    induction n with
    | zero =>
      intro i υ hn hi hf2 hw2 hj a1 a2 a3
      have : i = m := by omega
      subst this
      refine vc_X5_isAsSeen_51 ⟨fun _ => ?_, fun h => absurd (by rw [Int32.lt_iff_toInt_lt, hz, nI_toInt (by omega)]; omega) h⟩
      have h3 := hK υ hf2
      have e : sp_so (tb T g k b) = true := decide_eq_true (by
        rw [e10, e11, e12, e13]
        exact fun j hjj => hj j hjj (hall j hjj))
      rw [e] at h3; exact h3
    | succ n ih =>
      intro i υ hn hi hf2 hw2 hj a1 a2 a3
      refine vc_X5_isAsSeen_51 ⟨fun h => ?_, fun _ => ?_⟩
      · rw [Int32.lt_iff_toInt_lt, hz, nI_toInt (by omega)] at h; omega
      · refine cx_agrees (T := T) (n := i) (by omega) (xt_fr hf2 (by decide) hx) hk hw2 (sp_ok_run ho i) (show tb T g k b 0 0 = T 0 0 by rw [e0]) ⟨fun h => ?_, fun h => ?_⟩
        · have h := of_decide_eq_true h
          refine cx_night hw2 (sp_ok_run ho i) (fun ω hf3 hw3 => ?_)
          rw [nI_1]
          refine ih (i + 1) ω (by omega) (by omega) (hf2.tr (hf3.up (by decide))) hw3 (fun j hjj hlt => ?_) a1 a2 a3
          by_cases e : T 12 j = i
          · rw [e]; exact h j hjj e
          · exact hj j hjj (by omega)
        · have h := of_decide_eq_false h
          have h3 := hK υ hf2
          have e : sp_so (tb T g k b) = false := decide_eq_false (fun z2 => h (fun j hjj hji => by
            rw [e10, e11, e12, e13] at z2
            have := z2 j hjj
            rw [hji] at this; exact this))
          rw [e] at h3; exact h3
  rw [nl_0]
  exact loop m 0 τ1 (by omega) (by omega) hf1 hw1 (fun j _ hlt => by omega) _ _ _
/-! numbers counted by rooms -/
def sp_cnt (P : Nat → Bool) : Nat → Nat
  | 0 => 0
  | b + 1 => sp_cnt P b + (if P (b + 1) then 1 else 0)
theorem sp_cnt_le (P : Nat → Bool) : ∀ n, sp_cnt P n ≤ n
  | 0 => by simp [sp_cnt]
  | n + 1 => by
    have := sp_cnt_le P n
    simp only [sp_cnt]
    split <;> omega
/-- the row of numbers that bring ghost g behind n nights into room r -/
def sp_by (T : sp_T) (g n r : Nat) (b : Nat) : Bool := sp_so (tb T g (T 1 g) b) && decide ((tr (tb T g (T 1 g) b) n).1 g = r)
theorem cx_tallyTrail {σ : hs_St} {K : hs_St → Prop} {T : sp_T} {g b : Nat} (hg : g < T 0 0) (hb1 : 1 ≤ b) (hb : b ≤ 99) (hx : xt 8 σ T) (hk : tk T) (f : Nat → Nat → Nat) (h62 : ∀ n r, n ≤ 20 → r < 6 → σ.1 62 (n * 6 + r) = nI (f n r))
    (hK : ∀ τ, hs_fr [1, 2, 3, 4, 5, 6, 7, 62] σ τ → (∀ n r, n ≤ 20 → r < 6 → τ.1 62 (n * 6 + r) = nI (f n r + (if (tr (tb T g (T 1 g) b) n).1 g = r then 1 else 0))) → K τ) : OkV m_X5_tallyTrail [.ref 0, .int (nI g), .int (nI b)] σ K := by
  have kg := hk.2.2.2.2.1 g hg
  have hg4 := hk.1
  have hk2 := tk_b (g := g) (k := T 1 g) hk kg.1 hb1 hb
  have ho := tk_ok hk2
  have e0 : tb T g (T 1 g) b 0 = T 0 := tb_ne (by decide) (by decide)
  refine vc_X5_tallyTrail (cx_begin hx hk (fun τ hf hw => ⟨vp_in_nI (by omega) (by omega), ?_⟩))
  have xg := (xt_8.mp hx).2.2.2.2.1 g hg
  rw [nI_clamp (by omega), hf.2 9 (by decide), hf.2 10 (by decide), hf.2 13 (by decide), xg.1, xg.2.1, xg.2.2.2.2]
  refine cx_reckon (by omega) kg.1 kg.2.1.2 hb hb1 kg.2.2.2.2 ?_
  have hw1 := xw_reck (g := g) (k := T 1 g) (b := b) hw
  have hf1 : hs_fr [1, 2, 3, 4, 5, 6, 7] σ (hs_w (hs_w τ 3 g (nI (sp_stp (T 1 g) (sp_ans (T 1 g) (T 2 g) b) - T 5 g))) 4 g (nI (sp_ans (T 1 g) (T 2 g) b % 6))) := (hf.w (by decide)).w (by decide)
  generalize hs_w (hs_w τ 3 g (nI (sp_stp (T 1 g) (sp_ans (T 1 g) (T 2 g) b) - T 5 g))) 4 g (nI (sp_ans (T 1 g) (T 2 g) b % 6)) = τ1 at hw1 hf1 ⊢
  generalize tb T g (T 1 g) b = T' at *
  have loop : ∀ m i (υ : hs_St), 21 - i = m → i ≤ 21 → hs_fr [1, 2, 3, 4, 5, 6, 7, 62] σ υ → xw υ (tp T') (tr T' i) → (∀ n r, n ≤ 20 → r < 6 → υ.1 62 (n * 6 + r) = nI (f n r + (if n < i ∧ (tr T' n).1 g = r then 1 else 0))) → ∀ a2, RnV m_X5_tallyTrail 49 [(0, .ref 0), (1, .int (nI g)), (2, .int a2), (3, .int (nI i))] [] υ K := by
    intro m
    induction m with
    | zero =>
      intro i υ hm hi hf2 hw2 h6 a2
      have : i = 21 := by omega
      subst this
      refine vc_X5_tallyTrail_49 ⟨fun _ => hK υ hf2 (fun n r hn hr => ?_), fun h => absurd (by rw [nl_20, ilt (by omega) (by omega)]; omega) h⟩
      rw [h6 n r hn hr]
      congr 2
      have : n < 21 := by omega
      simp [this]
    | succ m ih =>
      intro i υ hm hi hf2 hw2 h6 a2
      have hri := (hw2.2.2.2.1 g (by show g < T' 0 0; rw [e0]; exact hg)).1
      have hoi := ((sp_ok_run ho i).2.2.1 g (by show g < T' 0 0; rw [e0]; exact hg)).2.2
      change (tr T' i).1 g < 6 at hoi
      have hix : (nI i * 6) + (υ.1 2 (nI g).toNatClampNeg) = nI (i * 6 + (tr T' i).1 g) := by rw [nI_clamp (by omega), hri, nl_6, pk_mul, nI_add]
      refine vc_X5_tallyTrail_49 ⟨fun h => ?_, fun _ => ⟨vp_in_nI (by omega) (by omega), ?_, ?_⟩⟩
      · rw [nl_20, ilt (by omega) (by omega)] at h; omega
      · rw [hix]; exact vp_in_nI (by omega) (by omega)
      · rw [hix, nI_clamp (by omega)]
        rintro _ rfl
        rw [h6 i _ (by omega) hoi, nI_1]
        refine cx_night (xw_fr (S := [62]) (σ := υ) (hs_fr.rf.w (by decide)) (by decide) hw2) (sp_ok_run ho i) (fun ω hf3 hw3 => ?_)
        rw [nI_1]
        refine ih (i + 1) ω (by omega) (by omega) ((hf2.w (by decide)).tr (hf3.up (by decide))) hw3 (fun n r hn hr => ?_) a2
        rw [hf3.2 62 (by decide)]
        by_cases e : n * 6 + r = i * 6 + (tr T' i).1 g
        · have e1 : n = i := by omega
          subst e1
          have e2 : r = (tr T' n).1 g := by omega
          subst e2
          rw [w_eq]
          congr 1
          simp
        · rw [w_at e, h6 n r hn hr]
          congr 2
          by_cases e1 : n = i
          · subst e1
            have : ¬ (tr T' n).1 g = r := by omega
            simp [this]
          · have : (n < i ↔ n < i + 1) := by omega
            simp [this]
  rw [nl_0]
  exact loop 21 0 τ1 (by omega) (by omega) (hf1.up (by decide)) hw1 (fun n r hn hr => by rw [hf1.2 62 (by decide), h62 n r hn hr]; simp) _
theorem cx_tallyRooms {σ : hs_St} {K : Int32 → hs_St → Prop} {T : sp_T} {g : Nat} (hg : g < T 0 0) (hx : xt 8 σ T) (hk : tk T)
    (hK : ∀ τ, hs_fr [1, 2, 3, 4, 5, 6, 7, 62] σ τ → (∀ n r, n ≤ 20 → r < 6 → τ.1 62 (n * 6 + r) = nI (sp_cnt (sp_by T g n r) 99)) → K (nI (sp_cnt (fun b => sp_so (tb T g (T 1 g) b)) 99)) τ) : OkI m_X5_tallyRooms [.ref 0, .int (nI g)] σ K := by
  have kg := hk.2.2.2.2.1 g hg
  have hg4 := hk.1
  have loopB : ∀ m b (τ : hs_St), 99 - b = m → b ≤ 99 → hs_fr [1, 2, 3, 4, 5, 6, 7, 62] σ τ → (∀ n r, n ≤ 20 → r < 6 → τ.1 62 (n * 6 + r) = nI (sp_cnt (sp_by T g n r) b)) → RnI m_X5_tallyRooms 28 [(0, .ref 0), (1, .int (nI g)), (2, .int (nI (sp_cnt (fun b => sp_so (tb T g (T 1 g) b)) b))), (3, .int (nI (b + 1)))] [] τ K := by
    intro m
    induction m with
    | zero =>
      intro b τ hm hb hf h6
      have : b = 99 := by omega
      subst this
      exact vc_X5_tallyRooms_28 ⟨fun _ => hK τ hf h6, fun h => absurd (by rw [nl_99, ilt (by omega) (by omega)]; omega) h⟩
    | succ m ih =>
      intro b τ hm hb hf h6
      have hx1 : xt 8 τ T := xt_fr hf (by decide) hx
      refine vc_X5_tallyRooms_28 ⟨fun h => ?_, fun _ => ⟨vp_in_nI (by omega) (by omega), ?_⟩⟩
      · rw [nl_99, ilt (by omega) (by omega)] at h; omega
      · rw [nI_clamp (by omega), ((xt_8.mp hx1).2.2.2.2.1 g hg).1]
        refine cx_isAsSeen hg kg.1 (by omega) (by omega) hx1 hk (fun υ hf2 => ⟨fun h => ?_, fun h => ?_⟩)
        · rw [nI_1]
          have := ih (b + 1) υ (by omega) (by omega) (hf.tr (hf2.up (by decide))) (fun n r hn hr => by
            rw [hf2.2 62 (by decide), h6 n r hn hr]
            simp [sp_cnt, sp_by, h])
          simp only [sp_cnt, h] at this
          exact this
        · have hx2 : xt 8 υ T := xt_fr hf2 (by decide) hx1
          refine cx_tallyTrail hg (by omega) (by omega) hx2 hk (fun n r => sp_cnt (sp_by T g n r) b) (fun n r hn hr => by rw [hf2.2 62 (by decide), h6 n r hn hr]) (fun ω hf3 h7 => ?_)
          rw [nI_1, nI_1]
          have := ih (b + 1) ω (by omega) (by omega) ((hf.tr (hf2.up (by decide))).tr hf3) (fun n r hn hr => by
            rw [h7 n r hn hr]
            simp [sp_cnt, sp_by, h])
          simp only [sp_cnt, h, if_true] at this
          exact this
  have loopA : ∀ m i (τ : hs_St), 126 - i = m → i ≤ 126 → hs_fr [62] σ τ → (∀ j, j < i → τ.1 62 j = nI 0) → RnI m_X5_tallyRooms 2 [(0, .ref 0), (1, .int (nI g)), (2, .int (nI i))] [] τ K := by
    intro m
    induction m with
    | zero =>
      intro i τ hm hi hf h6
      have : i = 126 := by omega
      subst this
      refine vc_X5_tallyRooms_2 ⟨fun _ => ?_, fun h => absurd (by rw [nl_126, il (by omega) (by omega)]; omega) h⟩
      rw [nl_0, nl_1]
      exact loopB 99 0 τ (by omega) (by omega) (hf.up (by decide)) (fun n r hn hr => by rw [h6 _ (by omega)]; rfl)
    | succ m ih =>
      intro i τ hm hi hf h6
      refine vc_X5_tallyRooms_2 ⟨fun h => ?_, fun _ => ⟨vp_in_nI (by omega) (by omega), ?_⟩⟩
      · rw [nl_126, il (by omega) (by omega)] at h; omega
      · rintro _ rfl
        rw [nI_1, nI_clamp (by omega)]
        refine ih (i + 1) _ (by omega) (by omega) (hf.w (by decide)) (fun j hj => ?_)
        by_cases e : j = i
        · subst e; rw [w_eq, nl_0]
        · rw [w_at e]; exact h6 j (by omega)
  refine vc_X5_tallyRooms ?_
  rw [nl_0]
  exact loopA 126 0 σ (by omega) (by omega) hs_fr.rf (fun j hj => by omega)
def sp_wm (f : Nat → Nat) : Nat → Nat
  | 0 => 0
  | r + 1 => max (sp_wm f r) (f r)
theorem sp_wm_le {f : Nat → Nat} {B : Nat} (h : ∀ r, f r ≤ B) : ∀ n, sp_wm f n ≤ B
  | 0 => by simp [sp_wm]
  | n + 1 => by
    have h1 := sp_wm_le h n
    have h2 := h n
    simp only [sp_wm]; omega
theorem mx_nI {a b : Nat} (ha : a < 2147483648) (hb : b < 2147483648) : hs_mx (nI a) (nI b) = nI (max a b) := by
  unfold hs_mx
  by_cases h : a < b
  · rw [if_pos (by rw [ilt ha hb]; exact h)]; congr 1; omega
  · rw [if_neg (by rw [ilt ha hb]; exact h)]; congr 1; omega
theorem cx_worstBehind {σ : hs_St} {K : Int32 → hs_St → Prop} {n : Nat} (hn : n ≤ 20) (f : Nat → Nat) (hf : ∀ r, f r ≤ 100) (h6 : ∀ r, r < 6 → σ.1 62 (n * 6 + r) = nI (f r)) (hK : K (nI (sp_wm f 6)) σ) : OkI m_X5_worstBehind [.ref 0, .int (nI n)] σ K := by
  have loop : ∀ m i, 6 - i = m → i ≤ 6 → RnI m_X5_worstBehind 4 [(0, .ref 0), (1, .int (nI n)), (2, .int (nI (sp_wm f i))), (3, .int (nI i))] [] σ K := by
    intro m
    induction m with
    | zero =>
      intro i hm hi
      have : i = 6 := by omega
      subst this
      exact vc_X5_worstBehind_4 ⟨fun _ => hK, fun h => absurd (by rw [nl_6, il (by omega) (by omega)]; omega) h⟩
    | succ m ih =>
      intro i hm hi
      have hix : (nI n * 6) + nI i = nI (n * 6 + i) := by rw [nl_6, pk_mul, nI_add]
      have h1 := sp_wm_le hf i
      have h2 := hf i
      refine vc_X5_worstBehind_4 ⟨fun h => ?_, fun _ => ⟨?_, ?_⟩⟩
      · rw [nl_6, il (by omega) (by omega)] at h; omega
      · rw [hix]; exact vp_in_nI (by omega) (by omega)
      · rintro _ rfl
        rw [hix, nI_clamp (by omega), h6 i (by omega), nI_1, mx_nI (by omega) (by omega)]
        exact ih (i + 1) (by omega) (by omega)
  refine vc_X5_worstBehind ?_
  rw [nl_0]
  exact loop 6 0 (by omega) (by omega)
