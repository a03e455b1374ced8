/-! Town's readers, and the class's private methods -/
def tr (T : sp_T) (n : Nat) : sp_W := sp_run (tp T) n (tw T)
def th (T : sp_T) (n : Nat) : Nat := sp_tot (tr T n).2.2
theorem tot_le {hm : Nat → Nat} {B : Nat} (h : ∀ r, hm r ≤ B) : sp_tot hm ≤ 6 * B := by
  have h0 := h 0; have h1 := h 1; have h2 := h 2; have h3 := h 3; have h4 := h 4; have h5 := h 5
  unfold sp_tot; omega
theorem th_le {T : sp_T} (h : sp_ok (tp T) (tw T)) (n : Nat) : th T n ≤ 192 * n := by
  have := tot_le (hm := (tr T n).2.2) (B := 32 * n) (fun r => by
    have h2 := sp_run_hm h r n
    have h3 : (tw T).2.2 r = 0 := rfl
    show (sp_run (tp T) n (tw T)).2.2 r ≤ _
    omega)
  unfold th; omega
theorem cx_walkFromNow {σ : hs_St} {K : hs_St → Prop} {T : sp_T} {n : Nat} (hn : n ≤ 100) (hx : xt 8 σ T) (hk : tk T) (hK : ∀ τ, hs_fr [1, 2, 3, 4, 5, 6, 7] σ τ → xw τ (tp T) (tr T n) → K τ) : OkV m_X5_walkFromNow [.ref 0, .int (nI n)] σ K :=
  vc_X5_walkFromNow (cx_begin hx hk (fun τ hf hw => cx_go hn hw (tk_ok hk) (fun υ hf2 hw2 => hK υ (hf.tr (hf2.up (by decide))) hw2)))
theorem cx_harmOf {σ : hs_St} {K : Int32 → hs_St → Prop} {T : sp_T} {n : Nat} (hn : n ≤ 100) (hx : xt 8 σ T) (hk : tk T) (hK : ∀ τ, hs_fr [1, 2, 3, 4, 5, 6, 7] σ τ → xw τ (tp T) (tr T n) → K (nI (th T n)) τ) : OkI m_X5_harmOf [.ref 0, .int (nI n)] σ K :=
  vc_X5_harmOf (cx_walkFromNow hn hx hk (fun τ hf hw => by rw [hw.2.2.1]; exact hK τ hf hw))
theorem tu_ne {T : sp_T} {f i v f' : Nat} (h : f' ≠ f) : tu T f i v f' = T f' := by funext j; simp [tu, h]
theorem tu_at {T : sp_T} {f i v j : Nat} (h : j ≠ i) : tu T f i v f j = T f j := by simp [tu, h]
theorem tu_eq {T : sp_T} {f i v : Nat} : tu T f i v f i = v := by simp [tu]
theorem tu_self (T : sp_T) (f i : Nat) : tu T f i (T f i) = T := by
  funext f' j
  by_cases h : f' = f ∧ j = i
  · obtain ⟨rfl, rfl⟩ := h; rw [tu_eq]
  · simp [tu, h]
theorem tf_ne {T : sp_T} {f f' : Nat} {v : Nat → Nat} (h : f' ≠ f) : tf T f v f' = T f' := by simp [tf, h]
theorem tf_eq {T : sp_T} {f : Nat} {v : Nat → Nat} : tf T f v f = v := by simp [tf]
/-- the town with another kind and B of a ghost -/
def tb (T : sp_T) (g k b : Nat) : sp_T := tu (tu T 1 g k) 3 g b
theorem tb_ne {T : sp_T} {g k b f : Nat} (h1 : f ≠ 1) (h3 : f ≠ 3) : tb T g k b f = T f := by rw [tb, tu_ne h3, tu_ne h1]
theorem tb_1 {T : sp_T} {g k b : Nat} : tb T g k b 1 g = k := by rw [tb, tu_ne (by decide), tu_eq]
theorem tb_3 {T : sp_T} {g k b : Nat} : tb T g k b 3 g = b := by rw [tb, tu_eq]
theorem tb_1n {T : sp_T} {g k b j : Nat} (h : j ≠ g) : tb T g k b 1 j = T 1 j := by rw [tb, tu_ne (by decide), tu_at h]
theorem tb_3n {T : sp_T} {g k b j : Nat} (h : j ≠ g) : tb T g k b 3 j = T 3 j := by rw [tb, tu_at h, tu_ne (by decide)]
theorem ta_n {T : sp_T} {g k b j : Nat} (h : j ≠ g) : ta (tb T g k b) j = ta T j := by unfold ta; rw [tb_1n h, tb_3n h, tb_ne (by decide) (by decide)]
theorem ta_g {T : sp_T} {g k b : Nat} : ta (tb T g k b) g = sp_ans k (T 2 g) b := by unfold ta; rw [tb_1, tb_3, tb_ne (by decide) (by decide)]
theorem ts_n {T : sp_T} {g k b j : Nat} (h : j ≠ g) : ts (tb T g k b) j = ts T j := by unfold ts; rw [ta_n h, tb_1n h]
theorem ts_g {T : sp_T} {g k b : Nat} : ts (tb T g k b) g = sp_stp k (sp_ans k (T 2 g) b) := by unfold ts; rw [ta_g, tb_1]
theorem tk_b {T : sp_T} {g k b : Nat} (h : tk T) (hk : k < 4) (hb1 : 1 ≤ b) (hb : b ≤ 99) : tk (tb T g k b) := by
  obtain ⟨k0, k6, k9, k10, kg, kc, ks⟩ := h
  unfold tk
  rw [tb_ne (f := 0) (by decide) (by decide), tb_ne (f := 6) (by decide) (by decide), tb_ne (f := 9) (by decide) (by decide), tb_ne (f := 10) (by decide) (by decide), tb_ne (f := 2) (by decide) (by decide), tb_ne (f := 4) (by decide) (by decide), tb_ne (f := 5) (by decide) (by decide), tb_ne (f := 7) (by decide) (by decide), tb_ne (f := 8) (by decide) (by decide), tb_ne (f := 11) (by decide) (by decide), tb_ne (f := 12) (by decide) (by decide), tb_ne (f := 13) (by decide) (by decide)]
  refine ⟨k0, k6, k9, k10, fun j hj => ?_, kc, ks⟩
  have := kg j hj
  by_cases e : j = g
  · subst e
    rw [tb_1, tb_3]
    exact ⟨hk, this.2.1, ⟨hb1, hb⟩, this.2.2.2⟩
  · rw [tb_1n e, tb_3n e]; exact this
theorem xw_reck {σ : hs_St} {T : sp_T} {g k b : Nat} (hx : xw σ (tp T) (tw T)) : xw (hs_w (hs_w σ 3 g (nI (sp_stp k (sp_ans k (T 2 g) b) - T 5 g))) 4 g (nI (sp_ans k (T 2 g) b % 6))) (tp (tb T g k b)) (tw (tb T g k b)) := by
  obtain ⟨x0, x1, x2, x3, x4, x5⟩ := hx
  have e0 : tb T g k b 0 = T 0 := tb_ne (by decide) (by decide)
  have e6 : tb T g k b 6 = T 6 := tb_ne (by decide) (by decide)
  have e4 : tb T g k b 4 = T 4 := tb_ne (by decide) (by decide)
  have e5 : tb T g k b 5 = T 5 := tb_ne (by decide) (by decide)
  have e7 : tb T g k b 7 = T 7 := tb_ne (by decide) (by decide)
  have e8 : tb T g k b 8 = T 8 := tb_ne (by decide) (by decide)
  refine ⟨?_, ?_, ?_, ?_, ?_, ?_⟩
  · rw [w_ne (by decide), w_ne (by decide)]; show _ = nI (tb T g k b 0 0); rw [e0]; exact x0
  · rw [w_ne (by decide), w_ne (by decide)]; show _ = nI (tb T g k b 6 0); rw [e6]; exact x1
  · rw [w_ne (by decide), w_ne (by decide)]; exact x2
  · intro j hj
    have hj2 : j < T 0 0 := by have : j < tb T g k b 0 0 := hj; rwa [e0] at this
    have := x3 j hj2
    show _ = nI (tb T g k b 4 j) ∧ _ = nI (ts (tb T g k b) j - tb T g k b 5 j) ∧ _ = nI (ta (tb T g k b) j % 6)
    rw [e4, e5]
    by_cases e : j = g
    · subst e
      rw [w_ne (by decide), w_ne (by decide), w_ne (by decide), w_eq, w_eq, ts_g, ta_g]
      exact ⟨this.1, rfl, rfl⟩
    · rw [w_ne (by decide), w_ne (by decide), w_ne (by decide), w_at e, w_at e, w_ne (by decide), ts_n e, ta_n e]
      exact this
  · intro c hc
    have hc2 : c < T 6 0 := by have : c < tb T g k b 6 0 := hc; rwa [e6] at this
    show _ = nI (tb T g k b 7 c) ∧ _ = nI (tb T g k b 8 c)
    rw [e7, e8, w_ne (by decide), w_ne (by decide), w_ne (by decide), w_ne (by decide)]
    exact x4 c hc2
  · intro r hr
    rw [w_ne (by decide), w_ne (by decide)]
    exact x5 r hr
theorem tb_own (T : sp_T) (g b : Nat) : tb T g (T 1 g) b = tu T 3 g b := by unfold tb; rw [tu_self]
theorem cx_harmWith {σ : hs_St} {K : Int32 → hs_St → Prop} {T : sp_T} {g b n : Nat} (hn : n ≤ 100) (hg : g < T 0 0) (hb1 : 1 ≤ b) (hb : b ≤ 99) (hx : xt 8 σ T) (hk : tk T) (hK : ∀ τ, hs_fr [1, 2, 3, 4, 5, 6, 7] σ τ → K (nI (th (tb T g (T 1 g) b) n)) τ) : OkI m_X5_harmWith [.ref 0, .int (nI g), .int (nI b), .int (nI n)] σ K := by
  have kg := hk.2.2.2.2.1 g hg
  have hg4 := hk.1
  refine vc_X5_harmWith (cx_begin hx hk (fun τ hf hw => ⟨vp_in_nI (by omega) (by omega), ?_⟩))
  have xg := (xt_8.mp hx).2.2.2.2.1 g hg
  rw [nI_clamp (by omega), hf.2 9 (by decide), hf.2 10 (by decide), hf.2 13 (by decide), xg.1, xg.2.1, xg.2.2.2.2]
  refine cx_reckon (by omega) kg.1 kg.2.1.2 hb hb1 kg.2.2.2.2 ?_
  refine cx_go hn (xw_reck hw) (tk_ok (tk_b hk kg.1 hb1 hb)) (fun υ hf2 hw2 => ?_)
  rw [hw2.2.2.1]
  exact hK υ (((hf.w (by decide)).w (by decide)).tr (hf2.up (by decide)))
/-! posts by a number -/
def sp_desk (cl plan c : Nat) : Nat := plan / 6 ^ (cl - 1 - c) % 6
theorem cx_deskByPlan {σ : hs_St} {K : Int32 → hs_St → Prop} {T : sp_T} {plan c : Nat} (hp : plan < 1000) (hx : xt 8 σ T) (hk : tk T) (hc : c < T 6 0) (hK : K (nI (sp_desk (T 6 0) plan c)) σ) : OkI m_X5_deskByPlan [.ref 0, .int (nI plan), .int (nI c)] σ K := by
  have k6 := hk.2.1
  have loop : ∀ m rest a, rest < 1000 → c + m < 10 → K (nI (rest / 6 ^ m % 6)) σ → RnI m_X5_deskByPlan 13 [(0, .ref 0), (1, .int a), (2, .int (nI c)), (3, .int (nI rest)), (4, .int (nI (c + m)))] [] σ K := by
    intro m
    induction m with
    | zero =>
      intro rest a hr hm hk
      refine vc_X5_deskByPlan_13 ⟨fun _ => ?_, fun h => absurd (by rw [il (by omega) (by omega)]; omega) h⟩
      rw [nl_6, irem (by omega) (by omega) (by omega)]
      simpa using hk
    | succ m ih =>
      intro rest a hr hm hk
      refine vc_X5_deskByPlan_13 ⟨fun h => ?_, fun _ => ?_⟩
      · rw [il (by omega) (by omega)] at h; omega
      · rintro _ rfl
        rw [nl_6, idv (by omega) (by omega) (by omega), ← Nat.add_assoc, pk_m1]
        refine ih (rest / 6) a (by omega) (by omega) ?_
        rw [Nat.div_div_eq_div_mul, Nat.mul_comm, ← Nat.pow_succ]
        exact hk
  refine vc_X5_deskByPlan ?_
  rintro _ rfl
  rw [hx.2.1, nl_1, pk_sub (by omega), show T 6 0 - 1 = c + (T 6 0 - 1 - c) by omega]
  exact loop _ plan _ hp (by omega) hK
theorem xw_desk {σ : hs_St} {T : sp_T} {f : Nat → Nat} (hx : xw σ (tp T) (tw T)) (h5 : ∀ c, c < T 6 0 → σ.1 5 c = nI (f c)) : xw σ (tp (tf T 7 f)) (tw (tf T 7 f)) :=
  ⟨hx.1, hx.2.1, hx.2.2.1, hx.2.2.2.1, fun c hc => ⟨h5 c hc, (hx.2.2.2.2.1 c hc).2⟩, hx.2.2.2.2.2⟩
theorem ok_desk {T : sp_T} {f : Nat → Nat} (h : tk T) (hf : ∀ c, f c < 6) : sp_ok (tp (tf T 7 f)) (tw (tf T 7 f)) := by
  have := tk_ok h
  exact ⟨this.1, this.2.1, this.2.2.1, fun c hc => ⟨hf c, (this.2.2.2 c hc).2⟩⟩
theorem sp_desk_lt (cl plan c : Nat) : sp_desk cl plan c < 6 := Nat.mod_lt _ (by decide)
/-- rooms of clerks by a number -/
def tl (T : sp_T) (plan : Nat) : sp_T := tf T 7 (sp_desk (T 6 0) plan)
theorem xw_upd5 {σ : hs_St} {p : sp_P} {w : sp_W} {i : Nat} {v : Int32} (hx : xw σ p w) (c : Nat) : (hs_w σ 5 i v).1 5 c = if c = i then v else σ.1 5 c := by
  by_cases e : c = i
  · subst e; rw [w_eq, if_pos rfl]
  · rw [w_at e, if_neg e]
/-- all of a walk but the rooms of its clerks -/
def xv (σ : hs_St) (p : sp_P) (w : sp_W) : Prop :=
  σ.1 1 0 = nI p.1 ∧ σ.1 1 4 = nI p.2.1 ∧ σ.1 1 7 = nI (sp_tot w.2.2) ∧ (∀ g, g < p.1 → σ.1 2 g = nI (w.1 g) ∧ σ.1 3 g = nI (p.2.2.1 g - w.2.1 g) ∧ σ.1 4 g = nI (p.2.2.2.1 g)) ∧ (∀ c, c < p.2.1 → σ.1 6 c = nI (p.2.2.2.2.2 c)) ∧ ∀ r, r < 6 → σ.1 7 r = nI (w.2.2 r)
theorem xv_of {σ : hs_St} {p : sp_P} {w : sp_W} (hx : xw σ p w) : xv σ p w := ⟨hx.1, hx.2.1, hx.2.2.1, hx.2.2.2.1, fun c hc => (hx.2.2.2.2.1 c hc).2, hx.2.2.2.2.2⟩
theorem xv_w {σ : hs_St} {p : sp_P} {w : sp_W} {i : Nat} {v : Int32} (hx : xv σ p w) : xv (hs_w σ 5 i v) p w := by
  unfold xv
  rw [w_ne (by decide), w_ne (by decide), w_ne (by decide), w_ne (by decide), w_ne (by decide), w_ne (by decide)]
  exact hx
theorem cx_harmByPlan {σ : hs_St} {K : Int32 → hs_St → Prop} {T : sp_T} {plan n : Nat} (hn : n ≤ 100) (hp : plan < 1000) (hx : xt 8 σ T) (hk : tk T) (hK : ∀ τ, hs_fr [1, 2, 3, 4, 5, 6, 7] σ τ → K (nI (th (tl T plan) n)) τ) : OkI m_X5_harmByPlan [.ref 0, .int (nI plan), .int (nI n)] σ K := by
  have k6 := hk.2.1
  have loop : ∀ m i (τ : hs_St), T 6 0 - i = m → i ≤ T 6 0 → hs_fr [1, 2, 3, 4, 5, 6, 7] σ τ → xv τ (tp T) (tw T) → (∀ c, c < i → τ.1 5 c = nI (sp_desk (T 6 0) plan c)) → RnI m_X5_harmByPlan 13 [(0, .ref 0), (1, .int (nI plan)), (2, .int (nI n)), (3, .int (nI i))] [] τ K := by
    intro m
    induction m with
    | zero =>
      intro i τ hm hi hf hv h5
      have : i = T 6 0 := by omega
      subst this
      refine vc_X5_harmByPlan_13 ⟨fun _ => ?_, fun h => absurd (by rw [hf.2 8 (by decide), hx.2.1, il (by omega) (by omega)]; omega) h⟩
      have hw : xw τ (tp (tl T plan)) (tw (tl T plan)) := ⟨hv.1, hv.2.1, hv.2.2.1, hv.2.2.2.1, fun c hc => ⟨h5 c hc, hv.2.2.2.2.1 c hc⟩, hv.2.2.2.2.2⟩
      refine cx_go hn hw (ok_desk hk (fun c => sp_desk_lt _ _ c)) (fun υ hf2 hw2 => ?_)
      rw [hw2.2.2.1]
      exact hK υ (hf.tr (hf2.up (by decide)))
    | succ m ih =>
      intro i τ hm hi hf hv h5
      refine vc_X5_harmByPlan_13 ⟨fun h => ?_, fun _ => ?_⟩
      · rw [hf.2 8 (by decide), hx.2.1, il (by omega) (by omega)] at h; omega
      · refine cx_deskByPlan (T := T) hp (xt_fr hf (by decide) hx) hk (by omega) ⟨vp_in_nI (by omega) (by omega), ?_⟩
        rintro _ rfl
        rw [nI_1, nI_clamp (by omega)]
        refine ih (i + 1) _ (by omega) (by omega) (hf.w (by decide)) (xv_w hv) (fun c hc => ?_)
        by_cases e : c = i
        · subst e; rw [w_eq]
        · rw [w_at e]; exact h5 c (by omega)
  refine vc_X5_harmByPlan (cx_begin hx hk (fun τ hf hw => ?_))
  rw [nl_0]
  exact loop (T 6 0) 0 τ (by omega) (by omega) hf (xv_of hw) (fun c hc => by omega)
/-! clerks that are ill -/
def ti (T : sp_T) (ill : Nat) : sp_T := tf T 8 (fun c => if ill.testBit c then 0 else T 8 c)
theorem bit_at : ∀ x, x < 8 → ∀ c, c < 3 → (((nI x >>> (nI c &&& 31)) &&& 1) = 1 ↔ x.testBit c = true) := by decide +kernel
theorem ok_ill {T : sp_T} (h : tk T) (ill : Nat) : sp_ok (tp (ti T ill)) (tw (ti T ill)) := by
  have := tk_ok h
  refine ⟨this.1, this.2.1, this.2.2.1, fun c hc => ⟨(this.2.2.2 c hc).1, ?_⟩⟩
  show (if ill.testBit c then 0 else T 8 c) ≤ 4
  have h2 : T 8 c ≤ 4 := (this.2.2.2 c hc).2
  split <;> omega
theorem cx_goWithout {σ : hs_St} {K : hs_St → Prop} {T : sp_T} {ill n : Nat} (hn : n ≤ 100) (hp : ill < 8) (hx : xt 8 σ T) (hk : tk T) (hK : ∀ τ, hs_fr [1, 2, 3, 4, 5, 6, 7] σ τ → xw τ (tp (ti T ill)) (tr (ti T ill) n) → K τ) : OkV m_X5_goWithout [.ref 0, .int (nI ill), .int (nI n)] σ K := by
  have k6 := hk.2.1
  have loop : ∀ m i (τ : hs_St), T 6 0 - i = m → i ≤ T 6 0 → hs_fr [1, 2, 3, 4, 5, 6, 7] σ τ → τ.1 1 0 = nI (T 0 0) → τ.1 1 4 = nI (T 6 0) → τ.1 1 7 = nI (sp_tot (tw T).2.2) → (∀ g, g < T 0 0 → τ.1 2 g = nI ((tw T).1 g) ∧ τ.1 3 g = nI ((tp T).2.2.1 g - (tw T).2.1 g) ∧ τ.1 4 g = nI ((tp T).2.2.2.1 g)) → (∀ r, r < 6 → τ.1 7 r = nI ((tw T).2.2 r)) →
      (∀ c, c < T 6 0 → τ.1 5 c = nI (T 7 c)) → (∀ c, c < T 6 0 → τ.1 6 c = nI (if c < i ∧ ill.testBit c then 0 else T 8 c)) → RnV m_X5_goWithout 13 [(0, .ref 0), (1, .int (nI ill)), (2, .int (nI n)), (3, .int (nI i))] [] τ K := by
    intro m
    induction m with
    | zero =>
      intro i τ hm hi hf a1 a2 a3 a4 a5 a6 a7
      have : i = T 6 0 := by omega
      subst this
      refine vc_X5_goWithout_13 ⟨fun _ => ?_, fun h => absurd (by rw [hf.2 8 (by decide), hx.2.1, il (by omega) (by omega)]; omega) h⟩
      refine cx_go hn (p := tp (ti T ill)) (w := tw (ti T ill)) ⟨a1, a2, a3, a4, fun c hc => ⟨a6 c hc, ?_⟩, a5⟩ (ok_ill hk ill) (fun υ hf2 hw2 => hK υ (hf.tr (hf2.up (by decide))) hw2)
      rw [a7 c hc]
      show _ = nI (if ill.testBit c then 0 else T 8 c)
      congr 1
      have hc2 : c < T 6 0 := hc
      simp [hc2]
    | succ m ih =>
      intro i τ hm hi hf a1 a2 a3 a4 a5 a6 a7
      refine vc_X5_goWithout_13 ⟨fun h => ?_, fun _ => ⟨fun h => ?_, fun h => ⟨vp_in_nI (by omega) (by omega), ?_⟩⟩⟩
      · rw [hf.2 8 (by decide), hx.2.1, il (by omega) (by omega)] at h; omega
      · rw [bit_at ill hp i (by omega)] at h
        rw [nI_1]
        refine ih (i + 1) τ (by omega) (by omega) hf a1 a2 a3 a4 a5 a6 (fun c hc => ?_)
        rw [a7 c hc]
        congr 1
        by_cases e : c = i
        · subst e; simp [h]
        · have : (c < i ↔ c < i + 1) := by omega
          simp [this]
      · rw [bit_at ill hp i (by omega)] at h
        rintro _ rfl
        rw [nI_1, nI_clamp (by omega)]
        refine ih (i + 1) _ (by omega) (by omega) (hf.w (by decide)) ?_ ?_ ?_ ?_ ?_ ?_ ?_
        · rw [w_ne (by decide)]; exact a1
        · rw [w_ne (by decide)]; exact a2
        · rw [w_ne (by decide)]; exact a3
        · rw [w_ne (by decide), w_ne (by decide), w_ne (by decide)]; exact a4
        · rw [w_ne (by decide)]; exact a5
        · rw [w_ne (by decide)]; exact a6
        · intro c hc
          by_cases e : c = i
          · subst e; rw [w_eq, nl_0]; simp [h]
          · rw [w_at e, a7 c hc]
            congr 1
            have : (c < i ↔ c < i + 1) := by omega
            simp [this]
  refine vc_X5_goWithout (cx_begin hx hk (fun τ hf hw => ?_))
  rw [nl_0]
  exact loop (T 6 0) 0 τ (by omega) (by omega) hf hw.1 hw.2.1 hw.2.2.1 hw.2.2.2.1 hw.2.2.2.2.2 (fun c hc => (hw.2.2.2.2.1 c hc).1) (fun c hc => by rw [(hw.2.2.2.2.1 c hc).2]; show nI (T 8 c) = _; simp)
def sp_wt (v ill : Nat) : Nat → Nat
  | 0 => 1
  | c + 1 => sp_wt v ill c * (if ill.testBit c then v else 10 - v)
theorem cx_weight {σ : hs_St} {K : Int32 → hs_St → Prop} {T : sp_T} {ill v : Nat} (hv : v ≤ 10) (hp : ill < 8) (hx : xt 8 σ T) (hk : tk T) (hK : K (nI (sp_wt v ill (T 6 0))) σ) : OkI m_X5_weight [.ref 0, .int (nI ill), .int (nI v)] σ K := by
  have k6 := hk.2.1
  have loop : ∀ m i, T 6 0 - i = m → i ≤ T 6 0 → RnI m_X5_weight 5 [(0, .ref 0), (1, .int (nI ill)), (2, .int (nI v)), (3, .int (nI (sp_wt v ill i))), (4, .int (nI i))] [] σ K := by
    intro m
    induction m with
    | zero =>
      intro i hm hi
      have : i = T 6 0 := by omega
      subst this
      exact vc_X5_weight_5 ⟨fun _ => hK, fun h => absurd (by rw [hx.2.1, il (by omega) (by omega)]; omega) h⟩
    | succ m ih =>
      intro i hm hi
      refine vc_X5_weight_5 ⟨fun h => ?_, fun _ => ⟨fun h => ?_, fun h => ?_⟩⟩
      · rw [hx.2.1, il (by omega) (by omega)] at h; omega
      · rw [bit_at ill hp i (by omega)] at h
        rintro _ rfl
        have := ih (i + 1) (by omega) (by omega)
        simp only [sp_wt, if_neg h] at this
        rw [nI_1, nl_10, pk_sub hv, pk_mul]
        exact this
      · rw [bit_at ill hp i (by omega)] at h
        rintro _ rfl
        have := ih (i + 1) (by omega) (by omega)
        simp only [sp_wt, if_pos h] at this
        rw [nI_1, pk_mul]
        exact this
  refine vc_X5_weight ?_
  rw [nl_1, nl_0]
  exact loop (T 6 0) 0 (by omega) (by omega)
