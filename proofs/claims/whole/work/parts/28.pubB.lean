/-! what is best -/
def bs (f : Nat → Int32) : Nat → Int32 × Int32
  | 0 => (nI 0, f 0)
  | k + 1 => if f (k + 1) < (bs f k).2 then (nI (k + 1), f (k + 1)) else bs f k
theorem bs_in (f : Nat → Int32) : ∀ k, ∃ j, j ≤ k ∧ (bs f k).1 = nI j ∧ (bs f k).2 = f j
  | 0 => ⟨0, Nat.le_refl _, rfl, rfl⟩
  | k + 1 => by
    obtain ⟨j, h1, h2, h3⟩ := bs_in f k
    simp only [bs]
    split
    · exact ⟨k + 1, Nat.le_refl _, rfl, rfl⟩
    · exact ⟨j, by omega, h2, h3⟩
def ls (f : Nat → Int32) (ok : Nat → Bool) (base : Int32) : Nat → Int32 × Int32
  | 0 => (-4, base)
  | c + 1 => if ok c = true ∧ f c < (ls f ok base c).2 then (nI c, f c) else ls f ok base c
def fm (f : Nat → Int32) : Nat → Int32 × Int32
  | 0 => (-4, 61)
  | r + 1 => if ¬ f r = -4 ∧ f r < (fm f r).2 then (nI r, f r) else fm f r
/-- the one or the other of a pair, if there is one -/
def pick (q : Int32 × Int32) (w : Int32) : Int32 := if q.1 = -4 then -4 else if w = 0 then q.1 else q.2
theorem nle {a b : Int32} : ¬ a ≤ b ↔ b < a := Int32.not_le
theorem cx_power {σ : hs_St} {K : Int32 → hs_St → Prop} {b n : Nat} (hn : n ≤ 10) (hK : K (nI (b ^ n)) σ) : OkI m_X5_power [.int (nI b), .int (nI n)] σ K := by
  have loop : ∀ m i, n - i = m → i ≤ n → RnI m_X5_power 4 [(0, .int (nI b)), (1, .int (nI n)), (2, .int (nI (b ^ i))), (3, .int (nI i))] [] σ K := by
    intro m
    induction m with
    | zero =>
      intro i hm hi
      have : i = n := by omega
      subst this
      exact vc_X5_power_4 ⟨fun _ => hK, fun h => absurd (by rw [il (by omega) (by omega)]; omega) h⟩
    | succ m ih =>
      intro i hm hi
      refine vc_X5_power_4 ⟨fun h => ?_, fun _ => ?_⟩
      · rw [il (by omega) (by omega)] at h; omega
      · rintro _ rfl
        rw [pk_mul, nI_1, ← Nat.pow_succ]
        exact ih (i + 1) (by omega) (by omega)
  refine vc_X5_power ?_
  rw [nl_1, nl_0]
  exact loop n 0 (by omega) (by omega)
def f_best (T : sp_T) (n plan : Nat) : Int32 := nI (th (tl T plan) n)
def s_best (T : sp_T) (n w : Int32) : Int32 := if inr n 0 20 = false then -1 else if ¬ w = 0 ∧ hck T (w - 10) = false then -1 else
  if w = 0 then (bs (f_best T n.toNatClampNeg) (6 ^ T 6 0 - 1)).2 else nI (sp_desk (T 6 0) (bs (f_best T n.toNatClampNeg) (6 ^ T 6 0 - 1)).1.toNatClampNeg (w - 10).toNatClampNeg)
theorem pow6 {n : Nat} (h : n ≤ 3) : 1 ≤ 6 ^ n ∧ 6 ^ n ≤ 216 := by
  rcases (show n = 0 ∨ n = 1 ∨ n = 2 ∨ n = 3 by omega) with rfl | rfl | rfl | rfl <;> decide
theorem cx_best {σ : hs_St} {K : Int32 → hs_St → Prop} {T : sp_T} {n w : Int32} (hx : xt 8 σ T) (hk : tk T) (hK : ∀ τ, hs_fr SW σ τ → K (s_best T n w) τ) : OkI m_X5_best [.ref 0, .int n, .int w] σ K := by
  have h6 := hk.2.1
  have hp := pow6 h6
  unfold s_best at hK
  by_cases hn : inr n 0 20 = false
  · refine vc_X5_best (cx_within ⟨fun _ => ?_, fun h => ?_⟩)
    · have := hK σ hs_fr.rf
      rw [if_pos hn] at this; exact this
    · change inr n 0 20 = true at h
      rw [hn] at h; cases h
  · have hn : inr n 0 20 = true := by simpa using hn
    obtain ⟨j, hj, rfl⟩ := inr_of (hi := 20) hn
    rw [if_neg (by rw [hn]; decide), nI_clamp (by omega)] at hK
    have loop : (¬ w = 0 → hck T (w - 10) = true) → ∀ m i (τ : hs_St), 6 ^ T 6 0 - 1 - i = m → i ≤ 6 ^ T 6 0 - 1 → hs_fr SW σ τ → RnI m_X5_best 57 [(0, .ref 0), (1, .int (nI j)), (2, .int w), (3, .int (nI (6 ^ T 6 0))), (4, .int (bs (f_best T j) i).1), (5, .int (bs (f_best T j) i).2), (6, .int (nI (i + 1)))] [] τ K := by
      intro hc m
      induction m with
      | zero =>
        intro i τ hm hi hf
        have : i = 6 ^ T 6 0 - 1 := by omega
        subst this
        obtain ⟨q, hq1, hq2, hq3⟩ := bs_in (f_best T j) (6 ^ T 6 0 - 1)
        refine vc_X5_best_57 ⟨fun _ => ⟨fun h0 => ?_, fun h0 => ?_⟩, fun h => absurd (by rw [il (by omega) (by omega)]; omega) h⟩
        · have hc := hc h0
          have h2 := hK τ hf
          rw [if_neg (by rw [hc]; simp), if_neg h0] at h2
          obtain ⟨c, hc1, hc2⟩ := inr_lt hc
          rw [hc2, hq2] at h2 ⊢
          rw [nI_clamp (by omega), nI_clamp (by omega)] at h2
          exact cx_deskByPlan (T := T) (by omega) (xt_fr hf (by decide) hx) hk hc1 h2
        · have h2 := hK τ hf
          rw [if_neg (by simp [h0]), if_pos h0] at h2; exact h2
      | succ m ih =>
        intro i τ hm hi hf
        refine vc_X5_best_57 ⟨fun h => ?_, fun _ => ?_⟩
        · rw [il (by omega) (by omega)] at h; omega
        · refine cx_harmByPlan (by omega) (by omega) (xt_fr hf (by decide) hx) hk (fun υ hf2 => ⟨fun h => ?_, fun h => ?_⟩)
          · have := ih (i + 1) υ (by omega) (by omega) (hf.tr (hf2.up (by decide)))
            rw [bs, if_neg (by rw [← nle]; exact fun z => z h)] at this
            rw [nI_1]; exact this
          · have := ih (i + 1) υ (by omega) (by omega) (hf.tr (hf2.up (by decide)))
            rw [bs, if_pos (show f_best T j (i + 1) < (bs (f_best T j) i).2 from nle.mp h)] at this
            rw [nI_1]; exact this
    refine vc_X5_best (cx_within ⟨fun h => ?_, fun _ => ⟨fun h0 => ?_, fun h0 => ?_⟩⟩)
    · change inr (nI j) 0 20 = false at h
      rw [hn] at h; cases h
    · rw [hx.2.1, nl_6]
      refine cx_power (by omega) ?_
      rw [nl_0, nl_1]
      refine cx_harmByPlan (by omega) (by omega) hx hk (fun υ hf2 => ?_)
      exact loop (fun z => absurd h0 z) _ 0 υ rfl (by omega) (hf2.up (by decide))
    · refine cx_hasClerk hx hk ⟨fun hc => ?_, fun hc => ?_⟩
      · rw [hx.2.1, nl_6]
        refine cx_power (by omega) ?_
        rw [nl_0, nl_1]
        refine cx_harmByPlan (by omega) (by omega) hx hk (fun υ hf2 => ?_)
        exact loop (fun z => hc) _ 0 υ rfl (by omega) (hf2.up (by decide))
      · have := hK σ hs_fr.rf
        rw [if_pos ⟨h0, hc⟩] at this; exact this
def f_learn (T : sp_T) (n c : Nat) : Int32 := nI (th (tu T 8 c (T 8 c + 1)) n)
def s_learn (T : sp_T) (n w : Int32) : Int32 := if inr n 0 20 = false then -1 else if inr w 0 1 = false then -1 else pick (ls (f_learn T n.toNatClampNeg) (fun c => decide (T 8 c < 3)) (nI (th T n.toNatClampNeg)) (T 6 0)) w
theorem ok_skill {T : sp_T} {c : Nat} (h : tk T) : sp_ok (tp (tu T 8 c (T 8 c + 1))) (tw (tu T 8 c (T 8 c + 1))) := by
  have := tk_ok h
  refine ⟨?_, ?_, ?_, ?_⟩
  · show tu T 8 c (T 8 c + 1) 0 0 ≤ 4; rw [tu_ne (by decide)]; exact h.1
  · show tu T 8 c (T 8 c + 1) 6 0 ≤ 3; rw [tu_ne (by decide)]; exact h.2.1
  · intro g hg
    have hg2 : g < T 0 0 := by have : g < tu T 8 c (T 8 c + 1) 0 0 := hg; rwa [tu_ne (by decide)] at this
    refine ⟨(ts_in _ g).2, Nat.mod_lt _ (by decide), ?_⟩
    show tu T 8 c (T 8 c + 1) 4 g < 6; rw [tu_ne (by decide)]; exact (h.2.2.2.2.1 g hg2).2.2.2.1
  · intro d hd
    have hd2 : d < T 6 0 := by have : d < tu T 8 c (T 8 c + 1) 6 0 := hd; rwa [tu_ne (by decide)] at this
    have h3 := h.2.2.2.2.2.1 d hd2
    refine ⟨?_, ?_⟩
    · show tu T 8 c (T 8 c + 1) 7 d < 6; rw [tu_ne (by decide)]; exact h3.1
    · show tu T 8 c (T 8 c + 1) 8 d ≤ 4
      by_cases e : d = c
      · subst e; rw [tu_eq]; omega
      · rw [tu_at e]; omega
theorem ts_tu {T : sp_T} {f i v g : Nat} (h1 : f ≠ 1) (h2 : f ≠ 2) (h3 : f ≠ 3) : ta (tu T f i v) g = ta T g ∧ ts (tu T f i v) g = ts T g := by
  have e : ta (tu T f i v) g = ta T g := by unfold ta; rw [tu_ne (Ne.symm h1), tu_ne (Ne.symm h2), tu_ne (Ne.symm h3)]
  exact ⟨e, by unfold ts; rw [e, tu_ne (Ne.symm h1)]⟩
theorem cx_learn {σ : hs_St} {K : Int32 → hs_St → Prop} {T : sp_T} {n w : Int32} (hx : xt 8 σ T) (hk : tk T) (hK : ∀ τ, hs_fr SW σ τ → K (s_learn T n w) τ) : OkI m_X5_learn [.ref 0, .int n, .int w] σ K := by
  have h6 := hk.2.1
  unfold s_learn at hK
  refine vc_X5_learn (cx_within ⟨fun hn => ?_, fun hn => cx_within ⟨fun hw => ?_, fun hw => ?_⟩⟩)
  · change inr n 0 20 = false at hn
    have := hK σ hs_fr.rf
    rw [if_pos hn] at this; exact this
  · change inr n 0 20 = true at hn
    change inr w 0 1 = true at hw
    rw [if_neg (by rw [hn]; decide), if_neg (by rw [hw]; decide)] at hK
    obtain ⟨j, hj, rfl⟩ := inr_of (hi := 20) hn
    rw [nI_clamp (by omega)] at hK
    have loop : ∀ m i (τ : hs_St), T 6 0 - i = m → i ≤ T 6 0 → hs_fr SW σ τ → RnI m_X5_learn 34 [(0, .ref 0), (1, .int (nI j)), (2, .int w), (3, .int (ls (f_learn T j) (fun c => decide (T 8 c < 3)) (nI (th T j)) i).1), (4, .int (ls (f_learn T j) (fun c => decide (T 8 c < 3)) (nI (th T j)) i).2), (5, .int (nI i))] [] τ K := by
      intro m
      induction m with
      | zero =>
        intro i τ hm hi hf
        have : i = T 6 0 := by omega
        subst this
        have h2 := hK τ hf
        unfold pick at h2
        refine vc_X5_learn_34 ⟨fun _ => ⟨fun h => ?_, fun h => ⟨fun h0 => ?_, fun h0 => ?_⟩⟩, fun h => absurd (by rw [hf.2 8 (by decide), hx.2.1, il (by omega) (by omega)]; omega) h⟩
        · rw [if_pos h] at h2; rw [h]; exact h2
        · rw [if_neg h, if_neg h0] at h2; exact h2
        · rw [if_neg h, if_pos h0] at h2; exact h2
      | succ m ih =>
        intro i τ hm hi hf
        have hx1 : xt 8 τ T := xt_fr hf (by decide) hx
        have hci := (xt_8.mp hx1).2.2.2.2.2.1 i (by omega)
        have kci := hk.2.2.2.2.2.1 i (by omega)
        refine vc_X5_learn_34 ⟨fun h => ?_, fun _ => ⟨vp_in_nI (by omega) (by omega), fun h => ?_, fun h => ?_⟩⟩
        · rw [hx1.2.1, il (by omega) (by omega)] at h; omega
        · rw [nI_clamp (by omega), hci.2, nl_3, il (by omega) (by omega)] at h
          have := ih (i + 1) τ (by omega) (by omega) hf
          rw [ls, if_neg (fun z => by have := of_decide_eq_true z.1; omega)] at this
          rw [nI_1]; exact this
        · rw [nI_clamp (by omega), hci.2, nl_3, il (by omega) (by omega)] at h
          refine cx_begin hx1 hk (fun υ hf2 hw2 => ?_)
          rintro _ rfl
          rw [nI_clamp (by omega), (hw2.2.2.2.2.1 i (by show i < T 6 0; omega)).2]
          show OkV m_X4_go [.ref 1, .int (nI j)] (hs_w υ 6 i (nI (T 8 i) + 1)) _
          rw [nI_1]
          have hw3 : xw (hs_w υ 6 i (nI (T 8 i + 1))) (tp (tu T 8 i (T 8 i + 1))) (tw (tu T 8 i (T 8 i + 1))) := by
            obtain ⟨y0, y1, y2, y3, y4, y5⟩ := hw2
            refine ⟨?_, ?_, ?_, ?_, ?_, ?_⟩
            · rw [w_ne (by decide)]; show _ = nI (tu T 8 i (T 8 i + 1) 0 0); rw [tu_ne (by decide)]; exact y0
            · rw [w_ne (by decide)]; show _ = nI (tu T 8 i (T 8 i + 1) 6 0); rw [tu_ne (by decide)]; exact y1
            · rw [w_ne (by decide)]; exact y2
            · intro g hg
              have hg2 : g < T 0 0 := by have : g < tu T 8 i (T 8 i + 1) 0 0 := hg; rwa [tu_ne (by decide)] at this
              have he := ts_tu (T := T) (f := 8) (i := i) (v := T 8 i + 1) (g := g) (by decide) (by decide) (by decide)
              rw [w_ne (by decide), w_ne (by decide), w_ne (by decide)]
              show _ = nI (tu T 8 i (T 8 i + 1) 4 g) ∧ _ = nI (ts (tu T 8 i (T 8 i + 1)) g - tu T 8 i (T 8 i + 1) 5 g) ∧ _ = nI (ta (tu T 8 i (T 8 i + 1)) g % 6)
              rw [he.1, he.2, tu_ne (by decide), tu_ne (by decide)]
              exact y3 g hg2
            · intro c hc
              have hc2 : c < T 6 0 := by have : c < tu T 8 i (T 8 i + 1) 6 0 := hc; rwa [tu_ne (by decide)] at this
              show _ = nI (tu T 8 i (T 8 i + 1) 7 c) ∧ _ = nI (tu T 8 i (T 8 i + 1) 8 c)
              rw [tu_ne (f' := 7) (by decide), w_ne (by decide)]
              refine ⟨(y4 c hc2).1, ?_⟩
              by_cases e : c = i
              · subst e; rw [w_eq, tu_eq]
              · rw [w_at e, tu_at e]; exact (y4 c hc2).2
            · rw [w_ne (by decide)]; exact y5
          refine cx_go (by omega) hw3 (ok_skill hk) (fun ω hf3 hw4 => ?_)
          have hf4 : hs_fr SW σ ω := (hf.tr ((hf2.w (by decide)).up (by decide))).tr (hf3.up (by decide))
          have := ih (i + 1) ω (by omega) (by omega) hf4
          rw [hw4.2.2.1]
          change _ ∧ _
          refine ⟨fun h5 => ?_, fun h5 => ?_⟩
          · rw [ls, if_neg (fun z => nle.mpr z.2 h5)] at this
            rw [nI_1]; exact this
          · rintro _ rfl
            rw [ls, if_pos ⟨decide_eq_true (by omega), nle.mp h5⟩] at this
            rw [nI_1]; exact this
    refine cx_harmOf (by omega) hx hk (fun τ hf hw2 => ?_)
    rw [nl_0]
    exact loop (T 6 0) 0 τ (by omega) (by omega) (hf.up (by decide))
  · change inr n 0 20 = true at hn
    change inr w 0 1 = false at hw
    have := hK σ hs_fr.rf
    rw [if_neg (by rw [hn]; decide), if_pos hw] at this; exact this
def s_quiet (T : sp_T) (n w : Int32) : Int32 := if inr n 0 60 = false then -1 else if inr w 0 1 = false then -1 else
  if w = 0 then (bs (fun r => nI ((tr T n.toNatClampNeg).2.2 r)) 5).1 else (bs (fun r => nI ((tr T n.toNatClampNeg).2.2 r)) 5).2
theorem cx_quiet {σ : hs_St} {K : Int32 → hs_St → Prop} {T : sp_T} {n w : Int32} (hx : xt 8 σ T) (hk : tk T) (hK : ∀ τ, hs_fr SW σ τ → K (s_quiet T n w) τ) : OkI m_X5_quiet [.ref 0, .int n, .int w] σ K := by
  unfold s_quiet at hK
  refine vc_X5_quiet (cx_within ⟨fun hn => ?_, fun hn => cx_within ⟨fun hw => ?_, fun hw => ?_⟩⟩)
  · change inr n 0 60 = false at hn
    have := hK σ hs_fr.rf
    rw [if_pos hn] at this; exact this
  · change inr n 0 60 = true at hn
    change inr w 0 1 = true at hw
    rw [if_neg (by rw [hn]; decide), if_neg (by rw [hw]; decide)] at hK
    obtain ⟨j, hj, rfl⟩ := inr_of (hi := 60) hn
    rw [nI_clamp (by omega)] at hK
    refine cx_walkFromNow (by omega) hx hk (fun τ hf hw2 => ?_)
    have hK := hK τ (hf.up (by decide))
    have h7 := hw2.2.2.2.2.2
    have loop : ∀ m i, 5 - i = m → i ≤ 5 → RnI m_X5_quiet 31 [(0, .ref 0), (1, .int (nI j)), (2, .int w), (3, .int (bs (fun r => nI ((tr T j).2.2 r)) i).1), (4, .int (nI (i + 1)))] [] τ K := by
      intro m
      induction m with
      | zero =>
        intro i hm hi
        have : i = 5 := by omega
        subst this
        obtain ⟨q, hq1, hq2, hq3⟩ := bs_in (fun r => nI ((tr T j).2.2 r)) 5
        refine vc_X5_quiet_31 ⟨fun _ => ⟨fun h0 => ⟨?_, ?_⟩, fun h0 => ?_⟩, fun h => absurd (by rw [nl_6, il (by omega) (by omega)]; omega) h⟩
        · rw [hq2]; exact vp_in_nI (by omega) (by omega)
        · rw [if_neg h0, hq3] at hK
          rw [hq2, nI_clamp (by omega), h7 q (by omega)]; exact hK
        · rw [if_pos h0] at hK; exact hK
      | succ m ih =>
        intro i hm hi
        obtain ⟨q, hq1, hq2, hq3⟩ := bs_in (fun r => nI ((tr T j).2.2 r)) i
        have := ih (i + 1) (by omega) (by omega)
        refine vc_X5_quiet_31 ⟨fun h => ?_, fun _ => ⟨vp_in_nI (by omega) (by omega), ?_, fun h => ?_, fun h => ?_⟩⟩
        · rw [nl_6, il (by omega) (by omega)] at h; omega
        · rw [hq2]; exact vp_in_nI (by omega) (by omega)
        · rw [hq2, nI_clamp (by omega), nI_clamp (by omega), h7 q (by omega), h7 (i + 1) (by omega)] at h
          rw [bs, if_neg (by rw [hq3, ← nle]; exact fun z => z h)] at this
          rw [nI_1]; exact this
        · rw [hq2, nI_clamp (by omega), nI_clamp (by omega), h7 q (by omega), h7 (i + 1) (by omega)] at h
          rw [bs, if_pos (by rw [hq3]; exact nle.mp h)] at this
          rw [nI_1]; exact this
    rw [nl_0, nl_1]
    exact loop 5 0 (by omega) (by omega)
  · change inr n 0 60 = true at hn
    change inr w 0 1 = false at hw
    have := hK σ hs_fr.rf
    rw [if_neg (by rw [hn]; decide), if_pos hw] at this; exact this
def f_better (T : sp_T) (g n k : Nat) : Int32 := nI (th (tb T g (T 1 g) (k + 1)) n)
def s_better (T : sp_T) (g n w : Int32) : Int32 := if hgh T g = false then -1 else if inr n 0 20 = false then -1 else if inr w 0 1 = false then -1 else
  if w = 0 then (bs (f_better T g.toNatClampNeg n.toNatClampNeg) 98).1 + 1 else (bs (f_better T g.toNatClampNeg n.toNatClampNeg) 98).2
theorem cx_better {σ : hs_St} {K : Int32 → hs_St → Prop} {T : sp_T} {g n w : Int32} (hx : xt 8 σ T) (hk : tk T) (hK : ∀ τ, hs_fr SW σ τ → K (s_better T g n w) τ) : OkI m_X5_better [.ref 0, .int g, .int n, .int w] σ K := by
  have h4 := hk.1
  unfold s_better at hK
  refine vc_X5_better (cx_hasGhost hx hk ⟨fun hg => ?_, fun hg => cx_within ⟨fun hn => ?_, fun hn => cx_within ⟨fun hw => ?_, fun hw => ?_⟩⟩⟩)
  · have := hK σ hs_fr.rf
    rw [if_pos hg] at this; exact this
  · change inr n 0 20 = false at hn
    have := hK σ hs_fr.rf
    rw [if_neg (by rw [hg]; decide), if_pos hn] at this; exact this
  · change inr n 0 20 = true at hn
    change inr w 0 1 = true at hw
    rw [if_neg (by rw [hg]; decide), if_neg (by rw [hn]; decide), if_neg (by rw [hw]; decide)] at hK
    obtain ⟨i, hi, rfl⟩ := inr_lt hg
    obtain ⟨j, hj, rfl⟩ := inr_of (hi := 20) hn
    rw [nI_clamp (by omega), nI_clamp (by omega)] at hK
    have loop : ∀ m b (τ : hs_St), 98 - b = m → b ≤ 98 → hs_fr SW σ τ → RnI m_X5_better 47 [(0, .ref 0), (1, .int (nI i)), (2, .int (nI j)), (3, .int w), (4, .int ((bs (f_better T i j) b).1 + 1)), (5, .int (bs (f_better T i j) b).2), (6, .int (nI (b + 2)))] [] τ K := by
      intro m
      induction m with
      | zero =>
        intro b τ hm hb hf
        have : b = 98 := by omega
        subst this
        have h2 := hK τ hf
        refine vc_X5_better_47 ⟨fun _ => ⟨fun h0 => ?_, fun h0 => ?_⟩, fun h => absurd (by rw [nl_99, ilt (by omega) (by omega)]; omega) h⟩
        · rw [if_neg h0] at h2; exact h2
        · rw [if_pos h0] at h2; exact h2
      | succ m ih =>
        intro b τ hm hb hf
        refine vc_X5_better_47 ⟨fun h => ?_, fun _ => ?_⟩
        · rw [nl_99, ilt (by omega) (by omega)] at h; omega
        · refine cx_harmWith (by omega) hi (by omega) (by omega) (xt_fr hf (by decide) hx) hk (fun υ hf2 => ⟨fun h => ?_, fun h => ?_⟩)
          · have := ih (b + 1) υ (by omega) (by omega) (hf.tr (hf2.up (by decide)))
            rw [bs, if_neg (by rw [← nle]; exact fun z => z h)] at this
            rw [nI_1]; exact this
          · have := ih (b + 1) υ (by omega) (by omega) (hf.tr (hf2.up (by decide)))
            rw [bs, if_pos (show f_better T i j (b + 1) < (bs (f_better T i j) b).2 from nle.mp h), nI_1] at this
            rw [nI_1]; exact this
    rw [nl_1]
    refine cx_harmWith (by omega) hi (by omega) (by omega) hx hk (fun υ hf2 => ?_)
    rw [nl_2]
    exact loop 98 0 υ (by omega) (by omega) (hf2.up (by decide))
  · change inr n 0 20 = true at hn
    change inr w 0 1 = false at hw
    have := hK σ hs_fr.rf
    rw [if_neg (by rw [hg]; decide), if_neg (by rw [hn]; decide), if_pos hw] at this; exact this
def f_from (T : sp_T) (g r : Nat) : Int32 := sp_when (q_rest (tu T 4 g r) g) 60
def s_from (T : sp_T) (g w : Int32) : Int32 := if hgh T g = false then -1 else if inr w 0 1 = false then -1 else pick (fm (f_from T g.toNatClampNeg) 6) w
theorem tk_room {T : sp_T} {g r : Nat} (h : tk T) (hr : r < 6) : tk (tu T 4 g r) := by
  obtain ⟨k0, k6, k9, k10, kg, kc, ks⟩ := h
  unfold tk
  rw [tu_ne (f' := 0) (by decide), tu_ne (f' := 6) (by decide), tu_ne (f' := 9) (by decide), tu_ne (f' := 10) (by decide), tu_ne (f' := 1) (by decide), tu_ne (f' := 2) (by decide), tu_ne (f' := 3) (by decide), tu_ne (f' := 5) (by decide), tu_ne (f' := 7) (by decide), tu_ne (f' := 8) (by decide), tu_ne (f' := 11) (by decide), tu_ne (f' := 12) (by decide), tu_ne (f' := 13) (by decide)]
  refine ⟨k0, k6, k9, k10, fun j hj => ?_, kc, ks⟩
  have := kg j hj
  refine ⟨this.1, this.2.1, this.2.2.1, ?_, this.2.2.2.2⟩
  by_cases e : j = g
  · subst e; rw [tu_eq]; exact hr
  · rw [tu_at e]; exact this.2.2.2.1
theorem xw_room {σ : hs_St} {T : sp_T} {g r : Nat} (hx : xw σ (tp T) (tw T)) : xw (hs_w σ 2 g (nI r)) (tp (tu T 4 g r)) (tw (tu T 4 g r)) := by
  obtain ⟨y0, y1, y2, y3, y4, y5⟩ := hx
  refine ⟨?_, ?_, ?_, ?_, ?_, ?_⟩
  · rw [w_ne (by decide)]; show _ = nI (tu T 4 g r 0 0); rw [tu_ne (by decide)]; exact y0
  · rw [w_ne (by decide)]; show _ = nI (tu T 4 g r 6 0); rw [tu_ne (by decide)]; exact y1
  · rw [w_ne (by decide)]; exact y2
  · intro j hj
    have hj2 : j < T 0 0 := by have : j < tu T 4 g r 0 0 := hj; rwa [tu_ne (by decide)] at this
    have he := ts_tu (T := T) (f := 4) (i := g) (v := r) (g := j) (by decide) (by decide) (by decide)
    show _ = nI (tu T 4 g r 4 j) ∧ _ = nI (ts (tu T 4 g r) j - tu T 4 g r 5 j) ∧ _ = nI (ta (tu T 4 g r) j % 6)
    rw [he.1, he.2, tu_ne (f' := 5) (by decide), w_ne (k' := 3) (by decide), w_ne (k' := 4) (by decide)]
    refine ⟨?_, (y3 j hj2).2⟩
    by_cases e : j = g
    · subst e; rw [w_eq, tu_eq]
    · rw [w_at e, tu_at e]; exact (y3 j hj2).1
  · intro c hc
    have hc2 : c < T 6 0 := by have : c < tu T 4 g r 6 0 := hc; rwa [tu_ne (by decide)] at this
    show _ = nI (tu T 4 g r 7 c) ∧ _ = nI (tu T 4 g r 8 c)
    rw [tu_ne (f' := 7) (by decide), tu_ne (f' := 8) (by decide), w_ne (by decide), w_ne (by decide)]
    exact y4 c hc2
  · rw [w_ne (by decide)]; exact y5
theorem cx_from {σ : hs_St} {K : Int32 → hs_St → Prop} {T : sp_T} {g w : Int32} (hx : xt 8 σ T) (hk : tk T) (hK : ∀ τ, hs_fr SW σ τ → K (s_from T g w) τ) : OkI m_X5_from [.ref 0, .int g, .int w] σ K := by
  have h4 := hk.1
  unfold s_from at hK
  refine vc_X5_from (cx_hasGhost hx hk ⟨fun hg => ?_, fun hg => cx_within ⟨fun hw => ?_, fun hw => ?_⟩⟩)
  · have := hK σ hs_fr.rf
    rw [if_pos hg] at this; exact this
  · change inr w 0 1 = true at hw
    rw [if_neg (by rw [hg]; decide), if_neg (by rw [hw]; decide)] at hK
    obtain ⟨i, hi, rfl⟩ := inr_lt hg
    rw [nI_clamp (by omega)] at hK
    have loop : ∀ m r (τ : hs_St), 6 - r = m → r ≤ 6 → hs_fr SW σ τ → RnI m_X5_from 32 [(0, .ref 0), (1, .int (nI i)), (2, .int w), (3, .int (fm (f_from T i) r).1), (4, .int (fm (f_from T i) r).2), (5, .int (nI r))] [] τ K := by
      intro m
      induction m with
      | zero =>
        intro r τ hm hr hf
        have : r = 6 := by omega
        subst this
        have h2 := hK τ hf
        unfold pick at h2
        refine vc_X5_from_32 ⟨fun _ => ⟨fun h => ?_, fun h => ⟨fun h0 => ?_, fun h0 => ?_⟩⟩, fun h => absurd (by rw [nl_6, il (by omega) (by omega)]; omega) h⟩
        · rw [if_pos h] at h2; rw [h]; exact h2
        · rw [if_neg h, if_neg h0] at h2; exact h2
        · rw [if_neg h, if_pos h0] at h2; exact h2
      | succ m ih =>
        intro r τ hm hr hf
        have hx1 : xt 8 τ T := xt_fr hf (by decide) hx
        refine vc_X5_from_32 ⟨fun h => ?_, fun _ => ?_⟩
        · rw [nl_6, il (by omega) (by omega)] at h; omega
        · refine cx_begin hx1 hk (fun υ hf2 hw2 => ⟨vp_in_nI (by omega) (by omega), ?_⟩)
          rintro _ rfl
          rw [nI_clamp (by omega), nl_60]
          have hk2 := tk_room (g := i) hk (show r < 6 by omega)
          refine cx_tillRest (q_rest (tu T 4 i r) i) (by omega) (xw_room hw2) (tk_ok hk2) (fun n => ?_) (fun ω hf3 => ?_)
          · show (nI (sp_bits (tu T 4 i r 0 0) (sp_rs (tp (tu T 4 i r)) (tr (tu T 4 i r) n))) &&& _) = _ ↔ _
            have e0 : tu T 4 i r 0 0 = T 0 0 := by rw [tu_ne (by decide)]
            rw [bit_and _ (bits16 _ (by rw [e0]; exact h4)) i (by omega), bits_at _ _ _ (by rw [e0]; exact hi)]; rfl
          · have hf4 : hs_fr SW σ ω := (hf.tr ((hf2.w (by decide)).up (by decide))).tr (hf3.up (by decide))
            have := ih (r + 1) ω (by omega) (by omega) hf4
            refine ⟨fun h => ?_, fun h => ⟨fun h5 => ?_, fun h5 => ?_⟩⟩
            · rw [fm, if_neg (fun z => z.1 h)] at this
              rw [nI_1]; exact this
            · rw [fm, if_neg (fun z => nle.mpr z.2 h5)] at this
              rw [nI_1]; exact this
            · rw [fm, if_pos ⟨h, nle.mp h5⟩] at this
              rw [nI_1]; exact this
    rw [nl_0]
    exact loop 6 0 σ (by omega) (by omega) hs_fr.rf
  · change inr w 0 1 = false at hw
    have := hK σ hs_fr.rf
    rw [if_neg (by rw [hg]; decide), if_pos hw] at this; exact this
