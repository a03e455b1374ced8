/-! runs, and what is best -/
theorem sp_f_s (p : Nat → Bool) : ∀ n i, sp_f p (n + 1) i = if sp_f p n i < i + n then sp_f p n i else if p (i + n) then i + n else i + n + 1
  | 0, i => by simp [sp_f]
  | n + 1, i => by
    have ih := sp_f_s p n (i + 1)
    have h1 : sp_f p (n + 1 + 1) i = if p i then i else sp_f p (n + 1) (i + 1) := rfl
    have h2 : sp_f p (n + 1) i = if p i then i else sp_f p n (i + 1) := rfl
    rw [h1, h2, ih]
    by_cases hp : p i = true
    · rw [if_pos hp, if_pos hp, if_pos (by omega)]
    · rw [if_neg hp, if_neg hp, show i + 1 + n = i + (n + 1) by omega]
def fnd (Q : Nat → Bool) (i : Nat) : Int32 := if sp_f Q i 0 < i then nI (sp_f Q i 0) else -4
theorem fnd_y {Q : Nat → Bool} {i : Nat} (h : ¬ fnd Q i = -4) : fnd Q (i + 1) = fnd Q i := by
  unfold fnd at h ⊢
  by_cases e : sp_f Q i 0 < i
  · rw [sp_f_s, if_pos (show sp_f Q i 0 < 0 + i by omega), if_pos (by omega), if_pos e]
  · rw [if_neg e] at h; exact absurd rfl h
theorem fnd_n {Q : Nat → Bool} {i : Nat} (hi : i < 1000) (h : fnd Q i = -4) : fnd Q (i + 1) = if Q i then nI i else -4 := by
  have hle := sp_f_le Q i 0
  unfold fnd at h ⊢
  by_cases e : sp_f Q i 0 < i
  · rw [if_pos e] at h; exact absurd h (im4 (by omega))
  · rw [sp_f_s, if_neg (show ¬ sp_f Q i 0 < 0 + i by omega), Nat.zero_add]
    by_cases hq : Q i = true
    · rw [if_pos hq, if_pos hq, if_pos (by omega)]
    · rw [if_neg hq, if_neg hq, if_neg (by omega)]
theorem fnd_w {Q : Nat → Bool} {n : Nat} : fnd Q (n + 1) = sp_when Q n := by
  unfold fnd sp_when
  by_cases h : sp_f Q (n + 1) 0 ≤ n
  · rw [if_pos (by omega), if_pos h]
  · rw [if_neg (by omega), if_neg h]
theorem sum_0 {f : Nat → Nat} : ∀ n, sp_sum n f = 0 ↔ ∀ g, g < n → f g = 0
  | 0 => by simp [sp_sum]
  | n + 1 => by
    have ih := sum_0 (f := f) n
    simp only [sp_sum]
    constructor
    · intro h g hg
      by_cases e : g = n
      · subst e; omega
      · exact ih.mp (by omega) g (by omega)
    · intro h
      have h1 := ih.mpr (fun g hg => h g (by omega))
      have h2 := h n (by omega)
      omega
theorem sum_lt {T : sp_T} {dn : Nat → Nat} (h : T 0 0 ≤ 4) : sp_sum (T 0 0) (fun g => ts T g - dn g) ≤ 32 := by
  have := sp_sum_le (n := T 0 0) (B := 8) (f := fun g => ts T g - dn g) (fun g _ => by have := ts_in T g; omega)
  omega
theorem cm_runs {σ : hs_St} {K : Int32 → hs_St → Prop} {T : sp_T} {n w : Int32} (hx : mt σ T) (hk : tk T) (hK : ∀ τ, ma σ τ → K (s_runs T n w) τ) : OkI m_X6_runs [.ref 63, .int n, .int w] σ K := by
  have hmk := mk_of hk
  have h4 := hk.1
  unfold s_runs at hK
  refine vc_X6_runs (cm_isFar ⟨fun hn => ?_, fun hn => cm_inI ⟨fun hw => ?_, fun hw => ?_⟩⟩)
  · have := hK σ ma.rf
    rw [if_pos hn] at this; exact this
  · change inr w 0 3 = true at hw
    rw [if_neg (by rw [hn]; decide), if_neg (by rw [hw]; decide)] at hK
    obtain ⟨j, hj, rfl⟩ := inr_of (hi := 60) hn
    rw [nI_clamp (by omega)] at hK
    have hwk : ∀ i, mwk T (tr T i) := fun i => by rw [← run_mi]; exact mwk_run (mwk_tw hmk) i
    have fin : ∀ τ : hs_St, mf [65, 70] σ τ → mw τ T 0 (tr T j) (T 9 0 + j) → RnI m_X6_runs 31 [(0, .ref 63), (1, .int (nI j)), (2, .int w), (3, .int (fnd (q_all T) (j + 1))), (4, .int (nI (j + 1)))] [] τ K := by
      intro τ hf a1
      have hK := hK τ (hf.a (by decide))
      refine vc_X6_runs_31 ⟨fun _ => ⟨fun h0 => ⟨fun h1 => ⟨fun h2 => ?_, fun h2 => cm_allLeft a1 hmk (hwk j) ?_⟩, fun h1 => cm_resting a1 hmk (hwk j) ?_⟩, fun h0 => cm_allHarm a1.2.2.2 ?_⟩, fun h => absurd (by rw [ilt (by omega) (by omega)]; omega) h⟩
      · rw [if_neg h0, if_neg h1, if_neg h2] at hK; rw [fnd_w]; exact hK
      · rw [if_neg h0, if_neg h1, if_pos h2] at hK; exact hK
      · rw [if_neg h0, if_pos h1] at hK; rw [mi_0]; exact hK
      · rw [if_pos h0] at hK; exact hK
    have loop : ∀ m i (τ : hs_St), j - i = m → i ≤ j → mf [65, 70] σ τ → mw τ T 0 (tr T i) (T 9 0 + i) → RnI m_X6_runs 31 [(0, .ref 63), (1, .int (nI j)), (2, .int w), (3, .int (fnd (q_all T) i)), (4, .int (nI i))] [] τ K := by
      intro m
      induction m with
      | zero =>
        intro i τ hm hi hf a1
        have : i = j := by omega
        subst this
        have hz : ¬ nI i < nI i := by rw [ilt (by omega) (by omega)]; omega
        have hz2 : ¬ ¬ nI i ≤ nI i := by rw [il (by omega) (by omega)]; omega
        have hs := sum_lt (T := T) (dn := (tr T i).2.1) h4
        have hq : q_all T i = decide (sp_sum (T 0 0) (fun g => ts T g - (tr T i).2.1 g) = 0) := by
          unfold q_all
          congr 1
          rw [sum_0]
          simp only [sp_rs, decide_eq_true_eq]
          exact propext ⟨fun h g hg => by have : ts T g ≤ (tr T i).2.1 g := h g hg; omega, fun h g hg => by have := h g hg; show ts T g ≤ _; omega⟩
        refine vc_X6_runs_31 ⟨fun h => absurd h hz, fun _ => ⟨fun h => ⟨fun _ => ?_, fun h2 => absurd h2 hz2⟩, fun h => cm_allLeft a1 hmk (hwk i) ⟨fun h2 => ⟨fun _ => ?_, fun h3 => absurd h3 hz2⟩, fun h2 => ⟨fun _ => ?_, fun h3 => absurd h3 hz2⟩⟩⟩⟩
        · rw [nI_1, ← fnd_y h]; exact fin τ hf a1
        · rw [nl_0, ieq (by omega) (by omega)] at h2
          have e := fnd_n (by omega) h
          rw [hq, decide_eq_false h2, if_neg (by decide)] at e
          rw [nI_1, h, ← e]; exact fin τ hf a1
        · rw [nl_0, ieq (by omega) (by omega)] at h2
          have e := fnd_n (by omega) h
          rw [hq, decide_eq_true h2, if_pos rfl] at e
          have := fin τ hf a1
          rw [e] at this
          rw [nI_1]; exact this
      | succ m ih =>
        intro i τ hm hi hf a1
        have hz : ¬ nI j < nI i := by rw [ilt (by omega) (by omega)]; omega
        have hz2 : ¬ nI j ≤ nI i := by rw [il (by omega) (by omega)]; omega
        have hs := sum_lt (T := T) (dn := (tr T i).2.1) h4
        have hq : q_all T i = decide (sp_sum (T 0 0) (fun g => ts T g - (tr T i).2.1 g) = 0) := by
          unfold q_all
          congr 1
          rw [sum_0]
          simp only [sp_rs, decide_eq_true_eq]
          exact propext ⟨fun h g hg => by have : ts T g ≤ (tr T i).2.1 g := h g hg; omega, fun h g hg => by have := h g hg; show ts T g ≤ _; omega⟩
        have next : ∀ υ : hs_St, hs_fr [65, 70] τ υ → mw υ T 0 (sp_night (mi T 0) (tr T i)) (T 9 0 + i + 1) → RnI m_X6_runs 31 [(0, .ref 63), (1, .int (nI j)), (2, .int w), (3, .int (fnd (q_all T) (i + 1))), (4, .int (nI i + 1))] [] υ K := by
          intro υ hf2 a2
          rw [nI_1]
          rw [mi_0] at a2
          exact ih (i + 1) υ (by omega) (by omega) (hf.fr hf2 (by decide)) a2
        refine vc_X6_runs_31 ⟨fun h => absurd h hz, fun _ => ⟨fun h => ⟨fun h2 => absurd h2 hz2, fun _ => cm_night a1 hmk (by omega) (hwk i) ?_⟩, fun h => cm_allLeft a1 hmk (hwk i) ⟨fun h2 => ⟨fun h3 => absurd h3 hz2, fun _ => cm_night a1 hmk (by omega) (hwk i) ?_⟩, fun h2 => ⟨fun h3 => absurd h3 hz2, fun _ => cm_night a1 hmk (by omega) (hwk i) ?_⟩⟩⟩⟩
        · rw [fnd_y h] at next; exact next
        · rw [nl_0, ieq (by omega) (by omega)] at h2
          have e := fnd_n (by omega) h
          rw [hq, decide_eq_false h2, if_neg (by decide)] at e
          rw [e] at next
          rw [h]; exact next
        · rw [nl_0, ieq (by omega) (by omega)] at h2
          have e := fnd_n (by omega) h
          rw [hq, decide_eq_true h2, if_pos rfl] at e
          rw [e] at next; exact next
    refine cm_begin hx hmk (fun τ hf hw1 => ?_)
    rw [nl_0]
    exact loop j 0 τ (by omega) (by omega) hf hw1
  · change inr w 0 3 = false at hw
    have := hK σ ma.rf
    rw [if_neg (by rw [hn]; decide), if_pos hw] at this; exact this
theorem cm_postsBy {σ : hs_St} {K : hs_St → Prop} {cl plan : Nat} (h6 : cl ≤ 3) (hp : plan < 1000) (h3 : σ.1 63 3 = nI cl) (hK : ∀ τ, hs_fr [65] σ τ → (∀ c, c < cl → τ.1 65 (21 + 2 * c) = nI (sp_desk cl plan c)) → (∀ j, (∀ c, c < cl → j ≠ 21 + 2 * c) → τ.1 65 j = σ.1 65 j) → K τ) : OkV m_X6_postsBy [.ref 63, .int (nI plan)] σ K := by
  have loop : ∀ k (τ : hs_St) a, k ≤ cl → hs_fr [65] σ τ → (∀ c, k ≤ c → c < cl → τ.1 65 (21 + 2 * c) = nI (sp_desk cl plan c)) → (∀ j, (∀ c, c < cl → j ≠ 21 + 2 * c) → τ.1 65 j = σ.1 65 j) → RnV m_X6_postsBy 9 [(0, .ref 63), (1, .int a), (2, .int (nI (plan / 6 ^ (cl - k)))), (3, .int (nI k - 1))] [] τ K := by
    intro k
    induction k with
    | zero =>
      intro τ a hk hf a1 a2
      refine vc_X6_postsBy_9 ⟨fun _ => hK τ hf (fun c hc => a1 c (by omega) hc) a2, fun h => absurd (by decide) h⟩
    | succ k ih =>
      intro τ a hk hf a1 a2
      have hle : plan / 6 ^ (cl - (k + 1)) ≤ plan := Nat.div_le_self _ _
      rw [show nI (k + 1) - 1 = nI k by rw [nl_1, pk_sub (by omega)]; rfl]
      refine vc_X6_postsBy_9 ⟨fun h => ?_, fun _ => ?_⟩
      · rw [nl_0, ilt (by omega) (by omega)] at h; omega
      · rw [il_c]
        refine ⟨vp_in_nI (by omega) (by omega), ?_⟩
        rintro _ rfl
        rintro _ rfl
        rw [nI_clamp (by omega), nl_6, irem (by omega) (by omega) (by omega), idv (by omega) (by omega) (by omega), Nat.div_div_eq_div_mul, ← Nat.pow_succ, show (cl - (k + 1)).succ = cl - k by omega, show nI k + -1 = nI k - 1 by rw [Int32.sub_eq_add_neg]]
        refine ih _ a (by omega) (hf.w (by decide)) (fun c h1 h2 => ?_) (fun j hj => ?_)
        · by_cases e : c = k
          · subst e
            rw [w_eq, sp_desk, show cl - (c + 1) = cl - 1 - c by omega]
          · rw [w_at (by omega)]; exact a1 c (by omega) h2
        · rw [w_at (hj k (by omega))]; exact a2 j hj
  refine vc_X6_postsBy ?_
  rintro _ rfl
  rw [h3]
  have := loop cl σ (nI plan) (Nat.le_refl _) hs_fr.rf (fun c h1 h2 => by omega) (fun _ _ => rfl)
  rw [Nat.sub_self, Nat.pow_zero, Nat.div_one] at this
  exact this
theorem mr_tl {f h : Nat → Int32} {T : sp_T} {plan : Nat} (hx : mr f T) (k : mk T) (h1 : ∀ c, c < T 6 0 → h (21 + 2 * c) = nI (sp_desk (T 6 0) plan c)) (h2 : ∀ j, (∀ c, c < T 6 0 → j ≠ 21 + 2 * c) → h j = f j) : mr h (tl T plan) := by
  obtain ⟨x0, x9, x10, xg, xc, xs⟩ := hx
  obtain ⟨k0, k6, kg, kc, k10⟩ := k
  refine ⟨by rw [h2 _ (by omega)]; exact x0, by rw [h2 _ (by omega)]; exact x9, by rw [h2 _ (by omega)]; exact x10, fun g hg => ?_, fun c hc => ?_, fun i hi => ?_⟩
  · have hg : g < T 0 0 := hg
    rw [h2 _ (by omega), h2 _ (by omega), h2 _ (by omega), h2 _ (by omega), h2 _ (by omega)]; exact xg g hg
  · have hc : c < T 6 0 := hc
    exact ⟨h1 c hc, by rw [h2 _ (by omega)]; exact (xc c hc).2⟩
  · rw [h2 _ (by omega), h2 _ (by omega), h2 _ (by omega)]; exact xs i hi
theorem mk_tl {T : sp_T} {plan : Nat} (h : mk T) : mk (tl T plan) := ⟨h.1, h.2.1, h.2.2.1, fun c hc => ⟨sp_desk_lt _ _ _, (h.2.2.2.1 c hc).2⟩, h.2.2.2.2⟩
/-- the harm of a changed town -/
theorem th_mi {T : sp_T} {n : Nat} : sp_tot (sp_run (mi T 0) n (tw T)).2.2 = th T n := by rw [run_mi]; rfl
theorem th_lt {T : sp_T} {n : Nat} (h : mk T) (hn : n ≤ 20) : th T n < 1000000 := by
  have : sp_ok (tp T) (tw T) := ⟨h.1, h.2.1, fun g hg => ⟨(ts_in T g).2, Nat.mod_lt _ (by decide), (h.2.2.1 g hg).2.2.2.1⟩, fun c hc => h.2.2.2.1 c hc⟩
  have := th_le this n
  omega
theorem cm_bestTail {σ : hs_St} {K : Int32 → hs_St → Prop} {T : sp_T} {j : Nat} {w : Int32} (hj : j ≤ 20) (hx : mt σ T) (hk : tk T) (hc : ¬ w = 0 → hck T (w - 10) = true)
    (hK : ∀ τ, ma σ τ → K (if w = 0 then (bs (f_best T j) (6 ^ T 6 0 - 1)).2 else nI (sp_desk (T 6 0) (bs (f_best T j) (6 ^ T 6 0 - 1)).1.toNatClampNeg (w - 10).toNatClampNeg)) τ) :
    RnI m_X6_best 59 [(0, .ref 63), (1, .int (nI j)), (2, .int w), (3, .int (nI (6 ^ T 6 0))), (4, .int 1000000), (5, .int 0), (6, .int 0)] [] σ K := by
  have hmk := mk_of hk
  have h6 := hk.2.1
  have hp := pow6 h6
  have step : ∀ (a4 a5 : Int32) (i : Nat) (τ : hs_St), i < 6 ^ T 6 0 → ma σ τ →
      (∀ υ, ma σ υ → (a4 ≤ f_best T j i → RnI m_X6_best 59 [(0, .ref 63), (1, .int (nI j)), (2, .int w), (3, .int (nI (6 ^ T 6 0))), (4, .int a4), (5, .int a5), (6, .int (nI (i + 1)))] [] υ K) ∧ (¬ a4 ≤ f_best T j i → RnI m_X6_best 59 [(0, .ref 63), (1, .int (nI j)), (2, .int w), (3, .int (nI (6 ^ T 6 0))), (4, .int (f_best T j i)), (5, .int (nI i)), (6, .int (nI (i + 1)))] [] υ K)) →
      RnI m_X6_best 59 [(0, .ref 63), (1, .int (nI j)), (2, .int w), (3, .int (nI (6 ^ T 6 0))), (4, .int a4), (5, .int a5), (6, .int (nI i))] [] τ K := by
    intro a4 a5 i τ hi hm hn
    refine vc_X6_best_59 ⟨fun h => absurd h (by rw [il (by omega) (by omega)]; omega), fun _ => ?_⟩
    refine cm_starts (hx.a hm) hmk (fun υ hf b1 b2 b3 b4 => cm_postsBy h6 (by omega) b2 (fun φ hf2 c1 c2 => ?_))
    have hw : mw φ (tl T i) 0 (tw (tl T i)) (tl T i 9 0) := mw_of (mr_tl b1 hmk c1 c2) (by rw [hf2.2 63 (by decide)]; exact b2) (by rw [hf2.2 63 (by decide)]; exact b3) (fun r hr => by rw [hf2.2 70 (by decide)]; exact b4 r hr)
    refine cm_harmOf (by omega) hw (mk_tl hmk) (by omega) (mwk_tw (mk_tl hmk)) (fun ψ hf3 _ => ?_)
    rw [th_mi, nI_1]
    have hma : ma σ ψ := hm.tr (((hf.up (by decide)).fr (hf2.up (by decide)) (by decide)).fr hf3 (by decide) |>.a (by decide))
    obtain ⟨n1, n2⟩ := hn ψ hma
    refine ⟨fun h => cm_lesser ?_, fun h => cm_lesser ?_⟩
    · rw [if_pos h]; exact n1 h
    · rw [if_neg h]; exact n2 h
  have loop : ∀ m i (τ : hs_St), 6 ^ T 6 0 - 1 - i = m → i ≤ 6 ^ T 6 0 - 1 → ma σ τ → RnI m_X6_best 59 [(0, .ref 63), (1, .int (nI j)), (2, .int w), (3, .int (nI (6 ^ T 6 0))), (4, .int (bs (f_best T j) i).2), (5, .int (bs (f_best T j) i).1), (6, .int (nI (i + 1)))] [] τ K := by
    intro m
    induction m with
    | zero =>
      intro i τ hm hi hf
      have : i = 6 ^ T 6 0 - 1 := by omega
      subst this
      obtain ⟨q, hq1, hq2, hq3⟩ := bs_in (f_best T j) (6 ^ T 6 0 - 1)
      have hx1 := hx.a hf
      refine vc_X6_best_59 ⟨fun _ => ?_, fun h => absurd (by rw [il (by omega) (by omega)]; omega) h⟩
      rw [hq2]
      refine cm_postsBy h6 (by omega) hx1.2 (fun υ hf2 c1 c2 => ?_)
      have hK := hK υ (hf.tr ((mf.of hf2 (by decide)).a (by decide)))
      refine ⟨fun h0 => ?_, fun h0 => ?_⟩
      · obtain ⟨c, hc1, hc2⟩ := inr_lt (hc h0)
        rw [if_neg h0, hc2, hq2, nI_clamp (by omega), nI_clamp (by omega)] at hK
        rw [hc2, il_c, nI_clamp (by omega), c1 c hc1]
        exact ⟨vp_in_nI (by omega) (by omega), hK⟩
      · rw [if_pos h0] at hK; exact hK
    | succ m ih =>
      intro i τ hm hi hf
      refine step _ _ (i + 1) τ (by omega) hf (fun υ hf2 => ?_)
      have := ih (i + 1) υ (by omega) (by omega) hf2
      refine ⟨fun h => ?_, fun h => ?_⟩
      · rw [bs, if_neg (by rw [← nle]; exact fun z => z h)] at this; exact this
      · rw [bs, if_pos (nle.mp h)] at this; exact this
  have hlt := th_lt (n := j) (mk_tl (plan := 0) hmk) hj
  have := step 1000000 0 0 σ (by omega) ma.rf (fun υ hf2 => ⟨fun h => absurd h (by rw [f_best, nl_1000000, il (by omega) (by omega)]; omega), fun _ => loop _ 0 υ rfl (by omega) hf2⟩)
  rw [nI_0] at this
  exact this
theorem cm_best {σ : hs_St} {K : Int32 → hs_St → Prop} {T : sp_T} {n w : Int32} (hx : mt σ T) (hk : tk T) (hK : ∀ τ, ma σ τ → K (s_best T n w) τ) : OkI m_X6_best [.ref 63, .int n, .int w] σ K := by
  have h6 := hk.2.1
  have hp := pow6 h6
  unfold s_best at hK
  refine vc_X6_best (cm_isJudged ⟨fun hn => ?_, fun hn => ?_⟩)
  · have := hK σ ma.rf
    rw [if_pos hn] at this; exact this
  · obtain ⟨j, hj, rfl⟩ := inr_of (hi := 20) hn
    rw [if_neg (by rw [hn]; decide), nI_clamp (by omega)] at hK
    have loop : (¬ w = 0 → hck T (w - 10) = true) → ∀ m i, T 6 0 - i = m → i ≤ T 6 0 → RnI m_X6_best 29 [(0, .ref 63), (1, .int (nI j)), (2, .int w), (3, .int (nI (6 ^ i))), (4, .int (nI i))] [] σ K := by
      intro hc m
      induction m with
      | zero =>
        intro i hm hi
        have : i = T 6 0 := by omega
        subst this
        refine vc_X6_best_29 ⟨fun _ => cm_bestTail hj hx hk hc (fun τ hf => ?_), fun h => absurd (by rw [hx.2, il (by omega) (by omega)]; omega) h⟩
        have := hK τ hf
        rw [if_neg (fun z => by rw [hc z.1] at z; exact absurd z.2 (by decide))] at this
        exact this
      | succ m ih =>
        intro i hm hi
        refine vc_X6_best_29 ⟨fun h => ?_, fun _ => ?_⟩
        · rw [hx.2, il (by omega) (by omega)] at h; omega
        · rintro _ rfl
          rw [nl_6, pk_mul, nI_1, ← Nat.pow_succ]
          exact ih (i + 1) (by omega) (by omega)
    refine ⟨fun h0 => ?_, fun h0 => cm_isClerk hx hk ⟨fun hc => ?_, fun hc => ?_⟩⟩
    · rw [nl_1, nl_0]
      exact loop (fun z => absurd h0 z) (T 6 0) 0 (by omega) (by omega)
    · rw [nl_1, nl_0]
      exact loop (fun _ => hc) (T 6 0) 0 (by omega) (by omega)
    · have := hK σ ma.rf
      rw [if_pos ⟨h0, hc⟩] at this; exact this
