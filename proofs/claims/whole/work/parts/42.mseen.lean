/-! the model: as it was seen -/
def mt71 (σ : hs_St) (U : sp_T) (n : Nat) : Prop := ∀ m g, m < n → g < U 0 0 → σ.1 71 (4 * m + g) = nI ((tr U m).1 g)
def so_i (U : sp_T) (i : Nat) : Bool := decide (∀ k, k < i → (tr U (U 12 k)).1 (U 11 k) = U 13 k)
theorem so_s {U : sp_T} {i : Nat} : so_i U (i + 1) = (so_i U i && decide ((tr U (U 12 i)).1 (U 11 i) = U 13 i)) := by
  unfold so_i
  rw [Bool.eq_iff_iff]
  simp only [decide_eq_true_eq, Bool.and_eq_true]
  constructor
  · intro h
    exact ⟨fun k hk => h k (by omega), h i (by omega)⟩
  · intro h k hk
    by_cases e : k = i
    · subst e; exact h.2
    · exact h.1 k (by omega)
set_option maxHeartbeats 1000000 in
theorem cm_so {τ : hs_St} {K : Bool → hs_St → Prop} {U : sp_T} {a1 a2 a3 : Int32} (hk : tk U) (hw : mw τ U 0 (tw U) (U 9 0)) (h28 : τ.1 64 28 = nI (U 10 0)) (h64 : ∀ i, i < U 10 0 → τ.1 64 (29 + 3 * i) = nI (U 11 i) ∧ τ.1 64 (30 + 3 * i) = nI (U 12 i) ∧ τ.1 64 (31 + 3 * i) = nI (U 13 i))
    (hK : ∀ υ, hs_fr [65, 70, 71] τ υ → mt71 υ U 21 → K (sp_so U) υ) : RnB m_X6_isSoWith 14 [(0, .ref 63), (1, .int a1), (2, .int a2), (3, .int a3), (4, .int 0)] [] τ K := by
  have hmk := mk_of hk
  have h4 := hk.1
  have h10 := hk.2.2.2.1
  have hwk : ∀ n, mwk U (tr U n) := fun n => by rw [← run_mi]; exact mwk_run (mwk_tw hmk) n
  have loop3 : ∀ (υ : hs_St), hs_fr [65, 70, 71] τ υ → mt71 υ U 21 → ∀ m i, U 10 0 - i = m → i ≤ U 10 0 → RnB m_X6_isSoWith 77 [(0, .ref 63), (1, .int a1), (2, .int a2), (3, .int a3), (4, .int (hs_b (so_i U i))), (5, .int (nI i))] [] υ K := by
    intro υ hf h71 m
    have e64 : υ.1 64 = τ.1 64 := hf.2 64 (by decide)
    induction m with
    | zero =>
      intro i hm hi
      have : i = U 10 0 := by omega
      subst this
      exact vc_X6_isSoWith_77 ⟨fun _ => ⟨_, rfl, hK υ hf h71⟩, fun h => absurd (by rw [e64, h28, il (by omega) (by omega)]; omega) h⟩
    | succ m ih =>
      intro i hm hi
      have hlt : i < U 10 0 := by omega
      have xs := h64 i hlt
      have ks := hk.2.2.2.2.2.2 i hlt
      have hri := (hwk (U 12 i)).1 (U 11 i) ks.1
      have := ih (i + 1) (by omega) (by omega)
      refine vc_X6_isSoWith_77 ⟨fun h => ?_, fun _ => ?_⟩
      · rw [e64, h28, il (by omega) (by omega)] at h; omega
      · rintro _ rfl
        rw [nl_29, nl_3, pk_mul, nI_add, nI_1, nl_2, nI_add, nI_1, nI_clamp (by omega), nI_clamp (by omega), nI_clamp (by omega), e64, show 29 + 3 * i + 1 = 30 + 3 * i by omega, show 29 + 3 * i + 2 = 31 + 3 * i by omega, xs.1, xs.2.1, xs.2.2, nl_4, pk_mul, nI_add, nI_clamp (by omega), h71 _ _ (by omega) ks.1, ieq (by omega) (by omega)]
        refine ⟨fun h => ?_, fun h => ⟨vp_in_nI (by omega) (by omega), vp_in_nI (by omega) (by omega), vp_in_nI (by omega) (by omega), vp_in_nI (by omega) (by omega), fun h2 => ?_, fun h2 => ?_⟩⟩
        · have hb : so_i U i = false := by
            cases hso : so_i U i with
            | false => rfl
            | true => rw [hso] at h; exact absurd h (by decide)
          rw [so_s, hb] at this
          exact this
        · rw [so_s, decide_eq_false h2, Bool.and_false] at this
          exact this
        · have hb : so_i U i = true := hs_b1 h
          rw [so_s, hb, decide_eq_true h2] at this
          exact this
  have loop1 : ∀ m n (υ : hs_St), 21 - n = m → n ≤ 21 → hs_fr [65, 70, 71] τ υ → mw υ U 0 (tr U n) (U 9 0 + n) → mt71 υ U n → RnB m_X6_isSoWith 14 [(0, .ref 63), (1, .int a1), (2, .int a2), (3, .int a3), (4, .int (nI n))] [] υ K := by
    intro m
    induction m with
    | zero =>
      intro n υ hm hn hf hw h71
      have : n = 21 := by omega
      subst this
      refine vc_X6_isSoWith_14 ⟨fun _ => ?_, fun h => absurd (by rw [nl_20, ilt (by omega) (by omega)]; omega) h⟩
      have := loop3 υ hf h71 (U 10 0) 0 (by omega) (by omega)
      rw [show so_i U 0 = true by simp [so_i]] at this
      rw [nl_0]
      exact this
    | succ m ih =>
      intro n υ hm hn hf hw h71
      refine vc_X6_isSoWith_14 ⟨fun h => ?_, fun _ => ?_⟩
      · rw [nl_20, ilt (by omega) (by omega)] at h; omega
      · have loop2 : ∀ m2 g (φ : hs_St), U 0 0 - g = m2 → g ≤ U 0 0 → hs_fr [65, 70, 71] τ φ → mw φ U 0 (tr U n) (U 9 0 + n) → mt71 φ U n → (∀ g', g' < g → φ.1 71 (4 * n + g') = nI ((tr U n).1 g')) → RnB m_X6_isSoWith 24 [(0, .ref 63), (1, .int a1), (2, .int a2), (3, .int a3), (4, .int (nI n)), (5, .int (nI g))] [] φ K := by
          intro m2
          induction m2 with
          | zero =>
            intro g φ hm2 hg hf2 hw2 b1 b2
            have : g = U 0 0 := by omega
            subst this
            have e20 : φ.1 65 20 = nI (U 0 0) := hw2.1.1
            refine vc_X6_isSoWith_24 ⟨fun _ => cm_night hw2 hmk (by omega) (hwk n) (fun ψ hf3 hw3 => ?_), fun h => absurd (by rw [e20, il (by omega) (by omega)]; exact Nat.le_refl _) h⟩
            rw [nI_1]
            rw [mi_0] at hw3
            refine ih (n + 1) ψ (by omega) (by omega) (hf2.tr (hf3.up (by decide))) hw3 (fun k g hk2 hg2 => ?_)
            rw [hf3.2 71 (by decide)]
            by_cases e : k = n
            · subst e; exact b2 g hg2
            · exact b1 k g (by omega) hg2
          | succ m2 ih2 =>
            intro g φ hm2 hg hf2 hw2 b1 b2
            have hlt : g < U 0 0 := by omega
            have e20 : φ.1 65 20 = nI (U 0 0) := hw2.1.1
            have xr : φ.1 65 (5 * g + 3) = nI ((tr U n).1 g) := (hw2.1.2.2.2.1 g hlt).2.2.2.1
            refine vc_X6_isSoWith_24 ⟨fun h => ?_, fun _ => cm_of3 (by omega) ?_⟩
            · rw [e20, il (by omega) (by omega)] at h; omega
            · rw [nl_4, pk_mul, nI_add, nI_clamp (by omega), xr, nI_1]
              refine ⟨vp_in_nI (by omega) (by omega), ?_⟩
              rintro _ rfl
              refine ih2 (g + 1) _ (by omega) (by omega) (hf2.w (by decide)) ?_ (fun k g2 h1 h2 => ?_) (fun g2 h2 => ?_)
              · exact ⟨by rw [w_ne (by decide)]; exact hw2.1, by rw [w_ne (by decide)]; exact hw2.2.1, by rw [w_ne (by decide)]; exact hw2.2.2.1, fun r hr => by rw [w_ne (by decide)]; exact hw2.2.2.2 r hr⟩
              · rw [w_at (by omega)]; exact b1 k g2 h1 h2
              · by_cases e : g2 = g
                · subst e; rw [w_eq]
                · rw [w_at (by omega)]; exact b2 g2 (by omega)
        rw [nl_0]
        exact loop2 (U 0 0) 0 υ (by omega) (by omega) hf hw h71 (fun _ h => by omega)
  rw [nl_0]
  exact loop1 21 0 τ (by omega) (by omega) hs_fr.rf hw (fun k g h _ => by omega)
theorem cm_isSo2 {σ : hs_St} {K : Bool → hs_St → Prop} {T : sp_T} {g b : Nat} (hg : g < T 0 0) (hb1 : 1 ≤ b) (hb : b ≤ 99) (hx : mt σ T) (hk : tk T) (hK : ∀ υ, mf [65, 70, 71] σ υ → mt71 υ (tb T g (T 1 g) b) 21 → K (sp_so (tb T g (T 1 g) b)) υ) : OkB m_X6_isSoWith [.ref 63, .int (nI g), .int 2, .int (nI b)] σ K := by
  have hmk := mk_of hk
  have h4 := hk.1
  have kg := hk.2.2.2.2.1 g hg
  have hkb := tk_b (g := g) hk kg.1 hb1 hb
  refine vc_X6_isSoWith (cm_starts hx hmk (fun τ hf b1 b2 b3 b4 => ?_))
  have e2 : (2 : Int32) = nI 2 := nl_2
  rw [e2]
  refine cm_beco (by omega) ?_
  have e64 : τ.1 64 = σ.1 64 := hf.2.1 64 (by decide) (by decide)
  refine cm_so hkb (mw_of (by rw [tb_own]; exact mr_g2 (by omega) hmk.2.1 b1) (by rw [w_ne (by decide)]; exact b2) (by rw [w_ne (by decide)]; exact b3) (fun r hr => by rw [w_ne (by decide)]; exact b4 r hr)) ?_ ?_ (fun υ hf2 h71 => hK υ (((hf.up (by decide)).w (by decide) (by decide)).fr hf2 (by decide)) h71)
  · rw [w_ne (by decide), e64, hx.1.2.2.1]; rfl
  · rw [w_ne (by decide), e64]
    exact hx.1.2.2.2.2.2
theorem tb_k (T : sp_T) (g k : Nat) : tb T g k (T 3 g) = tu T 1 g k := by
  unfold tb
  have : T 3 g = tu T 1 g k 3 g := by rw [tu_ne (by decide)]
  rw [this, tu_self]
theorem cm_isSo0 {σ : hs_St} {K : Bool → hs_St → Prop} {T : sp_T} {g k : Nat} (hg : g < T 0 0) (hk4 : k < 4) (hx : mt σ T) (hk : tk T) (hK : ∀ υ, mf [65, 70, 71] σ υ → K (sp_so (tb T g k (T 3 g))) υ) : OkB m_X6_isSoWith [.ref 63, .int (nI g), .int 0, .int (nI k)] σ K := by
  have hmk := mk_of hk
  have h4 := hk.1
  have kg := hk.2.2.2.2.1 g hg
  have hkb := tk_b (g := g) hk hk4 kg.2.2.1.1 kg.2.2.1.2
  refine vc_X6_isSoWith (cm_starts hx hmk (fun τ hf b1 b2 b3 b4 => ?_))
  have e2 : (0 : Int32) = nI 0 := nl_0
  have e64 : τ.1 64 = σ.1 64 := hf.2.1 64 (by decide) (by decide)
  have hbe : ∀ {K2 : hs_St → Prop}, K2 (hs_w τ 65 (5 * g) (nI k)) → OkV m_X6_becomesOf [.ref 63, .int (nI g), .int 0, .int (nI k)] τ K2 := fun h => by rw [e2]; exact cm_beco (by omega) h
  refine hbe ?_
  refine cm_so hkb (mw_of (by rw [tb_k]; exact mr_g0 (by omega) hmk.2.1 b1) (by rw [w_ne (by decide)]; exact b2) (by rw [w_ne (by decide)]; exact b3) (fun r hr => by rw [w_ne (by decide)]; exact b4 r hr)) ?_ ?_ (fun υ hf2 h71 => hK υ (((hf.up (by decide)).w (by decide) (by decide)).fr hf2 (by decide)))
  · rw [w_ne (by decide), e64, hx.1.2.2.1]; rfl
  · rw [w_ne (by decide), e64]
    exact hx.1.2.2.2.2.2
theorem cm_kinds {σ : hs_St} {K : Int32 → hs_St → Prop} {T : sp_T} {g : Int32} (hx : mt σ T) (hk : tk T) (hK : ∀ τ, ma σ τ → K (s_kinds T g) τ) : OkI m_X6_kinds [.ref 63, .int g] σ K := by
  have h4 := hk.1
  unfold s_kinds at hK
  refine vc_X6_kinds (cm_isGhost hx hk ⟨fun hg => ?_, fun hg => ?_⟩)
  · rw [if_neg (by rw [hg]; decide)] at hK
    obtain ⟨i, hi, rfl⟩ := inr_lt hg
    rw [nI_clamp (by omega)] at hK
    have loop : ∀ m k (τ : hs_St), 4 - k = m → k ≤ 4 → ma σ τ → RnI m_X6_kinds 14 [(0, .ref 63), (1, .int (nI i)), (2, .int (nI (sp_bits k (fun k => sp_so (tb T i k (T 3 i)))))), (3, .int (nI k))] [] τ K := by
      intro m
      induction m with
      | zero =>
        intro k τ hm hk4 hf
        have : k = 4 := by omega
        subst this
        exact vc_X6_kinds_14 ⟨fun _ => hK τ hf, fun h => absurd (by rw [nl_4, il (by omega) (by omega)]; omega) h⟩
      | succ m ih =>
        intro k τ hm hk4 hf
        refine vc_X6_kinds_14 ⟨fun h => ?_, fun _ => cm_isSo0 hi (by omega) (hx.a hf) hk (fun υ hf2 => cm_flag ?_)⟩
        · rw [nl_4, il (by omega) (by omega)] at h; omega
        · have := ih (k + 1) υ (by omega) (by omega) (hf.tr (hf2.a (by decide)))
          rintro _ rfl
          rw [nI_1]
          cases h : sp_so (tb T i k (T 3 i)) with
          | false =>
            rw [show sp_bits (k + 1) (fun k => sp_so (tb T i k (T 3 i))) = sp_bits k (fun k => sp_so (tb T i k (T 3 i))) by simp [sp_bits, sp_bit, h]] at this
            rw [if_pos (by rfl), or_0 k (by omega), Int32.or_zero]; exact this
          | true =>
            rw [show sp_bits (k + 1) (fun k => sp_so (tb T i k (T 3 i))) = sp_bits k (fun k => sp_so (tb T i k (T 3 i))) + 2 ^ k by simp [sp_bits, sp_bit, h]] at this
            rw [if_neg (by decide), bit_or k (by omega) _ (bits16 _ (by omega)) (sp_bits_lt _ _)]; exact this
    rw [nl_0]
    exact loop 4 0 σ (by omega) (by omega) ma.rf
  · have := hK σ ma.rf
    rw [if_pos hg] at this; exact this
theorem sl_0 {P : Nat → Bool} : ∀ b, b < 1000 → (sl P b = -4 ↔ sp_cnt P b = 0)
  | 0, _ => by simp [sl, sp_cnt]
  | b + 1, hb => by
    have ih := sl_0 (P := P) b (by omega)
    by_cases hp : P (b + 1) = true
    · simp only [sl, sp_cnt, hp, if_true, and_true]
      constructor
      · intro h
        split at h
        · exact absurd h (im4 (by omega))
        · rename_i h2; exact absurd h h2
      · intro h; omega
    · have hp : P (b + 1) = false := by simpa using hp
      simp only [sl, sp_cnt, hp]
      simp [ih]
theorem cm_second {σ : hs_St} {K : Int32 → hs_St → Prop} {T : sp_T} {g w : Int32} (hx : mt σ T) (hk : tk T) (hK : ∀ τ, ma σ τ → K (s_second T g w) τ) : OkI m_X6_second [.ref 63, .int g, .int w] σ K := by
  have h4 := hk.1
  unfold s_second at hK
  refine vc_X6_second (cm_isGhost hx hk ⟨fun hg => ?_, fun hg => cm_inI ⟨fun hw => ?_, fun hw => ?_⟩⟩)
  · have := hK σ ma.rf
    rw [if_pos hg] at this; exact this
  · change inr w 0 2 = true at hw
    rw [if_neg (by rw [hg]; decide), if_neg (by rw [hw]; decide)] at hK
    obtain ⟨i, hi, rfl⟩ := inr_lt hg
    rw [nI_clamp (by omega)] at hK
    generalize hP : (fun b => sp_so (tb T i (T 1 i) b)) = P at hK
    have hPb : ∀ b, sp_so (tb T i (T 1 i) b) = P b := fun b => by rw [← hP]
    have loop : ∀ m b (τ : hs_St), 99 - b = m → b ≤ 99 → ma σ τ → RnI m_X6_second 35 [(0, .ref 63), (1, .int (nI i)), (2, .int w), (3, .int (nI (sp_cnt P b))), (4, .int (sl P b)), (5, .int (sg P b)), (6, .int (nI (b + 1)))] [] τ K := by
      intro m
      induction m with
      | zero =>
        intro b τ hm hb hf
        have : b = 99 := by omega
        subst this
        have h2 := hK τ hf
        refine vc_X6_second_35 ⟨fun _ => ⟨fun h0 => ⟨fun h1 => ?_, fun h1 => ?_⟩, fun h0 => ?_⟩, fun h => absurd (by rw [nl_99, ilt (by omega) (by omega)]; omega) h⟩
        · rw [if_neg h0, if_neg h1] at h2; exact h2
        · rw [if_neg h0, if_pos h1] at h2; exact h2
        · rw [if_pos h0] at h2; exact h2
      | succ m ih =>
        intro b τ hm hb hf
        have hc := sp_cnt_le P b
        refine vc_X6_second_35 ⟨fun h => ?_, fun _ => cm_isSo2 hi (by omega) (by omega) (hx.a hf) hk (fun υ hf2 _ => ?_)⟩
        · rw [nl_99, ilt (by omega) (by omega)] at h; omega
        · rw [hPb]
          have := ih (b + 1) υ (by omega) (by omega) (hf.tr (hf2.a (by decide)))
          have hz := sl_0 (P := P) b (by omega)
          refine ⟨fun h => ?_, fun h => ⟨fun h5 => ?_, fun h5 => ?_⟩⟩
          · rw [sp_cnt, sl, sg, if_neg (by rw [h]; decide), if_neg (by rw [h]; simp), if_neg (by rw [h]; decide), Nat.add_zero] at this
            rw [nI_1]; exact this
          · rw [nl_0, ieq (by omega) (by omega)] at h5
            rw [sp_cnt, sl, sg, if_pos h, if_neg (fun z => h5 (hz.mp z.1)), if_pos h] at this
            rw [nI_1, nI_1]; exact this
          · rw [nl_0, ieq (by omega) (by omega)] at h5
            rw [sp_cnt, sl, sg, if_pos h, if_pos ⟨hz.mpr h5, h⟩, if_pos h] at this
            rw [nI_1, nI_1]; exact this
    rw [nl_0, nl_1]
    exact loop 99 0 σ (by omega) (by omega) ma.rf
  · change inr w 0 2 = false at hw
    have := hK σ ma.rf
    rw [if_neg (by rw [hg]; decide), if_pos hw] at this; exact this
