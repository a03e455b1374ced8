/-! the model's public readers -/
theorem run_mi {T : sp_T} {n : Nat} : sp_run (mi T 0) n (tw T) = tr T n := by rw [mi_0]; rfl
theorem cm_rule {σ : hs_St} {K : Int32 → hs_St → Prop} {T : sp_T} {w : Int32} (hx : mt σ T) (hk : tk T) (hK : ∀ τ, ma σ τ → K (s_rule T w) τ) : OkI m_X6_rule [.ref 63, .int w] σ K := by
  have hmk := mk_of hk
  have h4 := hk.1
  refine vc_X6_rule (cm_begin hx hmk (fun τ hf hw => ?_))
  have hK := hK τ (hf.a (by decide))
  have hx1 := hx.f hf (by decide)
  have e20 : τ.1 65 20 = nI (T 0 0) := hw.1.1
  have loop : ∀ m i, T 0 0 - i = m → i ≤ T 0 0 → RnI m_X6_rule 8 [(0, .ref 63), (1, .int w), (2, .int (nI (sp_sum i (tc T)))), (3, .int (nI i))] [] τ K := by
    intro m
    induction m with
    | zero =>
      intro i hm hi
      have : i = T 0 0 := by omega
      subst this
      unfold s_rule at hK
      refine vc_X6_rule_8 ⟨fun _ => ⟨fun h => ?_, fun h => ?_, fun h => ?_, fun h => cm_resting hw hmk (mwk_tw hmk) ?_, fun h => cm_allLeft hw hmk (mwk_tw hmk) ?_, fun h => ?_, fun h => ?_⟩, fun h => absurd (by rw [e20, il (by omega) (by omega)]; exact Nat.le_refl _) h⟩
      · rw [if_pos h] at hK; rw [hx1.1.1]; exact hK
      · rw [if_neg (by omega), if_pos h] at hK; rw [hx1.2]; exact hK
      · rw [if_neg (by omega), if_neg (by omega), if_pos h] at hK; rw [hx1.1.2.1]; exact hK
      · rw [if_neg (by omega), if_neg (by omega), if_neg (by omega), if_pos h] at hK; rw [mi_0]; exact hK
      · rw [if_neg (by omega), if_neg (by omega), if_neg (by omega), if_neg (by omega), if_pos h] at hK; exact hK
      · rw [if_neg (by omega), if_neg (by omega), if_neg (by omega), if_neg (by omega), if_neg (by omega), if_pos h] at hK; exact hK
      · rw [if_neg (by omega), if_neg (by omega), if_neg (by omega), if_neg (by omega), if_neg (by omega), if_neg (by omega)] at hK; exact hK
    | succ m ih =>
      intro i hm hi
      have hlt : i < T 0 0 := by omega
      refine vc_X6_rule_8 ⟨fun h => ?_, fun _ => cm_creaks (T := tm T (T 4) (T 5) (T 9 0)) hlt hw.1 (mk_m hmk (mwk_tw hmk).1 (mwk_tw hmk).2) ?_⟩
      · rw [e20, il (by omega) (by omega)] at h; omega
      · rintro _ rfl
        rw [show tc (tm T (T 4) (T 5) (T 9 0)) i = tc T i from rfl, nI_add, nI_1]
        exact ih (i + 1) (by omega) (by omega)
  rw [nl_0]
  exact loop (T 0 0) 0 (by omega) (by omega)
theorem t2n {w : Int32} {f : Nat} (h : w.toInt = f) (hf : f < 1000) : w = nI f := toInt_inj (by rw [h, nI_toInt (by omega)])
theorem cm_ghost {σ : hs_St} {K : Int32 → hs_St → Prop} {T : sp_T} {g w : Int32} (hx : mt σ T) (hk : tk T) (hK : ∀ τ, ma σ τ → K (s_ghost T g w) τ) : OkI m_X6_ghost [.ref 63, .int g, .int w] σ K := by
  have hmk := mk_of hk
  refine vc_X6_ghost (cm_isGhost hx hk ⟨fun hg => ?_, fun hg => ?_⟩)
  · obtain ⟨j, hj, rfl⟩ := inr_lt hg
    have h4 := hk.1
    have e : (nI j).toNatClampNeg = j := nI_clamp (by omega)
    refine cm_starts hx hmk (fun τ hf a1 a2 a3 a4 => ?_)
    have hK := hK τ (hf.a (by decide))
    have xg := a1.2.2.2.1 j hj
    unfold s_ghost at hK
    rw [if_neg (by rw [hg]; decide), e] at hK
    refine ⟨fun h => ?_, fun h => ?_, fun h => ?_, fun h => ?_, fun h => ?_, fun h => ?_, fun h => ?_, fun h => ?_, fun h => ?_, fun h => ?_, fun h => ?_⟩
    · rw [if_pos h] at hK
      rw [t2n (f := 0) h (by omega)]; exact cm_of (by omega) (by rw [Nat.add_zero, xg.1]; exact hK)
    · rw [if_neg (by omega), if_pos h] at hK
      rw [t2n (f := 1) h (by omega)]; exact cm_of (by omega) (by rw [xg.2.1]; exact hK)
    · rw [if_neg (by omega), if_neg (by omega), if_pos h] at hK
      rw [t2n (f := 2) h (by omega)]; exact cm_of (by omega) (by rw [xg.2.2.1]; exact hK)
    · rw [if_neg (by omega), if_neg (by omega), if_neg (by omega), if_pos h] at hK
      rw [t2n (f := 3) h (by omega)]; exact cm_of (by omega) (by rw [xg.2.2.2.1]; exact hK)
    · rw [if_neg (by omega), if_neg (by omega), if_neg (by omega), if_neg (by omega), if_pos h] at hK
      rw [t2n (f := 4) h (by omega)]; exact cm_of (by omega) (by rw [xg.2.2.2.2]; exact hK)
    · exact cm_answer hj a1 hmk (by simpa [h] using hK)
    · exact cm_steps hj a1 hmk (by simpa [h] using hK)
    · exact cm_left hj a1 hmk (by simpa [h] using hK)
    · refine cm_answer hj a1 hmk ?_
      have := ta_lt hk hj
      rw [nl_6, irem (by omega) (by omega) (by omega)]
      simpa [h] using hK
    · exact cm_creaks hj a1 hmk (by simpa [h] using hK)
    · rw [if_neg (by omega), if_neg (by omega), if_neg (by omega), if_neg (by omega), if_neg (by omega), if_neg (by omega), if_neg (by omega), if_neg (by omega), if_neg (by omega), if_neg (by omega)] at hK
      exact hK
  · have hK := hK σ ma.rf
    unfold s_ghost at hK
    rw [if_pos hg] at hK; exact hK
theorem cm_clerk {σ : hs_St} {K : Int32 → hs_St → Prop} {T : sp_T} {c w : Int32} (hx : mt σ T) (hk : tk T) (hK : K (s_clerk T c w) σ) : OkI m_X6_clerk [.ref 63, .int c, .int w] σ K := by
  unfold s_clerk at hK
  refine vc_X6_clerk (cm_isClerk hx hk ⟨fun hg => ?_, fun hg => cm_isPart ⟨fun hw => ?_, fun hw => ?_⟩⟩)
  · rw [if_pos hg] at hK; exact hK
  · rw [if_neg (by rw [hg]; decide), if_pos hw] at hK; exact hK
  · obtain ⟨j, hj, rfl⟩ := inr_lt hg
    obtain ⟨v, hv, rfl⟩ := inr_of (hi := 1) hw
    have h3 := hk.2.1
    have xc := hx.1.2.2.2.2.1 j hj
    rw [if_neg (by rw [hg]; decide), if_neg (by rw [hw]; decide), nI_clamp (by omega)] at hK
    rw [il_c, nI_add, nI_clamp (by omega)]
    refine ⟨vp_in_nI (by omega) (by omega), ?_⟩
    rcases (show v = 0 ∨ v = 1 by omega) with rfl | rfl
    · rw [if_pos (by decide)] at hK; rw [Nat.add_zero, xc.1]; exact hK
    · rw [if_neg (by decide)] at hK; rw [show 21 + 2 * j + 1 = 22 + 2 * j by omega, xc.2]; exact hK
/-- from a walk's start on, the first night with Q -/
theorem cm_nightsTo {σ : hs_St} {K : Int32 → hs_St → Prop} {T : sp_T} {g : Nat} (hg : g < T 0 0) (hx : mw σ T 0 (tw T) (T 9 0)) (hk : mk T) (hK : ∀ τ, hs_fr [65, 70] σ τ → K (sp_when (q_rest T g) 60) τ) : OkI m_X6_nightsTo [.ref 63, .int (nI g)] σ K := by
  have h4 := hk.1
  have loop : ∀ m i (τ : hs_St), 61 - i = m → i ≤ 61 → hs_fr [65, 70] σ τ → mw τ T 0 (tr T i) (T 9 0 + i) → sp_f (q_rest T g) m i = sp_f (q_rest T g) 61 0 → RnI m_X6_nightsTo 2 [(0, .ref 63), (1, .int (nI g)), (2, .int (nI i))] [] τ K := by
    intro m
    induction m with
    | zero =>
      intro i τ hm hi hf a1 hq
      have : i = 61 := by omega
      subst this
      refine vc_X6_nightsTo_2 ⟨fun _ => ?_, fun h => absurd (by rw [nl_60, ilt (by omega) (by omega)]; omega) h⟩
      have := hK τ hf
      rw [sp_when, ← hq, sp_f, if_neg (by omega)] at this; exact this
    | succ m ih =>
      intro i τ hm hi hf a1 hq
      have hwk : mwk T (tr T i) := by rw [← run_mi]; exact mwk_run (mwk_tw hk) i
      have h8 := ts_in T g
      refine vc_X6_nightsTo_2 ⟨fun h => ?_, fun _ => cm_left (T := tm T (tr T i).1 (tr T i).2.1 (T 9 0 + i)) hg a1.1 (mk_m hk hwk.1 hwk.2) ?_⟩
      · rw [nl_60, ilt (by omega) (by omega)] at h; omega
      · rw [tm_s, tm_5]
        refine ⟨fun h => cm_night a1 hk (by omega) hwk (fun υ hf2 a2 => ?_), fun h => ?_⟩
        · rw [nl_0, ieq (by omega) (by omega)] at h
          rw [nI_1]
          rw [mi_0] at a2
          refine ih (i + 1) υ (by omega) (by omega) (hf.tr hf2) a2 (by rw [← hq, sp_f, if_neg]; simp only [q_rest, sp_rs, decide_eq_true_eq]; show ¬ ts T g ≤ _; omega)
        · rw [nl_0, ieq (by omega) (by omega)] at h
          have := hK τ hf
          have e : sp_f (q_rest T g) 61 0 = i := by
            rw [← hq, sp_f, if_pos]
            simp only [q_rest, sp_rs, decide_eq_true_eq]
            show ts T g ≤ _
            omega
          rw [sp_when, e, if_pos (by omega)] at this; exact this
  refine vc_X6_nightsTo ?_
  rw [nl_0]
  exact loop 61 0 σ (by omega) (by omega) hs_fr.rf hx rfl
theorem mf.fr {S : List Nat} {σ τ υ : hs_St} (h : mf S σ τ) (g : hs_fr S τ υ) (h63 : 63 ∉ S) : mf S σ υ := h.tr (mf.of g h63)
theorem cm_rests {σ : hs_St} {K : Int32 → hs_St → Prop} {T : sp_T} {g : Int32} (hx : mt σ T) (hk : tk T) (hK : ∀ τ, ma σ τ → K (s_rests T g) τ) : OkI m_X6_rests [.ref 63, .int g] σ K := by
  have hmk := mk_of hk
  have h4 := hk.1
  unfold s_rests at hK
  refine vc_X6_rests (cm_isGhost hx hk ⟨fun hg => ?_, fun hg => ?_⟩)
  · obtain ⟨j, hj, rfl⟩ := inr_lt hg
    rw [if_neg (by rw [hg]; decide), nI_clamp (by omega)] at hK
    exact cm_begin hx hmk (fun τ hf hw => cm_nightsTo hj hw hmk (fun υ hf2 => hK υ ((hf.fr hf2 (by decide)).a (by decide))))
  · have := hK σ ma.rf
    rw [if_pos hg] at this; exact this
theorem cm_harm {σ : hs_St} {K : Int32 → hs_St → Prop} {T : sp_T} {r n : Int32} (hx : mt σ T) (hk : tk T) (hK : ∀ τ, ma σ τ → K (s_harm T r n) τ) : OkI m_X6_harm [.ref 63, .int r, .int n] σ K := by
  have hmk := mk_of hk
  unfold s_harm at hK
  refine vc_X6_harm (cm_inI ⟨fun hr => ?_, fun hr => cm_isFar ⟨fun hn => ?_, fun hn => ?_⟩⟩)
  · change inr r 0 5 = false at hr
    have := hK σ ma.rf
    rw [if_pos hr] at this; exact this
  · change inr r 0 5 = true at hr
    rw [if_neg (by rw [hr]; decide), if_neg (by rw [hn]; decide)] at hK
    obtain ⟨i, hi, rfl⟩ := inr_of (hi := 5) hr
    obtain ⟨j, hj, rfl⟩ := inr_of (hi := 60) hn
    rw [nI_clamp (by omega), nI_clamp (by omega)] at hK
    refine cm_begin hx hmk (fun τ hf hw => cm_harmOf (by omega) hw hmk (by omega) (mwk_tw hmk) (fun υ hf2 hw2 => ⟨vp_in_nI (by omega) (by omega), ?_⟩))
    rw [nI_clamp (by omega), hw2.2.2.2 i (by omega), run_mi]
    exact hK υ ((hf.fr hf2 (by decide)).a (by decide))
  · change inr r 0 5 = true at hr
    have := hK σ ma.rf
    rw [if_neg (by rw [hr]; decide), if_pos hn] at this; exact this
theorem cm_ahead {σ : hs_St} {K : Int32 → hs_St → Prop} {T : sp_T} {g n w : Int32} (hx : mt σ T) (hk : tk T) (hK : ∀ τ, ma σ τ → K (s_ahead T g n w) τ) : OkI m_X6_ahead [.ref 63, .int g, .int n, .int w] σ K := by
  have hmk := mk_of hk
  have h4 := hk.1
  unfold s_ahead at hK
  refine vc_X6_ahead (cm_isGhost hx hk ⟨fun hg => ?_, fun hg => cm_isFar ⟨fun hn => ?_, fun hn => cm_isPart ⟨fun hw => ?_, fun hw => ?_⟩⟩⟩)
  · have := hK σ ma.rf
    rw [if_pos hg] at this; exact this
  · have := hK σ ma.rf
    rw [if_neg (by rw [hg]; decide), if_pos hn] at this; exact this
  · rw [if_neg (by rw [hg]; decide), if_neg (by rw [hn]; decide), if_neg (by rw [hw]; decide)] at hK
    obtain ⟨i, hi, rfl⟩ := inr_lt hg
    obtain ⟨j, hj, rfl⟩ := inr_of (hi := 60) hn
    rw [nI_clamp (by omega), nI_clamp (by omega)] at hK
    have hwk : mwk T (tr T j) := by rw [← run_mi]; exact mwk_run (mwk_tw hmk) j
    refine cm_begin hx hmk (fun τ hf hw1 => cm_harmOf (by omega) hw1 hmk (by omega) (mwk_tw hmk) (fun υ hf2 hw2 => ?_))
    have hK := hK υ ((hf.fr hf2 (by decide)).a (by decide))
    rw [run_mi] at hw2
    refine ⟨fun h0 => cm_left (T := tm T (tr T j).1 (tr T j).2.1 (T 9 0 + j)) hi hw2.1 (mk_m hmk hwk.1 hwk.2) ?_, fun h0 => cm_of3 (by omega) ?_⟩
    · rw [if_neg h0] at hK; exact hK
    · rw [if_pos h0] at hK
      rw [(hw2.1.2.2.2.1 i hi).2.2.2.1]; exact hK
  · have := hK σ ma.rf
    rw [if_neg (by rw [hg]; decide), if_neg (by rw [hn]; decide), if_pos hw] at this; exact this
theorem cm_meets {σ : hs_St} {K : Int32 → hs_St → Prop} {T : sp_T} {g c : Int32} (hx : mt σ T) (hk : tk T) (hK : ∀ τ, ma σ τ → K (s_meets T g c) τ) : OkI m_X6_meets [.ref 63, .int g, .int c] σ K := by
  have hmk := mk_of hk
  have h4 := hk.1
  have h6 := hk.2.1
  unfold s_meets at hK
  refine vc_X6_meets (cm_isGhost hx hk ⟨fun hg => ?_, fun hg => cm_isClerk hx hk ⟨fun hc => ?_, fun hc => ?_⟩⟩)
  · have := hK σ ma.rf
    rw [if_pos hg] at this; exact this
  · rw [if_neg (by rw [hg]; decide), if_neg (by rw [hc]; decide)] at hK
    obtain ⟨i, hi, rfl⟩ := inr_lt hg
    obtain ⟨j, hj, rfl⟩ := inr_lt hc
    rw [nI_clamp (by omega), nI_clamp (by omega)] at hK
    have loop : ∀ m n (τ : hs_St), 61 - n = m → n ≤ 61 → mf [65, 70] σ τ → mw τ T 0 (tr T n) (T 9 0 + n) → sp_f (q_meet T i j) m n = sp_f (q_meet T i j) 61 0 → RnI m_X6_meets 24 [(0, .ref 63), (1, .int (nI i)), (2, .int (nI j)), (3, .int (nI n))] [] τ K := by
      intro m
      induction m with
      | zero =>
        intro n τ hm hn hf a1 hq
        have : n = 61 := by omega
        subst this
        refine vc_X6_meets_24 ⟨fun _ => ?_, fun h => absurd (by rw [nl_60, ilt (by omega) (by omega)]; omega) h⟩
        have := hK τ (hf.a (by decide))
        rw [sp_when, ← hq, sp_f, if_neg (by omega)] at this; exact this
      | succ m ih =>
        intro n τ hm hn hf a1 hq
        have hwk : mwk T (tr T n) := by rw [← run_mi]; exact mwk_run (mwk_tw hmk) n
        have h8 := ts_in T i
        have hri := hwk.1 i hi
        have koj := (hk.2.2.2.2.2.1 j hj).1
        have xr : τ.1 65 (5 * i + 3) = nI ((tr T n).1 i) := (a1.1.2.2.2.1 i hi).2.2.2.1
        have xc : τ.1 65 (21 + 2 * j) = nI (T 7 j) := (a1.1.2.2.2.2.1 j hj).1
        have next : q_meet T i j n = false → ∀ υ : hs_St, hs_fr [65, 70] τ υ → mw υ T 0 (sp_night (mi T 0) (tr T n)) (T 9 0 + n + 1) → RnI m_X6_meets 24 [(0, .ref 63), (1, .int (nI i)), (2, .int (nI j)), (3, .int (nI n + 1))] [] υ K := by
          intro hqn υ hf2 hw2
          rw [nI_1]
          rw [mi_0] at hw2
          exact ih (n + 1) υ (by omega) (by omega) (hf.fr hf2 (by decide)) hw2 (by rw [← hq, sp_f, if_neg (by rw [hqn]; decide)])
        refine vc_X6_meets_24 ⟨fun h => ?_, fun _ => cm_left (T := tm T (tr T n).1 (tr T n).2.1 (T 9 0 + n)) hi a1.1 (mk_m hmk hwk.1 hwk.2) ?_⟩
        · rw [nl_60, ilt (by omega) (by omega)] at h; omega
        · rw [tm_s, tm_5]
          refine ⟨fun h => ?_, fun h => cm_of3 (by omega) ?_⟩
          · rw [nl_0, il (by omega) (by omega)] at h
            exact cm_night a1 hmk (by omega) hwk (next (decide_eq_false (by omega)))
          · rw [nl_0, il (by omega) (by omega)] at h
            rw [il_c, nI_clamp (by omega), xr, xc, ieq (by omega) (by omega)]
            refine ⟨vp_in_nI (by omega) (by omega), fun h2 => ?_, fun h2 => ?_⟩
            · exact cm_night a1 hmk (by omega) hwk (next (decide_eq_false (by omega)))
            · have := hK τ (hf.a (by decide))
              have e : sp_f (q_meet T i j) 61 0 = n := by rw [← hq, sp_f, if_pos]; exact decide_eq_true (by omega)
              rw [sp_when, e, if_pos (by omega)] at this; exact this
    refine cm_begin hx hmk (fun τ hf hw => ?_)
    rw [nl_0]
    exact loop 61 0 τ (by omega) (by omega) hf hw rfl
  · have := hK σ ma.rf
    rw [if_neg (by rw [hg]; decide), if_pos hc] at this; exact this
