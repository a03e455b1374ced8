/-! text: a ghost's line, a done line -/
theorem mtok.e {σ τ : hs_St} {t : tokT} (h : mtok σ t) (e : ∀ i, 11 ≤ i → i ≤ 16 → τ.1 63 i = σ.1 63 i) : mtok τ t := by
  cases t with
  | error q => exact ⟨by rw [e 15 (by omega) (by omega)]; exact h.1, by rw [e 16 (by omega) (by omega)]; exact h.2⟩
  | ok q => exact ⟨by rw [e 15 (by omega) (by omega)]; exact h.1, by rw [e 13 (by omega) (by omega)]; exact h.2.1, by rw [e 12 (by omega) (by omega)]; exact h.2.2.1, by rw [e 11 (by omega) (by omega)]; exact h.2.2.2.1, fun z => by rw [e 14 (by omega) (by omega)]; exact h.2.2.2.2 z⟩
theorem mft.e {σ τ : hs_St} {f a : Nat} (h : mft σ f a) (e : ∀ i, 11 ≤ i → i ≤ 16 → τ.1 63 i = σ.1 63 i) : mft τ f a := ⟨by rw [e 15 (by omega) (by omega)]; exact h.1, by rw [e 16 (by omega) (by omega)]; exact h.2⟩
theorem mr_ga {σ : hs_St} {D : sp_T} {k a b r : Nat} {f : Nat → Int32} (h4 : D 0 0 < 4) (h6 : D 6 0 ≤ 3) (hx : mr (σ.1 67) D) (h0 : σ.1 67 (5 * D 0 0 + 4) = nI 0) (f20 : f 20 = nI (D 0 0 + 1)) (fk : f (5 * D 0 0) = nI k) (fa : f (5 * D 0 0 + 1) = nI a) (fb : f (5 * D 0 0 + 2) = nI b) (fr : f (5 * D 0 0 + 3) = nI r) (fo : ∀ j, j ≠ 20 → j ≠ 5 * D 0 0 → j ≠ 5 * D 0 0 + 1 → j ≠ 5 * D 0 0 + 2 → j ≠ 5 * D 0 0 + 3 → f j = σ.1 67 j) : mr f (t_add D k a b r) := by
  obtain ⟨x0, x9, x10, xg, xc, xs⟩ := hx
  have ta1 := t_add_1 (T := D) (k := k) (a := a) (b := b) (r := r)
  unfold mr
  rw [t_add_0, t_add_f (f := 6) (by omega), t_add_f (f := 7) (by omega), t_add_f (f := 8) (by omega), t_add_f (f := 9) (by omega), t_add_f (f := 10) (by omega), t_add_f (f := 11) (by omega), t_add_f (f := 12) (by omega), t_add_f (f := 13) (by omega)]
  refine ⟨f20, by rw [fo _ (by omega) (by omega) (by omega) (by omega) (by omega)]; exact x9, by rw [fo _ (by omega) (by omega) (by omega) (by omega) (by omega)]; exact x10, fun g hg => ?_, fun c hc => ?_, fun i hi => ?_⟩
  · by_cases e : g = D 0 0
    · subst e
      rw [ta1.1, ta1.2.1, ta1.2.2.1, ta1.2.2.2.1, ta1.2.2.2.2]
      exact ⟨fk, fa, fb, fr, by rw [fo _ (by omega) (by omega) (by omega) (by omega) (by omega)]; exact h0⟩
    · rw [t_add_n e (by omega), t_add_n e (by omega), t_add_n e (by omega), t_add_n e (by omega), t_add_n e (by omega)]
      rw [fo _ (by omega) (by omega) (by omega) (by omega) (by omega), fo _ (by omega) (by omega) (by omega) (by omega) (by omega), fo _ (by omega) (by omega) (by omega) (by omega) (by omega), fo _ (by omega) (by omega) (by omega) (by omega) (by omega), fo _ (by omega) (by omega) (by omega) (by omega) (by omega)]
      exact xg g (by omega)
  · rw [fo _ (by omega) (by omega) (by omega) (by omega) (by omega), fo _ (by omega) (by omega) (by omega) (by omega) (by omega)]; exact xc c hc
  · rw [fo _ (by omega) (by omega) (by omega) (by omega) (by omega), fo _ (by omega) (by omega) (by omega) (by omega) (by omega), fo _ (by omega) (by omega) (by omega) (by omega) (by omega)]; exact xs i hi
set_option maxHeartbeats 2000000 in
theorem cm_ghostLine {σ : hs_St} {K : hs_St → Prop} {n p k : Nat} {b : Nat → Nat} {D : sp_T} {dt : Nat → Bool} {dv : Nat → Nat} (hk4 : k < 4) (hp : mp σ n b) (hn : n ≤ 160) (hb : ∀ i, i < n → b i ≤ 127) (hpn : p ≤ n) (ht : mtok σ (tk1 n b p)) (hd : mdr σ D dt dv) (h0 : D 0 0 < 4) (h6 : D 6 0 ≤ 3) (hK : ∀ τ, mg [67, 68] LZ σ τ → mln n b τ (bd n b D dt dv k p) → K τ) : OkV m_X6_readLineOf [.ref 63, .int (nI k)] σ K := by
  have c20 : σ.1 67 20 = nI (D 0 0) := hd.1.1
  unfold bd at hK
  rw [if_neg (by omega), if_neg (by omega)] at hK
  refine vc_X6_readLineOf ⟨fun h => absurd h (by rw [iti (by omega)]; omega), fun h => absurd h (by rw [iti (by omega)]; omega), fun _ => ?_⟩
  have i0 : (5 : Int32) * nI (D 0 0) + 0 = nI (5 * D 0 0) := by rw [nl_5, pk_mul]; exact Int32.add_zero _
  have i1 : (5 : Int32) * nI (D 0 0) + 1 = nI (5 * D 0 0 + 1) := by rw [nl_5, pk_mul, nI_1]
  have i2 : (5 : Int32) * nI (D 0 0) + 2 = nI (5 * D 0 0 + 2) := by rw [nl_5, pk_mul, nl_2, nI_add]
  have i3 : (5 : Int32) * nI (D 0 0) + 3 = nI (5 * D 0 0 + 3) := by rw [nl_5, pk_mul, nl_3, nI_add]
  -- behind a fault
  have tailC : ∀ (τ : hs_St) (r : Int32) (f a : Nat), mft τ f a → mg [67, 68] LZ σ τ → (∀ υ, mg [67, 68] LZ σ υ → mft υ f a → K υ) → (vp_in ((5 * nI (D 0 0)) + 3) 47 ∧ (∀ σ34 : hs_St, σ34 = hs_w τ 67 (((5 * nI (D 0 0)) + 3).toNatClampNeg) r → (∀ σ36 : hs_St, σ36 = hs_w σ34 67 20 ((σ34.1 67 20) + 1) → (K σ36)))) := by
    intro τ r f a hft hg hKK
    rw [i3, nI_clamp (by omega)]
    refine ⟨vp_in_nI (by omega) (by omega), ?_⟩
    rintro _ rfl
    rintro _ rfl
    exact hKK _ ((hg.w (by decide) (by decide)).w (by decide) (by decide)) (hft.e (fun i _ _ => by rw [w_ne (by decide), w_ne (by decide)]))
  have tailB : ∀ (τ : hs_St) (r : Int32) (f a : Nat), 1 ≤ f → f ≤ 6 → mft τ f a → mg [67, 68] LZ σ τ → τ.1 67 20 = nI (D 0 0) → (∀ υ, mg [67, 68] LZ σ υ → mft υ f a → K υ) → (vp_in ((5 * nI (D 0 0)) + 2) 47 ∧ (∀ σ29 : hs_St, σ29 = hs_w τ 67 (((5 * nI (D 0 0)) + 2).toNatClampNeg) r → (OkI m_X6_readNumber [.ref 63, .int 0, .int 5] σ29 (fun r31 σ32 => vp_in ((5 * (σ29.1 67 20)) + 3) 47 ∧ (∀ σ34 : hs_St, σ34 = hs_w σ32 67 (((5 * (σ29.1 67 20)) + 3).toNatClampNeg) r31 → (∀ σ36 : hs_St, σ36 = hs_w σ34 67 20 ((σ34.1 67 20) + 1) → (K σ36))))))) := by
    intro τ r f a hf1 hf6 hft hg hc hKK
    rw [i2, nI_clamp (by omega)]
    refine ⟨vp_in_nI (by omega) (by omega), ?_⟩
    rintro _ rfl
    have hft2 : mft (hs_w τ 67 (5 * D 0 0 + 2) r) f a := hft.e (fun i _ _ => by rw [w_ne (by decide)])
    refine cm_numF hft2 hf1 hf6 ?_
    rw [w_at (by omega), hc]
    exact tailC _ _ f a hft2 (hg.w (by decide) (by decide)) hKK
  rw [c20, i0, nI_clamp (by omega)]
  refine ⟨vp_in_nI (by omega) (by omega), ?_⟩
  rintro _ rfl
  have e1 : (1 : Int32) = nI 1 := nl_1
  have e99 : (99 : Int32) = nI 99 := nl_99
  have g0 : mg [67, 68] LZ σ (hs_w σ 67 (5 * D 0 0) (nI k)) := mg.rf.w (by decide) (by decide)
  have t0 : mtok (hs_w σ 67 (5 * D 0 0) (nI k)) (tk1 n b p) := ht.e (fun i _ _ => by rw [w_ne (by decide)])
  have num1 : ∀ {σ : hs_St} {K : Int32 → hs_St → Prop} {p : Nat}, mp σ n b → p ≤ n → mtok σ (tk1 n b p) → (∀ r τ, mg [] TZ σ τ → mnum n b r τ (nm n b p 1 99) → K r τ) → OkI m_X6_readNumber [.ref 63, .int 1, .int 99] σ K := fun h1 h2 h3 h4 => by
    rw [e1, e99]; exact cm_num h1 hn hb h2 (by omega) (by omega) h3 h4
  have num0 : ∀ {σ : hs_St} {K : Int32 → hs_St → Prop} {p : Nat}, mp σ n b → p ≤ n → mtok σ (tk1 n b p) → (∀ r τ, mg [] TZ σ τ → mnum n b r τ (nm n b p 0 5) → K r τ) → OkI m_X6_readNumber [.ref 63, .int 0, .int 5] σ K := fun h1 h2 h3 h4 => by
    have e0 : (0 : Int32) = nI 0 := nl_0
    have e5 : (5 : Int32) = nI 5 := nl_5
    rw [e0, e5]; exact cm_num h1 hn hb h2 (by omega) (by omega) h3 h4
  refine num1 (hp.g g0 (by decide) (by decide)) hpn t0 (fun r1 τ1 hg1 hm1 => ?_)
  have q1 : τ1.1 67 = (hs_w σ 67 (5 * D 0 0) (nI k)).1 67 := hg1.1 67 (by decide) (by decide)
  have g1 := g0.tr (hg1.up (by decide) (by decide))
  rw [w_at (by omega), c20, i1, nI_clamp (by omega)]
  refine ⟨vp_in_nI (by omega) (by omega), ?_⟩
  rintro _ rfl
  have g2 : mg [67, 68] LZ σ (hs_w τ1 67 (5 * D 0 0 + 1) r1) := g1.w (by decide) (by decide)
  have d20 : (hs_w τ1 67 (5 * D 0 0 + 1) r1).1 67 20 = nI (D 0 0) := by rw [w_at (by omega), q1, w_at (by omega)]; exact c20
  cases hn1 : nm n b p 1 99 with
  | error e =>
    obtain ⟨f, a⟩ := e
    rw [hn1] at hm1 hK
    have hf := nm_er hb hpn hn1
    have hft : mft (hs_w τ1 67 (5 * D 0 0 + 1) r1) f a := hm1.2.e (fun i _ _ => by rw [w_ne (by decide)])
    refine cm_numF hft hf.1 hf.2.1 ?_
    rw [d20]
    exact tailB _ _ f a hf.1 hf.2.1 hft g2 d20 hK
  | ok t =>
    obtain ⟨a, st, p1⟩ := t
    rw [hn1] at hm1 hK
    obtain ⟨rfl, ht1⟩ := hm1
    have ho1 := nm_ok hb hpn hn1
    dsimp only at hK
    refine num1 (hp.g g2 (by decide) (by decide)) ho1.2.2.2.2.1 (ht1.e (fun i _ _ => by rw [w_ne (by decide)])) (fun r2 τ2 hg2 hm2 => ?_)
    have q2 : τ2.1 67 = (hs_w τ1 67 (5 * D 0 0 + 1) (nI a)).1 67 := hg2.1 67 (by decide) (by decide)
    have g3 := g2.tr (hg2.up (by decide) (by decide))
    have d20b : τ2.1 67 20 = nI (D 0 0) := by rw [q2]; exact d20
    rw [d20]
    cases hn2 : nm n b p1 1 99 with
    | error e =>
      obtain ⟨f, z⟩ := e
      rw [hn2] at hm2 hK
      have hf := nm_er hb ho1.2.2.2.2.1 hn2
      exact tailB τ2 _ f z hf.1 hf.2.1 hm2.2 g3 d20b hK
    | ok t =>
      obtain ⟨c, st2, p2⟩ := t
      rw [hn2] at hm2 hK
      obtain ⟨rfl, ht2⟩ := hm2
      have ho2 := nm_ok hb ho1.2.2.2.2.1 hn2
      dsimp only at hK
      rw [i2, nI_clamp (by omega)]
      refine ⟨vp_in_nI (by omega) (by omega), ?_⟩
      rintro _ rfl
      have g4 : mg [67, 68] LZ σ (hs_w τ2 67 (5 * D 0 0 + 2) (nI c)) := g3.w (by decide) (by decide)
      have d20c : (hs_w τ2 67 (5 * D 0 0 + 2) (nI c)).1 67 20 = nI (D 0 0) := by rw [w_at (by omega)]; exact d20b
      refine num0 (hp.g g4 (by decide) (by decide)) ho2.2.2.2.2.1 (ht2.e (fun i _ _ => by rw [w_ne (by decide)])) (fun r3 τ3 hg3 hm3 => ?_)
      have q3 : τ3.1 67 = (hs_w τ2 67 (5 * D 0 0 + 2) (nI c)).1 67 := hg3.1 67 (by decide) (by decide)
      have g5 := g4.tr (hg3.up (by decide) (by decide))
      rw [d20c]
      cases hn3 : nm n b p2 0 5 with
      | error e =>
        obtain ⟨f, z⟩ := e
        rw [hn3] at hm3 hK
        exact tailC τ3 _ f z hm3.2 g5 hK
      | ok t =>
        obtain ⟨r, st3, p3⟩ := t
        rw [hn3] at hm3 hK
        obtain ⟨rfl, ht3⟩ := hm3
        dsimp only at hK
        rw [i3, nI_clamp (by omega)]
        refine ⟨vp_in_nI (by omega) (by omega), ?_⟩
        rintro _ rfl
        rintro _ rfl
        have d20d : (hs_w τ3 67 (5 * D 0 0 + 3) (nI r)).1 67 20 = nI (D 0 0) := by rw [w_at (by omega), q3]; exact d20c
        rw [d20d, nI_1]
        have s63 : ∀ i, i ∉ TZ → (hs_w (hs_w τ3 67 (5 * D 0 0 + 3) (nI r)) 67 20 (nI (D 0 0 + 1))).1 63 i = σ.1 63 i := by
          intro i hi
          rw [w_ne (by decide), w_ne (by decide), hg3.2 i hi, w_ne (by decide), hg2.2 i hi, w_ne (by decide), hg1.2 i hi, w_ne (by decide)]
        have s68 : (hs_w (hs_w τ3 67 (5 * D 0 0 + 3) (nI r)) 67 20 (nI (D 0 0 + 1))).1 68 = σ.1 68 := by
          rw [w_ne (by decide), w_ne (by decide), hg3.1 68 (by decide) (by decide), w_ne (by decide), hg2.1 68 (by decide) (by decide), w_ne (by decide), hg1.1 68 (by decide) (by decide), w_ne (by decide)]
        have fo : ∀ j, j ≠ 20 → j ≠ 5 * D 0 0 → j ≠ 5 * D 0 0 + 1 → j ≠ 5 * D 0 0 + 2 → j ≠ 5 * D 0 0 + 3 → (hs_w (hs_w τ3 67 (5 * D 0 0 + 3) (nI r)) 67 20 (nI (D 0 0 + 1))).1 67 j = σ.1 67 j := by
          intro j j1 j2 j3 j4 j5
          rw [w_at j1, w_at j5, q3, w_at j4, q2, w_at j3, q1, w_at j2]
        refine hK _ ((g5.w (by decide) (by decide)).w (by decide) (by decide)) ⟨⟨?_, ?_, ?_, ?_, ?_, ?_⟩, ht3.e (fun i _ _ => by rw [w_ne (by decide), w_ne (by decide)])⟩
        · refine mr_ga h0 h6 hd.1 (hd.2.2.2.2.2 _ h0) w_eq ?_ ?_ ?_ ?_ fo
          · rw [w_at (by omega), w_at (by omega), q3, w_at (by omega), q2, w_at (by omega), q1, w_eq]
          · rw [w_at (by omega), w_at (by omega), q3, w_at (by omega), q2, w_eq]
          · rw [w_at (by omega), w_at (by omega), q3, w_eq]
          · rw [w_at (by omega), w_eq]
        · rw [s63 5 (by decide), t_add_f (by omega)]; exact hd.2.1
        · rw [s63 6 (by decide)]; exact hd.2.2.1
        · rw [s63 8 (by decide)]; exact hd.2.2.2.1
        · rw [s68]; exact hd.2.2.2.2.1
        · intro g hg
          rw [fo _ (by omega) (by omega) (by omega) (by omega) (by omega)]; exact hd.2.2.2.2.2 g hg
