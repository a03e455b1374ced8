/-! text: a done line, a line, all of the model's text -/
theorem bit_new : ∀ x, x < 16 → ∀ g, g < 4 → x.testBit g = false → nI x ||| ((1 : Int32) <<< (nI g &&& 31)) = nI (x + 2 ^ g) := by decide +kernel
theorem bits_up {dt : Nat → Bool} {g : Nat} (hg : g < 4) (h : dt g = false) : sp_bits 4 (up1 dt g true) = sp_bits 4 dt + 2 ^ g := by
  rcases (show g = 0 ∨ g = 1 ∨ g = 2 ∨ g = 3 by omega) with rfl | rfl | rfl | rfl <;> simp [sp_bits, sp_bit, up1, h] <;> omega
set_option maxHeartbeats 2000000 in
theorem cm_doneLine {σ : hs_St} {K : hs_St → Prop} {n p : Nat} {b : Nat → Nat} {D : sp_T} {dt : Nat → Bool} {dv : Nat → Nat} (hp : mp σ n b) (hn : n ≤ 160) (hb : ∀ i, i < n → b i ≤ 127) (hpn : p ≤ n) (ht : mtok σ (tk1 n b p)) (hd : mdr σ D dt dv) (hK : ∀ τ, mg [67, 68] LZ σ τ → mln n b τ (bd n b D dt dv 4 p) → K τ) : OkV m_X6_readLineOf [.ref 63, .int 4] σ K := by
  unfold bd at hK
  rw [if_pos rfl] at hK
  refine vc_X6_readLineOf ⟨fun _ => ?_, fun h => absurd h (by decide), fun h => absurd (by decide) h.1⟩
  have e0 : (0 : Int32) = nI 0 := nl_0
  have e3 : (3 : Int32) = nI 3 := nl_3
  have look : ∀ {K : Int32 → hs_St → Prop}, (∀ r τ, mg [] TZ σ τ → mlook n b p r τ (nm n b p 0 3) → K r τ) → OkI m_X6_looked [.ref 63, .int 0, .int 3] σ K := fun h => by
    rw [e0, e3]; exact cm_looked hn hb hpn (by omega) (by omega) ht h
  -- behind a fault
  have tail : ∀ (τ : hs_St) (g f a : Nat), g < 4 → 1 ≤ f → f ≤ 6 → mft τ f a → mg [67, 68] LZ σ τ → (∀ υ, mg [67, 68] LZ σ υ → mft υ f a → K υ) → RnV m_X6_readDone 28 [(0, .ref 63), (1, .int (nI g))] [] τ (fun σ3 => K σ3) := by
    intro τ g f a hg4 hf1 hf6 hft hg hKK
    have step : ∀ (υ : hs_St), mft υ f a → mg [67, 68] LZ σ υ → RnV m_X6_readDone 67 [(0, .ref 63), (1, .int (nI g))] [] υ (fun σ3 => K σ3) := by
      intro υ hft2 hg2
      refine vc_X6_readDone_67 (cm_takesF hft2.1 (by omega) hf6 (cm_numF hft2 hf1 hf6 ⟨vp_in_nI hg4 (by omega), ?_⟩))
      rintro _ rfl
      exact hKK _ (hg2.w (by decide) (by decide)) (hft2.e (fun i _ _ => by rw [w_ne (by decide)]))
    refine vc_X6_readDone_28 ?_
    rintro _ rfl
    have hft2 : mft (hs_w τ 63 6 ((τ.1 63 6) ||| ((1 : Int32) <<< (nI g &&& 31)))) f a := hft.e (fun i h1 h2 => w_at (by omega))
    refine ⟨fun _ => ?_, fun h => absurd h (mft_0 hft2 hf1 hf6)⟩
    rintro _ rfl
    exact step _ (hft2.e (fun i h1 h2 => w_at (by omega))) ((hg.z (by decide)).z (by decide))
  refine vc_X6_readDone (look (fun r1 τ1 hg1 hm1 => ?_))
  have g1 : mg [67, 68] LZ σ τ1 := hg1.up (by decide) (by decide)
  cases hn1 : nm n b p 0 3 with
  | error e =>
    obtain ⟨f, a⟩ := e
    rw [hn1] at hm1 hK
    have hf := nm_er hb hpn hn1
    obtain ⟨rfl, hft⟩ := hm1
    have tl := tail τ1 0 f a (by omega) hf.1 hf.2.1 hft g1 hK
    rw [nI_0] at tl
    exact ⟨fun _ => cm_needsF (mft_0 hft hf.1 hf.2.1) tl, fun _ => cm_needsF (mft_0 hft hf.1 hf.2.1) tl⟩
  | ok t =>
    obtain ⟨g, gs, p1⟩ := t
    rw [hn1] at hm1 hK
    obtain ⟨rfl, ht1⟩ := hm1
    have ho := nm_ok hb hpn hn1
    have hg4 : g < 4 := by omega
    rw [ho.2.2.2.2.2] at ht1
    obtain ⟨c15, c13, c12, c11, c14⟩ := ht1
    have c6 : τ1.1 63 6 = nI (sp_bits 4 dt) := by rw [hg1.2 6 (by decide)]; exact hd.2.2.1
    have hb16 : sp_bits 4 dt < 16 := sp_bits_lt dt 4
    dsimp only at hK
    rw [c6, bd4_0 _ hb16 g hg4, bits_at _ _ _ hg4]
    refine ⟨fun h => ?_, fun h => cm_needs1 ?_⟩
    · have hdt : dt g = true := by simpa using h
      rw [if_pos hdt] at hK
      have := cm_needs0 (K := fun σ8 => RnV m_X6_readDone 28 [(0, .ref 63), (1, .int (nI g))] [] σ8 (fun σ3 => K σ3)) (f := 4) c15 c12 (fun υ hg2 d1 d2 _ => tail υ g 4 gs hg4 (by omega) (by omega) ⟨d1, d2⟩ (g1.tr (hg2.up (by decide) (by decide))) hK)
      exact this
    · rw [if_neg (by rw [h]; decide)] at hK
      refine vc_X6_readDone_28 ?_
      rintro _ rfl
      rw [c6, bit_new _ hb16 g hg4 (by rw [bits_at _ _ _ hg4]; exact h), ← bits_up hg4 h]
      have fin : ∀ x : Int32, mhi x (up1 dt g true) → RnV m_X6_readDone 67 [(0, .ref 63), (1, .int (nI g))] [] (hs_w (hs_w τ1 63 6 (nI (sp_bits 4 (up1 dt g true)))) 63 8 x) (fun σ3 => K σ3) := by
        intro x hx
        have g2 : mg [67, 68] LZ σ (hs_w (hs_w τ1 63 6 (nI (sp_bits 4 (up1 dt g true)))) 63 8 x) := (g1.z (by decide)).z (by decide)
        refine vc_X6_readDone_67 (cm_takes (p := p1) (hp.g g2 (by decide) (by decide)) hn hb (by rw [w_at (by decide), w_at (by decide)]; exact c15) (by rw [w_at (by decide), w_at (by decide)]; exact c11) ho.2.2.2.2.1 (fun τ2 hg2 ht2 => ?_))
        have g3 := g2.tr (hg2.up (by decide) (by decide))
        have e20 : (20 : Int32) = nI 20 := nl_20
        rw [e0, e20]
        refine cm_num (hp.g g3 (by decide) (by decide)) hn hb ho.2.2.2.2.1 (by omega) (by omega) ht2 (fun r3 τ3 hg3 hm3 => ⟨vp_in_nI hg4 (by omega), ?_⟩)
        have g4 := g3.tr (hg3.up (by decide) (by decide))
        rintro _ rfl
        rw [nI_clamp (by omega)]
        cases hn2 : nm n b p1 0 20 with
        | error e =>
          obtain ⟨f, a⟩ := e
          rw [hn2] at hm3 hK
          exact hK _ (g4.w (by decide) (by decide)) (hm3.2.e (fun i _ _ => by rw [w_ne (by decide)]))
        | ok t =>
          obtain ⟨v, st2, p2⟩ := t
          rw [hn2] at hm3 hK
          obtain ⟨rfl, ht3⟩ := hm3
          have s67 : τ3.1 67 = σ.1 67 := by rw [hg3.1 67 (by decide) (by decide), hg2.1 67 (by decide) (by decide), w_ne (by decide), w_ne (by decide), hg1.1 67 (by decide) (by decide)]
          have s68 : τ3.1 68 = σ.1 68 := by rw [hg3.1 68 (by decide) (by decide), hg2.1 68 (by decide) (by decide), w_ne (by decide), w_ne (by decide), hg1.1 68 (by decide) (by decide)]
          have s63 : ∀ i, i ∉ TZ → τ3.1 63 i = (hs_w (hs_w τ1 63 6 (nI (sp_bits 4 (up1 dt g true)))) 63 8 x).1 63 i := fun i hi => by rw [hg3.2 i hi, hg2.2 i hi]
          refine hK _ (g4.w (by decide) (by decide)) ⟨⟨?_, ?_, ?_, ?_, ?_, ?_⟩, ht3.e (fun i _ _ => by rw [w_ne (by decide)])⟩
          · rw [w_ne (by decide), s67]; exact hd.1
          · rw [w_ne (by decide), s63 5 (by decide), w_at (by decide), w_at (by decide), hg1.2 5 (by decide)]; exact hd.2.1
          · rw [w_ne (by decide), s63 6 (by decide), w_at (by decide), w_eq]
          · rw [w_ne (by decide), s63 8 (by decide), w_eq]; exact hx
          · intro z hz hdz
            by_cases e : z = g
            · subst e; rw [w_eq, up1_eq]
            · rw [up1_ne e] at hdz
              rw [w_at e, up1_ne e, s68]; exact hd.2.2.2.2.1 z hz hdz
          · intro z hz
            rw [w_ne (by decide), s67]; exact hd.2.2.2.2.2 z hz
      have c8 : (hs_w τ1 63 6 (nI (sp_bits 4 (up1 dt g true)))).1 63 8 = σ.1 63 8 := by rw [w_at (by decide), hg1.2 8 (by decide)]
      have hh := hd.2.2.2.1
      refine ⟨fun h5 => absurd (by rw [w_at (by decide), c15, nI_0]) h5, fun _ => ?_⟩
      rw [c8]
      refine ⟨fun h8 => ?_, fun h8 => ?_⟩
      · rintro _ rfl
        refine fin _ ?_
        rcases hh with ⟨hx, _⟩ | ⟨m, hm4, hdm, hx, hmx⟩
        · rw [hx] at h8
          rw [Int32.le_iff_toInt_le, iti (by omega)] at h8
          have : (-4 : Int32).toInt = -4 := by decide
          omega
        · rw [hx, il (by omega) (by omega)] at h8
          refine Or.inr ⟨m, hm4, ?_, hx, fun z hz hdz => ?_⟩
          · by_cases e : m = g
            · subst e; rw [up1_eq]
            · rw [up1_ne e]; exact hdm
          · by_cases e : z = g
            · omega
            · rw [up1_ne e] at hdz; exact hmx z hz hdz
      · rintro _ rfl
        refine fin _ (Or.inr ⟨g, hg4, up1_eq, rfl, fun z hz hdz => ?_⟩)
        by_cases e : z = g
        · omega
        · rw [up1_ne e] at hdz
          rcases hh with ⟨hx, hno⟩ | ⟨m, hm4, hdm, hx, hmx⟩
          · rw [hno z hz] at hdz; cases hdz
          · rw [hx, il (by omega) (by omega)] at h8
            have := hmx z hz hdz
            omega
/-- a line: its first token has sort s, from st to pl -/
def ln1 (n : Nat) (b : Nat → Nat) (D : sp_T) (dt : Nat → Bool) (dv : Nat → Nat) (s st pl : Nat) : lnT :=
  if s = 1 ∧ knd b st pl ≠ 6 then
    (if knd b st pl = 4 ∨ (knd b st pl = 5 ∧ D 6 0 < 3) ∨ (knd b st pl < 4 ∧ D 0 0 < 4) then
      match bd n b D dt dv (knd b st pl) pl with
      | .error e => .error e
      | .ok (D', dt', dv', p') => match smi n b p' with
        | .error e => .error e
        | .ok p'' => .ok (D', dt', dv', p'')
    else .error (5, st))
  else .error (2, st)
