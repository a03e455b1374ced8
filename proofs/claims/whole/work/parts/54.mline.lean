/-! text: a line of the model -/
theorem smi_er {n p f a : Nat} {b : Nat → Nat} (hb : ∀ i, i < n → b i ≤ 127) (hp : p ≤ n) (h : smi n b p = .error (f, a)) : 1 ≤ f ∧ f ≤ 6 ∧ a ≤ n := by
  unfold smi at h
  cases ht : tk1 n b p with
  | error e =>
    obtain ⟨f2, a2⟩ := e
    rw [ht] at h
    dsimp only at h
    injection h with h; injection h with e1 e2
    have := tk1_er hp ht
    omega
  | ok t =>
    obtain ⟨s, st2, pl2, v2⟩ := t
    rw [ht] at h
    have h0 := tk1_ok hb hp ht
    dsimp only at h
    split at h
    · cases h
    · injection h with h; injection h with e1 e2
      omega
theorem smi_ok {n p q : Nat} {b : Nat → Nat} (hb : ∀ i, i < n → b i ≤ 127) (hp : p ≤ n) (h : smi n b p = .ok q) : p < q ∧ q ≤ n := by
  unfold smi at h
  cases ht : tk1 n b p with
  | error e => rw [ht] at h; cases h
  | ok t =>
    obtain ⟨s, st2, pl2, v2⟩ := t
    rw [ht] at h
    have h0 := tk1_ok hb hp ht
    dsimp only at h
    split at h
    · rename_i hs
      injection h with h
      have := h0.2.2.2.1 (by omega)
      omega
    · cases h
theorem bd_er {n p k f a : Nat} {b : Nat → Nat} {D : sp_T} {dt : Nat → Bool} {dv : Nat → Nat} (hb : ∀ i, i < n → b i ≤ 127) (hp : p ≤ n) (h : bd n b D dt dv k p = .error (f, a)) : 1 ≤ f ∧ f ≤ 6 ∧ a ≤ n := by
  have key : ∀ {p lo hi : Nat} {x : Except (Nat × Nat) (Nat × Nat × Nat)}, p ≤ n → nm n b p lo hi = x → x = .error (f, a) → 1 ≤ f ∧ f ≤ 6 ∧ a ≤ n := fun h1 h2 h3 => nm_er hb h1 (h2.trans h3)
  unfold bd at h
  split at h
  · cases h1 : nm n b p 0 3 with
    | error e => rw [h1] at h; injection h with h; exact key hp h1 (by rw [h])
    | ok t =>
      obtain ⟨g, gs, p1⟩ := t
      rw [h1] at h
      have o1 := nm_ok hb hp h1
      dsimp only at h
      split at h
      · injection h with h; injection h with e1 e2; omega
      · cases h2 : nm n b p1 0 20 with
        | error e => rw [h2] at h; injection h with h; exact key o1.2.2.2.2.1 h2 (by rw [h])
        | ok t => rw [h2] at h; cases h
  · split at h
    · cases h1 : nm n b p 0 5 with
      | error e => rw [h1] at h; injection h with h; exact key hp h1 (by rw [h])
      | ok t =>
        obtain ⟨g, gs, p1⟩ := t
        rw [h1] at h
        have o1 := nm_ok hb hp h1
        dsimp only at h
        cases h2 : nm n b p1 1 3 with
        | error e => rw [h2] at h; injection h with h; exact key o1.2.2.2.2.1 h2 (by rw [h])
        | ok t => rw [h2] at h; cases h
    · cases h1 : nm n b p 1 99 with
      | error e => rw [h1] at h; injection h with h; exact key hp h1 (by rw [h])
      | ok t =>
        obtain ⟨g, gs, p1⟩ := t
        rw [h1] at h
        have o1 := nm_ok hb hp h1
        dsimp only at h
        cases h2 : nm n b p1 1 99 with
        | error e => rw [h2] at h; injection h with h; exact key o1.2.2.2.2.1 h2 (by rw [h])
        | ok t =>
          obtain ⟨c, cs, p2⟩ := t
          rw [h2] at h
          have o2 := nm_ok hb o1.2.2.2.2.1 h2
          dsimp only at h
          cases h3 : nm n b p2 0 5 with
          | error e => rw [h3] at h; injection h with h; exact key o2.2.2.2.2.1 h3 (by rw [h])
          | ok t => rw [h3] at h; cases h
/-- what a draft keeps -/
def dkk (D : sp_T) (dt : Nat → Bool) (dv : Nat → Nat) : Prop := tk D ∧ D 9 0 = 0 ∧ D 10 0 = 0 ∧ ∀ g, g < 4 → dt g = true → dv g ≤ 20
theorem tk_cl {D : sp_T} {r s : Nat} (h : tk D) (h6 : D 6 0 < 3) (hr : r < 6) (hs : 1 ≤ s ∧ s ≤ 3) : tk (t_cl D r s) := by
  obtain ⟨k0, k6, k9, k10, kg, kc, ks⟩ := h
  refine ⟨k0, show D 6 0 + 1 ≤ 3 by omega, k9, k10, kg, fun c hc => ?_, ks⟩
  have hc : c < D 6 0 + 1 := hc
  by_cases e : c = D 6 0
  · subst e
    have e7 : t_cl D r s 7 (D 6 0) = r := by simp [t_cl]
    have e8 : t_cl D r s 8 (D 6 0) = s := by simp [t_cl]
    rw [e7, e8]; exact ⟨hr, hs⟩
  · have e7 : t_cl D r s 7 c = D 7 c := by simp [t_cl, e]
    have e8 : t_cl D r s 8 c = D 8 c := by simp [t_cl, e]
    rw [e7, e8]; exact kc c (by omega)
theorem bd_ok {n p k p' : Nat} {b : Nat → Nat} {D D' : sp_T} {dt dt' : Nat → Bool} {dv dv' : Nat → Nat} (hb : ∀ i, i < n → b i ≤ 127) (hp : p ≤ n) (hk6 : k < 6) (hk : dkk D dt dv) (hc : k = 4 ∨ (k = 5 ∧ D 6 0 < 3) ∨ (k < 4 ∧ D 0 0 < 4)) (h : bd n b D dt dv k p = .ok (D', dt', dv', p')) : p < p' ∧ p' ≤ n ∧ dkk D' dt' dv' := by
  obtain ⟨k1, k9, k10, kd⟩ := hk
  unfold bd at h
  split at h
  · cases h1 : nm n b p 0 3 with
    | error e => rw [h1] at h; cases h
    | ok t =>
      obtain ⟨g, gs, p1⟩ := t
      rw [h1] at h
      have o1 := nm_ok hb hp h1
      dsimp only at h
      split at h
      · cases h
      · cases h2 : nm n b p1 0 20 with
        | error e => rw [h2] at h; cases h
        | ok t =>
          obtain ⟨v, vs, p2⟩ := t
          rw [h2] at h
          have o2 := nm_ok hb o1.2.2.2.2.1 h2
          dsimp only at h
          injection h with h; injection h with e1 h; injection h with e2 h; injection h with e3 e4
          subst e1 e2 e3 e4
          refine ⟨by omega, by omega, k1, k9, k10, fun z hz hdz => ?_⟩
          by_cases e : z = g
          · subst e; rw [up1_eq]; omega
          · rw [up1_ne e] at hdz ⊢; exact kd z hz hdz
  · split at h
    · cases h1 : nm n b p 0 5 with
      | error e => rw [h1] at h; cases h
      | ok t =>
        obtain ⟨g, gs, p1⟩ := t
        rw [h1] at h
        have o1 := nm_ok hb hp h1
        dsimp only at h
        cases h2 : nm n b p1 1 3 with
        | error e => rw [h2] at h; cases h
        | ok t =>
          obtain ⟨v, vs, p2⟩ := t
          rw [h2] at h
          have o2 := nm_ok hb o1.2.2.2.2.1 h2
          dsimp only at h
          injection h with h; injection h with e1 h; injection h with e2 h; injection h with e3 e4
          subst e1 e2 e3 e4
          exact ⟨by omega, by omega, tk_cl k1 (by omega) (by omega) (by omega), k9, k10, kd⟩
    · cases h1 : nm n b p 1 99 with
      | error e => rw [h1] at h; cases h
      | ok t =>
        obtain ⟨g, gs, p1⟩ := t
        rw [h1] at h
        have o1 := nm_ok hb hp h1
        dsimp only at h
        cases h2 : nm n b p1 1 99 with
        | error e => rw [h2] at h; cases h
        | ok t =>
          obtain ⟨c, cs, p2⟩ := t
          rw [h2] at h
          have o2 := nm_ok hb o1.2.2.2.2.1 h2
          dsimp only at h
          cases h3 : nm n b p2 0 5 with
          | error e => rw [h3] at h; cases h
          | ok t =>
            obtain ⟨r, rs, p3⟩ := t
            rw [h3] at h
            have o3 := nm_ok hb o2.2.2.2.2.1 h3
            dsimp only at h
            injection h with h; injection h with e1 h; injection h with e2 h; injection h with e3 e4
            subst e1 e2 e3 e4
            refine ⟨by omega, by omega, tk_add k1 (by omega) (by omega) (by omega) (by omega) (by omega), ?_, ?_, kd⟩
            · rw [t_add_f (by omega)]; exact k9
            · rw [t_add_f (by omega)]; exact k10
theorem bd_fault {n p k f a : Nat} {b : Nat → Nat} {D : sp_T} {dt : Nat → Bool} {dv : Nat → Nat} (h : tk1 n b p = .error (f, a)) : bd n b D dt dv k p = .error (f, a) := by
  have hn : ∀ lo hi, nm n b p lo hi = .error (f, a) := fun lo hi => by unfold nm; rw [h]
  unfold bd
  rw [hn, hn, hn]
  split
  · rfl
  · split <;> rfl
set_option maxHeartbeats 2000000 in
theorem cm_readLine {σ : hs_St} {K : hs_St → Prop} {n p s st pl v : Nat} {b : Nat → Nat} {D : sp_T} {dt : Nat → Bool} {dv : Nat → Nat} (hp : mp σ n b) (hn : n ≤ 160) (hb : ∀ i, i < n → b i ≤ 127) (hpn : p ≤ n) (htk : tk1 n b p = .ok (s, st, pl, v)) (ht : mtok σ (.ok (s, st, pl, v))) (hd : mdr σ D dt dv) (hk : dkk D dt dv) (hK : ∀ τ, mg [67, 68] LZ σ τ → mln n b τ (ln1 n b D dt dv s st pl) → K τ) : OkV m_X6_readLine [.ref 63] σ K := by
  have h0 := tk1_ok hb hpn htk
  obtain ⟨c15, c13, c12, c11, c14⟩ := ht
  have c20 : σ.1 67 20 = nI (D 0 0) := hd.1.1
  have c5 := hd.2.1
  have k0 := hk.1.1
  have k6 := hk.1.2.1
  have LT : mg [] TZ σ σ := mg.rf
  -- behind a fault
  have tail : ∀ (τ : hs_St) (a1 : Int32) (f a : Nat), 1 ≤ f → f ≤ 6 → mft τ f a → mg [67, 68] LZ σ τ → (∀ υ, mg [67, 68] LZ σ υ → mft υ f a → K υ) → RnV m_X6_readLine 76 [(0, .ref 63), (1, .int a1)] [] τ K := by
    intro τ a1 f a hf1 hf6 hft hg hKK
    refine vc_X6_readLine_76 (cm_takesF hft.1 (by omega) hf6 ⟨fun h => absurd h (by rw [hft.1, nl_0, il (by omega) (by omega)]; omega), fun _ => hKK τ hg hft⟩)
  have bad2 : (∀ τ, mg [67, 68] LZ σ τ → mft τ 2 st → K τ) → RnV m_X6_readLine 18 [(0, .ref 63), (1, .int (-4))] [] σ K := by
    intro hKK
    refine vc_X6_readLine_18 ⟨fun _ => ?_, fun h => absurd rfl h⟩
    have := cm_needs0 (K := fun σ5 => RnV m_X6_readLine 34 [(0, .ref 63), (1, .int (-4))] [] σ5 K) (f := 2) c15 c12 (fun τ hg d1 d2 _ => by
      have hft : mft τ 2 st := ⟨d1, d2⟩
      have hnz := mft_0 hft (by omega) (by omega)
      have tl := tail τ (-4) 2 st (by omega) (by omega) hft (hg.up (by decide) (by decide)) hKK
      exact vc_X6_readLine_34 ⟨fun h => absurd h (by decide), fun _ => ⟨fun _ => ⟨fun _ => cm_needsF hnz tl, fun _ => cm_needsF hnz tl⟩, fun h => absurd h (by decide)⟩⟩)
    exact this
  have good : ∀ k, k < 6 → (k = 4 ∨ (k = 5 ∧ D 6 0 < 3) ∨ (k < 4 ∧ D 0 0 < 4)) → (∀ τ, mg [67, 68] LZ σ τ → mln n b τ (match bd n b D dt dv k pl with
      | .error e => .error e
      | .ok (D', dt', dv', p') => match smi n b p' with
        | .error e => .error e
        | .ok p'' => .ok (D', dt', dv', p'')) → K τ) → RnV m_X6_readLine 76 [(0, .ref 63), (1, .int (nI k))] [] σ K := by
    intro k hk6 hck hKK
    refine vc_X6_readLine_76 (cm_takes hp hn hb c15 c11 h0.2.2.1 (fun τ1 hg1 ht1 => ?_))
    have g1 : mg [67, 68] LZ σ τ1 := hg1.up (by decide) (by decide)
    cases hq : tk1 n b pl with
    | error e =>
      obtain ⟨f, a⟩ := e
      have hf := tk1_er h0.2.2.1 hq
      have hft : mft τ1 f a := by rw [hq] at ht1; exact ht1
      rw [bd_fault hq] at hKK
      exact ⟨fun h => absurd h (by rw [hft.1, nl_0, il (by omega) (by omega)]; omega), fun _ => hKK τ1 g1 hft⟩
    | ok t =>
      have hz : τ1.1 63 15 = nI 0 := by rw [hq] at ht1; exact ht1.1
      refine ⟨fun _ => ?_, fun h => absurd (by rw [hz]; decide) h⟩
      have body : ∀ (τ2 : hs_St), mg [67, 68] LZ τ1 τ2 → mln n b τ2 (bd n b D dt dv k pl) → (¬ (τ2.1 63 15) = 0 → (RnV m_X6_readLine 118 [(0, .ref 63), (1, .int (nI k))] [] τ2 K)) ∧ ((τ2.1 63 15) = 0 → ((¬ (τ2.1 63 13) = 3 → (OkV m_X6_needs [.ref 63, .int 0, .int 2] τ2 (fun σ17 => RnV m_X6_readLine 118 [(0, .ref 63), (1, .int (nI k))] [] σ17 K))) ∧ ((τ2.1 63 13) = 3 → (OkV m_X6_needs [.ref 63, .int 1, .int 2] τ2 (fun σ20 => RnV m_X6_readLine 118 [(0, .ref 63), (1, .int (nI k))] [] σ20 K))))) := by
        intro τ2 hg2 hm2
        have g2 := g1.tr hg2
        cases hbd : bd n b D dt dv k pl with
        | error e =>
          obtain ⟨f, a⟩ := e
          rw [hbd] at hm2 hKK
          have hf := bd_er hb h0.2.2.1 hbd
          have hft : mft τ2 f a := hm2
          exact ⟨fun _ => vc_X6_readLine_118 (cm_takesF hft.1 (by omega) hf.2.1 (hKK τ2 g2 hft)), fun h => absurd h (mft_0 hft hf.1 hf.2.1)⟩
        | ok q =>
          obtain ⟨D', dt', dv', p'⟩ := q
          rw [hbd] at hm2 hKK
          dsimp only at hKK
          have ho := bd_ok hb h0.2.2.1 hk6 hk hck hbd
          obtain ⟨hd2, ht2⟩ := hm2
          cases hq2 : tk1 n b p' with
          | error e =>
            obtain ⟨f, a⟩ := e
            have hf := tk1_er ho.2.1 hq2
            have hft : mft τ2 f a := by rw [hq2] at ht2; exact ht2
            have hs : smi n b p' = .error (f, a) := by unfold smi; rw [hq2]
            rw [hs] at hKK
            exact ⟨fun _ => vc_X6_readLine_118 (cm_takesF hft.1 (by omega) (by omega) (hKK τ2 g2 hft)), fun h => absurd h (mft_0 hft (by omega) (by omega))⟩
          | ok t2 =>
            obtain ⟨s2, st2, pl2, v2⟩ := t2
            have h2 := tk1_ok hb ho.2.1 hq2
            rw [hq2] at ht2
            obtain ⟨f15, f13, f12, f11, f14⟩ := ht2
            have hs : smi n b p' = if s2 = 3 then .ok pl2 else .error (2, st2) := by unfold smi; rw [hq2]
            refine ⟨fun h => absurd (by rw [f15, nI_0]) h, fun _ => ?_⟩
            rw [f13, nl_3, ieq (by omega) (by omega)]
            refine ⟨fun h3 => ?_, fun h3 => cm_needs1 ?_⟩
            · rw [hs, if_neg h3] at hKK
              have := cm_needs0 (K := fun σ17 => RnV m_X6_readLine 118 [(0, .ref 63), (1, .int (nI k))] [] σ17 K) (f := 2) f15 f12 (fun υ hg3 d1 d2 _ => vc_X6_readLine_118 (cm_takesF d1 (by omega) (by omega) (hKK υ (g2.tr (hg3.up (by decide) (by decide))) ⟨d1, d2⟩)))
              exact this
            · rw [hs, if_pos h3] at hKK
              exact vc_X6_readLine_118 (cm_takes (hp.g g2 (by decide) (by decide)) hn hb f15 f11 h2.2.2.1 (fun υ hg3 ht3 => hKK υ (g2.tr (hg3.up (by decide) (by decide))) ⟨hd2.g hg3, ht3⟩))
      have hp1 := hp.g g1 (by decide) (by decide)
      have hd1 := hd.g hg1
      rcases hck with rfl | ⟨rfl, h6⟩ | ⟨h4, hg0⟩
      · exact cm_doneLine hp1 hn hb h0.2.2.1 ht1 hd1 body
      · exact cm_clerkLine hp1 hn hb h0.2.2.1 ht1 hd1 k0 h6 body
      · exact cm_ghostLine h4 hp1 hn hb h0.2.2.1 ht1 hd1 hg0 k6 body
  unfold ln1 at hK
  by_cases hs1 : s = 1
  · refine vc_X6_readLine ⟨fun h => absurd (by rw [c13, hs1]; decide) h, fun _ => cm_lineNow hp hn hb c12 c11 h0.2.1 h0.2.2.1 ?_⟩
    by_cases h6 : knd b st pl = 6
    · rw [if_pos h6]
      rw [if_neg (fun z => z.2 h6)] at hK
      exact bad2 hK
    · rw [if_neg h6]
      rw [if_pos ⟨hs1, h6⟩] at hK
      have hkl := knd_le (b := b) (st := st) (pl := pl)
      generalize knd b st pl = k at hK h6 hkl
      refine vc_X6_readLine_18 ⟨fun h => absurd h (im4 (by omega)), fun _ => cm_needs1 ?_⟩
      have bad5 : ¬ (k = 4 ∨ (k = 5 ∧ D 6 0 < 3) ∨ (k < 4 ∧ D 0 0 < 4)) → OkV m_X6_needs [.ref 63, .int 0, .int 5] σ (fun σ14 => RnV m_X6_readLine 76 [(0, .ref 63), (1, .int (nI k))] [] σ14 K) := by
        intro hc
        rw [if_neg hc] at hK
        have := cm_needs0 (K := fun σ14 => RnV m_X6_readLine 76 [(0, .ref 63), (1, .int (nI k))] [] σ14 K) (f := 5) c15 c12 (fun τ hg d1 d2 _ => tail τ (nI k) 5 st (by omega) (by omega) ⟨d1, d2⟩ (hg.up (by decide) (by decide)) hK)
        exact this
      have go : (k = 4 ∨ (k = 5 ∧ D 6 0 < 3) ∨ (k < 4 ∧ D 0 0 < 4)) → OkV m_X6_needs [.ref 63, .int 1, .int 5] σ (fun σ14 => RnV m_X6_readLine 76 [(0, .ref 63), (1, .int (nI k))] [] σ14 K) := by
        intro hc
        rw [if_pos hc] at hK
        exact cm_needs1 (good k (by omega) hc hK)
      refine vc_X6_readLine_34 ?_
      rw [c20, c5, nl_4, nl_5, ieq (by omega) (by omega), ieq (by omega) (by omega), il (by omega) (by omega)]
      have i3 : ((3 : Int32) ≤ nI (D 6 0)) = (3 ≤ D 6 0) := by rw [nl_3, il (by omega) (by omega)]
      rw [i3]
      exact ⟨fun h => go (Or.inl h), fun h4 => ⟨fun h5 => ⟨fun h => bad5 (by omega), fun h => go (by omega)⟩, fun h5 => ⟨fun h => bad5 (by omega), fun h => go (by omega)⟩⟩⟩
  · rw [if_neg (fun z => hs1 z.1)] at hK
    exact vc_X6_readLine ⟨fun _ => bad2 hK, fun h => absurd h (by rw [c13, nl_1, ieq (by omega) (by omega)]; exact hs1)⟩
