/-! text: what a line tells -/
def t_cl (D : sp_T) (r s : Nat) : sp_T := fun f i => if f = 6 ∧ i = 0 then D 6 0 + 1 else if f = 7 ∧ i = D 6 0 then r else if f = 8 ∧ i = D 6 0 then s else D f i
abbrev lnT : Type := Except (Nat × Nat) (sp_T × (Nat → Bool) × (Nat → Nat) × Nat)
def bd (n : Nat) (b : Nat → Nat) (D : sp_T) (dt : Nat → Bool) (dv : Nat → Nat) (k p : Nat) : lnT :=
  if k = 4 then
    match nm n b p 0 3 with
    | .error e => .error e
    | .ok (g, gs, p1) => if dt g = true then .error (4, gs) else
      match nm n b p1 0 20 with
      | .error e => .error e
      | .ok (v, _, p2) => .ok (D, up1 dt g true, up1 dv g v, p2)
  else if k = 5 then
    match nm n b p 0 5 with
    | .error e => .error e
    | .ok (r, _, p1) =>
      match nm n b p1 1 3 with
      | .error e => .error e
      | .ok (s, _, p2) => .ok (t_cl D r s, dt, dv, p2)
  else
    match nm n b p 1 99 with
    | .error e => .error e
    | .ok (a, _, p1) =>
      match nm n b p1 1 99 with
      | .error e => .error e
      | .ok (c, _, p2) =>
        match nm n b p2 0 5 with
        | .error e => .error e
        | .ok (r, _, p3) => .ok (t_add D k a c r, dt, dv, p3)
/-- the highest that is told as done -/
def mhi (x : Int32) (dt : Nat → Bool) : Prop := (x = -4 ∧ ∀ g, g < 4 → dt g = false) ∨ ∃ h, h < 4 ∧ dt h = true ∧ x = nI h ∧ ∀ g, g < 4 → dt g = true → g ≤ h
/-- the model's draft -/
def mdr (σ : hs_St) (D : sp_T) (dt : Nat → Bool) (dv : Nat → Nat) : Prop := mr (σ.1 67) D ∧ σ.1 63 5 = nI (D 6 0) ∧ σ.1 63 6 = nI (sp_bits 4 dt) ∧ mhi (σ.1 63 8) dt ∧ (∀ g, g < 4 → dt g = true → σ.1 68 g = nI (dv g)) ∧ ∀ g, g < 4 → σ.1 67 (5 * g + 4) = nI 0
def mln (n : Nat) (b : Nat → Nat) (τ : hs_St) : lnT → Prop
  | .error (f, a) => mft τ f a
  | .ok (D, dt, dv, p) => mdr τ D dt dv ∧ mtok τ (tk1 n b p)
abbrev LZ : List Nat := [5, 6, 8, 11, 12, 13, 14, 15, 16]
theorem mg.up {S Z S' Z' : List Nat} {σ τ : hs_St} (h : mg S Z σ τ) (hs : ∀ k ∈ S, k ∈ S') (hz : ∀ k ∈ Z, k ∈ Z') : mg S' Z' σ τ := ⟨fun k h1 h2 => h.1 k (fun z => h1 (hs k z)) h2, fun i hi => h.2 i (fun z => hi (hz i z))⟩
theorem mdr.g {σ τ : hs_St} {D : sp_T} {dt : Nat → Bool} {dv : Nat → Nat} (h : mdr σ D dt dv) (g : mg [] TZ σ τ) : mdr τ D dt dv := by
  unfold mdr
  rw [g.1 67 (by decide) (by decide), g.1 68 (by decide) (by decide), g.2 5 (by decide), g.2 6 (by decide), g.2 8 (by decide)]
  exact h
theorem mft.g {σ τ : hs_St} {f a : Nat} {S : List Nat} (h : mft σ f a) (g : mg S [5, 6, 8] σ τ) : mft τ f a := ⟨by rw [g.2 15 (by decide)]; exact h.1, by rw [g.2 16 (by decide)]; exact h.2⟩
theorem bd4_0 : ∀ x, x < 16 → ∀ c, c < 4 → (((nI x >>> (nI c &&& 31)) &&& 1) = 0 ↔ x.testBit c = false) := by decide +kernel
theorem mr_cl {σ : hs_St} {D : sp_T} {r s : Nat} (h0 : D 0 0 ≤ 4) (h6 : D 6 0 < 3) (hx : mr (σ.1 67) D) : mr ((hs_w (hs_w σ 67 (21 + 2 * D 6 0) (nI r)) 67 (22 + 2 * D 6 0) (nI s)).1 67) (t_cl D r s) := by
  obtain ⟨x0, x9, x10, xg, xc, xs⟩ := hx
  refine ⟨by rw [w_at (by omega), w_at (by omega)]; exact x0, by rw [w_at (by omega), w_at (by omega)]; exact x9, by rw [w_at (by omega), w_at (by omega)]; exact x10, fun g hg => ?_, fun c hc => ?_, fun i hi => ?_⟩
  · have hg : g < D 0 0 := hg
    rw [w_at (by omega), w_at (by omega), w_at (by omega), w_at (by omega), w_at (by omega), w_at (by omega), w_at (by omega), w_at (by omega), w_at (by omega), w_at (by omega)]
    exact xg g hg
  · have hc : c < D 6 0 + 1 := hc
    by_cases e : c = D 6 0
    · subst e
      rw [w_at (by omega), w_eq, w_eq]
      simp [t_cl]
    · have h := xc c (by omega)
      rw [w_at (by omega), w_at (by omega), w_at (by omega), w_at (by omega)]
      have e7 : t_cl D r s 7 c = D 7 c := by simp [t_cl, e]
      have e8 : t_cl D r s 8 c = D 8 c := by simp [t_cl, e]
      rw [e7, e8]; exact h
  · have hi : i < D 10 0 := hi
    rw [w_at (by omega), w_at (by omega), w_at (by omega), w_at (by omega), w_at (by omega), w_at (by omega)]
    exact xs i hi
theorem cm_clerkLine {σ : hs_St} {K : hs_St → Prop} {n p : Nat} {b : Nat → Nat} {D : sp_T} {dt : Nat → Bool} {dv : Nat → Nat} (hp : mp σ n b) (hn : n ≤ 160) (hb : ∀ i, i < n → b i ≤ 127) (hpn : p ≤ n) (ht : mtok σ (tk1 n b p)) (hd : mdr σ D dt dv) (h0 : D 0 0 ≤ 4) (h6 : D 6 0 < 3) (hK : ∀ τ, mg [67, 68] LZ σ τ → mln n b τ (bd n b D dt dv 5 p) → K τ) : OkV m_X6_readLineOf [.ref 63, .int 5] σ K := by
  have c5 := hd.2.1
  unfold bd at hK
  rw [if_neg (by decide), if_pos rfl] at hK
  refine vc_X6_readLineOf ⟨fun h => absurd h (by decide), fun _ => ?_, fun h => absurd (by decide) h.2⟩
  have e0 : (0 : Int32) = nI 0 := nl_0
  have e5 : (5 : Int32) = nI 5 := nl_5
  rw [e0, e5]
  refine cm_num hp hn hb hpn (by omega) (by omega) ht (fun r1 τ1 hg1 hm1 => ?_)
  rw [c5, il_c]
  refine ⟨vp_in_nI (by omega) (by omega), ?_⟩
  rintro _ rfl
  rw [nI_clamp (by omega)]
  have hgw : mg [67, 68] LZ σ (hs_w τ1 67 (21 + 2 * D 6 0) r1) := (hg1.up (by decide) (by decide)).w (by decide) (by decide)
  have hmp : mp (hs_w τ1 67 (21 + 2 * D 6 0) r1) n b := hp.g hgw (by decide) (by decide)
  have d5 : (hs_w τ1 67 (21 + 2 * D 6 0) r1).1 63 5 = nI (D 6 0) := by rw [w_ne (by decide), hg1.2 5 (by decide)]; exact c5
  have e1 : (1 : Int32) = nI 1 := nl_1
  have e3 : (3 : Int32) = nI 3 := nl_3
  have two : nI (21 + 2 * D 6 0) + 1 = nI (22 + 2 * D 6 0) := by rw [nI_1]; congr 1; omega
  cases hn1 : nm n b p 0 5 with
  | error e =>
    obtain ⟨f, a⟩ := e
    rw [hn1] at hm1 hK
    have hf := nm_er hb hpn hn1
    have hft : mft (hs_w τ1 67 (21 + 2 * D 6 0) r1) f a := ⟨by rw [w_ne (by decide)]; exact hm1.2.1, by rw [w_ne (by decide)]; exact hm1.2.2⟩
    refine cm_numF hft hf.1 hf.2.1 ?_
    rw [d5, il_c, two]
    refine ⟨vp_in_nI (by omega) (by omega), ?_⟩
    rintro _ rfl
    rintro _ rfl
    exact hK _ ((hgw.w (by decide) (by decide)).z (by decide)) ⟨by rw [w_at (by decide), w_ne (by decide)]; exact hft.1, by rw [w_at (by decide), w_ne (by decide)]; exact hft.2⟩
  | ok t =>
    obtain ⟨r, st, p1⟩ := t
    rw [hn1] at hm1 hK
    obtain ⟨rfl, ht1⟩ := hm1
    have ho := nm_ok hb hpn hn1
    dsimp only at hK
    have htw : mtok (hs_w τ1 67 (21 + 2 * D 6 0) (nI r)) (tk1 n b p1) := by
      cases hq : tk1 n b p1 with
      | error e =>
        rw [hq] at ht1
        exact ⟨by rw [w_ne (by decide)]; exact ht1.1, by rw [w_ne (by decide)]; exact ht1.2⟩
      | ok t =>
        rw [hq] at ht1
        exact ⟨by rw [w_ne (by decide)]; exact ht1.1, by rw [w_ne (by decide)]; exact ht1.2.1, by rw [w_ne (by decide)]; exact ht1.2.2.1, by rw [w_ne (by decide)]; exact ht1.2.2.2.1, fun h => by rw [w_ne (by decide)]; exact ht1.2.2.2.2 h⟩
    rw [e1, e3]
    refine cm_num hmp hn hb ho.2.2.2.2.1 (by omega) (by omega) htw (fun r2 τ2 hg2 hm2 => ?_)
    rw [d5, il_c, ← e1, two]
    refine ⟨vp_in_nI (by omega) (by omega), ?_⟩
    rintro _ rfl
    rintro _ rfl
    rw [nI_clamp (by omega)]
    have hg3 := hgw.tr (hg2.up (by decide) (by decide))
    cases hn2 : nm n b p1 1 3 with
    | error e =>
      obtain ⟨f, a⟩ := e
      rw [hn2] at hm2 hK
      exact hK _ ((hg3.w (by decide) (by decide)).z (by decide)) ⟨by rw [w_at (by decide), w_ne (by decide)]; exact hm2.2.1, by rw [w_at (by decide), w_ne (by decide)]; exact hm2.2.2⟩
    | ok t =>
      obtain ⟨s, st2, p2⟩ := t
      rw [hn2] at hm2 hK
      obtain ⟨rfl, ht2⟩ := hm2
      have c5b : τ2.1 63 5 = nI (D 6 0) := by rw [hg2.2 5 (by decide)]; exact d5
      have c5c : (hs_w τ2 67 (22 + 2 * D 6 0) (nI s)).1 63 5 = nI (D 6 0) := by rw [w_ne (by decide)]; exact c5b
      rw [c5c, nI_1]
      have e67 : τ2.1 67 = (hs_w τ1 67 (21 + 2 * D 6 0) (nI r)).1 67 := hg2.1 67 (by decide) (by decide)
      have e67' : τ1.1 67 = σ.1 67 := hg1.1 67 (by decide) (by decide)
      have a67 : ∀ j, (hs_w (hs_w τ2 67 (22 + 2 * D 6 0) (nI s)) 63 5 (nI (D 6 0 + 1))).1 67 j = (hs_w (hs_w σ 67 (21 + 2 * D 6 0) (nI r)) 67 (22 + 2 * D 6 0) (nI s)).1 67 j := by
        intro j
        rw [w_ne (by decide)]
        by_cases ej : j = 22 + 2 * D 6 0
        · subst ej; rw [w_eq, w_eq]
        · rw [w_at ej, w_at ej, e67]
          by_cases ek : j = 21 + 2 * D 6 0
          · subst ek; rw [w_eq, w_eq]
          · rw [w_at ek, w_at ek, e67']
      refine hK _ ((hg3.w (by decide) (by decide)).z (by decide)) ⟨⟨?_, ?_, ?_, ?_, ?_, ?_⟩, ?_⟩
      · rw [show (hs_w (hs_w τ2 67 (22 + 2 * D 6 0) (nI s)) 63 5 (nI (D 6 0 + 1))).1 67 = (hs_w (hs_w σ 67 (21 + 2 * D 6 0) (nI r)) 67 (22 + 2 * D 6 0) (nI s)).1 67 from funext a67]
        exact mr_cl h0 h6 hd.1
      · rw [w_eq]; rfl
      · rw [w_at (by decide), w_ne (by decide), hg2.2 6 (by decide), w_ne (by decide), hg1.2 6 (by decide)]; exact hd.2.2.1
      · rw [w_at (by decide), w_ne (by decide), hg2.2 8 (by decide), w_ne (by decide), hg1.2 8 (by decide)]; exact hd.2.2.2.1
      · intro g hg hdt
        rw [w_ne (by decide), w_ne (by decide), hg2.1 68 (by decide) (by decide), w_ne (by decide), hg1.1 68 (by decide) (by decide)]
        exact hd.2.2.2.2.1 g hg hdt
      · intro g hg
        rw [a67, w_at (by omega), w_at (by omega)]; exact hd.2.2.2.2.2 g hg
      · cases hq : tk1 n b p2 with
        | error e =>
          rw [hq] at ht2
          exact ⟨by rw [w_at (by decide), w_ne (by decide)]; exact ht2.1, by rw [w_at (by decide), w_ne (by decide)]; exact ht2.2⟩
        | ok t =>
          rw [hq] at ht2
          exact ⟨by rw [w_at (by decide), w_ne (by decide)]; exact ht2.1, by rw [w_at (by decide), w_ne (by decide)]; exact ht2.2.1, by rw [w_at (by decide), w_ne (by decide)]; exact ht2.2.2.1, by rw [w_at (by decide), w_ne (by decide)]; exact ht2.2.2.2.1, fun h => by rw [w_at (by decide), w_ne (by decide)]; exact ht2.2.2.2.2 h⟩
