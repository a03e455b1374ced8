/-! what a walk of the model leaves as it was -/
def mf (S : List Nat) (σ τ : hs_St) : Prop := τ.2 = σ.2 ∧ (∀ k, k ∉ S → k ≠ 63 → τ.1 k = σ.1 k) ∧ ∀ i, i ≠ 17 → τ.1 63 i = σ.1 63 i
theorem mf.rf {S : List Nat} {σ : hs_St} : mf S σ σ := ⟨rfl, fun _ _ _ => rfl, fun _ _ => rfl⟩
theorem mf.tr {S : List Nat} {σ τ υ : hs_St} (h : mf S σ τ) (g : mf S τ υ) : mf S σ υ := ⟨g.1.trans h.1, fun k h1 h2 => (g.2.1 k h1 h2).trans (h.2.1 k h1 h2), fun i hi => (g.2.2 i hi).trans (h.2.2 i hi)⟩
theorem mf.up {S U : List Nat} {σ τ : hs_St} (h : mf S σ τ) (hs : ∀ k ∈ S, k ∈ U) : mf U σ τ := ⟨h.1, fun k hk h2 => h.2.1 k (fun z => hk (hs k z)) h2, h.2.2⟩
theorem mf.of {S : List Nat} {σ τ : hs_St} (h : hs_fr S σ τ) (h63 : 63 ∉ S) : mf S σ τ := ⟨h.1, fun k hk _ => h.2 k hk, fun i _ => by rw [h.2 63 h63]⟩
theorem mf.w {S : List Nat} {σ τ : hs_St} (h : mf S σ τ) {k i : Nat} {v : Int32} (hk : k ∈ S) (h6 : k ≠ 63) : mf S σ (hs_w τ k i v) := ⟨h.1, fun j hj h2 => by
  have e : j ≠ k := fun e => hj (e ▸ hk)
  rw [w_ne e]; exact h.2.1 j hj h2, fun j hj => by rw [w_ne (Ne.symm h6)]; exact h.2.2 j hj⟩
theorem mf.w17 {S : List Nat} {σ τ : hs_St} (h : mf S σ τ) {v : Int32} : mf S σ (hs_w τ 63 17 v) := ⟨h.1, fun j hj h2 => by rw [w_ne h2]; exact h.2.1 j hj h2, fun j hj => by rw [w_at hj]; exact h.2.2 j hj⟩
/-- the model's own scratch -/
abbrev SM : List Nat := [65, 70, 71, 72]
def ma (σ τ : hs_St) : Prop := (∀ k, k ∉ SM → k ≠ 63 → τ.1 k = σ.1 k) ∧ ∀ i, i ≠ 17 → τ.1 63 i = σ.1 63 i
theorem ma.rf {σ : hs_St} : ma σ σ := ⟨fun _ _ _ => rfl, fun _ _ => rfl⟩
theorem ma.tr {σ τ υ : hs_St} (h : ma σ τ) (g : ma τ υ) : ma σ υ := ⟨fun k h1 h2 => (g.1 k h1 h2).trans (h.1 k h1 h2), fun i hi => (g.2 i hi).trans (h.2 i hi)⟩
theorem mf.a {S : List Nat} {σ τ : hs_St} (h : mf S σ τ) (hs : ∀ k ∈ S, k ∈ SM) : ma σ τ := ⟨(h.up hs).2.1, h.2.2⟩
/-- the model's town -/
def mt (σ : hs_St) (T : sp_T) : Prop := mr (σ.1 64) T ∧ σ.1 63 3 = nI (T 6 0)
theorem mt.f {σ τ : hs_St} {S : List Nat} {T : sp_T} (hx : mt σ T) (h : mf S σ τ) (h64 : 64 ∉ S) : mt τ T := ⟨by rw [h.2.1 64 h64 (by decide)]; exact hx.1, by rw [h.2.2 3 (by decide)]; exact hx.2⟩
theorem mt.a {σ τ : hs_St} {T : sp_T} (hx : mt σ T) (h : ma σ τ) : mt τ T := ⟨by rw [h.1 64 (by decide) (by decide)]; exact hx.1, by rw [h.2 3 (by decide)]; exact hx.2⟩
theorem mw_of {σ : hs_St} {T : sp_T} {ill : Nat} (hx : mr (σ.1 65) T) (h3 : σ.1 63 3 = nI (T 6 0)) (h17 : σ.1 63 17 = nI ill) (h70 : ∀ r, r < 6 → σ.1 70 r = nI 0) : mw σ T ill (tw T) (T 9 0) :=
  ⟨mr_q hx ⟨rfl, rfl, rfl, rfl, fun _ _ => ⟨rfl, rfl, rfl, rfl, rfl⟩, fun _ _ => ⟨rfl, rfl⟩, fun _ _ => ⟨rfl, rfl, rfl⟩⟩, h3, h17, h70⟩
theorem cm_starts {σ : hs_St} {K : hs_St → Prop} {T : sp_T} (hx : mt σ T) (hk : mk T) (hK : ∀ τ, mf [65, 70] σ τ → mr (τ.1 65) T → τ.1 63 3 = nI (T 6 0) → τ.1 63 17 = nI 0 → (∀ r, r < 6 → τ.1 70 r = nI 0) → K τ) : OkV m_X6_starts [.ref 63] σ K := by
  have loop2 : ∀ n i (τ : hs_St), 6 - i = n → i ≤ 6 → hs_fr [65, 70] σ τ → mr (τ.1 65) T → (∀ r, r < i → τ.1 70 r = nI 0) → RnV m_X6_starts 28 [(0, .ref 63), (1, .int (nI i))] [] τ K := by
    intro n
    induction n with
    | zero =>
      intro i τ hn hi hf a1 a2
      have : i = 6 := by omega
      subst this
      refine vc_X6_starts_28 ⟨fun _ => ?_, fun h => absurd (by rw [nl_6, il (by omega) (by omega)]; omega) h⟩
      rintro _ rfl
      refine hK _ (mf.of hf (by decide)).w17 (by rw [w_ne (by decide)]; exact a1) (by rw [w_at (by decide), hf.2 63 (by decide)]; exact hx.2) (by rw [w_eq, nl_0]) (fun r hr => by rw [w_ne (by decide)]; exact a2 r hr)
    | succ n ih =>
      intro i τ hn hi hf a1 a2
      refine vc_X6_starts_28 ⟨fun h => ?_, fun _ => ⟨vp_in_nI (by omega) (by omega), ?_⟩⟩
      · rw [nl_6, il (by omega) (by omega)] at h; omega
      · rintro _ rfl
        rw [nI_1, nI_clamp (by omega)]
        refine ih (i + 1) _ (by omega) (by omega) (hf.w (by decide)) (by rw [w_ne (by decide)]; exact a1) (fun r hr => ?_)
        by_cases e : r = i
        · subst e; rw [w_eq, nl_0]
        · rw [w_at e]; exact a2 r (by omega)
  have loop1 : ∀ n i (τ : hs_St), 47 - i = n → i ≤ 47 → hs_fr [65] σ τ → (∀ j, j < i → τ.1 65 j = σ.1 64 j) → RnV m_X6_starts 2 [(0, .ref 63), (1, .int (nI i))] [] τ K := by
    intro n
    induction n with
    | zero =>
      intro i τ hn hi hf a1
      have : i = 47 := by omega
      subst this
      refine vc_X6_starts_2 ⟨fun _ => ?_, fun h => absurd (by rw [nl_47, il (by omega) (by omega)]; omega) h⟩
      rw [nl_0]
      exact loop2 6 0 τ (by omega) (by omega) (hf.up (by decide)) (mr_e hx.1 hk a1) (fun r hr => by omega)
    | succ n ih =>
      intro i τ hn hi hf a1
      refine vc_X6_starts_2 ⟨fun h => ?_, fun _ => ⟨vp_in_nI (by omega) (by omega), vp_in_nI (by omega) (by omega), ?_⟩⟩
      · rw [nl_47, il (by omega) (by omega)] at h; omega
      · rintro _ rfl
        rw [nI_1, nI_clamp (by omega), hf.2 64 (by decide)]
        refine ih (i + 1) _ (by omega) (by omega) (hf.w (by decide)) (fun j hj => ?_)
        by_cases e : j = i
        · subst e; rw [w_eq]
        · rw [w_at e]; exact a1 j (by omega)
  refine vc_X6_starts ?_
  rw [nl_0]
  exact loop1 47 0 σ (by omega) (by omega) hs_fr.rf (fun j hj => by omega)
theorem cm_begin {σ : hs_St} {K : hs_St → Prop} {T : sp_T} (hx : mt σ T) (hk : mk T) (hK : ∀ τ, mf [65, 70] σ τ → mw τ T 0 (tw T) (T 9 0) → K τ) : OkV m_X6_starts [.ref 63] σ K :=
  cm_starts hx hk (fun τ hf a1 a2 a3 a4 => hK τ hf (mw_of a1 a2 a3 a4))
theorem cm_settles {σ : hs_St} {K : hs_St → Prop} {T : sp_T} (hx : mr (σ.1 65) T) (hk : mk T) (hK : ∀ τ, hs_fr [64] σ τ → mr (τ.1 64) T → (∀ j, 47 ≤ j → τ.1 64 j = σ.1 64 j) → K τ) : OkV m_X6_settles [.ref 63] σ K := by
  have loop1 : ∀ n i (τ : hs_St), 47 - i = n → i ≤ 47 → hs_fr [64] σ τ → (∀ j, j < i → τ.1 64 j = σ.1 65 j) → (∀ j, 47 ≤ j → τ.1 64 j = σ.1 64 j) → RnV m_X6_settles 2 [(0, .ref 63), (1, .int (nI i))] [] τ K := by
    intro n
    induction n with
    | zero =>
      intro i τ hn hi hf a1 a2
      have : i = 47 := by omega
      subst this
      exact vc_X6_settles_2 ⟨fun _ => hK τ hf (mr_e hx hk a1) a2, fun h => absurd (by rw [nl_47, il (by omega) (by omega)]; omega) h⟩
    | succ n ih =>
      intro i τ hn hi hf a1 a2
      refine vc_X6_settles_2 ⟨fun h => ?_, fun _ => ⟨vp_in_nI (by omega) (by omega), vp_in_nI (by omega) (by omega), ?_⟩⟩
      · rw [nl_47, il (by omega) (by omega)] at h; omega
      · rintro _ rfl
        rw [nI_1, nI_clamp (by omega), hf.2 65 (by decide)]
        refine ih (i + 1) _ (by omega) (by omega) (hf.w (by decide)) (fun j hj => ?_) (fun j hj => ?_)
        · by_cases e : j = i
          · subst e; rw [w_eq]
          · rw [w_at e]; exact a1 j (by omega)
        · rw [w_at (by omega)]; exact a2 j hj
  refine vc_X6_settles ?_
  rw [nl_0]
  exact loop1 47 0 σ (by omega) (by omega) hs_fr.rf (fun j hj => by omega) (fun _ _ => rfl)
theorem cm_allHarm {σ : hs_St} {K : Int32 → hs_St → Prop} {hm : Nat → Nat} (hx : ∀ r, r < 6 → σ.1 70 r = nI (hm r)) (hK : K (nI (sp_tot hm)) σ) : OkI m_X6_allHarm [.ref 63] σ K := by
  have loop : ∀ n i, 6 - i = n → i ≤ 6 → RnI m_X6_allHarm 4 [(0, .ref 63), (1, .int (nI (sp_sum i hm))), (2, .int (nI i))] [] σ K := by
    intro n
    induction n with
    | zero =>
      intro i hn hi
      have : i = 6 := by omega
      subst this
      refine vc_X6_allHarm_4 ⟨fun _ => ?_, fun h => absurd (by rw [nl_6, il (by omega) (by omega)]; omega) h⟩
      rw [show sp_sum 6 hm = sp_tot hm by simp [sp_sum, sp_tot]]; exact hK
    | succ n ih =>
      intro i hn hi
      refine vc_X6_allHarm_4 ⟨fun h => ?_, fun _ => ⟨vp_in_nI (by omega) (by omega), ?_⟩⟩
      · rw [nl_6, il (by omega) (by omega)] at h; omega
      · rintro _ rfl
        rw [nI_1, nI_clamp (by omega), hx i (by omega), nI_add]
        exact ih (i + 1) (by omega) (by omega)
  refine vc_X6_allHarm ?_
  rw [nl_0]
  exact loop 6 0 (by omega) (by omega)
theorem cm_harmOf {σ : hs_St} {K : Int32 → hs_St → Prop} {T : sp_T} {ill nt n : Nat} {w : sp_W} (hn : n ≤ 100) (hx : mw σ T ill w nt) (hk : mk T) (hil : ill < 8) (hw : mwk T w) (hK : ∀ τ, hs_fr [65, 70] σ τ → mw τ T ill (sp_run (mi T ill) n w) (nt + n) → K (nI (sp_tot (sp_run (mi T ill) n w).2.2)) τ) : OkI m_X6_harmOf [.ref 63, .int (nI n)] σ K := by
  have loop : ∀ m i (τ : hs_St), n - i = m → i ≤ n → hs_fr [65, 70] σ τ → mw τ T ill (sp_run (mi T ill) i w) (nt + i) → RnI m_X6_harmOf 2 [(0, .ref 63), (1, .int (nI n)), (2, .int (nI i))] [] τ K := by
    intro m
    induction m with
    | zero =>
      intro i τ hm hi hf a1
      have : i = n := by omega
      subst this
      exact vc_X6_harmOf_2 ⟨fun _ => cm_allHarm a1.2.2.2 (hK τ hf a1), fun h => absurd (by rw [il (by omega) (by omega)]; omega) h⟩
    | succ m ih =>
      intro i τ hm hi hf a1
      refine vc_X6_harmOf_2 ⟨fun h => ?_, fun _ => cm_night a1 hk hil (mwk_run hw i) (fun υ hf2 a2 => ?_)⟩
      · rw [il (by omega) (by omega)] at h; omega
      · rw [nI_1]
        exact ih (i + 1) υ (by omega) (by omega) (hf.tr hf2) a2
  refine vc_X6_harmOf ?_
  rw [nl_0]
  exact loop n 0 σ (by omega) (by omega) hs_fr.rf hx
theorem or_0 : ∀ g, g < 4 → (0 : Int32) <<< (nI g &&& 31) = 0 := by decide +kernel
theorem cm_resting {σ : hs_St} {K : Int32 → hs_St → Prop} {T : sp_T} {ill nt : Nat} {w : sp_W} (hx : mw σ T ill w nt) (hk : mk T) (hw : mwk T w) (hK : K (nI (sp_bits (T 0 0) (sp_rs (mi T ill) w))) σ) : OkI m_X6_resting [.ref 63] σ K := by
  have h4 := hk.1
  have e20 : σ.1 65 20 = nI (T 0 0) := hx.1.1
  have hkm : mk (tm T w.1 w.2.1 nt) := mk_m hk hw.1 hw.2
  have loop : ∀ m i, T 0 0 - i = m → i ≤ T 0 0 → RnI m_X6_resting 4 [(0, .ref 63), (1, .int (nI (sp_bits i (sp_rs (mi T ill) w)))), (2, .int (nI i))] [] σ K := by
    intro m
    induction m with
    | zero =>
      intro i hm hi
      have : i = T 0 0 := by omega
      subst this
      exact vc_X6_resting_4 ⟨fun _ => hK, fun h => absurd (by rw [e20, il (by omega) (by omega)]; exact Nat.le_refl _) h⟩
    | succ m ih =>
      intro i hm hi
      have hlt : i < T 0 0 := by omega
      have h8 := ts_in T i
      refine vc_X6_resting_4 ⟨fun h => ?_, fun _ => cm_left (T := tm T w.1 w.2.1 nt) hlt hx.1 hkm ?_⟩
      · rw [e20, il (by omega) (by omega)] at h; omega
      · rw [tm_s, tm_5]
        refine ⟨fun h => cm_flag ?_, fun h => cm_flag ?_⟩
        · rw [nl_0, ieq (by omega) (by omega)] at h
          rintro _ rfl
          rw [if_pos rfl, or_0 i (by omega), Int32.or_zero, nI_1]
          have := ih (i + 1) (by omega) (by omega)
          rw [show sp_bits (i + 1) (sp_rs (mi T ill) w) = sp_bits i (sp_rs (mi T ill) w) by have hz : sp_rs (mi T ill) w i = false := (by unfold sp_rs; exact decide_eq_false (by show ¬ ts T i ≤ w.2.1 i; omega)); simp only [sp_bits, sp_bit, hz]; rfl] at this
          exact this
        · rw [nl_0, ieq (by omega) (by omega)] at h
          have hb := sp_bits_lt (sp_rs (mi T ill) w) i
          have hp : 2 ^ i ≤ 2 ^ 3 := Nat.pow_le_pow_right (by omega) (by omega)
          rintro _ rfl
          rw [if_neg (by decide), nI_1, bit_or i (by omega) _ (by omega) hb]
          have := ih (i + 1) (by omega) (by omega)
          rw [show sp_bits (i + 1) (sp_rs (mi T ill) w) = sp_bits i (sp_rs (mi T ill) w) + 2 ^ i by have hz : sp_rs (mi T ill) w i = true := (by unfold sp_rs; exact decide_eq_true (by show ts T i ≤ w.2.1 i; omega)); simp only [sp_bits, sp_bit, hz, if_true]] at this
          exact this
  refine vc_X6_resting ?_
  rw [nl_0]
  exact loop (T 0 0) 0 (by omega) (by omega)
theorem cm_allLeft {σ : hs_St} {K : Int32 → hs_St → Prop} {T : sp_T} {ill nt : Nat} {w : sp_W} (hx : mw σ T ill w nt) (hk : mk T) (hw : mwk T w) (hK : K (nI (sp_sum (T 0 0) (fun g => ts T g - w.2.1 g))) σ) : OkI m_X6_allLeft [.ref 63] σ K := by
  have h4 := hk.1
  have e20 : σ.1 65 20 = nI (T 0 0) := hx.1.1
  have hkm : mk (tm T w.1 w.2.1 nt) := mk_m hk hw.1 hw.2
  have loop : ∀ m i, T 0 0 - i = m → i ≤ T 0 0 → RnI m_X6_allLeft 4 [(0, .ref 63), (1, .int (nI (sp_sum i (fun g => ts T g - w.2.1 g)))), (2, .int (nI i))] [] σ K := by
    intro m
    induction m with
    | zero =>
      intro i hm hi
      have : i = T 0 0 := by omega
      subst this
      exact vc_X6_allLeft_4 ⟨fun _ => hK, fun h => absurd (by rw [e20, il (by omega) (by omega)]; exact Nat.le_refl _) h⟩
    | succ m ih =>
      intro i hm hi
      have hlt : i < T 0 0 := by omega
      refine vc_X6_allLeft_4 ⟨fun h => ?_, fun _ => cm_left (T := tm T w.1 w.2.1 nt) hlt hx.1 hkm ?_⟩
      · rw [e20, il (by omega) (by omega)] at h; omega
      · rintro _ rfl
        rw [tm_s, tm_5, nI_add, nI_1]
        exact ih (i + 1) (by omega) (by omega)
  refine vc_X6_allLeft ?_
  rw [nl_0]
  exact loop (T 0 0) 0 (by omega) (by omega)
theorem cm_isGhost {σ : hs_St} {K : Bool → hs_St → Prop} {T : sp_T} {g : Int32} (hx : mt σ T) (hk : tk T) (hK : K (hgh T g) σ) : OkB m_X6_isGhost [.ref 63, .int g] σ K := by
  have h4 := hk.1
  refine vc_X6_isGhost (cm_inJ ?_)
  rw [hx.1.1, sub1 (by omega)]
  exact hK
theorem cm_isClerk {σ : hs_St} {K : Bool → hs_St → Prop} {T : sp_T} {c : Int32} (hx : mt σ T) (hk : tk T) (hK : K (hck T c) σ) : OkB m_X6_isClerk [.ref 63, .int c] σ K := by
  have h6 := hk.2.1
  refine vc_X6_isClerk (cm_inJ ?_)
  rw [hx.2, sub1 (by omega)]
  exact hK
theorem cm_isPart {σ : hs_St} {K : Bool → hs_St → Prop} {a : Int32} (hK : K (inr a 0 1) σ) : OkB m_X6_isPart [.int a] σ K := vc_X6_isPart (cm_inI hK)
theorem cm_isFar {σ : hs_St} {K : Bool → hs_St → Prop} {a : Int32} (hK : K (inr a 0 60) σ) : OkB m_X6_isFar [.int a] σ K := vc_X6_isFar (cm_inI hK)
theorem cm_isJudged {σ : hs_St} {K : Bool → hs_St → Prop} {a : Int32} (hK : K (inr a 0 20) σ) : OkB m_X6_isJudged [.int a] σ K := vc_X6_isJudged (cm_inI hK)
