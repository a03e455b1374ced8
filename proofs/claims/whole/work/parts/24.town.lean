/-! a town, as a table: 0 ghosts, 1 kinds, 2 a, 3 b, 4 rooms, 5 done, 6 clerks, 7 rooms of clerks, 8 skills, 9 night, 10 seen, 11 ghosts seen, 12 nights, 13 rooms -/
abbrev sp_T : Type := Nat → Nat → Nat
def tu (T : sp_T) (f i v : Nat) : sp_T := fun f' i' => if f' = f ∧ i' = i then v else T f' i'
def tf (T : sp_T) (f : Nat) (v : Nat → Nat) : sp_T := fun f' => if f' = f then v else T f'
theorem w_ne {σ : hs_St} {k k' i : Nat} {v : Int32} (h : k' ≠ k) : (hs_w σ k i v).1 k' = σ.1 k' := by simp only [hs_w, hs_ua, if_neg h]
theorem w_eq {σ : hs_St} {k i : Nat} {v : Int32} : (hs_w σ k i v).1 k i = v := by simp only [hs_w, hs_ua, upd, if_true]
theorem w_at {σ : hs_St} {k i j : Nat} {v : Int32} (h : j ≠ i) : (hs_w σ k i v).1 k j = σ.1 k j := by simp only [hs_w, hs_ua, upd, if_true, if_neg h]
theorem w_2 {σ : hs_St} {k i : Nat} {v : Int32} : (hs_w σ k i v).2 = σ.2 := rfl
def xt (o : Nat) (σ : hs_St) (T : sp_T) : Prop :=
  σ.1 o 0 = nI (T 0 0) ∧ σ.1 o 6 = nI (T 6 0) ∧ σ.1 o 9 = nI (T 9 0) ∧ σ.1 o 10 = nI (T 10 0) ∧
  (∀ g, g < T 0 0 → σ.1 (o + 1) g = nI (T 1 g) ∧ σ.1 (o + 2) g = nI (T 2 g) ∧ σ.1 (o + 3) g = nI (T 3 g) ∧ σ.1 (o + 4) g = nI (T 4 g) ∧ σ.1 (o + 5) g = nI (T 5 g)) ∧
  (∀ c, c < T 6 0 → σ.1 (o + 6) c = nI (T 7 c) ∧ σ.1 (o + 7) c = nI (T 8 c)) ∧
  (∀ i, i < T 10 0 → σ.1 (o + 8) i = nI (T 11 i) ∧ σ.1 (o + 9) i = nI (T 12 i) ∧ σ.1 (o + 10) i = nI (T 13 i))
def xt8 (σ : hs_St) (T : sp_T) : Prop :=
  σ.1 8 0 = nI (T 0 0) ∧ σ.1 8 6 = nI (T 6 0) ∧ σ.1 8 9 = nI (T 9 0) ∧ σ.1 8 10 = nI (T 10 0) ∧
  (∀ g, g < T 0 0 → σ.1 9 g = nI (T 1 g) ∧ σ.1 10 g = nI (T 2 g) ∧ σ.1 11 g = nI (T 3 g) ∧ σ.1 12 g = nI (T 4 g) ∧ σ.1 13 g = nI (T 5 g)) ∧
  (∀ c, c < T 6 0 → σ.1 14 c = nI (T 7 c) ∧ σ.1 15 c = nI (T 8 c)) ∧
  (∀ i, i < T 10 0 → σ.1 16 i = nI (T 11 i) ∧ σ.1 17 i = nI (T 12 i) ∧ σ.1 18 i = nI (T 13 i))
theorem xt_8 {σ : hs_St} {T : sp_T} : xt 8 σ T ↔ xt8 σ T := Iff.rfl
def tk (T : sp_T) : Prop :=
  T 0 0 ≤ 4 ∧ T 6 0 ≤ 3 ∧ T 9 0 ≤ 999 ∧ T 10 0 ≤ 6 ∧
  (∀ g, g < T 0 0 → T 1 g < 4 ∧ (1 ≤ T 2 g ∧ T 2 g ≤ 99) ∧ (1 ≤ T 3 g ∧ T 3 g ≤ 99) ∧ T 4 g < 6 ∧ T 5 g ≤ 20) ∧
  (∀ c, c < T 6 0 → T 7 c < 6 ∧ 1 ≤ T 8 c ∧ T 8 c ≤ 3) ∧ (∀ i, i < T 10 0 → T 11 i < T 0 0 ∧ T 12 i ≤ 20 ∧ T 13 i < 6)
/-- answer, steps, pace of a ghost of a town -/
def ta (T : sp_T) (g : Nat) : Nat := sp_ans (T 1 g) (T 2 g) (T 3 g)
def ts (T : sp_T) (g : Nat) : Nat := sp_stp (T 1 g) (ta T g)
def tp (T : sp_T) : sp_P := (T 0 0, T 6 0, ts T, fun g => ta T g % 6, T 7, T 8)
def tw (T : sp_T) : sp_W := (T 4, T 5, fun _ => 0)
theorem ta_lt {T : sp_T} (h : tk T) {g : Nat} (hg : g < T 0 0) : ta T g < 10000 := sp_ans_lt (h.2.2.2.2.1 g hg).2.1.2 (h.2.2.2.2.1 g hg).2.2.1.2
theorem ts_in (T : sp_T) (g : Nat) : 1 ≤ ts T g ∧ ts T g ≤ 8 := sp_stp_in _ _
theorem tk_ok {T : sp_T} (h : tk T) : sp_ok (tp T) (tw T) :=
  ⟨h.1, h.2.1, fun g hg => ⟨(ts_in T g).2, Nat.mod_lt _ (by decide), (h.2.2.2.2.1 g hg).2.2.2.1⟩, fun c hc => ⟨(h.2.2.2.2.2.1 c hc).1, by have := (h.2.2.2.2.2.1 c hc).2.2; show T 8 c ≤ 4; omega⟩⟩
theorem cx_reckon {σ : hs_St} {K : hs_St → Prop} {g k a b d : Nat} (hg : g < 4) (hk : k < 4) (ha : a ≤ 99) (hb : b ≤ 99) (hb1 : 1 ≤ b) (hd : d ≤ 20) (hK : K (hs_w (hs_w σ 3 g (nI (sp_stp k (sp_ans k a b) - d))) 4 g (nI (sp_ans k a b % 6)))) : OkV m_X4_reckon [.ref 1, .int (nI g), .int (nI k), .int (nI a), .int (nI b), .int (nI d)] σ K := by
  have h1 := sp_ans_lt (k := k) ha hb
  have h2 := sp_stp_in k (sp_ans k a b)
  refine vc_X4_reckon (cx_answerOf hk ha hb hb1 (cx_stepsOf hk h1 ⟨vp_in_nI hg (by omega), ?_⟩))
  rintro _ rfl
  rintro _ rfl
  rw [nI_clamp (by omega), mx0 (by omega) (by omega), nl_6, irem (by omega) (by omega) (by omega)]
  exact hK
set_option maxHeartbeats 1000000 in
theorem cx_begin {σ : hs_St} {K : hs_St → Prop} {T : sp_T} (hx : xt 8 σ T) (hk : tk T) (hK : ∀ τ, hs_fr [1, 2, 3, 4, 5, 6, 7] σ τ → xw τ (tp T) (tw T) → K τ) : OkV m_X4_begin [.ref 1, .ref 8] σ K := by
  obtain ⟨x0, x6, x9, x10, xg, xc, xs⟩ := xt_8.mp hx
  obtain ⟨k0, k6, k9, k10, kg, kc, ks⟩ := hk
  have loopC : ∀ n i (τ : hs_St), 6 - i = n → i ≤ 6 → hs_fr [1, 2, 3, 4, 5, 6, 7] σ τ → τ.1 1 0 = nI (T 0 0) → (∀ g, g < T 0 0 → τ.1 2 g = nI (T 4 g) ∧ τ.1 3 g = nI (ts T g - T 5 g) ∧ τ.1 4 g = nI (ta T g % 6)) → τ.1 1 4 = nI (T 6 0) → (∀ c, c < T 6 0 → τ.1 5 c = nI (T 7 c) ∧ τ.1 6 c = nI (T 8 c)) → τ.1 1 7 = nI 0 → (∀ r, r < i → τ.1 7 r = nI 0) → RnV m_X4_begin 120 [(0, .ref 1), (1, .ref 8), (2, .int (nI i))] [] τ K := by
    intro n
    induction n with
    | zero =>
      intro i τ hn hi hf a1 a2 a3 a4 a5 a6
      have : i = 6 := by omega
      subst this
      exact vc_X4_begin_120 ⟨fun _ => hK τ hf ⟨a1, a3, a5, a2, a4, fun r hr => a6 r hr⟩, fun h => absurd (by rw [nl_6, il (by omega) (by omega)]; omega) h⟩
    | succ n ih =>
      intro i τ hn hi hf a1 a2 a3 a4 a5 a6
      refine vc_X4_begin_120 ⟨fun h => ?_, fun _ => ⟨vp_in_nI (by omega) (by omega), ?_⟩⟩
      · rw [nl_6, il (by omega) (by omega)] at h; omega
      · rintro _ rfl
        rw [nI_1, nI_clamp (by omega)]
        refine ih (i + 1) _ (by omega) (by omega) (hf.w (by decide)) ?_ ?_ ?_ ?_ ?_ ?_
        · rw [w_ne (by decide)]; exact a1
        · rw [w_ne (by decide), w_ne (by decide), w_ne (by decide)]; exact a2
        · rw [w_ne (by decide)]; exact a3
        · rw [w_ne (by decide), w_ne (by decide)]; exact a4
        · rw [w_ne (by decide)]; exact a5
        · intro r hr
          by_cases e : r = i
          · subst e; rw [w_eq, nl_0]
          · rw [w_at e]; exact a6 r (by omega)
  have loopB : ∀ n i (τ : hs_St), T 6 0 - i = n → i ≤ T 6 0 → hs_fr [1, 2, 3, 4, 5, 6, 7] σ τ → τ.1 1 0 = nI (T 0 0) → (∀ g, g < T 0 0 → τ.1 2 g = nI (T 4 g) ∧ τ.1 3 g = nI (ts T g - T 5 g) ∧ τ.1 4 g = nI (ta T g % 6)) → τ.1 1 4 = nI (T 6 0) → (∀ c, c < i → τ.1 5 c = nI (T 7 c) ∧ τ.1 6 c = nI (T 8 c)) → RnV m_X4_begin 75 [(0, .ref 1), (1, .ref 8), (2, .int (nI i))] [] τ K := by
    intro n
    induction n with
    | zero =>
      intro i τ hn hi hf a1 a2 a3 a4
      have : i = T 6 0 := by omega
      subst this
      refine vc_X4_begin_75 ⟨fun _ => ?_, fun h => absurd (by rw [a3, il (by omega) (by omega)]; omega) h⟩
      rintro _ rfl
      rw [nl_0]
      refine loopC 6 0 _ (by omega) (by omega) (hf.w (by decide)) ?_ ?_ ?_ ?_ ?_ (fun r hr => by omega)
      · rw [w_at (by decide)]; exact a1
      · rw [w_ne (by decide), w_ne (by decide), w_ne (by decide)]; exact a2
      · rw [w_at (by decide)]; exact a3
      · rw [w_ne (by decide), w_ne (by decide)]; exact a4
      · rw [w_eq]
    | succ n ih =>
      intro i τ hn hi hf a1 a2 a3 a4
      have hci := xc i (by omega)
      refine vc_X4_begin_75 ⟨fun h => ?_, fun _ => ⟨vp_in_nI (by omega) (by omega), ?_⟩⟩
      · rw [a3, il (by omega) (by omega)] at h; omega
      · rintro _ rfl
        rintro _ rfl
        rw [nI_1, nI_clamp (by omega), w_ne (by decide), hf.2 14 (by decide), hf.2 15 (by decide), hci.1, hci.2]
        refine ih (i + 1) _ (by omega) (by omega) ((hf.w (by decide)).w (by decide)) ?_ ?_ ?_ ?_
        · rw [w_ne (by decide), w_ne (by decide)]; exact a1
        · rw [w_ne (by decide), w_ne (by decide), w_ne (by decide), w_ne (by decide), w_ne (by decide), w_ne (by decide)]; exact a2
        · rw [w_ne (by decide), w_ne (by decide)]; exact a3
        · intro c hc
          by_cases e : c = i
          · subst e; rw [w_ne (by decide), w_eq, w_eq]; exact ⟨rfl, rfl⟩
          · rw [w_ne (by decide), w_at e, w_at e, w_ne (by decide)]; exact a4 c (by omega)
  have loopA : ∀ n i (τ : hs_St), T 0 0 - i = n → i ≤ T 0 0 → hs_fr [1, 2, 3, 4, 5, 6, 7] σ τ → τ.1 1 0 = nI (T 0 0) → (∀ g, g < i → τ.1 2 g = nI (T 4 g) ∧ τ.1 3 g = nI (ts T g - T 5 g) ∧ τ.1 4 g = nI (ta T g % 6)) → RnV m_X4_begin 10 [(0, .ref 1), (1, .ref 8), (2, .int (nI i))] [] τ K := by
    intro n
    induction n with
    | zero =>
      intro i τ hn hi hf a1 a2
      have : i = T 0 0 := by omega
      subst this
      refine vc_X4_begin_10 ⟨fun _ => ?_, fun h => absurd (by rw [a1, il (by omega) (by omega)]; omega) h⟩
      rintro _ rfl
      rw [nl_0]
      refine loopB (T 6 0) 0 _ (by omega) (by omega) (hf.w (by decide)) ?_ ?_ ?_ (fun c hc => by omega)
      · rw [w_at (by decide)]; exact a1
      · rw [w_ne (by decide), w_ne (by decide), w_ne (by decide)]; exact a2
      · rw [w_eq, hf.2 8 (by decide)]; exact x6
    | succ n ih =>
      intro i τ hn hi hf a1 a2
      have hgi := xg i (by omega)
      have kgi := kg i (by omega)
      refine vc_X4_begin_10 ⟨fun h => ?_, fun _ => ⟨vp_in_nI (by omega) (by omega), ?_⟩⟩
      · rw [a1, il (by omega) (by omega)] at h; omega
      · rintro _ rfl
        rw [nI_clamp (by omega), w_ne (by decide), w_ne (by decide), w_ne (by decide), w_ne (by decide), hf.2 9 (by decide), hf.2 10 (by decide), hf.2 11 (by decide), hf.2 12 (by decide), hf.2 13 (by decide), hgi.1, hgi.2.1, hgi.2.2.1, hgi.2.2.2.1, hgi.2.2.2.2]
        refine cx_reckon (by omega) kgi.1 kgi.2.1.2 kgi.2.2.1.2 kgi.2.2.1.1 kgi.2.2.2.2 ?_
        rw [nI_1]
        refine ih (i + 1) _ (by omega) (by omega) (((hf.w (by decide)).w (by decide)).w (by decide)) ?_ ?_
        · rw [w_ne (by decide), w_ne (by decide), w_ne (by decide)]; exact a1
        · intro g hg
          by_cases e : g = i
          · subst e
            rw [w_ne (by decide), w_ne (by decide), w_eq, w_ne (by decide), w_eq, w_eq]; exact ⟨rfl, rfl, rfl⟩
          · rw [w_ne (by decide), w_ne (by decide), w_at e, w_ne (by decide), w_at e, w_at e, w_ne (by decide), w_ne (by decide), w_ne (by decide)]; exact a2 g (by omega)
  refine vc_X4_begin ?_
  rintro _ rfl
  rw [nl_0]
  exact loopA (T 0 0) 0 _ (by omega) (by omega) (hs_fr.rf.w (by decide)) (by rw [w_eq]; exact x0) (fun g hg => by omega)
theorem xw_fr {σ τ : hs_St} {S : List Nat} {p : sp_P} {w : sp_W} (h : hs_fr S σ τ) (hs : ∀ k ∈ S, 8 ≤ k) (hx : xw σ p w) : xw τ p w := by
  have e : ∀ k, k < 8 → τ.1 k = σ.1 k := fun k hk => h.2 k (fun z => by have := hs k z; omega)
  unfold xw
  rw [e 1 (by omega), e 2 (by omega), e 3 (by omega), e 4 (by omega), e 5 (by omega), e 6 (by omega), e 7 (by omega)]
  exact hx
theorem xt_fr {σ τ : hs_St} {S : List Nat} {o : Nat} {T : sp_T} (h : hs_fr S σ τ) (hs : ∀ k ∈ S, k < o ∨ o + 10 < k) (hx : xt o σ T) : xt o τ T := by
  have e : ∀ j, j ≤ 10 → τ.1 (o + j) = σ.1 (o + j) := fun j hj => h.2 _ (fun z => by have := hs _ z; omega)
  unfold xt
  rw [show o = o + 0 from rfl, e 0 (by omega)]
  simp only [Nat.add_zero]
  rw [e 1 (by omega), e 2 (by omega), e 3 (by omega), e 4 (by omega), e 5 (by omega), e 6 (by omega), e 7 (by omega), e 8 (by omega), e 9 (by omega), e 10 (by omega)]
  exact hx
theorem cx_go {σ : hs_St} {K : hs_St → Prop} {p : sp_P} {w : sp_W} {n : Nat} (hn : n ≤ 100) (hx : xw σ p w) (ho : sp_ok p w) (hK : ∀ τ, hs_fr [1, 2, 3, 7] σ τ → xw τ p (sp_run p n w) → K τ) : OkV m_X4_go [.ref 1, .int (nI n)] σ K := by
  have loop : ∀ m i (τ : hs_St), n - i = m → i ≤ n → hs_fr [1, 2, 3, 7] σ τ → xw τ p (sp_run p i w) → RnV m_X4_go 2 [(0, .ref 1), (1, .int (nI n)), (2, .int (nI i))] [] τ K := by
    intro m
    induction m with
    | zero =>
      intro i τ hm hi hf hw
      have : i = n := by omega
      subst this
      exact vc_X4_go_2 ⟨fun _ => hK τ hf hw, fun h => absurd (by rw [il (by omega) (by omega)]; omega) h⟩
    | succ m ih =>
      intro i τ hm hi hf hw
      refine vc_X4_go_2 ⟨fun h => ?_, fun _ => ?_⟩
      · rw [il (by omega) (by omega)] at h; omega
      · refine cx_night hw (sp_ok_run ho i) (fun υ hf2 hw2 => ?_)
        rw [nI_1]
        exact ih (i + 1) υ (by omega) (by omega) (hf.tr hf2) hw2
  refine vc_X4_go ?_
  rw [nl_0]
  exact loop n 0 σ (by omega) (by omega) hs_fr.rf hx
/-! which rest, as bits -/
def sp_bit (b : Bool) (k : Nat) : Nat := if b then k else 0
def sp_bits : Nat → (Nat → Bool) → Nat
  | 0, _ => 0
  | n + 1, f => sp_bits n f + sp_bit (f n) (2 ^ n)
def sp_rs (p : sp_P) (w : sp_W) (g : Nat) : Bool := decide (p.2.2.1 g ≤ w.2.1 g)
theorem sp_bits_lt (f : Nat → Bool) : ∀ n, sp_bits n f < 2 ^ n
  | 0 => by simp [sp_bits]
  | n + 1 => by
    have := sp_bits_lt f n
    simp only [sp_bits, sp_bit, Nat.pow_succ]
    split <;> omega
theorem bit_or : ∀ g, g < 4 → ∀ x, x < 16 → x < 2 ^ g → nI x ||| ((1 : Int32) <<< (nI g &&& 31)) = nI (x + 2 ^ g) := by decide +kernel
theorem cx_resting {σ : hs_St} {K : Int32 → hs_St → Prop} {p : sp_P} {w : sp_W} (hx : xw σ p w) (ho : sp_ok p w) (hK : K (nI (sp_bits p.1 (sp_rs p w))) σ) : OkI m_X4_resting [.ref 1] σ K := by
  obtain ⟨x0, x1, x2, x3, x4, x5⟩ := hx
  obtain ⟨o1, o2, o3, o4⟩ := ho
  have loop : ∀ m i, p.1 - i = m → i ≤ p.1 → RnI m_X4_resting 4 [(0, .ref 1), (1, .int (nI (sp_bits i (sp_rs p w)))), (2, .int (nI i))] [] σ K := by
    intro m
    induction m with
    | zero =>
      intro i hm hi
      have : i = p.1 := by omega
      subst this
      exact vc_X4_resting_4 ⟨fun _ => hK, fun h => absurd (by rw [x0, il (by omega) (by omega)]; omega) h⟩
    | succ m ih =>
      intro i hm hi
      have hlt : i < p.1 := by omega
      have h3 := (x3 i hlt).2.1
      have h8 := (o3 i hlt).1
      refine vc_X4_resting_4 ⟨fun h => ?_, fun _ => ⟨vp_in_nI (by omega) (by omega), fun h => ?_, fun h => ?_⟩⟩
      · rw [x0, il (by omega) (by omega)] at h; omega
      · rw [nI_clamp (by omega), h3, nl_0, ieq (by omega) (by omega)] at h
        rw [nI_1]
        have := ih (i + 1) (by omega) (by omega)
        rw [show sp_bits (i + 1) (sp_rs p w) = sp_bits i (sp_rs p w) by have hz : sp_rs p w i = false := (by unfold sp_rs; exact decide_eq_false (by omega)); simp only [sp_bits, sp_bit, hz]; rfl] at this
        exact this
      · rw [nI_clamp (by omega), h3, nl_0, ieq (by omega) (by omega)] at h
        rintro _ rfl
        have hb := sp_bits_lt (sp_rs p w) i
        have hp : 2 ^ i ≤ 2 ^ 3 := Nat.pow_le_pow_right (by omega) (by omega)
        rw [nI_1, bit_or i (by omega) _ (by omega) hb]
        have := ih (i + 1) (by omega) (by omega)
        rw [show sp_bits (i + 1) (sp_rs p w) = sp_bits i (sp_rs p w) + 2 ^ i by have hz : sp_rs p w i = true := (by unfold sp_rs; exact decide_eq_true (by omega)); simp only [sp_bits, sp_bit, hz, if_true]] at this
        exact this
  refine vc_X4_resting ?_
  rw [nl_0]
  exact loop p.1 0 (by omega) (by omega)
theorem cx_leftOfAll {σ : hs_St} {K : Int32 → hs_St → Prop} {p : sp_P} {w : sp_W} (hx : xw σ p w) (ho : sp_ok p w) (hK : K (nI (sp_sum p.1 (fun g => p.2.2.1 g - w.2.1 g))) σ) : OkI m_X4_leftOfAll [.ref 1] σ K := by
  obtain ⟨x0, x1, x2, x3, x4, x5⟩ := hx
  obtain ⟨o1, o2, o3, o4⟩ := ho
  have loop : ∀ m i, p.1 - i = m → i ≤ p.1 → RnI m_X4_leftOfAll 4 [(0, .ref 1), (1, .int (nI (sp_sum i (fun g => p.2.2.1 g - w.2.1 g)))), (2, .int (nI i))] [] σ K := by
    intro m
    induction m with
    | zero =>
      intro i hm hi
      have : i = p.1 := by omega
      subst this
      exact vc_X4_leftOfAll_4 ⟨fun _ => hK, fun h => absurd (by rw [x0, il (by omega) (by omega)]; omega) h⟩
    | succ m ih =>
      intro i hm hi
      refine vc_X4_leftOfAll_4 ⟨fun h => ?_, fun _ => ⟨vp_in_nI (by omega) (by omega), ?_⟩⟩
      · rw [x0, il (by omega) (by omega)] at h; omega
      · rintro _ rfl
        rw [nI_clamp (by omega), (x3 i (by omega)).2.1, nI_add, nI_1]
        exact ih (i + 1) (by omega) (by omega)
  refine vc_X4_leftOfAll ?_
  rw [nl_0]
  exact loop p.1 0 (by omega) (by omega)
/-- behind how many nights, most at most, Q first holds -/
def sp_when (Q : Nat → Bool) (most : Nat) : Int32 := if sp_f Q (most + 1) 0 ≤ most then nI (sp_f Q (most + 1) 0) else -4
theorem cx_tillRest {σ : hs_St} {K : Int32 → hs_St → Prop} {p : sp_P} {w : sp_W} {bits : Int32} {most : Nat} (Q : Nat → Bool) (hm : most ≤ 100) (hx : xw σ p w) (ho : sp_ok p w) (hQ : ∀ n, ((nI (sp_bits p.1 (sp_rs p (sp_run p n w))) &&& bits) = bits ↔ Q n = true)) (hK : ∀ τ, hs_fr [1, 2, 3, 7] σ τ → K (sp_when Q most) τ) : OkI m_X4_tillRest [.ref 1, .int bits, .int (nI most)] σ K := by
  have loop : ∀ m i (τ : hs_St), most + 1 - i = m → i ≤ most + 1 → hs_fr [1, 2, 3, 7] σ τ → xw τ p (sp_run p i w) → sp_f Q m i = sp_f Q (most + 1) 0 → RnI m_X4_tillRest 2 [(0, .ref 1), (1, .int bits), (2, .int (nI most)), (3, .int (nI i))] [] τ K := by
    intro m
    induction m with
    | zero =>
      intro i τ hm2 hi hf hw hq
      have : i = most + 1 := by omega
      subst this
      refine vc_X4_tillRest_2 ⟨fun _ => ?_, fun h => absurd (by rw [ilt (by omega) (by omega)]; omega) h⟩
      have := hK τ hf
      rw [sp_when, ← hq, sp_f, if_neg (by omega)] at this
      exact this
    | succ m ih =>
      intro i τ hm2 hi hf hw hq
      refine vc_X4_tillRest_2 ⟨fun h => ?_, fun _ => ?_⟩
      · rw [ilt (by omega) (by omega)] at h; omega
      · refine cx_resting hw (sp_ok_run ho i) ⟨fun h => ?_, fun h => ?_⟩
        · rw [hQ i] at h
          refine cx_night hw (sp_ok_run ho i) (fun υ hf2 hw2 => ?_)
          rw [nI_1]
          exact ih (i + 1) υ (by omega) (by omega) (hf.tr hf2) hw2 (by rw [← hq, sp_f, if_neg h])
        · rw [hQ i] at h
          have h2 := hK τ hf
          have h3 : sp_f Q (most + 1) 0 = i := by rw [← hq, sp_f, if_pos h]
          rw [sp_when, h3, if_pos (by omega)] at h2
          exact h2
  refine vc_X4_tillRest ?_
  rw [nl_0]
  exact loop (most + 1) 0 σ (by omega) (by omega) hs_fr.rf hx rfl
