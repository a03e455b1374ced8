/-! text of the class: tokens -/
theorem xp_fr {σ τ : hs_St} {n : Nat} {b : Nat → Nat} {S : List Nat} (h : xp σ n b) (g : hs_fr S σ τ) (h1 : 19 ∉ S) (h2 : 20 ∉ S) : xp τ n b := ⟨by rw [g.2 19 h1]; exact h.1, by rw [g.2 20 h2]; exact h.2⟩
theorem cx_passRun {σ : hs_St} {K : hs_St → Prop} {n q lo hi : Nat} {b : Nat → Nat} (hp : xp σ n b) (hn : n ≤ 160) (hb : ∀ i, i < n → b i ≤ 127) (hlo : lo ≤ 200) (hhi : hi ≤ 200) (hq : q ≤ n) (c3 : σ.1 21 3 = nI q) (hK : ∀ τ, hs_fr [21] σ τ → τ.1 21 3 = nI (rx n b lo hi q) → (∀ i, i ≠ 3 → τ.1 21 i = σ.1 21 i) → K τ) : OkV m_X0_passRun [.ref 21, .int (nI lo), .int (nI hi)] σ K := by
  have loop : ∀ m z (τ : hs_St), n - z = m → z ≤ n → hs_fr [21] σ τ → τ.1 21 3 = nI z → (∀ i, i ≠ 3 → τ.1 21 i = σ.1 21 i) → rx n b lo hi z = rx n b lo hi q → RnV m_X0_passRun 0 [(0, .ref 21), (1, .int (nI lo)), (2, .int (nI hi))] [] τ K := by
    intro m
    induction m with
    | zero =>
      intro z τ hm hz hf d3 d hr
      have : z = n := by omega
      subst this
      have hp1 := xp_fr hp hf (by decide) (by decide)
      refine vc_X0_passRun_0 ⟨fun _ => hK τ hf (by rw [d3, ← hr, rx_n (by omega)]) d, fun h => absurd (by rw [hp1.1, d3, il (by omega) (by omega)]; omega) h⟩
    | succ m ih =>
      intro z τ hm hz hf d3 d hr
      have hp1 := xp_fr hp hf (by decide) (by decide)
      have hbz := hb z (by omega)
      have e20 : τ.1 20 (τ.1 21 3).toNatClampNeg = nI (b z) := by rw [d3, nI_clamp (by omega)]; exact hp1.2 z (by omega)
      refine vc_X0_passRun_0 ⟨fun h => ?_, fun _ => ⟨?_, ?_⟩⟩
      · rw [hp1.1, d3, il (by omega) (by omega)] at h; omega
      · rw [d3]; exact vp_in_nI (by omega) (by omega)
      · rw [e20, ilt (by omega) (by omega), ilt (by omega) (by omega)]
        refine ⟨fun h => hK τ hf (by rw [d3, ← hr, rx_n (by omega)]) d, fun h => ⟨fun h2 => hK τ hf (by rw [d3, ← hr, rx_n (by omega)]) d, fun h2 => ?_⟩⟩
        rintro _ rfl
        rw [d3, nI_1]
        exact ih (z + 1) _ (by omega) (by omega) (hf.w (by decide)) w_eq (fun i hi => by rw [w_at hi]; exact d i hi) (by rw [← hr, rx_y (p := z) (by omega)])
  exact vc_X0_passRun (loop (n - q) q σ rfl hq hs_fr.rf c3 (fun _ _ => rfl) rfl)
/-- what a token leaves in the reader -/
def xtok (σ τ : hs_St) : tokT → Prop
  | .ok (s, st, pl, v) => τ.1 21 4 = nI s ∧ τ.1 21 5 = nI st ∧ τ.1 21 3 = nI pl ∧ (s = 2 → τ.1 21 6 = nI v) ∧ (s ≠ 2 → τ.1 21 6 = σ.1 21 6) ∧ τ.1 21 7 = σ.1 21 7
  | .error (f, a) => τ.1 21 7 = nI f ∧ τ.1 21 8 = nI a
def tkB : tokT → Bool
  | .ok _ => true
  | .error _ => false
theorem cx_refuse {σ : hs_St} {K : Bool → hs_St → Prop} {f a : Int32} (hK : K false (hs_w (hs_w σ 21 7 f) 21 8 a)) : OkB m_X0_refuse [.ref 21, .int f, .int a] σ K := by
  refine vc_X0_refuse ?_
  rintro _ rfl
  rintro _ rfl
  exact hK
set_option maxHeartbeats 1000000 in
theorem cx_nextToken {σ : hs_St} {K : Bool → hs_St → Prop} {n p : Nat} {b : Nat → Nat} (hp : xp σ n b) (hn : n ≤ 160) (hb : ∀ i, i < n → b i ≤ 127) (hpn : p ≤ n) (c3 : σ.1 21 3 = nI p) (hK : ∀ τ, hs_fr [21] σ τ → xtok σ τ (tk1 n b p) → K (tkB (tk1 n b p)) τ) : OkB m_X0_nextToken [.ref 21] σ K := by
  have e32 : (32 : Int32) = nI 32 := nl_32
  have hx := rx_le (n := n) (b := b) (lo := 32) (hi := 32) hpn
  unfold tk1 at hK
  have run0 : ∀ {K2 : hs_St → Prop}, (∀ τ, hs_fr [21] σ τ → τ.1 21 3 = nI (rx n b 32 32 p) → (∀ i, i ≠ 3 → τ.1 21 i = σ.1 21 i) → K2 τ) → OkV m_X0_passRun [.ref 21, .int 32, .int 32] σ K2 := fun h => by
    rw [e32]; exact cx_passRun hp hn hb (by omega) (by omega) hpn c3 h
  refine vc_X0_nextToken (run0 (fun τ0 hf0 d3 d => ?_))
  generalize rx n b 32 32 p = s at hK hx d3
  rintro _ rfl
  rw [d3]
  have hf1 : hs_fr [21] σ (hs_w τ0 21 5 (nI s)) := hf0.w (by decide)
  have f3 : (hs_w τ0 21 5 (nI s)).1 21 3 = nI s := by rw [w_at (by decide)]; exact d3
  have f5 : (hs_w τ0 21 5 (nI s)).1 21 5 = nI s := w_eq
  have f6 : (hs_w τ0 21 5 (nI s)).1 21 6 = σ.1 21 6 := by rw [w_at (by decide)]; exact d 6 (by decide)
  have f7 : (hs_w τ0 21 5 (nI s)).1 21 7 = σ.1 21 7 := by rw [w_at (by decide)]; exact d 7 (by decide)
  generalize hs_w τ0 21 5 (nI s) = τ1 at hf1 f3 f5 f6 f7
  have hp1 := xp_fr hp hf1 (by decide) (by decide)
  rw [f3, hp1.1, ilt (by omega) (by omega), nI_clamp (by omega)]
  unfold tk0 at hK
  refine ⟨fun hs => ⟨vp_in_nI (by omega) (by omega), ?_⟩, fun hs => ?_⟩
  · have hbs := hb s hs
    rw [if_pos hs] at hK
    intro x9 e9
    have e9 : x9 = nI (b s) := by rw [e9]; exact hp1.2 s hs
    subst e9
    have i59 : (nI (b s) = 59) = (b s = 59) := by rw [nl_59, ieq (by omega) (by omega)]
    have i97 : (nI (b s) < 97) = (b s < 97) := by rw [nl_97, ilt (by omega) (by omega)]
    have i122 : ((122 : Int32) < nI (b s)) = (122 < b s) := by rw [nl_122, ilt (by omega) (by omega)]
    rw [i59, i97, i122]
    have e48 : (48 : Int32) = nI 48 := nl_48
    have e57 : (57 : Int32) = nI 57 := nl_57
    have e97 : (97 : Int32) = nI 97 := nl_97
    have e122 : (122 : Int32) = nI 122 := nl_122
    have run1 : ∀ {K2 : hs_St → Prop}, (∀ τ, hs_fr [21] τ1 τ → τ.1 21 3 = nI (rx n b 48 57 s) → (∀ i, i ≠ 3 → τ.1 21 i = τ1.1 21 i) → K2 τ) → OkV m_X0_passRun [.ref 21, .int 48, .int 57] τ1 K2 := fun h => by
      rw [e48, e57]; exact cx_passRun hp1 hn hb (by omega) (by omega) hx.2 f3 h
    have run2 : ∀ {K2 : hs_St → Prop}, (∀ τ, hs_fr [21] τ1 τ → τ.1 21 3 = nI (rx n b 97 122 s) → (∀ i, i ≠ 3 → τ.1 21 i = τ1.1 21 i) → K2 τ) → OkV m_X0_passRun [.ref 21, .int 97, .int 122] τ1 K2 := fun h => by
      rw [e97, e122]; exact cx_passRun hp1 hn hb (by omega) (by omega) hx.2 f3 h
    have digits : ¬ b s = 59 → ¬ (97 ≤ b s ∧ b s ≤ 122) → OkV m_X0_passRun [.ref 21, .int 48, .int 57] τ1 (fun σ18 => ∀ σ20 : hs_St, σ20 = hs_w σ18 21 4 2 → (∀ x22 : Int32, x22 = (σ20.1 21 3) - (σ20.1 21 5) → ((x22 < 1 → (OkB m_X0_refuse [.ref 21, .int 1, .int (σ20.1 21 5)] σ20 (fun r27 σ28 => K r27 σ28))) ∧ (¬ x22 < 1 → ((x22 ≤ 2 → (∀ σ33 : hs_St, σ33 = hs_w σ20 21 6 (nI (b s) - 48) → ((¬ x22 = 2 → (K true σ33)) ∧ (x22 = 2 → (vp_in ((σ33.1 21 5) + 1) 160 ∧ (∀ σ38 : hs_St, σ38 = hs_w σ33 21 6 ((((σ33.1 21 6) * 10) + (σ33.1 20 (((σ33.1 21 5) + 1).toNatClampNeg))) - 48) → (K true σ38))))))) ∧ (¬ x22 ≤ 2 → (OkB m_X0_refuse [.ref 21, .int 1, .int (σ20.1 21 5)] σ20 (fun r40 σ41 => K r40 σ41)))))))) := by
      intro h59 hl
      rw [if_neg h59, if_neg hl] at hK
      have he := rx_le (n := n) (b := b) (lo := 48) (hi := 57) hx.2
      refine run1 (fun τ2 hf2 g3 gd => ?_)
      rintro _ rfl
      have h5 : (hs_w τ2 21 4 2).1 21 5 = nI s := by rw [w_at (by decide), gd 5 (by decide)]; exact f5
      have h3 : (hs_w τ2 21 4 2).1 21 3 = nI (rx n b 48 57 s) := by rw [w_at (by decide)]; exact g3
      have h4 : (hs_w τ2 21 4 2).1 21 4 = nI 2 := by rw [w_eq]; exact nl_2
      have h7 : (hs_w τ2 21 4 2).1 21 7 = σ.1 21 7 := by rw [w_at (by decide), gd 7 (by decide)]; exact f7
      have hf3 : hs_fr [21] σ (hs_w τ2 21 4 2) := (hf1.tr hf2).w (by decide)
      generalize hs_w τ2 21 4 2 = τ3 at h5 h3 h4 h7 hf3
      have hp3 := xp_fr hp hf3 (by decide) (by decide)
      rw [h3, h5, pk_sub he.1]
      have dg : s < rx n b 48 57 s → 48 ≤ b s := fun h => by
        by_cases hc : s < n ∧ 48 ≤ b s ∧ b s ≤ 57
        · exact hc.2.1
        · rw [rx_n hc] at h; omega
      have dg2 : s + 1 < rx n b 48 57 s → 48 ≤ b (s + 1) := fun h => by
        by_cases hc : s < n ∧ 48 ≤ b s ∧ b s ≤ 57
        · rw [rx_y hc] at h
          by_cases hc2 : s + 1 < n ∧ 48 ≤ b (s + 1) ∧ b (s + 1) ≤ 57
          · exact hc2.2.1
          · rw [rx_n hc2] at h; omega
        · rw [rx_n hc] at h; omega
      generalize rx n b 48 57 s = e at he hK h3 dg dg2
      have bad : ¬ (1 ≤ e - s ∧ e - s ≤ 2) → OkB m_X0_refuse [.ref 21, .int 1, .int (nI s)] τ3 (fun r27 σ28 => K r27 σ28) := by
        intro hc
        rw [if_neg hc] at hK
        refine cx_refuse (hK _ ((hf3.w (by decide)).w (by decide)) ⟨?_, w_eq⟩)
        rw [w_at (by decide), w_eq]; exact nl_1
      rintro _ rfl
      rw [nl_1, ilt (by omega) (by omega), ← nl_1]
      refine ⟨fun h => bad (by omega), fun h => ?_⟩
      rw [nl_2, il (by omega) (by omega), ieq (by omega) (by omega)]
      refine ⟨fun h2 => ?_, fun h2 => bad (by omega)⟩
      rw [if_pos (by omega)] at hK
      have hb48 := dg (by omega)
      rintro _ rfl
      rw [e48, pk_sub hb48]
      refine ⟨fun hne => hK _ (hf3.w (by decide)) ⟨?_, ?_, ?_, fun _ => ?_, fun h => absurd rfl h, ?_⟩, fun heq => ?_⟩
      · rw [w_at (by decide)]; exact h4
      · rw [w_at (by decide)]; exact h5
      · rw [w_at (by decide)]; exact h3
      · rw [w_eq]; unfold tv; rw [if_neg (by omega), if_pos (by omega)]
      · rw [w_at (by decide)]; exact h7
      · have hb49 := dg2 (by omega)
        have hbs1 := hb (s + 1) (by omega)
        rw [w_eq, w_at (by decide), h5, nI_1, nI_clamp (by omega), w_ne (by decide), hp3.2 (s + 1) (by omega)]
        refine ⟨vp_in_nI (by omega) (by omega), ?_⟩
        rintro _ rfl
        refine hK _ ((hf3.w (by decide)).w (by decide)) ⟨?_, ?_, ?_, fun _ => ?_, fun h => absurd rfl h, ?_⟩
        · rw [w_at (by decide), w_at (by decide)]; exact h4
        · rw [w_at (by decide), w_at (by decide)]; exact h5
        · rw [w_at (by decide), w_at (by decide)]; exact h3
        · rw [w_eq, nl_10, pk_mul, nI_add, pk_sub (by omega)]
          unfold tv
          rw [if_neg (by omega), if_neg (by omega)]
          congr 1
          omega
        · rw [w_at (by decide), w_at (by decide)]; exact h7
    refine ⟨fun h59 => ⟨fun hl => digits h59 (by omega), fun hl => ⟨fun hl2 => digits h59 (by omega), fun hl2 => ?_⟩⟩, fun h59 => ?_⟩
    · rw [if_neg h59, if_pos (by omega)] at hK
      refine run2 (fun τ2 hf2 g3 gd => ?_)
      rintro _ rfl
      refine hK _ ((hf1.tr hf2).w (by decide)) ⟨?_, ?_, ?_, fun h => absurd h (by decide), fun _ => ?_, ?_⟩
      · rw [w_eq]; exact nl_1
      · rw [w_at (by decide), gd 5 (by decide)]; exact f5
      · rw [w_at (by decide)]; exact g3
      · rw [w_at (by decide), gd 6 (by decide)]; exact f6
      · rw [w_at (by decide), gd 7 (by decide)]; exact f7
    · rw [if_pos h59] at hK
      rintro _ rfl
      rintro _ rfl
      refine hK _ ((hf1.w (by decide)).w (by decide)) ⟨?_, ?_, ?_, fun h => absurd h (by decide), fun _ => ?_, ?_⟩
      · rw [w_eq]; exact nl_3
      · rw [w_at (by decide), w_at (by decide)]; exact f5
      · rw [w_at (by decide), w_eq, nI_1]
      · rw [w_at (by decide), w_at (by decide)]; exact f6
      · rw [w_at (by decide), w_at (by decide)]; exact f7
  · rw [if_neg hs] at hK
    rintro _ rfl
    refine hK _ (hf1.w (by decide)) ⟨?_, ?_, ?_, fun h => absurd h (by decide), fun _ => ?_, ?_⟩
    · rw [w_eq]; exact nl_0
    · rw [w_at (by decide)]; exact f5
    · rw [w_at (by decide)]; exact f3
    · rw [w_at (by decide)]; exact f6
    · rw [w_at (by decide)]; exact f7
