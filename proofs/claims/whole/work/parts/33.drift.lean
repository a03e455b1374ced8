/-! by a seed -/
def sp_got (s : Int32) : Nat := s.toBitVec.toNat / 65536 % 32768
def dr_s (s : Int32) : Int32 := s * 1103515245 + 12345
def dp (T : sp_T) (dk : Nat → Nat) : sp_P := (T 0 0, T 6 0, ts T, fun g => ta T g % 6, dk, T 8)
def dr_at (T : sp_T) (dk : Nat → Nat) (G : Nat) : Nat → Nat := up1 dk (G % T 6 0) (G / 8 % 6)
def dr_step (T : sp_T) (q : Int32 × (Nat → Nat) × sp_W) : Int32 × (Nat → Nat) × sp_W := (dr_s q.1, dr_at T q.2.1 (sp_got (dr_s q.1)), sp_night (dp T (dr_at T q.2.1 (sp_got (dr_s q.1)))) q.2.2)
def dr (T : sp_T) (s : Int32) : Nat → Int32 × (Nat → Nat) × sp_W
  | 0 => (s, T 7, tw T)
  | n + 1 => dr_step T (dr T s n)
theorem got_x (x : Int32) : ((x.toUInt32 >>> (Int32.toUInt32 16 &&& Int32.toUInt32 31)).toInt32) &&& 32767 = nI (sp_got x) := by
  rw [pk_and _ 15 (by decide), pk_ushr x 16 16 (by decide)]
  rfl
theorem sp_got_lt (x : Int32) : sp_got x < 32768 := Nat.mod_lt _ (by decide)
def s_drift (T : sp_T) (s n w : Int32) : Int32 := if inr n 1 60 = false then -1 else if inr w 0 1 = false then -1 else if T 6 0 = 0 then -2 else
  if w = 0 then nI (sp_tot (dr T s n.toNatClampNeg).2.2.2.2) else nI (sp_bits (T 0 0) (sp_rs (tp T) (dr T s n.toNatClampNeg).2.2))
theorem dr_at_lt {T : sp_T} {dk : Nat → Nat} {G c : Nat} (h : dk c < 6) : dr_at T dk G c < 6 := by
  unfold dr_at up1
  split
  · omega
  · exact h
theorem ok_at {T : sp_T} {dk : Nat → Nat} {G : Nat} {w : sp_W} (h : sp_ok (dp T dk) w) : sp_ok (dp T (dr_at T dk G)) w :=
  ⟨h.1, h.2.1, h.2.2.1, fun c hc => ⟨dr_at_lt (h.2.2.2 c hc).1, (h.2.2.2 c hc).2⟩⟩
theorem ok_step {T : sp_T} {q : Int32 × (Nat → Nat) × sp_W} (h : sp_ok (dp T q.2.1) q.2.2) : sp_ok (dp T (dr_step T q).2.1) (dr_step T q).2.2 := by
  unfold dr_step
  generalize sp_got (dr_s q.1) = G
  exact sp_ok_night (ok_at h)
theorem ok_dr {T : sp_T} (hk : tk T) (s : Int32) (n : Nat) : sp_ok (dp T (dr T s n).2.1) (dr T s n).2.2 := by
  induction n with
  | zero => exact tk_ok hk
  | succ n ih =>
    rw [dr]
    exact ok_step ih
theorem xw_at {σ : hs_St} {T : sp_T} {dk : Nat → Nat} {G : Nat} {w : sp_W} (hw : xw σ (dp T dk) w) : xw (hs_w σ 5 (G % T 6 0) (nI (G / 8 % 6))) (dp T (dr_at T dk G)) w := by
  obtain ⟨y0, y1, y2, y3, y4, y5⟩ := hw
  refine ⟨?_, ?_, ?_, ?_, fun c hc => ⟨?_, ?_⟩, ?_⟩
  · rw [w_ne (by decide)]; exact y0
  · rw [w_ne (by decide)]; exact y1
  · rw [w_ne (by decide)]; exact y2
  · rw [w_ne (by decide), w_ne (by decide), w_ne (by decide)]; exact y3
  · show _ = nI (dr_at T dk G c)
    unfold dr_at
    by_cases e : c = G % T 6 0
    · rw [e, w_eq, up1_eq]
    · rw [w_at e, up1_ne e]; exact (y4 c hc).1
  · rw [w_ne (by decide)]; exact (y4 c hc).2
  · rw [w_ne (by decide)]; exact y5
theorem cx_drift_loop {σ : hs_St} {K : Int32 → hs_St → Prop} {T : sp_T} {s w : Int32} {j : Nat} (hj : j ≤ 60) (h6 : 0 < T 6 0) (hx : xt 8 σ T) (hk : tk T)
    (hK : ∀ τ, hs_fr SW σ τ → K (if w = 0 then nI (sp_tot (dr T s j).2.2.2.2) else nI (sp_bits (T 0 0) (sp_rs (tp T) (dr T s j).2.2))) τ) :
    ∀ m i (τ : hs_St), j - i = m → i ≤ j → hs_fr SW σ τ → xw τ (dp T (dr T s i).2.1) (dr T s i).2.2 → RnI m_X5_drift 51 [(0, .ref 0), (1, .int s), (2, .int (nI j)), (3, .int w), (4, .int (dr T s i).1), (5, .int (nI i))] [] τ K := by
  have k6 := hk.2.1
  intro m
  induction m with
  | zero =>
    intro i τ hm hi hf hw2
    have : i = j := by omega
    subst this
    have hok := ok_dr hk s i
    have hK := hK τ hf
    generalize dr T s i = q at hw2 hok hK
    refine vc_X5_drift_51 ⟨fun _ => ⟨fun h0 => ?_, fun h0 => ?_⟩, fun h => absurd (by rw [il (by omega) (by omega)]; omega) h⟩
    · rw [if_neg h0] at hK
      exact cx_resting hw2 hok hK
    · rw [if_pos h0] at hK
      rw [hw2.2.2.1]; exact hK
  | succ m ih =>
    intro i τ hm hi hf hw2
    have hx1 : xt 8 τ T := xt_fr hf (by decide) hx
    have hok := ok_dr hk s i
    have ih := fun υ h1 h2 => ih (i + 1) υ (by omega) (by omega) h1 h2
    rw [dr] at ih
    generalize dr T s i = q at hw2 hok ih
    unfold dr_step at ih
    refine vc_X5_drift_51 ⟨fun h => ?_, fun _ => ?_⟩
    · rw [il (by omega) (by omega)] at h; omega
    · intro x10 e10
      have e10 : x10 = dr_s q.1 := e10
      subst e10
      rw [got_x]
      have hg := sp_got_lt (dr_s q.1)
      generalize sp_got (dr_s q.1) = G at hg ih
      generalize dr_s q.1 = s2 at ih
      rintro _ rfl
      have hm6 : G % T 6 0 < T 6 0 := Nat.mod_lt _ h6
      rw [hx1.2.1, irem (by omega) h6 (by omega), nl_8, idv (by omega) (by omega) (by omega), nl_6, irem (by omega) (by omega) (by omega), nl_0, ieq (by omega) (by omega)]
      refine ⟨by omega, vp_in_nI (by omega) (by omega), ?_⟩
      rintro _ rfl
      rw [nI_clamp (by omega), nI_1]
      refine cx_night (xw_at hw2) (ok_at hok) (fun υ hf2 hw4 => ?_)
      exact ih υ ((hf.w (by decide)).tr (hf2.up (by decide))) hw4
theorem cx_drift {σ : hs_St} {K : Int32 → hs_St → Prop} {T : sp_T} {s n w : Int32} (hx : xt 8 σ T) (hk : tk T) (hK : ∀ τ, hs_fr SW σ τ → K (s_drift T s n w) τ) : OkI m_X5_drift [.ref 0, .int s, .int n, .int w] σ K := by
  have k6 := hk.2.1
  unfold s_drift at hK
  refine vc_X5_drift (cx_within ⟨fun hn => ?_, fun hn => cx_within ⟨fun hw => ⟨fun h6 => ?_, fun h6 => ?_⟩, fun hw => ?_⟩⟩)
  · change inr n 1 60 = false at hn
    have := hK σ hs_fr.rf
    rw [if_pos hn] at this; exact this
  · change inr n 1 60 = true at hn
    change inr w 0 1 = true at hw
    rw [hx.2.1, nl_0, ilt (by omega) (by omega)] at h6
    rw [if_neg (by rw [hn]; decide), if_neg (by rw [hw]; decide), if_neg (by omega)] at hK
    obtain ⟨j, hj0, hj, rfl⟩ := inr_1 (lo := 1) (hi := 60) hn
    rw [nI_clamp (by omega)] at hK
    refine cx_begin hx hk (fun τ hf hw2 => ?_)
    rw [nl_0]
    exact cx_drift_loop hj h6 hx hk hK j 0 τ (by omega) (by omega) (hf.up (by decide)) hw2
  · change inr n 1 60 = true at hn
    change inr w 0 1 = true at hw
    rw [hx.2.1, nl_0, ilt (by omega) (by omega)] at h6
    have := hK σ hs_fr.rf
    rw [if_neg (by rw [hn]; decide), if_neg (by rw [hw]; decide), if_pos (by omega)] at this; exact this
  · change inr n 1 60 = true at hn
    change inr w 0 1 = false at hw
    have := hK σ hs_fr.rf
    rw [if_neg (by rw [hn]; decide), if_pos hw] at this; exact this
