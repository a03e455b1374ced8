/-! the model: drift -/
theorem got_m (x : Int32) : ((x >>> ((16 : Int32) &&& 31)) &&& 32767) = nI (sp_got x) := by
  rw [pk_and _ 15 (by decide)]
  congr 1
  have h1 := pk_shr x ((16 : Int32) &&& 31) 16 (by decide)
  rw [Int.shiftRight_eq_div_pow] at h1
  generalize x >>> ((16 : Int32) &&& 31) = y at h1
  have h2 : y.toInt = if 2 * y.toBitVec.toNat < 2 ^ 32 then (y.toBitVec.toNat : Int) else (y.toBitVec.toNat : Int) - 2 ^ 32 := BitVec.toInt_eq_toNat_cond y.toBitVec
  have h3 : x.toInt = if 2 * x.toBitVec.toNat < 2 ^ 32 then (x.toBitVec.toNat : Int) else (x.toBitVec.toNat : Int) - 2 ^ 32 := BitVec.toInt_eq_toNat_cond x.toBitVec
  have h4 := y.toBitVec.isLt
  have h5 := x.toBitVec.isLt
  unfold sp_got
  rw [h2, h3] at h1
  generalize y.toBitVec.toNat = m at *
  generalize x.toBitVec.toNat = n at *
  simp only [Nat.reducePow] at *
  split at h1 <;> split at h1 <;> omega
theorem mk_dk {T : sp_T} {dk : Nat → Nat} (h : mk T) (hd : ∀ c, c < T 6 0 → dk c < 6) : mk (tf T 7 dk) := ⟨h.1, h.2.1, h.2.2.1, fun c hc => ⟨hd c hc, (h.2.2.2.1 c hc).2⟩, h.2.2.2.2⟩
theorem mi_dp {T : sp_T} {dk : Nat → Nat} : mi (tf T 7 dk) 0 = dp T dk := by rw [mi_0]; rfl
theorem mw_dk {σ : hs_St} {T : sp_T} {dk : Nat → Nat} {w : sp_W} {nt c r : Nat} (hc : c < 3) (hk : mk T) (hw : mw σ (tf T 7 dk) 0 w nt) : mw (hs_w σ 65 (21 + 2 * c) (nI r)) (tf T 7 (up1 dk c r)) 0 w nt := by
  refine ⟨mr_q (mr_c7 (T := tm (tf T 7 dk) w.1 w.2.1 nt) hc hk.1 hw.1) ?_, by rw [w_ne (by decide)]; exact hw.2.1, by rw [w_ne (by decide)]; exact hw.2.2.1, fun r hr => by rw [w_ne (by decide)]; exact hw.2.2.2 r hr⟩
  refine ⟨rfl, rfl, rfl, rfl, fun _ _ => ⟨rfl, rfl, rfl, rfl, rfl⟩, fun d hd => ⟨?_, rfl⟩, fun _ _ => ⟨rfl, rfl, rfl⟩⟩
  show tu (tm (tf T 7 dk) w.1 w.2.1 nt) 7 c r 7 d = up1 dk c r d
  by_cases e : d = c
  · subst e; rw [tu_eq, up1_eq]
  · rw [tu_at e, up1_ne e]; rfl
theorem mwk_dk {T : sp_T} {dk : Nat → Nat} {w : sp_W} (h : sp_ok (dp T dk) w) (h2 : sp_mo (T 0 0) (ts T) (T 5) w.2.1) (hk : tk T) : mwk (tf T 7 dk) w := ⟨fun g hg => (h.2.2.1 g hg).2.2, fun g hg => by
  have hg : g < T 0 0 := hg
  have a := h2 g hg
  have b := (hk.2.2.2.2.1 g hg).2.2.2.2
  have c := (ts_in T g).2
  omega⟩
theorem mo_dr {T : sp_T} (s : Int32) : ∀ n, sp_mo (T 0 0) (ts T) (T 5) (dr T s n).2.2.2.1
  | 0 => sp_mo.rf
  | n + 1 => by
    have ih := mo_dr (T := T) s n
    rw [dr]
    generalize dr T s n = q at ih
    unfold dr_step
    generalize sp_got (dr_s q.1) = G
    exact ih.tr (mo_night (p := dp T (dr_at T q.2.1 G)) (w := q.2.2))
theorem cm_drift_loop {σ : hs_St} {K : Int32 → hs_St → Prop} {T : sp_T} {s w : Int32} {j : Nat} (hj : j ≤ 60) (h6 : 0 < T 6 0) (hx : mt σ T) (hk : tk T)
    (hK : ∀ τ, ma σ τ → K (if w = 0 then nI (sp_tot (dr T s j).2.2.2.2) else nI (sp_bits (T 0 0) (sp_rs (tp T) (dr T s j).2.2))) τ) :
    ∀ m i (τ : hs_St), j - i = m → i ≤ j → ma σ τ → mw τ (tf T 7 (dr T s i).2.1) 0 (dr T s i).2.2 (T 9 0 + i) → RnI m_X6_drift 41 [(0, .ref 63), (1, .int s), (2, .int (nI j)), (3, .int w), (4, .int (dr T s i).1), (5, .int (nI i))] [] τ K := by
  have hmk := mk_of hk
  have k6 := hk.2.1
  intro m
  induction m with
  | zero =>
    intro i τ hm hi hf hw2
    have : i = j := by omega
    subst this
    have hok := ok_dr hk s i
    have hmo := mo_dr (T := T) s i
    have hK := hK τ hf
    generalize dr T s i = q at hw2 hok hK hmo
    refine vc_X6_drift_41 ⟨fun _ => ⟨fun h0 => cm_resting hw2 (mk_dk hmk (fun c hc => (hok.2.2.2 c hc).1)) (mwk_dk hok hmo hk) ?_, fun h0 => cm_allHarm hw2.2.2.2 ?_⟩, fun h => absurd (by rw [il (by omega) (by omega)]; omega) h⟩
    · rw [if_neg h0] at hK; exact hK
    · rw [if_pos h0] at hK; exact hK
  | succ m ih =>
    intro i τ hm hi hf hw2
    have hok := ok_dr hk s i
    have hmo := mo_dr (T := T) s i
    have ih := fun υ h1 h2 => ih (i + 1) υ (by omega) (by omega) h1 h2
    rw [dr] at ih
    generalize dr T s i = q at hw2 hok ih hmo
    unfold dr_step at ih
    have e3 : τ.1 63 3 = nI (T 6 0) := hw2.2.1
    refine vc_X6_drift_41 ⟨fun h => ?_, fun _ => ?_⟩
    · rw [il (by omega) (by omega)] at h; omega
    · intro x10 e10
      have e10 : x10 = dr_s q.1 := e10
      subst e10
      rw [got_m]
      have hg := sp_got_lt (dr_s q.1)
      generalize sp_got (dr_s q.1) = G at hg ih
      generalize dr_s q.1 = s2 at ih
      rintro _ rfl
      have hm6 : G % T 6 0 < T 6 0 := Nat.mod_lt _ h6
      rw [e3, irem (by omega) h6 (by omega), nl_8, idv (by omega) (by omega) (by omega), nl_6, irem (by omega) (by omega) (by omega), nl_0, ieq (by omega) (by omega), il_c, nI_clamp (by omega), nI_1]
      refine ⟨by omega, vp_in_nI (by omega) (by omega), ?_⟩
      rintro _ rfl
      have hok2 := ok_at (G := G) hok
      refine cm_night (mw_dk (by omega) hmk hw2) (mk_dk hmk (fun c hc => (hok2.2.2.2 c hc).1)) (by omega) (mwk_dk hok2 hmo hk) (fun υ hf2 hw4 => ?_)
      rw [mi_dp] at hw4
      exact ih υ (hf.tr ((((mf.rf (S := [65, 70])).w (by decide) (by decide)).fr hf2 (by decide)).a (by decide))) hw4
theorem cm_drift {σ : hs_St} {K : Int32 → hs_St → Prop} {T : sp_T} {s n w : Int32} (hx : mt σ T) (hk : tk T) (hK : ∀ τ, ma σ τ → K (s_drift T s n w) τ) : OkI m_X6_drift [.ref 63, .int s, .int n, .int w] σ K := by
  have k6 := hk.2.1
  unfold s_drift at hK
  refine vc_X6_drift (cm_inI ⟨fun hn => ?_, fun hn => cm_isPart ⟨fun hw => ⟨fun h6 => ?_, fun h6 => ?_⟩, fun hw => ?_⟩⟩)
  · change inr n 1 60 = false at hn
    have := hK σ ma.rf
    rw [if_pos hn] at this; exact this
  · change inr n 1 60 = true at hn
    rw [hx.2, nl_0, ieq (by omega) (by omega)] at h6
    rw [if_neg (by rw [hn]; decide), if_neg (by rw [hw]; decide), if_neg h6] at hK
    obtain ⟨j, hj0, hj, rfl⟩ := inr_1 (lo := 1) (hi := 60) hn
    rw [nI_clamp (by omega)] at hK
    refine cm_begin hx (mk_of hk) (fun τ hf hw2 => ?_)
    rw [nl_0]
    exact cm_drift_loop hj (by omega) hx hk hK j 0 τ (by omega) (by omega) (hf.a (by decide)) (by
      have e : tf T 7 (dr T s 0).2.1 = T := by
        funext f i
        by_cases e : f = 7
        · subst e; rw [tf_eq]; rfl
        · rw [tf_ne e]
      rw [e]; exact hw2)
  · change inr n 1 60 = true at hn
    rw [hx.2, nl_0, ieq (by omega) (by omega)] at h6
    have := hK σ ma.rf
    rw [if_neg (by rw [hn]; decide), if_neg (by rw [hw]; decide), if_pos h6] at this; exact this
  · change inr n 1 60 = true at hn
    have := hK σ ma.rf
    rw [if_neg (by rw [hn]; decide), if_pos hw] at this; exact this
/-! the model: what is changed -/
def mc (σ τ : hs_St) : Prop := (∀ k, k ∉ SM → k ≠ 63 → k ≠ 64 → τ.1 k = σ.1 k) ∧ (∀ i, i ≠ 17 → τ.1 63 i = σ.1 63 i) ∧ ∀ j, 47 ≤ j → τ.1 64 j = σ.1 64 j
theorem mc.rf {σ : hs_St} : mc σ σ := ⟨fun _ _ _ _ => rfl, fun _ _ => rfl, fun _ _ => rfl⟩
theorem mc.tr {σ τ υ : hs_St} (h : mc σ τ) (g : mc τ υ) : mc σ υ := ⟨fun k h1 h2 h3 => (g.1 k h1 h2 h3).trans (h.1 k h1 h2 h3), fun i hi => (g.2.1 i hi).trans (h.2.1 i hi), fun j hj => (g.2.2 j hj).trans (h.2.2 j hj)⟩
theorem mc.w {σ τ : hs_St} (h : mc σ τ) {i : Nat} {v : Int32} (hi : i < 47) : mc σ (hs_w τ 64 i v) := ⟨fun k h1 h2 h3 => by rw [w_ne h3]; exact h.1 k h1 h2 h3, fun j hj => by rw [w_ne (by decide)]; exact h.2.1 j hj, fun j hj => by rw [w_at (by omega)]; exact h.2.2 j hj⟩
theorem ma.c {σ τ : hs_St} (h : ma σ τ) : mc σ τ := ⟨fun k h1 h2 _ => h.1 k h1 h2, h.2, fun j _ => by rw [h.1 64 (by decide) (by decide)]⟩
theorem cm_canBe {σ : hs_St} {K : Bool → hs_St → Prop} {w v : Int32} (hK : K (mb w v) σ) : OkB m_X6_canBe [.int w, .int v] σ K := by
  unfold mb at hK
  refine vc_X6_canBe ⟨fun h => cm_inI ?_, fun h => cm_inI ?_, fun h => cm_inI ?_, fun h => cm_inI ?_, fun h => cm_inI ?_, fun h => ?_⟩
  · rw [if_pos h] at hK; exact hK
  · rw [if_neg (by omega), if_pos h] at hK; exact hK
  · rw [if_neg (by omega), if_neg (by omega), if_pos h] at hK; exact hK
  · rw [if_neg (by omega), if_neg (by omega), if_neg (by omega), if_pos h] at hK; exact hK
  · rw [if_neg (by omega), if_neg (by omega), if_neg (by omega), if_neg (by omega), if_pos h] at hK; exact hK
  · rw [if_neg (by omega), if_neg (by omega), if_neg (by omega), if_neg (by omega), if_neg (by omega)] at hK; exact hK
theorem cm_becomes {σ : hs_St} {K : Int32 → hs_St → Prop} {i : Nat} {v : Int32} (hi : i < 141) (hK : K (σ.1 64 i) (hs_w σ 64 i v)) : OkI m_X6_becomes [.ref 63, .int (nI i), .int v] σ K := by
  refine vc_X6_becomes ⟨vp_in_nI hi (by omega), ?_⟩
  rw [nI_clamp (by omega)]
  rintro _ rfl
  rintro _ rfl
  exact hK
theorem mt_g {σ : hs_St} {T : sp_T} {g f v : Nat} (hf : f ≤ 4) (hg : g < T 0 0) (hx : mt σ T) (hk : tk T) : mt (hs_w σ 64 (5 * g + f) (nI v)) (tu T (f + 1) g v) := by
  have h4 := hk.1
  have h6 := hk.2.1
  have e3 : tu T (f + 1) g v 6 0 = T 6 0 := by rw [tu_ne (by omega)]
  refine ⟨?_, by rw [w_ne (by decide), e3]; exact hx.2⟩
  rcases (show f = 0 ∨ f = 1 ∨ f = 2 ∨ f = 3 ∨ f = 4 by omega) with rfl | rfl | rfl | rfl | rfl
  · exact mr_g0 (by omega) h6 hx.1
  · exact mr_g1 (by omega) h6 hx.1
  · exact mr_g2 (by omega) h6 hx.1
  · exact mr_g3 (by omega) h6 hx.1
  · exact mr_g4 (by omega) h6 hx.1
theorem mr_at {f : Nat → Int32} {T : sp_T} {g k : Nat} (hk : k ≤ 4) (hg : g < T 0 0) (hx : mr f T) : f (5 * g + k) = nI (T (k + 1) g) := by
  have h := hx.2.2.2.1 g hg
  rcases (show k = 0 ∨ k = 1 ∨ k = 2 ∨ k = 3 ∨ k = 4 by omega) with rfl | rfl | rfl | rfl | rfl
  · exact h.1
  · exact h.2.1
  · exact h.2.2.1
  · exact h.2.2.2.1
  · exact h.2.2.2.2
theorem cm_alter {σ : hs_St} {K : Int32 → hs_St → Prop} {T : sp_T} {g w v : Int32} (hx : mt σ T) (hk : tk T) (hK : ∀ τ, mc σ τ → mt τ (s_alter T g w v).2 → K (s_alter T g w v).1 τ) : OkI m_X6_alter [.ref 63, .int g, .int w, .int v] σ K := by
  have h4 := hk.1
  unfold s_alter at hK
  refine vc_X6_alter (cm_isGhost hx hk ⟨fun hg => ?_, fun hg => cm_canBe ⟨fun hm => ?_, fun hm => ?_⟩⟩)
  · rw [if_neg (fun z => by rw [hg] at z; exact absurd z.1 (by decide))] at hK
    exact hK σ mc.rf hx
  · rw [if_neg (fun z => by rw [hm] at z; exact absurd z.2 (by decide))] at hK
    exact hK σ mc.rf hx
  · rw [if_pos ⟨hg, hm⟩] at hK
    obtain ⟨i, hi, rfl⟩ := inr_lt hg
    obtain ⟨f, j, h1, h2, rfl, h3, h5, h7, h8, h9, h10⟩ := mb_of hm
    have hw : w = nI f := t2n h2 (by omega)
    subst hw
    rw [h2, nI_clamp (by omega), nI_clamp (by omega), Int.toNat_natCast] at hK
    rw [nl_5, pk_mul, nI_add]
    refine cm_becomes (by omega) ?_
    rw [mr_at h1 hi hx.1]
    exact hK _ (mc.rf.w (by omega)) (mt_g h1 hi hx hk)
theorem mt_c {σ : hs_St} {T : sp_T} {c f v : Nat} (hf : f ≤ 1) (hc : c < T 6 0) (hx : mt σ T) (hk : tk T) : mt (hs_w σ 64 (21 + 2 * c + f) (nI v)) (tu T (7 + f) c v) := by
  have h4 := hk.1
  have h6 := hk.2.1
  have e3 : tu T (7 + f) c v 6 0 = T 6 0 := by rw [tu_ne (by omega)]
  refine ⟨?_, by rw [w_ne (by decide), e3]; exact hx.2⟩
  rcases (show f = 0 ∨ f = 1 by omega) with rfl | rfl
  · exact mr_c7 (by omega) h4 hx.1
  · rw [show 21 + 2 * c + 1 = 22 + 2 * c by omega]
    exact mr_c8 (by omega) h4 hx.1
theorem cm_post {σ : hs_St} {K : Int32 → hs_St → Prop} {T : sp_T} {c w v : Int32} (hx : mt σ T) (hk : tk T) (hK : ∀ τ, mc σ τ → mt τ (s_post T c w v).2 → K (s_post T c w v).1 τ) : OkI m_X6_post [.ref 63, .int c, .int w, .int v] σ K := by
  have h6 := hk.2.1
  unfold s_post at hK
  have no : ¬ (hck T c = true ∧ w = 0 ∧ inr v 0 5 = true) → ¬ (hck T c = true ∧ w = 1 ∧ inr v 1 3 = true) → K (-1) σ := by
    intro n1 n2
    rw [if_neg n1, if_neg n2] at hK
    exact hK σ mc.rf hx
  refine vc_X6_post ⟨fun h0 => ⟨fun h1 => cm_isClerk hx hk ⟨fun _ => no (fun z => h0 z.2.1) (fun z => h1 z.2.1), fun _ => no (fun z => h0 z.2.1) (fun z => h1 z.2.1)⟩, fun h1 => cm_inI ⟨fun hv => cm_isClerk hx hk ⟨fun _ => no (fun z => h0 z.2.1) (fun z => ?_), fun _ => no (fun z => h0 z.2.1) (fun z => ?_)⟩, fun hv => cm_isClerk hx hk ⟨fun hc => no (fun z => h0 z.2.1) (fun z => ?_), fun hc => ?_⟩⟩⟩, fun h0 => cm_inI (cm_isClerk hx hk ⟨fun hc => no (fun z => ?_) (fun z => ?_), fun hc => ⟨fun hv => no (fun z => ?_) (fun z => ?_), fun hv => ?_⟩⟩)⟩
  · change inr v 1 3 = false at hv; rw [hv] at z; exact absurd z.2.2 (by decide)
  · change inr v 1 3 = false at hv; rw [hv] at z; exact absurd z.2.2 (by decide)
  · rw [hc] at z; exact absurd z.1 (by decide)
  · change inr v 1 3 = true at hv
    rw [if_neg (fun z => h0 z.2.1), if_pos ⟨hc, h1, hv⟩] at hK
    obtain ⟨i, hi, rfl⟩ := inr_lt hc
    obtain ⟨j, hj1, hj, rfl⟩ := inr_1 (lo := 1) (hi := 3) hv
    rw [nI_clamp (by omega), nI_clamp (by omega)] at hK
    subst h1
    rw [il_c, nI_1]
    refine cm_becomes (by omega) ?_
    have e : σ.1 64 (21 + 2 * i + 1) = nI (T 8 i) := by rw [show 21 + 2 * i + 1 = 22 + 2 * i by omega]; exact (hx.1.2.2.2.2.1 i hi).2
    rw [e]
    exact hK _ (mc.rf.w (by omega)) (mt_c (f := 1) (by omega) hi hx hk)
  · rw [hc] at z; exact absurd z.1 (by decide)
  · rw [hc] at z; exact absurd z.1 (by decide)
  · change inr v 0 5 = false at hv; rw [hv] at z; exact absurd z.2.2 (by decide)
  · rw [h0] at z; exact absurd z.2.1 (by decide)
  · change inr v 0 5 = true at hv
    rw [if_pos ⟨hc, h0, hv⟩] at hK
    obtain ⟨i, hi, rfl⟩ := inr_lt hc
    obtain ⟨j, hj, rfl⟩ := inr_of (hi := 5) hv
    rw [nI_clamp (by omega), nI_clamp (by omega)] at hK
    subst h0
    have e : (21 : Int32) + 2 * nI i + 0 = nI (21 + 2 * i + 0) := by rw [il_c, nl_0, nI_add]
    rw [e]
    refine cm_becomes (by omega) ?_
    have e : σ.1 64 (21 + 2 * i + 0) = nI (T 7 i) := (hx.1.2.2.2.2.1 i hi).1
    rw [e]
    exact hK _ (mc.rf.w (by omega)) (mt_c (f := 0) (by omega) hi hx hk)
theorem tq_go {T : sp_T} {n : Nat} {w : sp_W} {dk : Nat → Nat} : tq (tm (tf T 7 dk) w.1 w.2.1 (T 9 0 + n)) (t_go T (dp T dk) w n) := by
  refine ⟨rfl, rfl, rfl, rfl, fun g hg => ⟨?_, ?_, ?_, ?_, ?_⟩, fun c hc => ⟨?_, ?_⟩, fun i hi => ⟨?_, ?_, ?_⟩⟩ <;> unfold t_go
  · rw [tu_ne (by decide), tf_ne (by decide), t_st_f (by decide) (by decide)]; rfl
  · rw [tu_ne (by decide), tf_ne (by decide), t_st_f (by decide) (by decide)]; rfl
  · rw [tu_ne (by decide), tf_ne (by decide), t_st_f (by decide) (by decide)]; rfl
  · rw [tu_ne (by decide), tf_ne (by decide)]
    have hg : g < T 0 0 := hg
    simp [t_st, hg, tm]
  · rw [tu_ne (by decide), tf_ne (by decide)]
    have hg : g < T 0 0 := hg
    simp [t_st, hg, tm]
  · rw [tu_ne (by decide), tf_eq]; rfl
  · rw [tu_ne (by decide), tf_ne (by decide), t_st_f (by decide) (by decide)]; rfl
  · rw [tu_ne (by decide), tf_ne (by decide), t_st_f (by decide) (by decide)]; rfl
  · rw [tu_ne (by decide), tf_ne (by decide), t_st_f (by decide) (by decide)]; rfl
  · rw [tu_ne (by decide), tf_ne (by decide), t_st_f (by decide) (by decide)]; rfl
theorem tf_7 (T : sp_T) : tf T 7 (T 7) = T := by
  funext f i
  by_cases e : f = 7
  · subst e; rw [tf_eq]
  · rw [tf_ne e]
theorem cm_nights {σ : hs_St} {K : Int32 → hs_St → Prop} {T : sp_T} {n : Int32} (hx : mt σ T) (hk : tk T) (hK : ∀ τ, mc σ τ → mt τ (s_nights T n).2 → K (s_nights T n).1 τ) : OkI m_X6_nights [.ref 63, .int n] σ K := by
  have hmk := mk_of hk
  have k9 := hk.2.2.1
  unfold s_nights at hK
  refine vc_X6_nights (cm_inI ⟨fun h => ⟨fun h9 => ?_, fun h9 => ?_⟩, fun h => ?_⟩)
  · change inr n 0 30 = true at h
    rw [if_pos h] at hK
    obtain ⟨j, hj, rfl⟩ := inr_of (hi := 30) h
    rw [nI_clamp (by omega)] at hK
    rw [hx.1.2.1, nI_add, nl_999, il (by omega) (by omega)] at h9
    rw [if_pos h9] at hK
    refine cm_begin hx hmk (fun τ hf hw => cm_harmOf (by omega) hw hmk (by omega) (mwk_tw hmk) (fun υ hf2 hw2 => ?_))
    rw [th_mi]
    rw [run_mi] at hw2
    have hwk : mwk T (tr T j) := by rw [← run_mi]; exact mwk_run (mwk_tw hmk) j
    refine cm_settles hw2.1 (mk_m hmk hwk.1 hwk.2) (fun φ hf3 h64 h47 => ?_)
    have hma : ma σ υ := (hf.fr hf2 (by decide)).a (by decide)
    refine hK φ ⟨fun k h1 h2 h3 => ?_, fun i hi => ?_, fun i hi => ?_⟩ ⟨?_, ?_⟩
    · rw [hf3.2 k (by simpa using h3)]; exact hma.1 k h1 h2
    · rw [hf3.2 63 (by decide)]; exact hma.2 i hi
    · rw [h47 i hi, hma.1 64 (by decide) (by decide)]
    · have := tq_go (T := T) (n := j) (w := tr T j) (dk := T 7)
      rw [tf_7] at this
      exact mr_q h64 this
    · rw [hf3.2 63 (by decide), hma.2 3 (by decide)]; exact hx.2
  · change inr n 0 30 = true at h
    rw [if_pos h] at hK
    obtain ⟨j, hj, rfl⟩ := inr_of (hi := 30) h
    rw [nI_clamp (by omega)] at hK
    rw [hx.1.2.1, nI_add, nl_999, il (by omega) (by omega)] at h9
    rw [if_neg h9] at hK
    exact hK σ mc.rf hx
  · change inr n 0 30 = false at h
    rw [if_neg (by rw [h]; decide)] at hK; exact hK σ mc.rf hx
