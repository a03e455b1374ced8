/-! the model's nights -/
def tm (T : sp_T) (rm dn : Nat → Nat) (nt : Nat) : sp_T := fun f g => if f = 4 then rm g else if f = 5 then dn g else if f = 9 then nt else T f g
theorem tm_f {T : sp_T} {rm dn : Nat → Nat} {nt f : Nat} (h4 : f ≠ 4) (h5 : f ≠ 5) (h9 : f ≠ 9) : tm T rm dn nt f = T f := by funext g; simp [tm, h4, h5, h9]
theorem tm_4 {T : sp_T} {rm dn : Nat → Nat} {nt : Nat} : tm T rm dn nt 4 = rm := rfl
theorem tm_5 {T : sp_T} {rm dn : Nat → Nat} {nt : Nat} : tm T rm dn nt 5 = dn := rfl
theorem tm_9 {T : sp_T} {rm dn : Nat → Nat} {nt g : Nat} : tm T rm dn nt 9 g = nt := rfl
theorem tm_a {T : sp_T} {rm dn : Nat → Nat} {nt : Nat} : ta (tm T rm dn nt) = ta T := rfl
theorem tm_s {T : sp_T} {rm dn : Nat → Nat} {nt : Nat} : ts (tm T rm dn nt) = ts T := rfl
theorem mk_m {T : sp_T} {rm dn : Nat → Nat} {nt : Nat} (h : mk T) (hr : ∀ g, g < T 0 0 → rm g < 6) (hd : ∀ g, g < T 0 0 → dn g ≤ 20) : mk (tm T rm dn nt) :=
  ⟨h.1, h.2.1, fun g hg => ⟨(h.2.2.1 g hg).1, (h.2.2.1 g hg).2.1, (h.2.2.1 g hg).2.2.1, hr g hg, hd g hg⟩, h.2.2.2.1, h.2.2.2.2⟩
theorem tm_q {T : sp_T} {rm dn rm' dn' : Nat → Nat} {nt : Nat} (hr : ∀ g, g < T 0 0 → rm g = rm' g) (hd : ∀ g, g < T 0 0 → dn g = dn' g) : tq (tm T rm dn nt) (tm T rm' dn' nt) :=
  ⟨rfl, rfl, rfl, rfl, fun g hg => ⟨rfl, rfl, rfl, hr g hg, hd g hg⟩, fun _ _ => ⟨rfl, rfl⟩, fun _ _ => ⟨rfl, rfl, rfl⟩⟩
theorem cm_firstIn {σ : hs_St} {K : Int32 → hs_St → Prop} {T : sp_T} {r : Nat} (hr : r < 6) (hx : mr (σ.1 65) T) (hk : mk T) (hK : K (if sp_f (sp_at (ts T) (T 4) (T 5) r) (T 0 0) 0 < T 0 0 then nI (sp_f (sp_at (ts T) (T 4) (T 5) r) (T 0 0) 0) else -4) σ) : OkI m_X6_firstIn [.ref 63, .int (nI r)] σ K := by
  have h4 := hk.1
  have loop : ∀ n i, T 0 0 - i = n → i ≤ T 0 0 → sp_f (sp_at (ts T) (T 4) (T 5) r) n i = sp_f (sp_at (ts T) (T 4) (T 5) r) (T 0 0) 0 → RnI m_X6_firstIn 2 [(0, .ref 63), (1, .int (nI r)), (2, .int (nI i))] [] σ K := by
    intro n
    induction n with
    | zero =>
      intro i hn hi hf
      have : i = T 0 0 := by omega
      subst this
      refine vc_X6_firstIn_2 ⟨fun _ => ?_, fun h => absurd (by rw [hx.1, il (by omega) (by omega)]; omega) h⟩
      rw [← hf, sp_f, if_neg (by omega)] at hK
      exact hK
    | succ n ih =>
      intro i hn hi hf
      have hlt : i < T 0 0 := by omega
      have xg := hx.2.2.2.1 i hlt
      have kg := hk.2.2.1 i hlt
      have h8 := ts_in T i
      refine vc_X6_firstIn_2 ⟨fun h => ?_, fun _ => cm_of3 (by omega) ⟨fun h => ?_, fun h => cm_left hlt hx hk ⟨fun h2 => ?_, fun h2 => ?_⟩⟩⟩
      · rw [hx.1, il (by omega) (by omega)] at h; omega
      · rw [xg.2.2.2.1, ieq (by omega) (by omega)] at h
        rw [nI_1]
        refine ih (i + 1) (by omega) (by omega) ?_
        rw [← hf, sp_f, if_neg]
        simp only [sp_at, decide_eq_true_eq]; omega
      · rw [nl_0, il (by omega) (by omega)] at h2
        rw [nI_1]
        refine ih (i + 1) (by omega) (by omega) ?_
        rw [← hf, sp_f, if_neg]
        simp only [sp_at, decide_eq_true_eq]; omega
      · rw [xg.2.2.2.1, ieq (by omega) (by omega)] at h
        rw [nl_0, il (by omega) (by omega)] at h2
        have hfi : sp_f (sp_at (ts T) (T 4) (T 5) r) (T 0 0) 0 = i := by
          rw [← hf, sp_f, if_pos]
          simp only [sp_at, decide_eq_true_eq]; omega
        rw [hfi, if_pos hlt] at hK
        exact hK
  refine vc_X6_firstIn ?_
  rw [nl_0]
  exact loop (T 0 0) 0 (by omega) (by omega) rfl
theorem il_c {c : Nat} : (21 : Int32) + 2 * nI c = nI (21 + 2 * c) := by rw [nl_21, nl_2, pk_mul, nI_add]
theorem il_k {c : Nat} : (21 : Int32) + 2 * nI c + 1 = nI (22 + 2 * c) := by rw [il_c, nI_1]; congr 1; omega
/-- the walk of the model: T is what stands, w what the nights change, ill who is ill -/
def mw (σ : hs_St) (T : sp_T) (ill : Nat) (w : sp_W) (nt : Nat) : Prop := mr (σ.1 65) (tm T w.1 w.2.1 nt) ∧ σ.1 63 3 = nI (T 6 0) ∧ σ.1 63 17 = nI ill ∧ ∀ r, r < 6 → σ.1 70 r = nI (w.2.2 r)
def mwk (T : sp_T) (w : sp_W) : Prop := (∀ g, g < T 0 0 → w.1 g < 6) ∧ ∀ g, g < T 0 0 → w.2.1 g ≤ 20
/-- its clerks' skills -/
def mi (T : sp_T) (ill : Nat) : sp_P := (T 0 0, T 6 0, ts T, fun g => ta T g % 6, T 7, fun c => if ill.testBit c then 0 else T 8 c)
theorem mi_ti {T : sp_T} {ill : Nat} : tp (ti T ill) = mi T ill := rfl
theorem mi_0 {T : sp_T} : mi T 0 = tp T := by simp [mi, tp]
theorem mwk_night {T : sp_T} {ill : Nat} {w : sp_W} (h : mwk T w) : mwk T (sp_night (mi T ill) w) := by
  refine ⟨fun g hg => ?_, fun g hg => ?_⟩
  · show sp_go _ _ _ _ g < 6
    unfold sp_go
    split
    · omega
    · exact h.1 g hg
  · have h1 := mo_night (p := mi T ill) (w := w) g hg
    have h2 := h.2 g hg
    have h3 := (ts_in T g).2
    change w.2.1 g ≤ (sp_night (mi T ill) w).2.1 g ∧ ((sp_night (mi T ill) w).2.1 g = w.2.1 g ∨ (sp_night (mi T ill) w).2.1 g ≤ ts T g) at h1
    omega
theorem mwk_run {T : sp_T} {ill : Nat} {w : sp_W} (h : mwk T w) : ∀ n, mwk T (sp_run (mi T ill) n w)
  | 0 => h
  | n + 1 => mwk_night (mwk_run h n)
theorem mwk_tw {T : sp_T} (h : mk T) : mwk T (tw T) := ⟨fun g hg => (h.2.2.1 g hg).2.2.2.1, fun g hg => (h.2.2.1 g hg).2.2.2.2⟩
set_option maxHeartbeats 2000000 in
theorem cm_night {σ : hs_St} {K : hs_St → Prop} {T : sp_T} {ill nt : Nat} {w : sp_W} (hx : mw σ T ill w nt) (hk : mk T) (hil : ill < 8) (hw : mwk T w) (hK : ∀ τ, hs_fr [65, 70] σ τ → mw τ T ill (sp_night (mi T ill) w) (nt + 1) → K τ) : OkV m_X6_nightGoes [.ref 63] σ K := by
  obtain ⟨rm, dn, hm⟩ := w
  obtain ⟨x1, x2, x3, x4⟩ := hx
  obtain ⟨w1, w2⟩ := hw
  dsimp only at x1 x2 x3 x4 w1 w2
  have h4 := hk.1
  have h6 := hk.2.1
  have loop2 : ∀ d1 : Nat → Nat, d1 = sp_dn (mi T ill) (rm, dn, hm) → (∀ g, g < T 0 0 → d1 g ≤ 20) → ∀ n i (τ : hs_St), T 0 0 - i = n → i ≤ T 0 0 → hs_fr [65, 70] σ τ →
      mr (τ.1 65) (tm T (fun g => if g < i then sp_go (ts T) (fun g => ta T g % 6) rm d1 g else rm g) d1 nt) →
      (∀ r, r < 6 → τ.1 70 r = nI (hm r + sp_sum i (fun g => if rm g = r then ts T g - d1 g else 0))) → RnV m_X6_nightGoes 91 [(0, .ref 63), (1, .int (nI i))] [] τ K := by
    intro d1 hd1 hd20 n
    induction n with
    | zero =>
      intro i τ hn hi hf a1 a2
      have : i = T 0 0 := by omega
      subst this
      have e20 : τ.1 65 20 = nI (T 0 0) := a1.1
      refine vc_X6_nightGoes_91 ⟨fun _ => ?_, fun h => absurd (by rw [e20, il (by omega) (by omega)]; exact Nat.le_refl _) h⟩
      rintro _ rfl
      have e27 : τ.1 65 27 = nI nt := a1.2.1
      rw [e27, nI_1]
      refine hK _ (hf.w (by decide)) ⟨?_, ?_, ?_, ?_⟩
      · have := mr_9 (T := tm T _ d1 nt) (v := nt + 1) h4 h6 a1
        refine mr_q this ?_
        refine ⟨rfl, rfl, rfl, rfl, fun g hg => ⟨rfl, rfl, rfl, ?_, ?_⟩, fun _ _ => ⟨rfl, rfl⟩, fun _ _ => ⟨rfl, rfl, rfl⟩⟩
        · show (if g < T 0 0 then sp_go (ts T) (fun g => ta T g % 6) rm d1 g else rm g) = sp_go (ts T) (fun g => ta T g % 6) rm (sp_dn (mi T ill) (rm, dn, hm)) g
          rw [if_pos (show g < T 0 0 from hg), hd1]
        · show d1 g = sp_dn (mi T ill) (rm, dn, hm) g
          rw [hd1]
      · rw [w_ne (by decide), hf.2 63 (by decide)]; exact x2
      · rw [w_ne (by decide), hf.2 63 (by decide)]; exact x3
      · intro r hr
        rw [w_ne (by decide), a2 r hr]
        show _ = nI (sp_hm (T 0 0) (ts T) rm (sp_dn (mi T ill) (rm, dn, hm)) hm r)
        rw [← hd1]; rfl
    | succ n ih =>
      intro i τ hn hi hf a1 a2
      have hlt : i < T 0 0 := by omega
      have hki : mk (tm T (fun g => if g < i then sp_go (ts T) (fun g => ta T g % 6) rm d1 g else rm g) d1 nt) := mk_m hk (fun g hg => by
        have := w1 g hg
        split
        · unfold sp_go; split <;> omega
        · exact this) hd20
      have xr : τ.1 65 (5 * i + 3) = nI (rm i) := by
        have := (a1.2.2.2.1 i hlt).2.2.2.1
        rw [tm_4] at this
        rw [if_neg (by omega)] at this; exact this
      have hri := w1 i hlt
      have hai := mk_ta hk hlt
      have h8 := ts_in T i
      refine vc_X6_nightGoes_91 ⟨fun h => ?_, fun _ => cm_left (T := tm T _ d1 nt) hlt a1 hki ?_⟩
      · rw [a1.1, il (by show T 0 0 < _; omega) (by omega)] at h
        have h : T 0 0 ≤ i := h
        omega
      · rw [tm_s, tm_5]
        refine ⟨fun h => ?_, fun h => ?_⟩
        · rw [nl_0, il (by omega) (by omega)] at h
          rw [nI_1]
          refine ih (i + 1) τ (by omega) (by omega) hf (mr_q a1 (tm_q (fun g hg => ?_) (fun _ _ => rfl))) (fun r hr => ?_)
          · by_cases e : g = i
            · subst e
              rw [if_neg (by omega), if_pos (by omega), sp_go, if_neg (by omega)]
            · by_cases e2 : g < i
              · rw [if_pos e2, if_pos (by omega)]
              · rw [if_neg e2, if_neg (by omega)]
          · rw [a2 r hr]
            simp only [sp_sum]
            congr 1
            split <;> omega
        · rw [nl_0, il (by omega) (by omega)] at h
          refine cm_of3 (by omega) ?_
          rw [xr]
          refine ⟨by rw [vi (by omega) (by omega)]; exact hri, cm_left (T := tm T _ d1 nt) hlt a1 hki ?_⟩
          rw [tm_s, tm_5, nI_clamp (by omega)]
          rintro _ rfl
          rw [a2 (rm i) hri, nI_add]
          refine cm_of3 (by omega) ?_
          have e65 : ∀ v : Int32, (hs_w τ 70 (rm i) v).1 65 = τ.1 65 := fun v => w_ne (by decide)
          refine cm_answer (T := tm T (fun g => if g < i then sp_go (ts T) (fun g => ta T g % 6) rm d1 g else rm g) d1 nt) hlt (by rw [e65]; exact a1) hki ?_
          rw [e65, xr, tm_a, nI_add, nl_6, irem (by omega) (by omega) (by omega), nl_3]
          refine cm_beco (by omega) ?_
          rw [nI_1]
          refine ih (i + 1) _ (by omega) (by omega) ((hf.w (by decide)).w (by decide)) ?_ (fun r hr => ?_)
          · have := mr_g3 (σ := hs_w τ 70 (rm i) (nI (hm (rm i) + sp_sum i (fun g => if rm g = rm i then ts T g - d1 g else 0) + (ts T i - d1 i)))) (o := 65) (T := tm T (fun g => if g < i then sp_go (ts T) (fun g => ta T g % 6) rm d1 g else rm g) d1 nt) (g := i) (v := (rm i + ta T i) % 6) (by omega) h6 (by rw [e65]; exact a1)
            refine mr_q this ?_
            refine ⟨rfl, rfl, rfl, rfl, fun g hg => ⟨rfl, rfl, rfl, ?_, rfl⟩, fun _ _ => ⟨rfl, rfl⟩, fun _ _ => ⟨rfl, rfl, rfl⟩⟩
            by_cases e : g = i
            · subst e
              rw [tu_eq, tm_4]
              rw [if_pos (by omega), sp_go, if_pos (by omega)]
              omega
            · rw [tu_at e, tm_4, tm_4]
              by_cases e2 : g < i
              · rw [if_pos e2, if_pos (by omega)]
              · rw [if_neg e2, if_neg (by omega)]
          · rw [w_ne (by decide)]
            by_cases e : r = rm i
            · subst e
              rw [w_eq]
              simp only [sp_sum, if_true]
              congr 1
              omega
            · rw [w_at e, a2 r hr]
              simp only [sp_sum, if_neg (Ne.symm e), Nat.add_zero]
  have hcl20 : ∀ i g, g < T 0 0 → sp_cl (T 0 0) (ts T) rm (T 7) (fun c => if ill.testBit c then 0 else T 8 c) i dn g ≤ 20 := by
    intro i g hg
    have h1 := mo_cl (gh := T 0 0) (st := ts T) (rm := rm) (dk := T 7) (sk := fun c => if ill.testBit c then 0 else T 8 c) i dn g hg
    have h2 := w2 g hg
    have h3 := (ts_in T g).2
    omega
  have loop1 : ∀ n i (τ : hs_St), T 6 0 - i = n → i ≤ T 6 0 → hs_fr [65] σ τ → mr (τ.1 65) (tm T rm (sp_cl (T 0 0) (ts T) rm (T 7) (fun c => if ill.testBit c then 0 else T 8 c) i dn) nt) → RnV m_X6_nightGoes 2 [(0, .ref 63), (1, .int (nI i))] [] τ K := by
    intro n
    induction n with
    | zero =>
      intro i τ hn hi hf a1
      have : i = T 6 0 := by omega
      subst this
      refine vc_X6_nightGoes_2 ⟨fun _ => ?_, fun h => absurd (by rw [hf.2 63 (by decide), x2, il (by omega) (by omega)]; omega) h⟩
      rw [nl_0]
      refine loop2 _ rfl (hcl20 _) (T 0 0) 0 τ (by omega) (by omega) (hf.up (by decide)) (mr_q a1 (tm_q (fun g hg => by rw [if_neg (by omega)]) (fun _ _ => rfl))) (fun r hr => ?_)
      rw [hf.2 70 (by decide), x4 r hr]; rfl
    | succ n ih =>
      intro i τ hn hi hf a1
      have hlt : i < T 6 0 := by omega
      have xc := a1.2.2.2.2.1 i hlt
      have kc := hk.2.2.2.1 i hlt
      have hki : mk (tm T rm (sp_cl (T 0 0) (ts T) rm (T 7) (fun c => if ill.testBit c then 0 else T 8 c) i dn) nt) := mk_m hk w1 (hcl20 i)
      have e63 : τ.1 63 = σ.1 63 := hf.2 63 (by decide)
      change τ.1 65 (21 + 2 * i) = nI (T 7 i) ∧ τ.1 65 (22 + 2 * i) = nI (T 8 i) at xc
      have next : ∀ (υ : hs_St), hs_fr [65] σ υ → mr (υ.1 65) (tm T rm (sp_work (T 0 0) (ts T) rm (sp_cl (T 0 0) (ts T) rm (T 7) (fun c => if ill.testBit c then 0 else T 8 c) i dn) (T 7 i) (if ill.testBit i then 0 else T 8 i)) nt) → RnV m_X6_nightGoes 2 [(0, .ref 63), (1, .int (nI i + 1))] [] υ K := by
        intro υ hf2 b1
        rw [nI_1]
        exact ih (i + 1) υ (by omega) (by omega) hf2 b1
      generalize sp_cl (T 0 0) (ts T) rm (T 7) (fun c => if ill.testBit c then 0 else T 8 c) i dn = di at a1 hki next
      refine vc_X6_nightGoes_2 ⟨fun h => ?_, fun _ => ⟨fun h => ?_, fun h => ?_⟩⟩
      · rw [e63, x2, il (by omega) (by omega)] at h; omega
      · rw [e63, x3, bit_at ill hil i (by omega)] at h
        have hb : ill.testBit i = false := by simpa using h
        rw [hb, if_neg (by decide)] at next
        rw [il_c]
        refine ⟨vp_in_nI (by omega) (by omega), ?_⟩
        rw [nI_clamp (by omega), xc.1]
        refine cm_firstIn (by omega) a1 hki ?_
        rw [tm_s, tm_4, tm_5, show tm T rm di nt 0 0 = T 0 0 from rfl]
        have hle := sp_f_le (sp_at (ts T) rm di (T 7 i)) (T 0 0) 0
        generalize hj : sp_f (sp_at (ts T) rm di (T 7 i)) (T 0 0) 0 = j at hle
        by_cases hjl : j < T 0 0
        · rw [if_pos hjl]
          have hat := sp_f_at (sp_at (ts T) rm di (T 7 i)) (T 0 0) 0 (by omega)
          rw [hj] at hat
          simp only [sp_at, decide_eq_true_eq] at hat
          refine ⟨fun h => absurd h (im4 (by omega)), fun _ => ?_⟩
          refine cm_steps (T := tm T rm di nt) hjl a1 hki (cm_of4 (by omega) ?_)
          have xd := (a1.2.2.2.1 j hjl).2.2.2.2
          rw [tm_5] at xd
          have h8 := ts_in T j
          have hd20 := (hki.2.2.1 j hjl).2.2.2.2
          rw [tm_5] at hd20
          rw [show nI (21 + 2 * i) + 1 = nI (22 + 2 * i) by rw [nI_1]; congr 1; omega]
          refine ⟨vp_in_nI (by omega) (by omega), ?_⟩
          rw [tm_s, xd, nI_clamp (by omega), xc.2, nI_add]
          refine cm_lesser ?_
          rw [ls_nI (by omega) (by omega), nl_4]
          refine cm_beco (by omega) ?_
          refine next _ (hf.w (by decide)) ?_
          have := mr_g4 (σ := τ) (o := 65) (T := tm T rm di nt) (g := j) (v := min (ts T j) (di j + T 8 i)) (by omega) h6 a1
          refine mr_q this ?_
          refine ⟨rfl, rfl, rfl, rfl, fun g hg => ⟨rfl, rfl, rfl, rfl, ?_⟩, fun _ _ => ⟨rfl, rfl⟩, fun _ _ => ⟨rfl, rfl, rfl⟩⟩
          show tu (tm T rm di nt) 5 j (min (ts T j) (di j + T 8 i)) 5 g = sp_work (T 0 0) (ts T) rm di (T 7 i) (T 8 i) g
          unfold sp_work
          rw [hj]
          by_cases e : g = j
          · subst e; rw [tu_eq, if_pos rfl]
          · rw [tu_at e, if_neg e]; rfl
        · rw [if_neg hjl]
          refine ⟨fun _ => next τ hf (mr_q a1 (tm_q (fun _ _ => rfl) (fun g hg => ?_))), fun h => absurd rfl h⟩
          unfold sp_work
          rw [hj, if_neg (by omega)]
      · rw [e63, x3, bit_at ill hil i (by omega)] at h
        rw [h, if_pos rfl] at next
        refine next τ hf (mr_q a1 (tm_q (fun _ _ => rfl) (fun g hg => ?_)))
        unfold sp_work
        split
        · rename_i e
          have hat := sp_f_at (sp_at (ts T) rm di (T 7 i)) (T 0 0) 0 (by omega)
          rw [← e] at hat
          simp only [sp_at, decide_eq_true_eq] at hat
          omega
        · rfl
  refine vc_X6_nightGoes ?_
  rw [nl_0]
  exact loop1 (T 6 0) 0 σ (by omega) (by omega) hs_fr.rf x1
