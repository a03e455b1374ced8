/-! Walk: the nights of the class -/
theorem cx_work {σ : hs_St} {K : hs_St → Prop} {gh : Nat} {st rm dn : Nat → Nat} {dk sk : Nat} (hg : gh ≤ 4) (h0 : σ.1 1 0 = nI gh) (hl : ∀ g, g < gh → σ.1 3 g = nI (st g - dn g) ∧ st g ≤ 8) (hr : ∀ g, g < gh → σ.1 2 g = nI (rm g) ∧ rm g < 6) (hdk : dk < 6) (hsk : sk ≤ 4)
    (hK : ∀ τ, (∀ k, k ≠ 3 → τ.1 k = σ.1 k) → τ.2 = σ.2 → (∀ g, g < gh → τ.1 3 g = nI (st g - sp_work gh st rm dn dk sk g)) → K τ) : OkV m_X4_work [.ref 1, .int (nI dk), .int (nI sk)] σ K := by
  refine vc_X4_work ?_
  have loop : ∀ n i, gh - i = n → i ≤ gh → sp_f (sp_at st rm dn dk) n i = sp_f (sp_at st rm dn dk) gh 0 → RnV m_X4_work 2 [(0, .ref 1), (1, .int (nI dk)), (2, .int (nI sk)), (3, .int (nI i))] [] σ K := by
    intro n
    induction n with
    | zero =>
      intro i hn hi hf
      refine vc_X4_work_2 ⟨fun _ => hK σ (fun _ _ => rfl) rfl (fun g hgg => ?_), fun h => absurd (by rw [h0, il (by omega) (by omega)]; omega) h⟩
      have : ¬ g = sp_f (sp_at st rm dn dk) gh 0 := by rw [← hf]; simp only [sp_f]; omega
      rw [(hl g hgg).1, sp_work, if_neg this]
    | succ n ih =>
      intro i hn hi hf
      have hlt : i < gh := by omega
      have hli := hl i hlt
      have hri := hr i hlt
      refine vc_X4_work_2 ⟨fun h => ?_, fun _ => ⟨vp_in_nI (by omega) (by omega), fun h => ?_, fun h => ⟨fun h2 => ?_, fun h2 τ e => ?_⟩⟩⟩
      · rw [h0, il (by omega) (by omega)] at h; omega
      · rw [nI_clamp (by omega), hli.1, nl_0, il (by omega) (by omega)] at h
        rw [nI_1]
        refine ih (i + 1) (by omega) (by omega) ?_
        rw [← hf, sp_f, if_neg]
        simp only [sp_at, decide_eq_true_eq]; omega
      · rw [nI_clamp (by omega), hri.1, ieq (by omega) (by omega)] at h2
        rw [nI_1]
        refine ih (i + 1) (by omega) (by omega) ?_
        rw [← hf, sp_f, if_neg]
        simp only [sp_at, decide_eq_true_eq]; omega
      · rw [nI_clamp (by omega), hli.1, nl_0, il (by omega) (by omega)] at h
        rw [nI_clamp (by omega), hri.1, ieq (by omega) (by omega)] at h2
        have hfi : sp_f (sp_at st rm dn dk) gh 0 = i := by
          rw [← hf, sp_f, if_pos]
          simp only [sp_at, decide_eq_true_eq]; omega
        rw [nI_clamp (by omega), hli.1, mx0 (by omega) (by omega)] at e
        subst e
        refine hK _ (fun k hk => ?_) rfl (fun g hgg => ?_)
        · simp [hs_w, hs_ua, hk]
        · rw [sp_work, hfi]
          by_cases hgi : g = i
          · subst hgi
            simp only [hs_w, hs_ua, upd, if_true]
            congr 1
            omega
          · simp only [hs_w, hs_ua, upd, if_true, if_neg hgi]
            exact (hl g hgg).1
  rw [nl_0]
  exact loop gh 0 (by omega) (by omega) rfl
/-- only these cells differ -/
def hs_fr (S : List Nat) (σ τ : hs_St) : Prop := τ.2 = σ.2 ∧ ∀ k, k ∉ S → τ.1 k = σ.1 k
theorem hs_fr.rf {S : List Nat} {σ : hs_St} : hs_fr S σ σ := ⟨rfl, fun _ _ => rfl⟩
theorem hs_fr.tr {S : List Nat} {σ τ υ : hs_St} (h : hs_fr S σ τ) (g : hs_fr S τ υ) : hs_fr S σ υ := ⟨g.1.trans h.1, fun k hk => (g.2 k hk).trans (h.2 k hk)⟩
theorem hs_fr.up {S T : List Nat} {σ τ : hs_St} (h : hs_fr S σ τ) (hs : ∀ k ∈ S, k ∈ T) : hs_fr T σ τ := ⟨h.1, fun k hk => h.2 k (fun z => hk (hs k z))⟩
theorem hs_fr.w {S : List Nat} {σ τ : hs_St} (h : hs_fr S σ τ) {k i : Nat} {v : Int32} (hk : k ∈ S) : hs_fr S σ (hs_w τ k i v) := ⟨h.1, fun j hj => by
  have : j ≠ k := fun e => hj (e ▸ hk)
  simp only [hs_w, hs_ua, if_neg this]
  exact h.2 j hj⟩
theorem hs_fr.ua {S : List Nat} {σ τ : hs_St} (h : hs_fr S σ τ) {k : Nat} {f : Nat → Int32} (hk : k ∈ S) : hs_fr S σ (hs_ua τ k f) := ⟨h.1, fun j hj => by
  have : j ≠ k := fun e => hj (e ▸ hk)
  simp only [hs_ua, if_neg this]
  exact h.2 j hj⟩
/-- the walk at hand holds p and w -/
def xw (σ : hs_St) (p : sp_P) (w : sp_W) : Prop :=
  σ.1 1 0 = nI p.1 ∧ σ.1 1 4 = nI p.2.1 ∧ σ.1 1 7 = nI (sp_tot w.2.2) ∧ (∀ g, g < p.1 → σ.1 2 g = nI (w.1 g) ∧ σ.1 3 g = nI (p.2.2.1 g - w.2.1 g) ∧ σ.1 4 g = nI (p.2.2.2.1 g)) ∧ (∀ c, c < p.2.1 → σ.1 5 c = nI (p.2.2.2.2.1 c) ∧ σ.1 6 c = nI (p.2.2.2.2.2 c)) ∧ ∀ r, r < 6 → σ.1 7 r = nI (w.2.2 r)
theorem sp_tot_sum {rm f : Nat → Nat} : ∀ n, (∀ g, g < n → rm g < 6) → sp_tot (fun r => sp_sum n (fun g => if rm g = r then f g else 0)) = sp_sum n f
  | 0, _ => rfl
  | n + 1, h => by
    have ih := sp_tot_sum (rm := rm) (f := f) n (fun g hg => h g (by omega))
    have hn := h n (by omega)
    simp only [sp_tot, sp_sum] at ih ⊢
    rcases (show rm n = 0 ∨ rm n = 1 ∨ rm n = 2 ∨ rm n = 3 ∨ rm n = 4 ∨ rm n = 5 by omega) with e | e | e | e | e | e <;> simp [e] <;> omega
theorem sp_tot_hm {gh : Nat} {st rm dn hm : Nat → Nat} (h : ∀ g, g < gh → rm g < 6) : sp_tot (sp_hm gh st rm dn hm) = sp_tot hm + sp_sum gh (fun g => st g - dn g) := by
  have h1 := sp_tot_sum (rm := rm) (f := fun g => st g - dn g) gh h
  simp only [sp_tot, sp_hm] at h1 ⊢
  omega
theorem irem {a d : Nat} (ha : a < 2147483648) (h0 : 0 < d) (hd : d < 2147483648) : nI a - nI a / nI d * nI d = nI (a % d) := pk_rem ha h0 hd
theorem idv {a d : Nat} (ha : a < 2147483648) (h0 : 0 < d) (hd : d < 2147483648) : nI a / nI d = nI (a / d) := pk_div ha h0 hd
set_option maxHeartbeats 1000000 in
theorem cx_night {σ : hs_St} {K : hs_St → Prop} {p : sp_P} {w : sp_W} (hx : xw σ p w) (ho : sp_ok p w) (hK : ∀ τ, hs_fr [1, 2, 3, 7] σ τ → xw τ p (sp_night p w) → K τ) : OkV m_X4_goOneNight [.ref 1] σ K := by
  obtain ⟨gh, cl, st, pc, dk, sk⟩ := p
  obtain ⟨rm, dn, hm⟩ := w
  obtain ⟨x0, x1, x2, x3, x4, x5⟩ := hx
  obtain ⟨o1, o2, o3, o4⟩ := ho
  dsimp only at x0 x1 x2 x3 x4 x5 o1 o2 o3 o4
  have loop2 : ∀ (τ0 : hs_St), hs_fr [3] σ τ0 → (∀ g, g < gh → τ0.1 3 g = nI (st g - sp_dn (gh, cl, st, pc, dk, sk) (rm, dn, hm) g)) → ∀ n i τ, gh - i = n → i ≤ gh → τ.2 = σ.2 → (∀ k, k ≠ 1 → k ≠ 2 → k ≠ 7 → τ.1 k = τ0.1 k) → (∀ j, j ≠ 7 → τ.1 1 j = σ.1 1 j) →
      τ.1 1 7 = nI (sp_tot hm + sp_sum i (fun g => st g - sp_dn (gh, cl, st, pc, dk, sk) (rm, dn, hm) g)) →
      (∀ g, g < gh → τ.1 2 g = nI (if g < i then sp_go st pc rm (sp_dn (gh, cl, st, pc, dk, sk) (rm, dn, hm)) g else rm g)) →
      (∀ r, r < 6 → τ.1 7 r = nI (hm r + sp_sum i (fun g => if rm g = r then st g - sp_dn (gh, cl, st, pc, dk, sk) (rm, dn, hm) g else 0))) → RnV m_X4_goOneNight 34 [(0, .ref 1), (1, .int (nI i))] [] τ K := by
    intro τ0 hf hl
    generalize hdn : sp_dn (gh, cl, st, pc, dk, sk) (rm, dn, hm) = d1 at hl ⊢
    have fin : ∀ τ : hs_St, τ.2 = σ.2 → (∀ k, k ≠ 1 → k ≠ 2 → k ≠ 7 → τ.1 k = τ0.1 k) → (∀ j, j ≠ 7 → τ.1 1 j = σ.1 1 j) → τ.1 1 7 = nI (sp_tot hm + sp_sum gh (fun g => st g - d1 g)) →
        (∀ g, g < gh → τ.1 2 g = nI (if g < gh then sp_go st pc rm d1 g else rm g)) → (∀ r, r < 6 → τ.1 7 r = nI (hm r + sp_sum gh (fun g => if rm g = r then st g - d1 g else 0))) → K τ := by
      intro τ a1 a2 a3 a4 a5 a6
      refine hK τ ⟨a1, fun k hk => ?_⟩ ⟨?_, ?_, ?_, ?_, ?_, ?_⟩
      · simp only [List.mem_cons, List.not_mem_nil, or_false, not_or] at hk
        rw [a2 k hk.1 hk.2.1 hk.2.2.2]
        exact hf.2 k (by simp [hk.2.2.1])
      · rw [a3 0 (by decide)]; exact x0
      · rw [a3 4 (by decide)]; exact x1
      · rw [a4]
        congr 1
        show _ = sp_tot (sp_hm gh st rm (sp_dn (gh, cl, st, pc, dk, sk) (rm, dn, hm)) hm)
        rw [sp_tot_hm (fun g hg => (o3 g hg).2.2), hdn]
      · intro g hg
        refine ⟨?_, ?_, ?_⟩
        · rw [a5 g hg, if_pos hg]
          show _ = nI (sp_go st pc rm (sp_dn (gh, cl, st, pc, dk, sk) (rm, dn, hm)) g)
          rw [hdn]
        · rw [a2 3 (by decide) (by decide) (by decide), hl g hg]
          show _ = nI (st g - sp_dn (gh, cl, st, pc, dk, sk) (rm, dn, hm) g)
          rw [hdn]
        · rw [a2 4 (by decide) (by decide) (by decide), hf.2 4 (by decide)]; exact (x3 g hg).2.2
      · intro c hc
        rw [a2 5 (by decide) (by decide) (by decide), hf.2 5 (by decide), a2 6 (by decide) (by decide) (by decide), hf.2 6 (by decide)]
        exact x4 c hc
      · intro r hr
        rw [a6 r hr]
        show _ = nI (sp_hm gh st rm (sp_dn (gh, cl, st, pc, dk, sk) (rm, dn, hm)) hm r)
        rw [hdn]
        rfl
    intro n
    induction n with
    | zero =>
      intro i τ hn hi a1 a2 a3 a4 a5 a6
      have : i = gh := by omega
      subst this
      refine vc_X4_goOneNight_34 ⟨fun _ => fin τ a1 a2 a3 a4 a5 a6, fun h => absurd (by rw [a3 0 (by decide), x0, il (by omega) (by omega)]; omega) h⟩
    | succ n ih =>
      intro i τ hn hi a1 a2 a3 a4 a5 a6
      have hlt : i < gh := by omega
      have hli : τ.1 3 i = nI (st i - d1 i) := by rw [a2 3 (by decide) (by decide) (by decide)]; exact hl i hlt
      have hri : τ.1 2 i = nI (rm i) := by rw [a5 i hlt, if_neg (by omega)]
      have hpi : τ.1 4 i = nI (pc i) := by rw [a2 4 (by decide) (by decide) (by decide), hf.2 4 (by decide)]; exact (x3 i hlt).2.2
      have hoi := o3 i hlt
      refine vc_X4_goOneNight_34 ⟨fun h => ?_, fun _ => ⟨vp_in_nI (by omega) (by omega), fun h => ?_, fun h => ?_⟩⟩
      · rw [a3 0 (by decide), x0, il (by omega) (by omega)] at h; omega
      · rw [nI_clamp (by omega), hli, nl_0, il (by omega) (by omega)] at h
        have hz : st i - d1 i = 0 := by omega
        rw [nI_1]
        refine ih (i + 1) τ (by omega) (by omega) a1 a2 a3 ?_ ?_ ?_
        · rw [a4]; simp only [sp_sum, hz, Nat.add_zero]
        · intro g hg
          rw [a5 g hg]
          congr 1
          by_cases e : g = i
          · subst e
            rw [if_neg (by omega), if_pos (by omega), sp_go, if_neg (by omega)]
          · by_cases e2 : g < i
            · rw [if_pos e2, if_pos (by omega)]
            · rw [if_neg e2, if_neg (by omega)]
        · intro r hr
          rw [a6 r hr]
          simp only [sp_sum, hz]
          congr 1
          split <;> omega
      · rw [nI_clamp (by omega), hli, nl_0, il (by omega) (by omega)] at h
        have hpos : d1 i < st i := by omega
        rw [nI_clamp (by omega)]
        rintro _ rfl
        refine ⟨?_, ?_⟩
        · show vp_in (τ.1 2 i) 6
          rw [hri, vi (by omega) (by omega)]; omega
        · rintro _ rfl
          rintro _ rfl
          rw [nI_1]
          have e2 : (hs_w τ 1 7 (τ.1 1 7 + τ.1 3 i)).1 2 = τ.1 2 := rfl
          have e7 : (hs_w τ 1 7 (τ.1 1 7 + τ.1 3 i)).1 7 = τ.1 7 := rfl
          have e3 : (hs_w τ 1 7 (τ.1 1 7 + τ.1 3 i)).1 3 = τ.1 3 := rfl
          rw [e2, e7, e3, hri, nI_clamp (by omega), hli, a4, nI_add, a6 (rm i) hoi.2.2, nI_add]
          have e22 : ∀ v u : Int32, (hs_w (hs_w τ 1 7 v) 7 (rm i) u).1 2 = τ.1 2 := fun _ _ => rfl
          have e24 : ∀ v u : Int32, (hs_w (hs_w τ 1 7 v) 7 (rm i) u).1 4 = τ.1 4 := fun _ _ => rfl
          rw [e22, e24, hri, hpi, nI_add, nl_6, irem (by omega) (by omega) (by omega)]
          refine ih (i + 1) _ (by omega) (by omega) a1 ?_ ?_ ?_ ?_ ?_
          · intro k h1 h2 h7
            simp only [hs_w, hs_ua, if_neg h1, if_neg h2, if_neg h7]
            exact a2 k h1 h2 h7
          · intro j hj
            have : (hs_w (hs_w (hs_w τ 1 7 (nI (sp_tot hm + sp_sum i (fun g => st g - d1 g) + (st i - d1 i)))) 7 (rm i) (nI (hm (rm i) + sp_sum i (fun g => if rm g = rm i then st g - d1 g else 0) + (st i - d1 i)))) 2 i (nI ((rm i + pc i) % 6))).1 1 j = if j = 7 then nI (sp_tot hm + sp_sum i (fun g => st g - d1 g) + (st i - d1 i)) else τ.1 1 j := rfl
            rw [this, if_neg hj]
            exact a3 j hj
          · show nI (sp_tot hm + sp_sum i (fun g => st g - d1 g) + (st i - d1 i)) = _
            simp only [sp_sum]
            congr 1
            omega
          · intro g hg
            show (if g = i then nI ((rm i + pc i) % 6) else τ.1 2 g) = _
            by_cases e : g = i
            · subst e
              rw [if_pos rfl, if_pos (by omega), sp_go, if_pos hpos]
            · rw [if_neg e, a5 g hg]
              congr 1
              by_cases e2 : g < i
              · rw [if_pos e2, if_pos (by omega)]
              · rw [if_neg e2, if_neg (by omega)]
          · intro r hr
            show (if r = rm i then nI (hm (rm i) + sp_sum i (fun g => if rm g = rm i then st g - d1 g else 0) + (st i - d1 i)) else τ.1 7 r) = _
            by_cases e : r = rm i
            · subst e
              rw [if_pos rfl]
              simp only [sp_sum, if_true]
              congr 1
              omega
            · rw [if_neg e, a6 r hr]
              simp only [sp_sum, if_neg (Ne.symm e), Nat.add_zero]
  have loop1 : ∀ n i τ, cl - i = n → i ≤ cl → hs_fr [3] σ τ → (∀ g, g < gh → τ.1 3 g = nI (st g - sp_cl gh st rm dk sk i dn g)) → RnV m_X4_goOneNight 2 [(0, .ref 1), (1, .int (nI i))] [] τ K := by
    intro n
    induction n with
    | zero =>
      intro i τ hn hi hf hl
      have : i = cl := by omega
      subst this
      refine vc_X4_goOneNight_2 ⟨fun _ => ?_, fun h => absurd (by rw [hf.2 1 (by decide), x1, il (by omega) (by omega)]; omega) h⟩
      rw [nl_0]
      refine loop2 τ hf hl gh 0 τ (by omega) (by omega) hf.1 (fun _ _ _ _ => rfl) (fun j _ => by rw [hf.2 1 (by decide)]) ?_ ?_ ?_
      · rw [hf.2 1 (by decide), x2]; rfl
      · intro g hg
        rw [hf.2 2 (by decide), (x3 g hg).1, if_neg (by omega)]
      · intro r hr
        rw [hf.2 7 (by decide), x5 r hr]; rfl
    | succ n ih =>
      intro i τ hn hi hf hl
      have hlt : i < cl := by omega
      have hci := x4 i hlt
      have hoi := o4 i hlt
      refine vc_X4_goOneNight_2 ⟨fun h => ?_, fun _ => ⟨vp_in_nI (by omega) (by omega), ?_⟩⟩
      · rw [hf.2 1 (by decide), x1, il (by omega) (by omega)] at h; omega
      · rw [nI_clamp (by omega), hf.2 5 (by decide), hf.2 6 (by decide), hci.1, hci.2]
        refine cx_work (gh := gh) (st := st) (rm := rm) (dn := sp_cl gh st rm dk sk i dn) o1 (by rw [hf.2 1 (by decide)]; exact x0) (fun g hg => ⟨hl g hg, (o3 g hg).1⟩) (fun g hg => ⟨by rw [hf.2 2 (by decide)]; exact (x3 g hg).1, (o3 g hg).2.2⟩) hoi.1 hoi.2 (fun υ b1 b2 b3 => ?_)
        rw [nI_1]
        exact ih (i + 1) υ (by omega) (by omega) (hf.tr ⟨b2, fun k hk => b1 k (by simpa using hk)⟩) b3
  refine vc_X4_goOneNight ?_
  rw [nl_0]
  exact loop1 cl 0 σ (by omega) (by omega) hs_fr.rf (fun g hg => (x3 g hg).2.1)
