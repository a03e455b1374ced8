/-! text of the class: a done line -/
theorem cx_takeDone {σ : hs_St} {K : Bool → hs_St → Prop} {n p : Nat} {b : Nat → Nat} {D : sp_T} {dt : Nat → Bool} {dv : Nat → Nat} (hp : xp σ n b) (hn : n ≤ 160) (hb : ∀ i, i < n → b i ≤ 127) (hpn : p ≤ n) (c3 : σ.1 21 3 = nI p) (hd : xdr σ D dt dv) (hk : dkk D dt dv) (hK : ∀ τ, hs_fr SB σ τ → xln σ τ (bds n b D dt dv 4 p) → K (isOk (bds n b D dt dv 4 p)) τ) : OkB m_X0_takeDone [.ref 21] σ K := by
  have e0 : (0 : Int32) = nI 0 := nl_0
  have e3 : (3 : Int32) = nI 3 := nl_3
  have e20 : (20 : Int32) = nI 20 := nl_20
  unfold bds bd at hK
  rw [if_pos rfl] at hK
  refine vc_X0_takeDone ?_
  rw [e0, e3, e20]
  refine cx_num hp hn hb hpn (by omega) (by omega) c3 (fun τ1 hf1 hx1 => ?_)
  cases hn1 : nm n b p 0 3 with
  | error e =>
    obtain ⟨f, a⟩ := e
    rw [hn1] at hx1 hK
    exact ⟨fun h => absurd h Bool.false_ne_true, fun _ => hK τ1 (hf1.up (by decide)) hx1⟩
  | ok t =>
    obtain ⟨g, gs, p1⟩ := t
    rw [hn1] at hx1 hK
    have o1 := nm_ok hb hpn hn1
    have hg4 : g < 4 := by omega
    obtain ⟨x6, x5, x3, x7⟩ := hx1
    refine ⟨fun _ => ?_, fun h => absurd h (fun z : true = false => Bool.noConfusion z)⟩
    intro r' er
    have er : r' = nI g := by rw [er]; exact x6
    subst er
    refine ⟨vp_in_nI hg4 (by omega), ?_⟩
    rw [nI_clamp (by omega), hf1.2 33 (by decide), hd.2 g hg4]
    dsimp only at hK
    by_cases hdt : dt g = true
    · rw [if_pos hdt] at hK ⊢
      have hv := hk.2.2.2 g hg4 hdt
      refine ⟨fun h => absurd h (im1 (by omega)), fun _ => ?_⟩
      rw [x5]
      refine cx_refuse (hK _ (((hf1.up (by decide)).w (by decide)).w (by decide)) ⟨?_, w_eq⟩)
      rw [w_at (by decide), w_eq]; exact nl_4
    · rw [if_neg hdt] at hK ⊢
      refine ⟨fun _ => ?_, fun h => absurd rfl h⟩
      refine cx_num (xp_fr hp hf1 (by decide) (by decide)) hn hb o1.2.2.2.2.1 (by omega) (by omega) x3 (fun τ2 hf2 hx2 => ?_)
      have f2 := hf1.tr hf2
      cases hn2 : nm n b p1 0 20 with
      | error e =>
        obtain ⟨f, a⟩ := e
        rw [hn2] at hx2 hK
        exact ⟨fun _ => hK τ2 (f2.up (by decide)) hx2, fun h => absurd h Bool.false_ne_true⟩
      | ok t =>
        obtain ⟨v, st2, p2⟩ := t
        rw [hn2] at hx2 hK
        have o2 := nm_ok hb o1.2.2.2.2.1 hn2
        obtain ⟨y6, y5, y3, y7⟩ := hx2
        refine ⟨fun h => absurd h (fun z : true = false => Bool.noConfusion z), fun _ => ?_⟩
        dsimp only at hK
        refine cx_semi (xp_fr hp f2 (by decide) (by decide)) hn hb o2.2.2.2.2.1 y3 (fun τ3 hf3 hx3 => ?_)
        have f3 := f2.tr hf3
        cases hs : smi n b p2 with
        | error e =>
          obtain ⟨f, a⟩ := e
          rw [hs] at hx3 hK
          exact ⟨fun h => absurd h Bool.false_ne_true, fun _ => hK τ3 (f3.up (by decide)) hx3⟩
        | ok p3 =>
          rw [hs] at hx3 hK
          obtain ⟨z6, z3, z7⟩ := hx3
          refine ⟨fun _ => ?_, fun h => absurd h (fun z : true = false => Bool.noConfusion z)⟩
          rw [z6, y6]
          have hd3 := hd.f f3
          rintro _ rfl
          refine hK _ ((f3.up (by decide)).w (by decide)) ⟨⟨xt_fr (S := [33]) (hs_fr.rf.w (by decide)) (by decide) hd3.1, fun z hz => ?_⟩, ?_, ?_⟩
          · by_cases e : z = g
            · subst e; rw [w_eq, up1_eq, up1_eq, if_pos rfl]
            · rw [w_at e, up1_ne e, up1_ne e]; exact hd3.2 z hz
          · rw [w_ne (by decide)]; exact z3
          · rw [w_ne (by decide), z7, y7, x7]
