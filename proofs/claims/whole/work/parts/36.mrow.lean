/-! the model's town: a row of 47 -/
def mr (f : Nat → Int32) (T : sp_T) : Prop :=
  f 20 = nI (T 0 0) ∧ f 27 = nI (T 9 0) ∧ f 28 = nI (T 10 0) ∧
  (∀ g, g < T 0 0 → f (5 * g) = nI (T 1 g) ∧ f (5 * g + 1) = nI (T 2 g) ∧ f (5 * g + 2) = nI (T 3 g) ∧ f (5 * g + 3) = nI (T 4 g) ∧ f (5 * g + 4) = nI (T 5 g)) ∧
  (∀ c, c < T 6 0 → f (21 + 2 * c) = nI (T 7 c) ∧ f (22 + 2 * c) = nI (T 8 c)) ∧
  (∀ i, i < T 10 0 → f (29 + 3 * i) = nI (T 11 i) ∧ f (30 + 3 * i) = nI (T 12 i) ∧ f (31 + 3 * i) = nI (T 13 i))
def mk (T : sp_T) : Prop :=
  T 0 0 ≤ 4 ∧ T 6 0 ≤ 3 ∧ (∀ g, g < T 0 0 → T 1 g < 4 ∧ (1 ≤ T 2 g ∧ T 2 g ≤ 99) ∧ (1 ≤ T 3 g ∧ T 3 g ≤ 99) ∧ T 4 g < 6 ∧ T 5 g ≤ 20) ∧ (∀ c, c < T 6 0 → T 7 c < 6 ∧ T 8 c ≤ 4) ∧ T 10 0 ≤ 6
theorem mk_of {T : sp_T} (h : tk T) : mk T := ⟨h.1, h.2.1, h.2.2.2.2.1, fun c hc => ⟨(h.2.2.2.2.2.1 c hc).1, by have := (h.2.2.2.2.2.1 c hc).2.2; omega⟩, h.2.2.2.1⟩
theorem mk_ta {T : sp_T} (h : mk T) {g : Nat} (hg : g < T 0 0) : ta T g < 10000 := sp_ans_lt (h.2.2.1 g hg).2.1.2 (h.2.2.1 g hg).2.2.1.2
/-- alike in all that is told -/
def tq (T U : sp_T) : Prop := T 0 0 = U 0 0 ∧ T 6 0 = U 6 0 ∧ T 9 0 = U 9 0 ∧ T 10 0 = U 10 0 ∧ (∀ g, g < T 0 0 → T 1 g = U 1 g ∧ T 2 g = U 2 g ∧ T 3 g = U 3 g ∧ T 4 g = U 4 g ∧ T 5 g = U 5 g) ∧ (∀ c, c < T 6 0 → T 7 c = U 7 c ∧ T 8 c = U 8 c) ∧ (∀ i, i < T 10 0 → T 11 i = U 11 i ∧ T 12 i = U 12 i ∧ T 13 i = U 13 i)
theorem mr_q {f : Nat → Int32} {T U : sp_T} (hx : mr f T) (h : tq T U) : mr f U := by
  obtain ⟨x0, x9, x10, xg, xc, xs⟩ := hx
  obtain ⟨h0, h6, h9, h10, hg, hc, hs⟩ := h
  refine ⟨by rw [x0, h0], by rw [x9, h9], by rw [x10, h10], fun g hgg => ?_, fun c hcc => ?_, fun i hii => ?_⟩
  · have a := xg g (by omega)
    have b := hg g (by omega)
    rw [← b.1, ← b.2.1, ← b.2.2.1, ← b.2.2.2.1, ← b.2.2.2.2]; exact a
  · have a := xc c (by omega)
    have b := hc c (by omega)
    rw [← b.1, ← b.2]; exact a
  · have a := xs i (by omega)
    have b := hs i (by omega)
    rw [← b.1, ← b.2.1, ← b.2.2]; exact a
theorem mr_e {f h : Nat → Int32} {T : sp_T} (hx : mr f T) (k : mk T) (he : ∀ i, i < 47 → h i = f i) : mr h T := by
  obtain ⟨x0, x9, x10, xg, xc, xs⟩ := hx
  obtain ⟨k0, k6, kg, kc, k10⟩ := k
  refine ⟨by rw [he _ (by omega)]; exact x0, by rw [he _ (by omega)]; exact x9, by rw [he _ (by omega)]; exact x10, fun g hgg => ?_, fun c hcc => ?_, fun i hii => ?_⟩
  · rw [he _ (by omega), he _ (by omega), he _ (by omega), he _ (by omega), he _ (by omega)]; exact xg g hgg
  · rw [he _ (by omega), he _ (by omega)]; exact xc c hcc
  · rw [he _ (by omega), he _ (by omega), he _ (by omega)]; exact xs i hii
theorem mr_g0 {σ : hs_St} {o : Nat} {T : sp_T} {g v : Nat} (hg : g < 4) (h6 : T 6 0 ≤ 3) (hx : mr (σ.1 o) T) : mr ((hs_w σ o (5 * g) (nI v)).1 o) (tu T 1 g v) := by
  obtain ⟨x0, x9, x10, xg, xc, xs⟩ := hx
  unfold mr
  rw [tu_ne (f' := 0) (by decide)]
  rw [tu_ne (f' := 2) (by decide)]
  rw [tu_ne (f' := 3) (by decide)]
  rw [tu_ne (f' := 4) (by decide)]
  rw [tu_ne (f' := 5) (by decide)]
  rw [tu_ne (f' := 6) (by decide)]
  rw [tu_ne (f' := 7) (by decide)]
  rw [tu_ne (f' := 8) (by decide)]
  rw [tu_ne (f' := 9) (by decide)]
  rw [tu_ne (f' := 10) (by decide)]
  rw [tu_ne (f' := 11) (by decide)]
  rw [tu_ne (f' := 12) (by decide)]
  rw [tu_ne (f' := 13) (by decide)]
  refine ⟨by rw [w_at (by omega)]; exact x0, by rw [w_at (by omega)]; exact x9, by rw [w_at (by omega)]; exact x10, fun j hj => ?_, fun c hc => ?_, fun i hi => ?_⟩
  · have h := xg j hj
    by_cases e : j = g
    · subst e
      exact ⟨by rw [w_eq, tu_eq], by rw [w_at (by omega)]; exact h.2.1, by rw [w_at (by omega)]; exact h.2.2.1, by rw [w_at (by omega)]; exact h.2.2.2.1, by rw [w_at (by omega)]; exact h.2.2.2.2⟩
    · exact ⟨by rw [w_at (by omega), tu_at e]; exact h.1, by rw [w_at (by omega)]; exact h.2.1, by rw [w_at (by omega)]; exact h.2.2.1, by rw [w_at (by omega)]; exact h.2.2.2.1, by rw [w_at (by omega)]; exact h.2.2.2.2⟩
  · rw [w_at (by omega), w_at (by omega)]; exact xc c hc
  · rw [w_at (by omega), w_at (by omega), w_at (by omega)]; exact xs i hi
theorem mr_g1 {σ : hs_St} {o : Nat} {T : sp_T} {g v : Nat} (hg : g < 4) (h6 : T 6 0 ≤ 3) (hx : mr (σ.1 o) T) : mr ((hs_w σ o (5 * g + 1) (nI v)).1 o) (tu T 2 g v) := by
  obtain ⟨x0, x9, x10, xg, xc, xs⟩ := hx
  unfold mr
  rw [tu_ne (f' := 0) (by decide)]
  rw [tu_ne (f' := 1) (by decide)]
  rw [tu_ne (f' := 3) (by decide)]
  rw [tu_ne (f' := 4) (by decide)]
  rw [tu_ne (f' := 5) (by decide)]
  rw [tu_ne (f' := 6) (by decide)]
  rw [tu_ne (f' := 7) (by decide)]
  rw [tu_ne (f' := 8) (by decide)]
  rw [tu_ne (f' := 9) (by decide)]
  rw [tu_ne (f' := 10) (by decide)]
  rw [tu_ne (f' := 11) (by decide)]
  rw [tu_ne (f' := 12) (by decide)]
  rw [tu_ne (f' := 13) (by decide)]
  refine ⟨by rw [w_at (by omega)]; exact x0, by rw [w_at (by omega)]; exact x9, by rw [w_at (by omega)]; exact x10, fun j hj => ?_, fun c hc => ?_, fun i hi => ?_⟩
  · have h := xg j hj
    by_cases e : j = g
    · subst e
      exact ⟨by rw [w_at (by omega)]; exact h.1, by rw [w_eq, tu_eq], by rw [w_at (by omega)]; exact h.2.2.1, by rw [w_at (by omega)]; exact h.2.2.2.1, by rw [w_at (by omega)]; exact h.2.2.2.2⟩
    · exact ⟨by rw [w_at (by omega)]; exact h.1, by rw [w_at (by omega), tu_at e]; exact h.2.1, by rw [w_at (by omega)]; exact h.2.2.1, by rw [w_at (by omega)]; exact h.2.2.2.1, by rw [w_at (by omega)]; exact h.2.2.2.2⟩
  · rw [w_at (by omega), w_at (by omega)]; exact xc c hc
  · rw [w_at (by omega), w_at (by omega), w_at (by omega)]; exact xs i hi
theorem mr_g2 {σ : hs_St} {o : Nat} {T : sp_T} {g v : Nat} (hg : g < 4) (h6 : T 6 0 ≤ 3) (hx : mr (σ.1 o) T) : mr ((hs_w σ o (5 * g + 2) (nI v)).1 o) (tu T 3 g v) := by
  obtain ⟨x0, x9, x10, xg, xc, xs⟩ := hx
  unfold mr
  rw [tu_ne (f' := 0) (by decide)]
  rw [tu_ne (f' := 1) (by decide)]
  rw [tu_ne (f' := 2) (by decide)]
  rw [tu_ne (f' := 4) (by decide)]
  rw [tu_ne (f' := 5) (by decide)]
  rw [tu_ne (f' := 6) (by decide)]
  rw [tu_ne (f' := 7) (by decide)]
  rw [tu_ne (f' := 8) (by decide)]
  rw [tu_ne (f' := 9) (by decide)]
  rw [tu_ne (f' := 10) (by decide)]
  rw [tu_ne (f' := 11) (by decide)]
  rw [tu_ne (f' := 12) (by decide)]
  rw [tu_ne (f' := 13) (by decide)]
  refine ⟨by rw [w_at (by omega)]; exact x0, by rw [w_at (by omega)]; exact x9, by rw [w_at (by omega)]; exact x10, fun j hj => ?_, fun c hc => ?_, fun i hi => ?_⟩
  · have h := xg j hj
    by_cases e : j = g
    · subst e
      exact ⟨by rw [w_at (by omega)]; exact h.1, by rw [w_at (by omega)]; exact h.2.1, by rw [w_eq, tu_eq], by rw [w_at (by omega)]; exact h.2.2.2.1, by rw [w_at (by omega)]; exact h.2.2.2.2⟩
    · exact ⟨by rw [w_at (by omega)]; exact h.1, by rw [w_at (by omega)]; exact h.2.1, by rw [w_at (by omega), tu_at e]; exact h.2.2.1, by rw [w_at (by omega)]; exact h.2.2.2.1, by rw [w_at (by omega)]; exact h.2.2.2.2⟩
  · rw [w_at (by omega), w_at (by omega)]; exact xc c hc
  · rw [w_at (by omega), w_at (by omega), w_at (by omega)]; exact xs i hi
theorem mr_g3 {σ : hs_St} {o : Nat} {T : sp_T} {g v : Nat} (hg : g < 4) (h6 : T 6 0 ≤ 3) (hx : mr (σ.1 o) T) : mr ((hs_w σ o (5 * g + 3) (nI v)).1 o) (tu T 4 g v) := by
  obtain ⟨x0, x9, x10, xg, xc, xs⟩ := hx
  unfold mr
  rw [tu_ne (f' := 0) (by decide)]
  rw [tu_ne (f' := 1) (by decide)]
  rw [tu_ne (f' := 2) (by decide)]
  rw [tu_ne (f' := 3) (by decide)]
  rw [tu_ne (f' := 5) (by decide)]
  rw [tu_ne (f' := 6) (by decide)]
  rw [tu_ne (f' := 7) (by decide)]
  rw [tu_ne (f' := 8) (by decide)]
  rw [tu_ne (f' := 9) (by decide)]
  rw [tu_ne (f' := 10) (by decide)]
  rw [tu_ne (f' := 11) (by decide)]
  rw [tu_ne (f' := 12) (by decide)]
  rw [tu_ne (f' := 13) (by decide)]
  refine ⟨by rw [w_at (by omega)]; exact x0, by rw [w_at (by omega)]; exact x9, by rw [w_at (by omega)]; exact x10, fun j hj => ?_, fun c hc => ?_, fun i hi => ?_⟩
  · have h := xg j hj
    by_cases e : j = g
    · subst e
      exact ⟨by rw [w_at (by omega)]; exact h.1, by rw [w_at (by omega)]; exact h.2.1, by rw [w_at (by omega)]; exact h.2.2.1, by rw [w_eq, tu_eq], by rw [w_at (by omega)]; exact h.2.2.2.2⟩
    · exact ⟨by rw [w_at (by omega)]; exact h.1, by rw [w_at (by omega)]; exact h.2.1, by rw [w_at (by omega)]; exact h.2.2.1, by rw [w_at (by omega), tu_at e]; exact h.2.2.2.1, by rw [w_at (by omega)]; exact h.2.2.2.2⟩
  · rw [w_at (by omega), w_at (by omega)]; exact xc c hc
  · rw [w_at (by omega), w_at (by omega), w_at (by omega)]; exact xs i hi
theorem mr_g4 {σ : hs_St} {o : Nat} {T : sp_T} {g v : Nat} (hg : g < 4) (h6 : T 6 0 ≤ 3) (hx : mr (σ.1 o) T) : mr ((hs_w σ o (5 * g + 4) (nI v)).1 o) (tu T 5 g v) := by
  obtain ⟨x0, x9, x10, xg, xc, xs⟩ := hx
  unfold mr
  rw [tu_ne (f' := 0) (by decide)]
  rw [tu_ne (f' := 1) (by decide)]
  rw [tu_ne (f' := 2) (by decide)]
  rw [tu_ne (f' := 3) (by decide)]
  rw [tu_ne (f' := 4) (by decide)]
  rw [tu_ne (f' := 6) (by decide)]
  rw [tu_ne (f' := 7) (by decide)]
  rw [tu_ne (f' := 8) (by decide)]
  rw [tu_ne (f' := 9) (by decide)]
  rw [tu_ne (f' := 10) (by decide)]
  rw [tu_ne (f' := 11) (by decide)]
  rw [tu_ne (f' := 12) (by decide)]
  rw [tu_ne (f' := 13) (by decide)]
  refine ⟨by rw [w_at (by omega)]; exact x0, by rw [w_at (by omega)]; exact x9, by rw [w_at (by omega)]; exact x10, fun j hj => ?_, fun c hc => ?_, fun i hi => ?_⟩
  · have h := xg j hj
    by_cases e : j = g
    · subst e
      exact ⟨by rw [w_at (by omega)]; exact h.1, by rw [w_at (by omega)]; exact h.2.1, by rw [w_at (by omega)]; exact h.2.2.1, by rw [w_at (by omega)]; exact h.2.2.2.1, by rw [w_eq, tu_eq]⟩
    · exact ⟨by rw [w_at (by omega)]; exact h.1, by rw [w_at (by omega)]; exact h.2.1, by rw [w_at (by omega)]; exact h.2.2.1, by rw [w_at (by omega)]; exact h.2.2.2.1, by rw [w_at (by omega), tu_at e]; exact h.2.2.2.2⟩
  · rw [w_at (by omega), w_at (by omega)]; exact xc c hc
  · rw [w_at (by omega), w_at (by omega), w_at (by omega)]; exact xs i hi
theorem mr_c7 {σ : hs_St} {o : Nat} {T : sp_T} {c v : Nat} (hc : c < 3) (h0 : T 0 0 ≤ 4) (hx : mr (σ.1 o) T) : mr ((hs_w σ o (21 + 2 * c) (nI v)).1 o) (tu T 7 c v) := by
  obtain ⟨x0, x9, x10, xg, xc, xs⟩ := hx
  unfold mr
  rw [tu_ne (f' := 0) (by decide)]
  rw [tu_ne (f' := 1) (by decide)]
  rw [tu_ne (f' := 2) (by decide)]
  rw [tu_ne (f' := 3) (by decide)]
  rw [tu_ne (f' := 4) (by decide)]
  rw [tu_ne (f' := 5) (by decide)]
  rw [tu_ne (f' := 6) (by decide)]
  rw [tu_ne (f' := 8) (by decide)]
  rw [tu_ne (f' := 9) (by decide)]
  rw [tu_ne (f' := 10) (by decide)]
  rw [tu_ne (f' := 11) (by decide)]
  rw [tu_ne (f' := 12) (by decide)]
  rw [tu_ne (f' := 13) (by decide)]
  refine ⟨by rw [w_at (by omega)]; exact x0, by rw [w_at (by omega)]; exact x9, by rw [w_at (by omega)]; exact x10, fun j hj => ?_, fun j hj => ?_, fun i hi => ?_⟩
  · rw [w_at (by omega), w_at (by omega), w_at (by omega), w_at (by omega), w_at (by omega)]; exact xg j hj
  · have h := xc j hj
    by_cases e : j = c
    · subst e
      exact ⟨by rw [w_eq, tu_eq], by rw [w_at (by omega)]; exact h.2⟩
    · exact ⟨by rw [w_at (by omega), tu_at e]; exact h.1, by rw [w_at (by omega)]; exact h.2⟩
  · rw [w_at (by omega), w_at (by omega), w_at (by omega)]; exact xs i hi
theorem mr_c8 {σ : hs_St} {o : Nat} {T : sp_T} {c v : Nat} (hc : c < 3) (h0 : T 0 0 ≤ 4) (hx : mr (σ.1 o) T) : mr ((hs_w σ o (22 + 2 * c) (nI v)).1 o) (tu T 8 c v) := by
  obtain ⟨x0, x9, x10, xg, xc, xs⟩ := hx
  unfold mr
  rw [tu_ne (f' := 0) (by decide)]
  rw [tu_ne (f' := 1) (by decide)]
  rw [tu_ne (f' := 2) (by decide)]
  rw [tu_ne (f' := 3) (by decide)]
  rw [tu_ne (f' := 4) (by decide)]
  rw [tu_ne (f' := 5) (by decide)]
  rw [tu_ne (f' := 6) (by decide)]
  rw [tu_ne (f' := 7) (by decide)]
  rw [tu_ne (f' := 9) (by decide)]
  rw [tu_ne (f' := 10) (by decide)]
  rw [tu_ne (f' := 11) (by decide)]
  rw [tu_ne (f' := 12) (by decide)]
  rw [tu_ne (f' := 13) (by decide)]
  refine ⟨by rw [w_at (by omega)]; exact x0, by rw [w_at (by omega)]; exact x9, by rw [w_at (by omega)]; exact x10, fun j hj => ?_, fun j hj => ?_, fun i hi => ?_⟩
  · rw [w_at (by omega), w_at (by omega), w_at (by omega), w_at (by omega), w_at (by omega)]; exact xg j hj
  · have h := xc j hj
    by_cases e : j = c
    · subst e
      exact ⟨by rw [w_at (by omega)]; exact h.1, by rw [w_eq, tu_eq]⟩
    · exact ⟨by rw [w_at (by omega)]; exact h.1, by rw [w_at (by omega), tu_at e]; exact h.2⟩
  · rw [w_at (by omega), w_at (by omega), w_at (by omega)]; exact xs i hi
theorem mr_9 {σ : hs_St} {o : Nat} {T : sp_T} {v : Nat} (h0 : T 0 0 ≤ 4) (h6 : T 6 0 ≤ 3) (hx : mr (σ.1 o) T) : mr ((hs_w σ o 27 (nI v)).1 o) (tu T 9 0 v) := by
  obtain ⟨x0, x9, x10, xg, xc, xs⟩ := hx
  unfold mr
  rw [tu_ne (f' := 0) (by decide)]
  rw [tu_ne (f' := 1) (by decide)]
  rw [tu_ne (f' := 2) (by decide)]
  rw [tu_ne (f' := 3) (by decide)]
  rw [tu_ne (f' := 4) (by decide)]
  rw [tu_ne (f' := 5) (by decide)]
  rw [tu_ne (f' := 6) (by decide)]
  rw [tu_ne (f' := 7) (by decide)]
  rw [tu_ne (f' := 8) (by decide)]
  rw [tu_ne (f' := 10) (by decide)]
  rw [tu_ne (f' := 11) (by decide)]
  rw [tu_ne (f' := 12) (by decide)]
  rw [tu_ne (f' := 13) (by decide)]
  refine ⟨by rw [w_at (by omega)]; exact x0, by rw [w_eq, tu_eq], by rw [w_at (by omega)]; exact x10, fun j hj => ?_, fun j hj => ?_, fun i hi => ?_⟩
  · rw [w_at (by omega), w_at (by omega), w_at (by omega), w_at (by omega), w_at (by omega)]; exact xg j hj
  · rw [w_at (by omega), w_at (by omega)]; exact xc j hj
  · rw [w_at (by omega), w_at (by omega), w_at (by omega)]; exact xs i hi
theorem mr_10 {σ : hs_St} {o : Nat} {T : sp_T} {v : Nat} (h0 : T 0 0 ≤ 4) (h6 : T 6 0 ≤ 3) (hv : v ≤ T 10 0) (hx : mr (σ.1 o) T) : mr ((hs_w σ o 28 (nI v)).1 o) (tu T 10 0 v) := by
  obtain ⟨x0, x9, x10, xg, xc, xs⟩ := hx
  unfold mr
  rw [tu_ne (f' := 0) (by decide)]
  rw [tu_ne (f' := 1) (by decide)]
  rw [tu_ne (f' := 2) (by decide)]
  rw [tu_ne (f' := 3) (by decide)]
  rw [tu_ne (f' := 4) (by decide)]
  rw [tu_ne (f' := 5) (by decide)]
  rw [tu_ne (f' := 6) (by decide)]
  rw [tu_ne (f' := 7) (by decide)]
  rw [tu_ne (f' := 8) (by decide)]
  rw [tu_ne (f' := 9) (by decide)]
  rw [tu_ne (f' := 11) (by decide)]
  rw [tu_ne (f' := 12) (by decide)]
  rw [tu_ne (f' := 13) (by decide)]
  refine ⟨by rw [w_at (by omega)]; exact x0, by rw [w_at (by omega)]; exact x9, by rw [w_eq, tu_eq], fun j hj => ?_, fun j hj => ?_, fun i hi => ?_⟩
  · rw [w_at (by omega), w_at (by omega), w_at (by omega), w_at (by omega), w_at (by omega)]; exact xg j hj
  · rw [w_at (by omega), w_at (by omega)]; exact xc j hj
  · rw [tu_eq] at hi
    rw [w_at (by omega), w_at (by omega), w_at (by omega)]; exact xs i (by omega)
/-! small methods of the model -/
theorem cm_flag {σ : hs_St} {K : Int32 → hs_St → Prop} {a : Int32} (hK : K (if a = 0 then 0 else 1) σ) : OkI m_X6_flag [.int a] σ K := by
  refine vc_X6_flag ⟨fun h => ?_, fun h => ?_⟩
  · rw [if_pos h] at hK; exact hK
  · rw [if_neg h] at hK; exact hK
theorem cm_lesser {σ : hs_St} {K : Int32 → hs_St → Prop} {a b : Int32} (hK : K (if b ≤ a then b else a) σ) : OkI m_X6_lesser [.int a, .int b] σ K := by
  refine vc_X6_lesser ⟨fun h => ?_, fun h => ?_⟩
  · rw [if_pos h] at hK; exact hK
  · rw [if_neg h] at hK; exact hK
theorem ls_nI {a b : Nat} (ha : a < 2147483648) (hb : b < 2147483648) : (if nI b ≤ nI a then nI b else nI a) = nI (min a b) := by
  by_cases h : b ≤ a
  · rw [if_pos (by rw [il hb ha]; exact h), Nat.min_eq_right h]
  · rw [if_neg (by rw [il hb ha]; exact h), Nat.min_eq_left (by omega)]
theorem cm_of {σ : hs_St} {K : Int32 → hs_St → Prop} {g f : Nat} (h : 5 * g + f < 47) (hK : K (σ.1 65 (5 * g + f)) σ) : OkI m_X6_of [.ref 63, .int (nI g), .int (nI f)] σ K := by
  refine vc_X6_of ?_
  rw [nl_5, pk_mul, nI_add, nI_clamp (by omega)]
  exact ⟨vp_in_nI h (by omega), hK⟩
theorem cm_beco {σ : hs_St} {K : hs_St → Prop} {g f : Nat} {v : Int32} (h : 5 * g + f < 47) (hK : K (hs_w σ 65 (5 * g + f) v)) : OkV m_X6_becomesOf [.ref 63, .int (nI g), .int (nI f), .int v] σ K := by
  refine vc_X6_becomesOf ?_
  rw [nl_5, pk_mul, nI_add, nI_clamp (by omega)]
  refine ⟨vp_in_nI h (by omega), ?_⟩
  rintro _ rfl
  exact hK
theorem cm_of0 {σ : hs_St} {K : Int32 → hs_St → Prop} {g : Nat} (h : g < 4) (hK : K (σ.1 65 (5 * g)) σ) : OkI m_X6_of [.ref 63, .int (nI g), .int 0] σ K := by rw [nl_0]; exact cm_of (by omega) hK
theorem cm_of1 {σ : hs_St} {K : Int32 → hs_St → Prop} {g : Nat} (h : g < 4) (hK : K (σ.1 65 (5 * g + 1)) σ) : OkI m_X6_of [.ref 63, .int (nI g), .int 1] σ K := by rw [nl_1]; exact cm_of (by omega) hK
theorem cm_of2 {σ : hs_St} {K : Int32 → hs_St → Prop} {g : Nat} (h : g < 4) (hK : K (σ.1 65 (5 * g + 2)) σ) : OkI m_X6_of [.ref 63, .int (nI g), .int 2] σ K := by rw [nl_2]; exact cm_of (by omega) hK
theorem cm_of3 {σ : hs_St} {K : Int32 → hs_St → Prop} {g : Nat} (h : g < 4) (hK : K (σ.1 65 (5 * g + 3)) σ) : OkI m_X6_of [.ref 63, .int (nI g), .int 3] σ K := by rw [nl_3]; exact cm_of (by omega) hK
theorem cm_of4 {σ : hs_St} {K : Int32 → hs_St → Prop} {g : Nat} (h : g < 4) (hK : K (σ.1 65 (5 * g + 4)) σ) : OkI m_X6_of [.ref 63, .int (nI g), .int 4] σ K := by rw [nl_4]; exact cm_of (by omega) hK
theorem cm_answer {σ : hs_St} {K : Int32 → hs_St → Prop} {T : sp_T} {g : Nat} (hg : g < T 0 0) (hx : mr (σ.1 65) T) (hk : mk T) (hK : K (nI (ta T g)) σ) : OkI m_X6_answer [.ref 63, .int (nI g)] σ K := by
  have kg := hk.2.2.1 g hg
  have xg := hx.2.2.2.1 g hg
  have h4 := hk.1
  refine vc_X6_answer (cm_of1 (by omega) (cm_of2 (by omega) (cm_of0 (by omega) ?_)))
  rw [xg.1, xg.2.1, xg.2.2.1, iti (by omega)]
  unfold ta at hK
  refine ⟨fun h => ?_, fun h => ?_, fun h => ⟨?_, ?_⟩, fun h => ?_⟩
  · rw [show T 1 g = 1 by omega] at hK
    refine ⟨fun h2 => ?_, fun h2 => ?_⟩
    · rw [il (by omega) (by omega)] at h2
      rw [pk_sub h2]
      have e : sp_ans 1 (T 2 g) (T 3 g) = T 3 g - T 2 g := by simp [sp_ans]; omega
      rw [e] at hK; exact hK
    · rw [il (by omega) (by omega)] at h2
      rw [pk_sub (by omega)]
      have e : sp_ans 1 (T 2 g) (T 3 g) = T 2 g - T 3 g := by simp [sp_ans]; omega
      rw [e] at hK; exact hK
  · rw [show T 1 g = 2 by omega] at hK
    rw [pk_mul]; simpa [sp_ans] using hK
  · rw [nl_0, ieq (by omega) (by omega)]; omega
  · rw [show T 1 g = 3 by omega] at hK
    rw [idv (by omega) (by omega) (by omega)]; simpa [sp_ans] using hK
  · rw [show T 1 g = 0 by omega] at hK
    rw [nI_add]; simpa [sp_ans] using hK
theorem cm_steps {σ : hs_St} {K : Int32 → hs_St → Prop} {T : sp_T} {g : Nat} (hg : g < T 0 0) (hx : mr (σ.1 65) T) (hk : mk T) (hK : K (nI (ts T g)) σ) : OkI m_X6_steps [.ref 63, .int (nI g)] σ K := by
  have kg := hk.2.2.1 g hg
  have xg := hx.2.2.2.1 g hg
  have h4 := hk.1
  have ha := mk_ta hk hg
  have hf4 := sp_fig_in (ta T g)
  have loop : ∀ k f r, r < 10 ^ k → k ≤ 3 → f + sp_nd k r = sp_fig (ta T g) → RnI m_X6_steps 11 [(0, .ref 63), (1, .int (nI g)), (2, .int (nI f)), (3, .int (nI r))] [] σ K := by
    intro k
    have fin : ∀ f, f = sp_fig (ta T g) → OkI m_X6_of [.ref 63, .int (nI g), .int 0] σ (fun r4 σ5 => (¬ r4 = 0 → ((¬ r4 = 1 → ((¬ r4 = 2 → (K ((2 * nI f) - 1) σ5)) ∧ (r4 = 2 → (K (2 * nI f) σ5)))) ∧ (r4 = 1 → (K (nI f + 1) σ5)))) ∧ (r4 = 0 → (K (nI f) σ5))) := by
      intro f hf
      refine cm_of0 (by omega) ?_
      rw [xg.1, nl_0, nl_1, nl_2, ieq (by omega) (by omega), ieq (by omega) (by omega), ieq (by omega) (by omega), pk_mul, nI_add, pk_sub (by omega)]
      unfold ts at hK
      refine ⟨fun h0 => ⟨fun h1 => ⟨fun h2 => ?_, fun h2 => ?_⟩, fun h1 => ?_⟩, fun h0 => ?_⟩
      · rw [show T 1 g = 3 by omega] at hK
        rw [hf]; simpa [sp_stp] using hK
      · rw [h2] at hK
        rw [hf]; simpa [sp_stp] using hK
      · rw [h1] at hK
        rw [hf]; simpa [sp_stp] using hK
      · rw [h0] at hK
        rw [hf]; simpa [sp_stp] using hK
    induction k with
    | zero =>
      intro f r hr hk3 hf
      have : r = 0 := by simp at hr; omega
      subst this
      exact vc_X6_steps_11 ⟨fun _ => fin f (by simpa [sp_nd] using hf), fun h => absurd (by decide) h⟩
    | succ k ih =>
      intro f r hr hk3 hf
      have hr2 : r < 2147483648 := Nat.lt_of_lt_of_le hr (Nat.le_trans (Nat.pow_le_pow_right (by omega) (show k + 1 ≤ 3 by omega)) (by decide))
      refine vc_X6_steps_11 ⟨fun h => ?_, fun h => ?_⟩
      · rw [nl_0, il (by omega) (by omega)] at h
        have : r = 0 := by omega
        subst this
        exact fin f (by simpa [sp_nd] using hf)
      · rw [nl_0, il (by omega) (by omega)] at h
        rintro _ rfl
        rw [nl_10, idv hr2 (by omega) (by omega), nI_1]
        refine ih (f + 1) (r / 10) (by rw [Nat.pow_succ] at hr; omega) (by omega) ?_
        simp only [sp_nd, if_neg (show ¬ r = 0 by omega)] at hf
        omega
  refine vc_X6_steps (cm_answer hg hx hk ?_)
  rintro _ rfl
  rw [nl_10, idv (by omega) (by omega) (by omega), nl_1]
  exact loop 3 1 (ta T g / 10) (by omega) (by omega) (sp_fig_nd ha)
theorem cm_left {σ : hs_St} {K : Int32 → hs_St → Prop} {T : sp_T} {g : Nat} (hg : g < T 0 0) (hx : mr (σ.1 65) T) (hk : mk T) (hK : K (nI (ts T g - T 5 g)) σ) : OkI m_X6_left [.ref 63, .int (nI g)] σ K := by
  have kg := hk.2.2.1 g hg
  have xg := hx.2.2.2.1 g hg
  have h4 := hk.1
  have h8 := ts_in T g
  refine vc_X6_left (cm_steps hg hx hk (cm_of4 (by omega) ?_))
  rw [xg.2.2.2.2]
  rintro _ rfl
  have e := pk_sub_toInt (a := ts T g) (b := T 5 g) (by omega) (by omega)
  refine ⟨fun h => ?_, fun h => ?_⟩
  · rw [Int32.le_iff_toInt_le, e] at h
    rw [show ts T g - T 5 g = 0 by simp at h; omega] at hK
    exact hK
  · rw [Int32.le_iff_toInt_le, e] at h
    rw [pk_sub (by simp at h; omega)]; exact hK
theorem cm_sevens {σ : hs_St} {K : Int32 → hs_St → Prop} {n : Nat} (hn : n < 10000) (hK : K (nI (sp_sv 4 n)) σ) : OkI m_X6_sevens [.int (nI n)] σ K := by
  have loop : ∀ k f r a, r < 10 ^ k → k ≤ 4 → (K (nI (f + sp_sv k r)) σ) → RnI m_X6_sevens 4 [(0, .int a), (1, .int (nI f)), (2, .int (nI r))] [] σ K := by
    intro k
    induction k with
    | zero =>
      intro f r a hr hi hk
      have : r = 0 := by simp at hr; omega
      subst this
      exact vc_X6_sevens_4 ⟨fun _ => hk, fun h => absurd (by decide) h⟩
    | succ k ih =>
      intro f r a hr hi hk
      have hr2 : r < 2147483648 := Nat.lt_of_lt_of_le hr (Nat.le_trans (Nat.pow_le_pow_right (by omega) (show k + 1 ≤ 4 by omega)) (by decide))
      have hr3 : r / 10 < 10 ^ k := by rw [Nat.pow_succ] at hr; omega
      refine vc_X6_sevens_4 ⟨fun h => ?_, fun h => ⟨fun h2 => cm_flag ?_, fun h2 => cm_flag ?_⟩⟩
      · rw [nl_0, il (by omega) (by omega)] at h
        have : r = 0 := by omega
        subst this
        simpa [sp_sv] using hk
      · rw [nl_0, il (by omega) (by omega)] at h
        rw [nl_10, irem hr2 (by omega) (by omega), nl_7, ieq (by omega) (by omega)] at h2
        rintro _ rfl
        rintro _ rfl
        rw [if_pos rfl, nl_10, idv hr2 (by omega) (by omega), nl_0, nI_add]
        refine ih (f + 0) (r / 10) a hr3 (by omega) ?_
        simp only [sp_sv, if_neg (show ¬ r = 0 by omega), if_neg h2, Nat.zero_add] at hk
        exact hk
      · rw [nl_0, il (by omega) (by omega)] at h
        rw [nl_10, irem hr2 (by omega) (by omega), nl_7, ieq (by omega) (by omega)] at h2
        rintro _ rfl
        rintro _ rfl
        rw [if_neg (by decide), nl_10, idv hr2 (by omega) (by omega), nI_1]
        refine ih (f + 1) (r / 10) a hr3 (by omega) ?_
        simp only [sp_sv, if_neg (show ¬ r = 0 by omega), if_pos h2] at hk
        rw [show f + 1 + sp_sv k (r / 10) = f + (1 + sp_sv k (r / 10)) by omega]
        exact hk
  refine vc_X6_sevens ?_
  rw [nl_0]
  exact loop 4 0 n _ (by omega) (by omega) (by rw [Nat.zero_add]; exact hK)
theorem cm_creaks {σ : hs_St} {K : Int32 → hs_St → Prop} {T : sp_T} {g : Nat} (hg : g < T 0 0) (hx : mr (σ.1 65) T) (hk : mk T) (hK : K (nI (tc T g)) σ) : OkI m_X6_creaks [.ref 63, .int (nI g)] σ K := by
  have kg := hk.2.2.1 g hg
  have xg := hx.2.2.2.1 g hg
  have h4 := hk.1
  have ha := mk_ta hk hg
  refine vc_X6_creaks (cm_of1 (by omega) ?_)
  rw [xg.2.1]
  refine cm_sevens (by omega) (cm_of2 (by omega) ?_)
  rw [xg.2.2.1]
  refine cm_sevens (by omega) (cm_answer hg hx hk (cm_sevens (by omega) ?_))
  rw [nI_add, nI_add]
  exact hK
