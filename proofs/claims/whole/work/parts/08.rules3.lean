section HR3
variable {d : hs_M} {pc : Nat} {lv : List (Nat × Value)} {st : List Value} {σ : hs_St} {K : Option Value → hs_St → Prop}
theorem hr_nmi {v : Int32} (k : ∀ x : Int32, x = v → hs_Rn d pc lv (.int x :: st) σ K) : hs_Rn d pc lv (.int v :: st) σ K := k v rfl
theorem hr_nml {v : Int64} (k : ∀ x : Int64, x = v → hs_Rn d pc lv (.long x :: st) σ K) : hs_Rn d pc lv (.long v :: st) σ K := k v rfl
theorem hr_nms {v : hs_St} (k : ∀ τ : hs_St, τ = v → hs_Rn d pc lv st τ K) : hs_Rn d pc lv st v K := k v rfl
theorem hr_sub (ks : List Nat) {lv1 : List (Nat × Value)} (h : lv_pick lv ks = lv1) (k : hs_Rn d pc lv1 st σ K) : hs_Rn d pc lv st σ K := by
  intro p l e s m args below meth c G A C H locs ls hP hS hl
  refine k p l e s m args below meth c G A C H locs ls hP hS ⟨hl.1, hl.2.1, fun q hq => ?_⟩
  subst h
  obtain ⟨x, hx, rfl⟩ := List.mem_map.mp hq
  obtain ⟨i, -, hi⟩ := List.mem_filterMap.mp hx
  exact hl.2.2 _ (List.mem_map.mpr ⟨x, List.mem_of_getElem? hi, rfl⟩)
theorem hr_getI {idx ci j k : Nat} (hd : decode d.2.1 pc = .ok (.getfield idx, 3)) (hL : hs_FL d.1.cls idx ci j) (hX : hs_FX k ci j none) (kk : hs_Rn d (pc + 3) lv (.int (σ.1 k j) :: st) σ K) : hs_Rn d pc lv (.ref k :: st) σ K := hr_get hd hL hX kk
theorem hr_getL {idx ci j k : Nat} (hd : decode d.2.1 pc = .ok (.getfield idx, 3)) (hL : hs_FL d.1.cls idx ci j) (hX : hs_FX k ci j (some none)) (kk : hs_Rn d (pc + 3) lv (.long (σ.2 j) :: st) σ K) : hs_Rn d pc lv (.ref k :: st) σ K := hr_get hd hL hX kk
theorem hr_getR {idx ci j k r : Nat} (hd : decode d.2.1 pc = .ok (.getfield idx, 3)) (hL : hs_FL d.1.cls idx ci j) (hX : hs_FX k ci j (some (some r))) (kk : hs_Rn d (pc + 3) lv (.ref r :: st) σ K) : hs_Rn d pc lv (.ref k :: st) σ K := hr_get hd hL hX kk
theorem hr_ldc_w {idx : Nat} {v : Int32} (hd : decode d.2.1 pc = .ok (.ldc_w idx, 3)) (hw : Cond.constant d.1.cls idx v ∈ hs_U) (k : hs_Rn d (pc + 3) lv (.int v :: st) σ K) : hs_Rn d pc lv st σ K :=
  fun p l e s m args below meth c G A C H locs ls hP hS hl => lv_ldcw C.1 C.2.1 C.2.2.2.2.1 (hs_u C hw) hd (k p l e s m args below meth c G A C H locs ls hP hS hl)
theorem hr_lk2 {dflt a b o0 o1 : Int} {len t0 t1 tg : Nat} {x : Int32} (hd : decode d.2.1 pc = .ok (.lookupswitch dflt #[(a, o0), (b, o1)], len)) (hab : a < b) (h0 : (pc : Int) + o0 = (t0 : Int)) (h1 : (pc : Int) + o1 = (t1 : Int)) (h2 : (pc : Int) + dflt = (tg : Int))
    (k0 : x.toInt = a → hs_Rn d t0 lv st σ K) (k1 : x.toInt = b → hs_Rn d t1 lv st σ K) (kd : (¬ x.toInt = a ∧ ¬ x.toInt = b) → hs_Rn d tg lv st σ K) : hs_Rn d pc lv (.int x :: st) σ K := by
  intro p l e s m args below meth c G A C H locs ls hP hS hl
  have hp : ((#[(a, o0), (b, o1)] : Array (Int × Int)).toList.zip ((#[(a, o0), (b, o1)] : Array (Int × Int)).toList.drop 1)).all (fun (a, next) => a.1 < next.1) = true := by simp [hab]
  by_cases ha : x.toInt = a
  · exact lv_lookup (off := o0) C.1 C.2.1 hd hp (by simp [Op.lookupswitch.offset, ha]) h0 (k0 ha p l e s m args below meth c G A C H locs ls hP hS hl)
  · by_cases hb : x.toInt = b
    · have hn : ¬ b = a := by omega
      exact lv_lookup (off := o1) C.1 C.2.1 hd hp (by simp [Op.lookupswitch.offset, hb, hn, Ne.symm hn]) h1 (k1 hb p l e s m args below meth c G A C H locs ls hP hS hl)
    · exact lv_lookup (off := dflt) C.1 C.2.1 hd hp (by simp [Op.lookupswitch.offset, ha, hb, Ne.symm ha, Ne.symm hb]) h2 (kd ⟨ha, hb⟩ p l e s m args below meth c G A C H locs ls hP hS hl)
end HR3
