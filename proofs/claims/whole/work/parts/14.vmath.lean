section VM
variable {y : MethodName} {cc : ByteArray} {rt : Option FieldType} {d N : Nat} {al : Nat × Nat} {pc : Nat} {ls : List (Option Value)} {st : List Value} {σ : XW} {Q : Nat → Option Value → XW → Prop}
theorem x_cats {G : XG} (hst : (st.map fun v => v.category).sum ≤ 8) : ((st.map (xv G)).map fun v => v.category).sum ≤ 8 := by
  have e : ((fun v => v.category) ∘ xv G) = (fun v : Value => v.category) := funext fun v => xv_cat G v
  rw [List.map_map, e]
  exact hst
theorem xw_max : Cond.code Lib.Math.max.name Lib.Math.max.code 2 (some .int) ∈ lw_gd := xm (i := 156) (by decide +kernel) (by decide +kernel)
theorem x_mmax {ix : Nat} {x z : Int32} (hd : decode cc pc = .ok (.invokestatic ix, 3)) (hw : Cond.methodLink y.cls ix Lib.Math.max.name ∈ lw_gd) (hd1 : 1 ≤ d) (hst : (st.map fun v => v.category).sum ≤ 8) (k : V y cc rt d N al (pc + 3) ls (.int (if x < z then z else x) :: st) σ Q) : V y cc rt d N al pc ls (.int z :: .int x :: st) σ Q := by
  intro p l e R s m args below meth c G A H locs cells slots C0 S0 Z lsA hC hH hL hN hR
  have hl := hC.2.2.2.2.2.2.2.2.2.2.1
  have hf := hC.2.2.2.2.2.2.2.2.2.1
  have hs := x_cats (G := G) hst
  obtain ⟨n1, n2, n3, n4, n5, n6⟩ := id hN
  exact va_mmax hC.1 hC.2.1 (hC.2.2.2.1.trans hL.1.symm) hC.2.2.2.2.1 (hC.2.2.2.2.2.1 _ hw) (hC.2.2.2.2.2.1 _ (xm (i := 155) (by decide +kernel) (by decide +kernel))) (hC.2.2.2.2.2.1 _ (xm (i := 62) (by decide +kernel) (by decide +kernel))) (hC.2.2.2.2.2.1 _ xw_max) (by omega) (by omega) (by omega) (by omega) hd (k p l e R s m args below meth c G A H locs cells slots C0 S0 Z lsA hC hH hL hN hR)
theorem xw_min : Cond.code Lib.Math.min.name Lib.Math.min.code 2 (some .int) ∈ lw_gd := xm (i := 523) (by decide +kernel) (by decide +kernel)
theorem x_mmin {ix : Nat} {x z : Int32} (hd : decode cc pc = .ok (.invokestatic ix, 3)) (hw : Cond.methodLink y.cls ix Lib.Math.min.name ∈ lw_gd) (hd1 : 1 ≤ d) (hst : (st.map fun v => v.category).sum ≤ 8) (k : V y cc rt d N al (pc + 3) ls (.int (if z < x then z else x) :: st) σ Q) : V y cc rt d N al pc ls (.int z :: .int x :: st) σ Q := by
  intro p l e R s m args below meth c G A H locs cells slots C0 S0 Z lsA hC hH hL hN hR
  have hl := hC.2.2.2.2.2.2.2.2.2.2.1
  have hf := hC.2.2.2.2.2.2.2.2.2.1
  have hs := x_cats (G := G) hst
  obtain ⟨n1, n2, n3, n4, n5, n6⟩ := id hN
  exact va_mmin hC.1 hC.2.1 (hC.2.2.2.1.trans hL.1.symm) hC.2.2.2.2.1 (hC.2.2.2.2.2.1 _ hw) (hC.2.2.2.2.2.1 _ (xm (i := 522) (by decide +kernel) (by decide +kernel))) (hC.2.2.2.2.2.1 _ (xm (i := 62) (by decide +kernel) (by decide +kernel))) (hC.2.2.2.2.2.1 _ xw_min) (by omega) (by omega) (by omega) (by omega) hd (k p l e R s m args below meth c G A H locs cells slots C0 S0 Z lsA hC hH hL hN hR)
end VM
