theorem lw_good : ∀ w ∈ lw_gd, (w.onTables && w.keeps) = true ∨ ∃ ty, w = .arrayClass ty := fun w h => good_of_word (List.mem_filter.mp h).2
theorem xw_inr {G : XG} {N i ci : Nat} {σ : XW} {fs : List Value} (hi : i < N) (h : σ i = .inr (ci, fs)) : (xw G N σ)[i]? = some (xa G i, .inr (ci, fs.map (xv G))) := by rw [xw_at hi, h]; rfl
theorem xw_inl {G : XG} {N i t : Nat} {σ : XW} {x : vp_A} (hi : i < N) (h : σ i = .inl (t, x)) : (xw G N σ)[i]? = some (xa G i, .inl (G.2.2 t, x)) := by rw [xw_at hi, h]; rfl
theorem xw_setR {G : XG} {N i ci : Nat} {σ : XW} {fs : List Value} (hi : i < N) (k : Nat) (v : Value) : (xw G N σ).set i (xa G i, .inr (ci, (fs.map (xv G)).set k (xv G v))) = xw G N (xup σ i (.inr (ci, fs.set k v))) := by
  rw [← xw_set hi]
  congr 2
  simp [xe, List.map_set]
theorem xw_setL {G : XG} {N i t : Nat} {σ : XW} {x : vp_A} (hi : i < N) : (xw G N σ).set i (xa G i, .inl (G.2.2 t, x)) = xw G N (xup σ i (.inl (t, x))) := by
  rw [← xw_set hi]
  rfl
theorem xmap_at {G : XG} {fs : List Value} {k : Nat} {v : Value} (h : fs[k]? = some v) : (fs.map (xv G))[k]? = some (xv G v) := by rw [List.getElem?_map, h]; rfl
section VH
variable {y : MethodName} {cc : ByteArray} {rt : Option FieldType} {d N : Nat} {al : Nat × Nat} {pc : Nat} {ls ls' : List (Option Value)} {st : List Value} {σ : XW} {Q : Nat → Option Value → XW → Prop}

theorem x_get {C : String} {T : u_T} {n ci ix i : Nat} {fs : List Value} {v : Value} (kf : Nat) (hd : decode cc pc = .ok (.getfield ix, 3)) (hw : Cond.fieldLink y.cls ix (T kf).1 (T kf).2.1 (T kf).2.2.1 ∈ lw_gd) (hin : ∀ w ∈ u_ws C T n, w ∈ lw_gd) (hc : vwCl[ci]? = some (C, T, n)) (hk : kf < n) (hi : i < N) (hσ : σ i = .inr (ci, fs)) (hv : fs[kf]? = some v) (k : V y cc rt d N al (pc + 3) ls (v :: st) σ Q) : V y cc rt d N al pc ls (.ref i :: st) σ Q := by
  intro p l e R s m args below meth c G A H locs cells slots C0 S0 Z lsA hC hH hL hN hR
  exact va_get hC.1 hC.2.1 hC.2.2.2.2.2.1 hin hC.2.2.2.2.1 hC.2.2.2.2.2.2.2.1 hH.1 i (xw_inr hi hσ) hc kf hk (hC.2.2.2.2.2.1 _ hw) (fun _ h => h) (xmap_at hv) hd (k p l e R s m args below meth c G A H locs cells slots C0 S0 Z lsA hC hH hL hN hR)
theorem x_put {C : String} {T : u_T} {n ci ix i : Nat} {fs fs' : List Value} {v : Value} (kf : Nat) (ty0 : Nat → FieldType) (hd : decode cc pc = .ok (.putfield ix, 3)) (hw : Cond.fieldLink y.cls ix (T kf).1 (T kf).2.1 (T kf).2.2.1 ∈ lw_gd) (hin : ∀ w ∈ u_ws C T n, w ∈ lw_gd) (hty : ∀ k, k < n → parseFieldDescriptor (T k).2.2.1 = some (ty0 k)) (hnm : ∀ a, a < n → ∀ b, b < n → a ≠ b → (T a).2.1 ≠ (T b).2.1) (hfin : (T kf).2.2.2 = false) (hc : vwCl[ci]? = some (C, T, n)) (hk : kf < n) (hi : i < N) (hσ : σ i = .inr (ci, fs)) (hn : ∀ G : XG, narrow (ty0 kf) (xv G v) = xv G v ∧ fits (ty0 kf) (xv G v) = true) (hl : kf < fs.length) (hfs : fs.set kf v = fs') (k : V y cc rt d N al (pc + 3) ls st (xup σ i (.inr (ci, fs'))) Q) : V y cc rt d N al pc ls (v :: .ref i :: st) σ Q := by
  intro p l e R s m args below meth c G A H locs cells slots C0 S0 Z lsA hC hH hL hN hR
  subst hfs
  exact va_put hC.1 hC.2.1 hC.2.2.2.2.2.1 hin ty0 hty hnm hC.2.2.2.2.1 hC.2.2.2.2.2.2.2.1 hH.1 hH.2.1 hH.2.2.1 i (xw_inr hi hσ) hc kf hk (hC.2.2.2.2.2.1 _ hw) (fun _ h => h) hfin (hty kf hk) (hn G).1 (hn G).2 (by rw [List.length_map]; exact hl) hd (fun H1 locs1 h1 h2 h3 => k p l e R s m args below meth c G A H1 locs1 cells slots C0 S0 Z lsA hC ⟨by rw [← xw_setR hi]; exact h1, by rw [← xw_setR hi]; exact h2, h3, hH.2.2.2⟩ hL hN hR)
theorem x_putF {C : String} {T : u_T} {n ci ix i : Nat} {fs fs' : List Value} {v : Value} (kf : Nat) (ty0 : Nat → FieldType) (hd : decode cc pc = .ok (.putfield ix, 3)) (hw : Cond.fieldLink y.cls ix (T kf).1 (T kf).2.1 (T kf).2.2.1 ∈ lw_gd) (hin : ∀ w ∈ u_ws C T n, w ∈ lw_gd) (hty : ∀ k, k < n → parseFieldDescriptor (T k).2.2.1 = some (ty0 k)) (hnm : ∀ a, a < n → ∀ b, b < n → a ≠ b → (T a).2.1 ≠ (T b).2.1) (hfin : (T kf).2.2.2 = true) (hin2 : y.name = "<init>") (hdecl : (T kf).1 = y.cls) (hc : vwCl[ci]? = some (C, T, n)) (hk : kf < n) (hi : i < N) (hσ : σ i = .inr (ci, fs)) (hn : ∀ G : XG, narrow (ty0 kf) (xv G v) = xv G v ∧ fits (ty0 kf) (xv G v) = true) (hl : kf < fs.length) (hfs : fs.set kf v = fs') (k : V y cc rt d N al (pc + 3) ls st (xup σ i (.inr (ci, fs'))) Q) : V y cc rt d N al pc ls (v :: .ref i :: st) σ Q := by
  intro p l e R s m args below meth c G A H locs cells slots C0 S0 Z lsA hC hH hL hN hR
  subst hfs
  exact va_putF hC.1 hC.2.1 hC.2.2.2.2.2.1 hin ty0 hty hnm hC.2.2.2.2.1 hC.2.2.2.2.2.2.2.1 hH.1 hH.2.1 hH.2.2.1 i (xw_inr hi hσ) hc kf hk (hC.2.2.2.2.2.1 _ hw) (fun _ h => h) hfin (hC.2.2.2.2.2.2.2.2.2.2.2.2 hin2) hdecl (hty kf hk) (hn G).1 (hn G).2 (by rw [List.length_map]; exact hl) hd (fun H1 locs1 h1 h2 h3 => k p l e R s m args below meth c G A H1 locs1 cells slots C0 S0 Z lsA hC ⟨by rw [← xw_setR hi]; exact h1, by rw [← xw_setR hi]; exact h2, h3, hH.2.2.2⟩ hL hN hR)
theorem x_iald {i n : Nat} {f : Nat → Int32} {j : Int32} (hd : decode cc pc = .ok (.iaload, 1)) (hi : i < N) (hσ : σ i = .inl (0, n, .inl f)) (hj : vp_in j n) (k : V y cc rt d N al (pc + 1) ls (.int (f j.toNatClampNeg) :: st) σ Q) : V y cc rt d N al pc ls (.int j :: .ref i :: st) σ Q := by
  intro p l e R s m args below meth c G A H locs cells slots C0 S0 Z lsA hC hH hL hN hR
  exact va_iald hC.1 hC.2.1 hC.2.2.2.2.2.2.2.1 hH.1 i 0 (xw_inl hi hσ) rfl hj hd (k p l e R s m args below meth c G A H locs cells slots C0 S0 Z lsA hC hH hL hN hR)
theorem x_bald {i n : Nat} {f : Nat → Int32} {j : Int32} (hd : decode cc pc = .ok (.baload, 1)) (hi : i < N) (hσ : σ i = .inl (1, n, .inl f)) (hj : vp_in j n) (k : V y cc rt d N al (pc + 1) ls (.int (f j.toNatClampNeg) :: st) σ Q) : V y cc rt d N al pc ls (.int j :: .ref i :: st) σ Q := by
  intro p l e R s m args below meth c G A H locs cells slots C0 S0 Z lsA hC hH hL hN hR
  exact va_bald hC.1 hC.2.1 hC.2.2.2.2.2.2.2.1 hH.1 i 1 (xw_inl hi hσ) rfl hj hd (k p l e R s m args below meth c G A H locs cells slots C0 S0 Z lsA hC hH hL hN hR)
theorem x_zald {i n : Nat} {f : Nat → Int32} {j : Int32} (hd : decode cc pc = .ok (.baload, 1)) (hi : i < N) (hσ : σ i = .inl (3, n, .inl f)) (hj : vp_in j n) (k : V y cc rt d N al (pc + 1) ls (.int (f j.toNatClampNeg) :: st) σ Q) : V y cc rt d N al pc ls (.int j :: .ref i :: st) σ Q := by
  intro p l e R s m args below meth c G A H locs cells slots C0 S0 Z lsA hC hH hL hN hR
  exact va_zald hC.1 hC.2.1 hC.2.2.2.2.2.2.2.1 hH.1 i 3 (xw_inl hi hσ) rfl hj hd (k p l e R s m args below meth c G A H locs cells slots C0 S0 Z lsA hC hH hL hN hR)
theorem x_lald {i n : Nat} {f : Nat → Int64} {j : Int32} (hd : decode cc pc = .ok (.laload, 1)) (hi : i < N) (hσ : σ i = .inl (2, n, .inr (.inl f))) (hj : vp_in j n) (k : V y cc rt d N al (pc + 1) ls (.long (f j.toNatClampNeg) :: st) σ Q) : V y cc rt d N al pc ls (.int j :: .ref i :: st) σ Q := by
  intro p l e R s m args below meth c G A H locs cells slots C0 S0 Z lsA hC hH hL hN hR
  exact va_lald hC.1 hC.2.1 hC.2.2.2.2.2.2.2.1 hH.1 i 2 (xw_inl hi hσ) rfl hj hd (k p l e R s m args below meth c G A H locs cells slots C0 S0 Z lsA hC hH hL hN hR)
theorem x_iast {i n : Nat} {f : Nat → Int32} {j : Int32} {x : Int32} (hd : decode cc pc = .ok (.iastore, 1)) (hi : i < N) (hσ : σ i = .inl (0, n, .inl f)) (hj : vp_in j n) (k : V y cc rt d N al (pc + 1) ls st (xup σ i (.inl (0, n, .inl (upd f j.toNatClampNeg x)))) Q) : V y cc rt d N al pc ls (.int x :: .int j :: .ref i :: st) σ Q := by
  intro p l e R s m args below meth c G A H locs cells slots C0 S0 Z lsA hC hH hL hN hR
  exact va_iast hC.1 hC.2.1 hC.2.2.2.2.2.2.2.1 hH.1 hH.2.1 hH.2.2.1 i 0 (xw_inl hi hσ) rfl hj hd (fun H1 locs1 h1 h2 h3 => k p l e R s m args below meth c G A H1 locs1 cells slots C0 S0 Z lsA hC ⟨by rw [← xw_setL hi]; exact h1, by rw [← xw_setL hi]; exact h2, h3, hH.2.2.2⟩ hL hN hR)
theorem x_bast {i n : Nat} {f : Nat → Int32} {j : Int32} {x : Int32} (hd : decode cc pc = .ok (.bastore, 1)) (hi : i < N) (hσ : σ i = .inl (1, n, .inl f)) (hj : vp_in j n) (k : V y cc rt d N al (pc + 1) ls st (xup σ i (.inl (1, n, .inl (upd f j.toNatClampNeg (vp_nar .byte x))))) Q) : V y cc rt d N al pc ls (.int x :: .int j :: .ref i :: st) σ Q := by
  intro p l e R s m args below meth c G A H locs cells slots C0 S0 Z lsA hC hH hL hN hR
  exact va_bast hC.1 hC.2.1 hC.2.2.2.2.2.2.2.1 hH.1 hH.2.1 hH.2.2.1 i 1 (xw_inl hi hσ) rfl hj hd (fun H1 locs1 h1 h2 h3 => k p l e R s m args below meth c G A H1 locs1 cells slots C0 S0 Z lsA hC ⟨by rw [← xw_setL hi]; exact h1, by rw [← xw_setL hi]; exact h2, h3, hH.2.2.2⟩ hL hN hR)
theorem x_zast {i n : Nat} {f : Nat → Int32} {j : Int32} {x : Int32} (hd : decode cc pc = .ok (.bastore, 1)) (hi : i < N) (hσ : σ i = .inl (3, n, .inl f)) (hj : vp_in j n) (k : V y cc rt d N al (pc + 1) ls st (xup σ i (.inl (3, n, .inl (upd f j.toNatClampNeg (vp_nar .boolean x))))) Q) : V y cc rt d N al pc ls (.int x :: .int j :: .ref i :: st) σ Q := by
  intro p l e R s m args below meth c G A H locs cells slots C0 S0 Z lsA hC hH hL hN hR
  exact va_zast hC.1 hC.2.1 hC.2.2.2.2.2.2.2.1 hH.1 hH.2.1 hH.2.2.1 i 3 (xw_inl hi hσ) rfl hj hd (fun H1 locs1 h1 h2 h3 => k p l e R s m args below meth c G A H1 locs1 cells slots C0 S0 Z lsA hC ⟨by rw [← xw_setL hi]; exact h1, by rw [← xw_setL hi]; exact h2, h3, hH.2.2.2⟩ hL hN hR)
theorem x_last {i n : Nat} {f : Nat → Int64} {j : Int32} {x : Int64} (hd : decode cc pc = .ok (.lastore, 1)) (hi : i < N) (hσ : σ i = .inl (2, n, .inr (.inl f))) (hj : vp_in j n) (k : V y cc rt d N al (pc + 1) ls st (xup σ i (.inl (2, n, .inr (.inl (vp_updL f j.toNatClampNeg x))))) Q) : V y cc rt d N al pc ls (.long x :: .int j :: .ref i :: st) σ Q := by
  intro p l e R s m args below meth c G A H locs cells slots C0 S0 Z lsA hC hH hL hN hR
  exact va_last hC.1 hC.2.1 hC.2.2.2.2.2.2.2.1 hH.1 hH.2.1 hH.2.2.1 i 2 (xw_inl hi hσ) rfl hj hd (fun H1 locs1 h1 h2 h3 => k p l e R s m args below meth c G A H1 locs1 cells slots C0 S0 Z lsA hC ⟨by rw [← xw_setL hi]; exact h1, by rw [← xw_setL hi]; exact h2, h3, hH.2.2.2⟩ hL hN hR)
theorem x_alen {i t : Nat} {x : vp_A} {v : Int32} (hd : decode cc pc = .ok (.arraylength, 1)) (hi : i < N) (hσ : σ i = .inl (t, x)) (ht : t < 4) (hv : Int32.ofNat x.1 = v) (k : V y cc rt d N al (pc + 1) ls (.int v :: st) σ Q) : V y cc rt d N al pc ls (.ref i :: st) σ Q := by
  intro p l e R s m args below meth c G A H locs cells slots C0 S0 Z lsA hC hH hL hN hR
  have h0 : ∃ ty, (xt G)[t]? = some (G.2.2 t, ty) := by
    match t, ht with
    | 0, _ => exact ⟨_, rfl⟩
    | 1, _ => exact ⟨_, rfl⟩
    | 2, _ => exact ⟨_, rfl⟩
    | 3, _ => exact ⟨_, rfl⟩
  obtain ⟨ty, h0⟩ := h0
  exact va_alen hC.1 hC.2.1 hC.2.2.2.2.2.2.2.1 hH.1 i t (xw_inl hi hσ) h0 hv hd (k p l e R s m args below meth c G A H locs cells slots C0 S0 Z lsA hC hH hL hN hR)
theorem x_gets {ix : Nat} (q : Nat) (hd : decode cc pc = .ok (.getstatic ix, 3)) (hq : q < 3) (hw : Cond.fieldLink y.cls ix RX11 (xsn q) "[I" ∈ lw_gd) (k : V y cc rt d N al (pc + 3) ls (.ref (1000 + q) :: st) σ Q) : V y cc rt d N al pc ls st σ Q := by
  intro p l e R s m args below meth c G A H locs cells slots C0 S0 Z lsA hC hH hL hN hR
  exact va_gets hC.1 hC.2.1 (hC.2.2.2.2.2.2.2.2.2.2.2.1 q hq).1 hH.2.2.1 hC.2.2.2.2.1 (hC.2.2.2.2.2.1 _ hw) (fun _ h => h) hd (k p l e R s m args below meth c G A H locs cells slots C0 S0 Z lsA hC hH hL hN hR)
theorem x_sald {j : Int32} (q : Nat) (hd : decode cc pc = .ok (.iaload, 1)) (hq : q < 3) (hj : vp_in j 7) (k : V y cc rt d N al (pc + 1) ls (.int (xsf q j.toNatClampNeg) :: st) σ Q) : V y cc rt d N al pc ls (.int j :: .ref (1000 + q) :: st) σ Q := by
  intro p l e R s m args below meth c G A H locs cells slots C0 S0 Z lsA hC hH hL hN hR
  obtain ⟨-, ⟨cell, h2, hcl, hsl, hu, hns⟩, h3, -⟩ := hC.2.2.2.2.2.2.2.2.2.2.2.1 q hq
  obtain ⟨-, kk, hk, comp, hkind⟩ := (hC.2.2.2.2.2.2.2.1.2 0 _ rfl).1 7 (fun z => .int (xsf q z))
  have hX : va_X (xa G (1000 + q)) 7 (xsf q) s s.heap := ⟨cell, h2, ⟨hns, kk, by rw [hcl]; exact hk, comp, hkind⟩, hu, by rw [hsl]; exact arrV_size _ _ _, fun z hz => by rw [hsl]; exact arrV_read _ _ hz⟩
  exact va_sld hC.1 hC.2.1 hX (Array.getElem?_eq_some_iff.mp h2).1 h3 hH.2.2.1 hj hd (k p l e R s m args below meth c G A H locs cells slots C0 S0 Z lsA hC hH hL hN hR)
theorem x_copyi {ix i0 i1 n0 n1 : Nat} {t : Nat} {ty : FieldType} {f g : Nat → Int32} {sp dp n : Int32} (hd : decode cc pc = .ok (.invokestatic ix, 3)) (hw : Cond.methodLink y.cls ix arraycopyName ∈ lw_gd) (hd1 : 1 ≤ d) (hi0 : i0 < N) (hi1 : i1 < N) (h0 : σ i0 = .inl (t, n0, .inl f)) (h1 : σ i1 = .inl (t, n1, .inl g)) (ht : ∀ G : XG, (xt G)[t]? = some (G.2.2 t, ty)) (hprim : refKind ty = false) (hsp : ¬ sp < 0) (hdp : ¬ dp < 0) (hn : ¬ n < 0) (h4 : sp.toNatClampNeg + n.toNatClampNeg ≤ n0) (h5 : dp.toNatClampNeg + n.toNatClampNeg ≤ n1) (hfit : ∀ q, q < n.toNatClampNeg → fits ty (.int (f (sp.toNatClampNeg + q))) = true) (hst : (st.map fun v => v.category).sum ≤ 8)
    (k : V y cc rt d N al (pc + 3) ls st (xup σ i1 (.inl (t, n1, .inl (va_cpy f g sp.toNatClampNeg dp.toNatClampNeg n.toNatClampNeg)))) Q) : V y cc rt d N al pc ls (.int n :: .int dp :: .ref i1 :: .int sp :: .ref i0 :: st) σ Q := by
  intro p l e R s m args below meth c G A H locs cells slots C0 S0 Z lsA hC hH hL hN hR
  have hl := hC.2.2.2.2.2.2.2.2.2.2.1
  have hf := hC.2.2.2.2.2.2.2.2.2.1
  have hs : ((st.map (xv G)).map fun v => v.category).sum ≤ 8 := by
    rw [List.map_map]
    have e : ((fun v => v.category) ∘ xv G) = (fun v : Value => v.category) := funext fun v => xv_cat G v
    rw [e]; exact hst
  have hnw : nativeFrameWords "java/lang/System" "arraycopy" 5 ≤ 30 := by decide +kernel
  exact va_copyi hC.1 hC.2.1 (hC.2.2.2.1.trans hL.1.symm) hC.2.2.2.2.1 (hC.2.2.2.2.2.1 _ hw) (hC.2.2.2.2.2.1 _ (by decide +kernel)) (hC.2.2.2.2.2.1 _ (by decide +kernel)) (hC.2.2.2.2.2.1 _ (by decide +kernel)) hC.2.2.2.2.2.2.2.1 hH.1 hH.2.1 hH.2.2.1 i0 i1 t t (xw_inl hi0 h0) (xw_inl hi1 h1) (ht G) (ht G) hprim hsp hdp hn h4 h5 hfit (by omega) (by omega) hd (fun H1 locs1 h1 h2 h3 => k p l e R s m args below meth c G A H1 locs1 cells slots C0 S0 Z lsA hC ⟨by rw [← xw_setL hi1]; exact h1, by rw [← xw_setL hi1]; exact h2, h3, hH.2.2.2⟩ hL hN hR)
theorem x_objInit {ix i : Nat} (hd : decode cc pc = .ok (.invokespecial ix, 3)) (hw : Cond.methodLink y.cls ix Lib.objectInit ∈ lw_gd) (hd1 : 1 ≤ d) (hst : (st.map fun v => v.category).sum ≤ 8) (k : V y cc rt d N al (pc + 3) ls st σ Q) : V y cc rt d N al pc ls (.ref i :: st) σ Q := by
  intro p l e R s m args below meth c G A H locs cells slots C0 S0 Z lsA hC hH hL hN hR
  have hl := hC.2.2.2.2.2.2.2.2.2.2.1
  have hf := hC.2.2.2.2.2.2.2.2.2.1
  have hs : ((st.map (xv G)).map fun v => v.category).sum ≤ 8 := by
    rw [List.map_map]
    have e : ((fun v => v.category) ∘ xv G) = (fun v : Value => v.category) := funext fun v => xv_cat G v
    rw [e]; exact hst
  exact W.objInit hC.1 hC.2.1 hC.2.2.2.2.1 (hC.2.2.2.2.2.1 _ hw) (hC.2.2.2.2.2.1 _ (by decide +kernel)) (hC.2.2.2.2.2.1 _ (by decide +kernel)) rfl (hL.1.trans hC.2.2.2.1.symm) rfl hd (by omega) (by
    have : 2 * (F0 m pc lsA (Value.ref (xa G i) :: st.map (xv G))).monitorRoom = 0 := rfl
    rw [this]
    omega) (k p l e R s m args below meth c G A H locs cells slots C0 S0 Z lsA hC hH hL hN hR)
/-- the heap is as large as its cells say -/
theorem x_size {p : Program} {l : Launch} {e : Env} {R : Room} {s : State} {m : MethodId} {args : Array Value} {below : List Frame} {meth : Method} {c : Code} {G : XG} {A : Nat → Prop} {T : State} {locs locs2 : List Loc} {cells slots : Nat} (X : Stand p l e R s m args below meth c T locs cells slots) (hH : xH G N σ A s.heap T.heap locs2) (hz : s.heap.size + cells = G.2.1.1 + N ∧ G.2.1.1 ≤ s.heap.size) : T.heap.size = G.2.1.1 + N := by
  have h1 : T.heap.size ≤ s.heap.size + cells := X.same.2.2.1
  have h2 : s.heap.size ≤ T.heap.size := X.same.2.1
  refine Nat.le_antisymm (by omega) ?_
  cases N with
  | zero =>
    omega
  | succ q =>
    have h3 := (hH.1 q _ (xw_at (Nat.lt_succ_self q))).lt
    have hq : q < 1000 := by have := hH.2.2.2; omega
    simp only [xa, if_pos hq] at h3
    omega
theorem x_sized {p : Program} {l : Launch} {e : Env} {R : Room} {s : State} {m : MethodId} {args : Array Value} {below : List Frame} {meth : Method} {c : Code} {G : XG} {A : Nat → Prop} {H : Heap} {locs locs2 : List Loc} {cells slots C0 S0 : Nat} {Z : State → Prop} {g : JFrame} (hH : xH G N σ A s.heap H locs2) (hN : cells + al.1 ≤ C0 ∧ slots + al.2 ≤ S0 ∧ C0 ≤ R.cells ∧ S0 ≤ R.slots ∧ s.heap.size + cells = G.2.1.1 + N ∧ G.2.1.1 ≤ s.heap.size) (k : H.size = G.2.1.1 + N → W p l e R s m args below meth c H locs cells slots Z g) : W p l e R s m args below meth c H locs cells slots Z g := by
  intro T hT X
  refine k ?_ T hT X
  subst hT
  exact x_size X hH hN.2.2.2.2
theorem x_newarr {at_ : ArrayType} {ty : FieldType} {n : Int32} {N' t : Nat} {a0 : vp_A} (hd : decode cc pc = .ok (.newarray at_, 2)) (hw : Cond.arrayClass ty ∈ lw_gd) (hty : newarray.typeOf at_ = ty) (ht : ∀ G : XG, (xt G)[t]? = some (G.2.2 t, ty)) (hra : ∀ (U : State) (c : ClassId), va_RA U c ty → U.vm.findClass ("[" ++ ty.toString) = some c) (ha : ∀ cA : ClassId, vp_cell cA a0 = arrV cA N' (fun _ => defaultValue ty)) (hn : ¬ n < 0) (hN' : n.toNatClampNeg = N') (hby : N' * componentBytes ty ≤ 536870912) (h1 : 1 ≤ al.1) (h2 : N' ≤ al.2) (hlt : N < 1000)
    (k : V y cc rt d (N + 1) (al.1 - 1, al.2 - N') (pc + 2) ls (.ref N :: st) (xup σ N (.inl (t, a0))) Q) : V y cc rt d N al pc ls (.int n :: st) σ Q := by
  intro p l e R s m args below meth c G A H locs cells slots C0 S0 Z lsA hC hH hL hN hR
  refine x_sized hH hN (fun hz => ?_)
  subst hty
  obtain ⟨n1, n2, n3, n4, n5, n6⟩ := hN
  have hs0 := hH.2.2.1.1
  refine va_newaK (g := F0 m pc lsA (.int n :: st.map (xv G))) hC.1 hC.2.1 (hC.2.2.2.2.2.1 _ hw) rfl hd rfl hn hN' hby (by omega) (by omega) hz (fun H1 cA e1 z1 o1 hAr hNm => ?_)
  have hcA : cA = G.2.2 t := by
    have h := hra s _ (hC.2.2.2.2.2.2.2.1.2 t _ (ht G)).2
    exact Option.some.inj (hNm.symm.trans h)
  subst hcA
  have hxa : xa G N = G.2.1.1 + N := if_pos hlt
  have hk : ∀ (q : Nat) (x : Nat × va_E), (xw G N σ)[q]? = some x → H1[x.1]? = H[x.1]? := fun q x hx => o1 x.1 (by have := (hH.1 q x hx).lt; omega)
  have hA := hC.2.2.2.2.2.2.2.2.1
  have hS := hH.2.2.1
  have hgo := k p l e R s m args below meth c G A H1 locs (cells + 1) (slots + N') C0 S0 Z lsA hC ⟨by
      rw [xw_push]
      refine (hH.1.kept hk).app (fun q x hx => ?_)
      have hz' : q < 1 := (List.getElem?_eq_some_iff.mp hx).1
      rw [show q = 0 by omega] at hx
      cases hx
      show H1[xa G N]? = some (vp_cell _ _)
      rw [hxa, ha]
      exact e1, by
      rw [xw_push]
      exact hH.2.1.push hH.1 (by rw [hxa, hz]) (hA _ (by have := hS.1; omega)), ⟨by have := hS.1; omega, fun x g1 g2 => (o1 x (by have := hS.1; omega)).trans (hS.2.1 x g1 g2), hS.2.2⟩, by omega⟩ hL ⟨by show cells + 1 + (al.1 - 1) ≤ C0; omega, by show slots + N' + (al.2 - N') ≤ S0; omega, n3, n4, by omega, n6⟩ hR
  rw [List.map_cons] at hgo
  simp only [xv, hxa] at hgo
  exact hgo
theorem x_new {C : String} {T : u_T} {n ci ix : Nat} {fs : List Value} (ty : Nat → FieldType) (hd : decode cc pc = .ok (.new ix, 3)) (hw : Cond.classLink y.cls ix C ∈ lw_gd) (hw2 : Cond.instantiable C n ∈ lw_gd) (hw3 : Cond.initialized C ∈ lw_gd) (hin : ∀ w ∈ u_ws C T n, w ∈ lw_gd) (hty : ∀ k, k < n → parseFieldDescriptor (T k).2.2.1 = some (ty k)) (hc : vwCl[ci]? = some (C, T, n)) (hfs : ∀ j, j < n → defaultValue (ty j) = vp_V fs j) (hfx : ∀ G : XG, fs.map (xv G) = fs) (h1 : 1 ≤ al.1) (h2 : n ≤ al.2) (hlt : N < 1000)
    (k : V y cc rt d (N + 1) (al.1 - 1, al.2 - n) (pc + 3) ls (.ref N :: st) (xup σ N (.inr (ci, fs))) Q) : V y cc rt d N al pc ls st σ Q := by
  intro p l e R s m args below meth c G A H locs cells slots C0 S0 Z lsA hC hH hL hN hR
  refine x_sized hH hN (fun hz => ?_)
  have hKn := hC.2.2.2.2.2.2.2.1.1 ci _ hc
  obtain ⟨n1, n2, n3, n4, n5, n6⟩ := hN
  have hs0 := hH.2.2.1.1
  refine W.newcK (g := F0 m pc lsA (st.map (xv G))) hC.1 hC.2.1 hC.2.2.2.2.1 (hC.2.2.2.2.2.1 _ hw) (hC.2.2.2.2.2.1 _ hw2) (hC.2.2.2.2.2.1 _ hw3) rfl hd (by omega) (by omega) hKn.2.1 hz (fun H1 kC hkC e1 z1 o1 => ?_)
  have hxa : xa G N = G.2.1.1 + N := if_pos hlt
  have hk : ∀ (q : Nat) (x : Nat × va_E), (xw G N σ)[q]? = some x → H1[x.1]? = H[x.1]? := fun q x hx => o1 x.1 (by have := (hH.1 q x hx).lt; omega)
  have hA := hC.2.2.2.2.2.2.2.2.1
  have hS := hH.2.2.1
  have hgo := k p l e R s m args below meth c G A H1 locs (cells + 1) (slots + n) C0 S0 Z lsA hC ⟨by
      rw [xw_push]
      refine (hH.1.kept hk).app (fun q x hx => ?_)
      have hz' : q < 1 := (List.getElem?_eq_some_iff.mp hx).1
      rw [show q = 0 by omega] at hx
      cases hx
      rw [hxa]
      show va_at _ _ (_, Sum.inr (ci, fs.map (xv G))) _
      rw [hfx G]
      exact ⟨_, hc, (u_born ty hC.2.2.2.2.2.1 hin hKn hkC e1 hty).to hfs⟩, by
      rw [xw_push]
      exact hH.2.1.push hH.1 (by rw [hxa, hz]) (hA _ (by have := hS.1; omega)), ⟨by have := hS.1; omega, fun x g1 g2 => (o1 x (by have := hS.1; omega)).trans (hS.2.1 x g1 g2), hS.2.2⟩, by omega⟩ hL ⟨by show cells + 1 + (al.1 - 1) ≤ C0; omega, by show slots + n + (al.2 - n) ≤ S0; omega, n3, n4, by omega, n6⟩ hR
  rw [List.map_cons] at hgo
  simp only [xv, hxa] at hgo
  exact hgo
end VH
