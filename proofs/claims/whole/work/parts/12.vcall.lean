def xel (av : List Value) : List (Option Value) := av.flatMap (fun v => if v.category = 2 then [some v, none] else [some v])
/-- a method's locals at its entry -/
def xen (nL : Nat) (av : List Value) : List (Option Value) := xel av ++ List.replicate (nL - (xel av).length) none
theorem xel_len (G : XG) : ∀ av : List Value, (lg_sl (av.map (xv G))).length = (xel av).length
  | [] => rfl
  | v :: t => by
    have h := xel_len G t
    simp only [lg_sl, xel, List.map_cons, List.flatMap_cons, List.length_append] at h ⊢
    rw [h, xv_cat]
    by_cases hc : v.category = 2 <;> simp [hc]
theorem xel_at (G : XG) : ∀ (av : List Value) (i : Nat) (v : Value), (xel av)[i]? = some (some v) → (lg_sl (av.map (xv G)))[i]? = some (.val (xv G v))
  | [], i, v, h => by simp [xel] at h
  | a :: t, i, v, h => by
    have ih := xel_at G t
    simp only [lg_sl, xel, List.map_cons, List.flatMap_cons, xv_cat] at h ih ⊢
    by_cases hc : a.category = 2
    · simp only [if_pos hc] at h ⊢
      match i, h with
      | 0, h => simp at h; subst h; rfl
      | 1, h => simp at h
      | i + 2, h => simp only [List.cons_append, List.nil_append, List.getElem?_cons_succ] at h ⊢; exact ih i v h
    · simp only [if_neg hc] at h ⊢
      match i, h with
      | 0, h => simp at h; subst h; rfl
      | i + 1, h => simp only [List.cons_append, List.nil_append, List.getElem?_cons_succ] at h ⊢; exact ih i v h
theorem xen_len {nL : Nat} {av : List Value} (h : (xel av).length ≤ nL) : (xen nL av).length = nL := by
  simp [xen]; omega
theorem xen_L {G : XG} {nL : Nat} {av : List Value} (h : (xel av).length ≤ nL) : xL G (xen nL av) ((lg_sl (av.map (xv G)) ++ List.replicate (nL - (lg_sl (av.map (xv G))).length) Slot.unset).toArray) := by
  have hl := lv_entry (av.map (xv G)) (n := nL) (by rw [xel_len]; exact h)
  refine ⟨hl.1.trans (xen_len h).symm, hl.2.1, fun i v hv => ?_⟩
  have hi : i < (xel av).length := by
    rcases Nat.lt_or_ge i (xel av).length with q | q
    · exact q
    · unfold xen at hv
      rw [List.getElem?_append_right q, List.getElem?_replicate] at hv
      split at hv <;> cases hv
  unfold xen at hv
  rw [List.getElem?_append_left hi] at hv
  have h2 := xel_at G av i v hv
  rw [List.getElem?_toArray, List.getElem?_append_left (by rw [xel_len]; exact hi)]
  exact h2
def xPc (G : XG) (N : Nat) (σ : XW) (av : List Value) : Array Value → State → Prop := va_Pc (av.map (xv G)) (fun U => va_P G.1 vwCl (xw G N σ) U.heap ∧ va_D (fun _ => True) (xw G N σ) ∧ va_K G.1 vwCl (xt G) U ∧ U.heap.size = G.2.1.1 + N ∧ N ≤ 1000 ∧ xZ G (va_A (xw G N σ) (G.2.1.1 + N)) U)
def xQc (G : XG) (Q : Nat → Option Value → XW → Prop) (A : Nat → Prop) : Array Value → State → Outcome → State → Prop := fun _ st oc t => (∃ (N' : Nat) (r : Option Value) (σ' : XW), oc = .returned (r.map (xv G)) ∧ Q N' r σ' ∧ va_P G.1 vwCl (xw G N' σ') t.heap ∧ va_D A (xw G N' σ') ∧ N' ≤ 1000) ∧ va_F A st t
/-- a contract: V at the entry -/
def Ct (y : MethodName) (cc : ByteArray) (nL : Nat) (rt : Option FieldType) (d N : Nat) (al : Nat × Nat) (av : List Value) (σ : XW) (Q : Nat → Option Value → XW → Prop) : Prop := V y cc rt d N al 0 (xen nL av) [] σ Q
section VC
variable {y : MethodName} {cc : ByteArray} {rt : Option FieldType} {d N : Nat} {al : Nat × Nat} {pc : Nat} {ls ls' : List (Option Value)} {st : List Value} {σ : XW} {Q : Nat → Option Value → XW → Prop}
theorem x_met {nL mc ms : Nat} {av : List Value} (hV : Ct y cc nL rt d N (mc, ms) av σ Q) (hy : plainName y.cls = true) (hlen : (xel av).length ≤ nL) (l : Launch) (G : XG) : Met l y (Cond.code y cc nL rt :: lw_gd) ({ frames := d, cells := mc, slots := ms, locals := 60 * d }) (xPc G N σ av) (xQc G Q (va_A (xw G N σ) (G.2.1.1 + N))) mc ms (va_A (xw G N σ) (G.2.1.1 + N)) := by
  refine Met.ofW (cc := cc) (maxL := nL) (ret := rt) hy rfl ?_
  intro p e s m args below meth c s₁ B hml hv
  obtain ⟨rfl, hP, hD0, hK, hz, hn, hZ⟩ := hv
  have hD : va_D (va_A (xw G N σ) (G.2.1.1 + N)) (xw G N σ) := hD0.self
  have hts := atoms_spec (ws := Cond.code y cc nL rt :: lw_gd) B.pre
  rw [lg_entry_eq]
  refine hV p l e _ s m _ below meth c G (va_A (xw G N σ) (G.2.1.1 + N)) s.heap [] 0 0 mc ms _ _ ⟨B.exec, B.bytes, B.returns, by rw [xen_len hlen]; exact hml, findClass_of_methodNamed B.named, fun w h => hts w (List.mem_cons_of_mem _ h), B.notSynchronized, hK, fun q h => Or.inr (by omega), Nat.le_refl _, Nat.le_refl _, hZ, fun h => by rw [(name_of_methodNamed B.named B.method).1]; exact h⟩ ⟨hP, hD, va_S.rf, hn⟩ (xen_L hlen) ⟨by omega, by omega, Nat.le_refl _, Nat.le_refl _, by omega, by omega⟩ ?_
  intro N' σ' H' locs' r pc' lsA' i hq hH hret hd
  have hx := B.exec
  have hb := B.bytes
  have hr := B.returns
  have hlocks := B.notSynchronized
  have fin : ∀ (o : Option Value), o = r.map (xv G) → ∀ t : State, t.heap = H' → s.WarmedH t.vm → xQc G Q (va_A (xw G N σ) (G.2.1.1 + N)) (av.map (xv G)).toArray s (.returned o) t := fun o ho t ht _ => ⟨⟨N', r, σ', by rw [ho], hq, by rw [ht]; exact hH.1, hH.2.1, hH.2.2.2⟩, hH.2.2.1.F ht⟩
  unfold xret at hret
  split at hret
  · exact W.vret hx hb hr (fin none rfl) hH.2.2.1.2.2 hd
  · exact W.iret hx hb hr (fin _ rfl) hH.2.2.1.2.2 hd
  · rename_i v
    exact W.zret (v := v) hx hb hr (by
      rcases (by simpa using hret : v = 0 ∨ v = 1) with h | h <;> subst h <;> rfl) (fin _ rfl) hH.2.2.1.2.2 hd
  · exact W.lret hx hb hr (fin _ rfl) hH.2.2.1.2.2 hd
  · exact W.dret hx hb hr (fin _ rfl) hH.2.2.1.2.2 hd
  · cases hret

theorem x_sub {p : Program} {R : Room} {s : State} {m : MethodId} {args : Array Value} {meth : Method} {c : Code} {G : XG} {A : Nat → Prop} {H : Heap} {locs : List Loc} (hC : xC y cc rt ls.length d G A p R s m args meth c) (hH : xH G N σ A s.heap H locs) (hz : H.size = G.2.1.1 + N) : ∀ q, va_A (xw G N σ) (G.2.1.1 + N) q → A q := by
  intro q h
  rcases h with ⟨k, e, h⟩ | h
  · exact hH.2.1.2 k _ h
  · exact hC.2.2.2.2.2.2.2.2.1 q (by have := hH.2.2.1.1; omega)
theorem x_ran {p : Program} {l : Launch} {e : Env} {R : Room} {s : State} {m : MethodId} {args : Array Value} {below : List Frame} {meth : Method} {c : Code} {G : XG} {A : Nat → Prop} {H : Heap} {locs : List Loc} {cells slots C0 S0 : Nat} {Z : State → Prop} {lsA : Array Slot} (hC : xC y cc rt ls.length d G A p R s m args meth c) (hH : xH G N σ A s.heap H locs) (hL : xL G ls lsA) (hN : cells + al.1 ≤ C0 ∧ slots + al.2 ≤ S0 ∧ C0 ≤ R.cells ∧ S0 ≤ R.slots ∧ s.heap.size + cells = G.2.1.1 + N ∧ G.2.1.1 ≤ s.heap.size) (hR : xR cc rt G A Q p l e R s m args below meth c C0 S0 Z) {mc ms : Nat} {st0 : List Value} {Q' : Nat → Option Value → XW → Prop} {a : Array Value}
    (hr : va_Run p l e R s m args below meth c H locs cells slots mc ms (F0 m pc lsA st0) (st.map (xv G)) (xQc G Q' (va_A (xw G N σ) (G.2.1.1 + N)) a) (va_A (xw G N σ) (G.2.1.1 + N))) (hz : H.size = G.2.1.1 + N) (hm : mc ≤ al.1 ∧ ms ≤ al.2) (hNN : ∀ n r τ, Q' n r τ → n = N + mc)
    (k : ∀ n r τ, Q' n r τ → V y cc rt d n (al.1 - mc, al.2 - ms) (pc + 3) ls (r.toList ++ st) τ Q) : W p l e R s m args below meth c H locs cells slots Z (F0 m pc lsA st0) := by
  have hsub := x_sub hC hH hz
  intro T hT X
  obtain ⟨v, st₀, t, T', L, h0, X', hLf, e1, e2, ⟨⟨n, r, τ, hv, hq, hP, hD, hn⟩, hF⟩, go⟩ := hr T hT X
  have hv : v = r.map (xv G) := Outcome.returned.inj hv
  subst hv
  have hNe := hNN n r τ hq
  have hF1 := hF.1
  have hF2 := hF.2
  rw [h0] at hF1 hF2
  have hS := hH.2.2.1
  obtain ⟨n1, n2, n3, n4, n5, n6⟩ := hN
  have hgo := k n r τ hq p l e R s m args below meth c G A T'.heap (locs ++ L) (cells + mc) (slots + ms) C0 S0 Z lsA hC ⟨by rw [e1]; exact hP, hD.weaken (fun _ q _ h => hsub q.1 h), ⟨by rw [e1]; have := hS.1; omega, fun q g1 g2 => by
      rw [e1, hF2 q (by have := hS.1; omega) (fun z => g2 (hsub q z))]
      exact hS.2.1 q g1 g2, fun q hq => by
      rcases List.mem_append.mp hq with h | h
      · exact hS.2.2 q h
      · exact hsub _ (hLf q h)⟩, hn⟩ hL ⟨by show cells + mc + (al.1 - mc) ≤ C0; omega, by show slots + ms + (al.2 - ms) ≤ S0; omega, n3, n4, by omega, n6⟩ hR
  have e3 : (r.toList ++ st).map (xv G) = (r.map (xv G)).toList ++ st.map (xv G) := by cases r <;> rfl
  rw [e3] at hgo
  obtain ⟨t2, a1, b1⟩ := hgo T' rfl X'
  exact ⟨t2, go t2 a1, b1⟩
theorem x_pre {p : Program} {R : Room} {s : State} {m : MethodId} {args : Array Value} {meth : Method} {c : Code} {G : XG} {A : Nat → Prop} {H : Heap} {locs : List Loc} (hC : xC y cc rt ls.length d G A p R s m args meth c) (hH : xH G N σ A s.heap H locs) (hz : H.size = G.2.1.1 + N) {av : List Value} {U : State} (hU : U.heap = H) (hW : s.WarmedH U.vm) : xPc G N σ av (av.map (xv G)).toArray U := by
  have hsub := x_sub hC hH hz
  have hS := hH.2.2.1
  refine ⟨rfl, by rw [hU]; exact hH.1, hH.2.1.weaken (fun _ _ _ _ => trivial), va_K.moved hW.alike hC.2.2.2.2.2.2.2.1, by rw [hU]; exact hz, hH.2.2.2, fun q hq => ?_⟩
  obtain ⟨g1, g2, g3, g4⟩ := hC.2.2.2.2.2.2.2.2.2.2.2.1 q hq
  refine ⟨?_, ?_, fun z => g3 (hsub _ z), va_Nw.warmC hW g4⟩
  · rw [hU]
    exact ((g1.moved hW.alike).kept (fun a h1 h2 => hS.2.1 a h1 h2)).narrow hsub
  · obtain ⟨cell, h2, hr⟩ := g2
    exact ⟨cell, by rw [hU, hS.2.1 _ (Array.getElem?_eq_some_iff.mp h2).1 g3]; exact h2, hr⟩
theorem x_blind {G : XG} {av : List Value} : FrameBlind (xPc G N σ av) := by
  intro a U g mk h
  obtain ⟨h1, h2, h3, h4, h5, h6, h7⟩ := h
  refine ⟨h1, h2, h3, va_K.moved (u := U) (U := U.calling g mk a) (Vm.Alike.refl U.vm) h4, h5, h6, fun q hq => ?_⟩
  obtain ⟨g1, g2, g3, g4⟩ := h7 q hq
  exact ⟨g1.moved (U := U.calling g mk a) (Vm.Alike.refl U.vm), g2, g3, va_Nw.same rfl (u := U) (U := U.calling g mk a) rfl g4⟩
theorem x_callB {p : Program} {R : Room} {s : State} {m : MethodId} {args : Array Value} {meth : Method} {c : Code} {G : XG} {A : Nat → Prop} (hC : xC y cc rt ls.length d G A p R s m args meth c) {y' : MethodName} {cc' : ByteArray} {nL' d' ix n mc ms : Nat} {rt' : Option FieldType} (hM : xMi y' cc' nL' rt' n) (hd : d' + 1 ≤ d) (hw : Cond.methodLink y.cls ix y' ∈ lw_gd) : CallB R s args y.cls ix y' cc' nL' rt' (Cond.code y' cc' nL' rt' :: lw_gd) ({ frames := d', cells := mc, slots := ms, locals := 60 * d' }) mc ms n := by
  have h1 := hC.2.2.2.2.2.2.2.2.2.1
  have h2 := hC.2.2.2.2.2.2.2.2.2.2.1
  have h3 := hM.2.2.2.2
  exact callB_of n hC.2.2.2.2.2.1 (fun w h => by
    rcases List.mem_cons.mp h with e | h
    · subst e; exact ⟨hM.1, lw_good _ hM.1⟩
    · exact ⟨h, lw_good w h⟩) rfl rfl rfl (hC.2.2.2.2.2.1 _ hM.2.1) (hC.2.2.2.2.2.1 _ hw) hM.2.2.2.1 ⟨by show d' + 1 ≤ R.frames; omega, by show 8 + (nL' + 11) + 60 * d' ≤ R.locals; omega⟩
theorem x_room {G : XG} {m : MethodId} {lsA : Array Slot} {st0 : List Value} (hst : (st.map fun v => v.category).sum ≤ 8) : 2 * (F0 m pc lsA st0).monitorRoom + ((st.map (xv G)).map fun v => v.category).sum ≤ 8 := by
  have e : ((fun v => v.category) ∘ xv G) = (fun v : Value => v.category) := funext fun v => xv_cat G v
  have e2 : 2 * (F0 m pc lsA st0).monitorRoom = 0 := rfl
  rw [List.map_map, e, e2]
  omega
/-- invokevirtual, of a method of the receiver's own class -/
theorem x_callV {y' : MethodName} {cc' : ByteArray} {nL' d' ix n mc ms i ci nf : Nat} {rt' : Option FieldType} {T : u_T} {fs As st0 : List Value} {Q' : Nat → Option Value → XW → Prop} (hd : decode cc pc = .ok (.invokevirtual ix, 3)) (hM : xMi y' cc' nL' rt' n) (hw : Cond.methodLink y.cls ix y' ∈ lw_gd) (hw2 : Cond.instanceMethod y' ∈ lw_gd) (hw3 : Cond.selects y'.cls y' y' ∈ lw_gd) (hc : vwCl[ci]? = some (y'.cls, T, nf)) (hct : Ct y' cc' nL' rt' d' N (mc, ms) (.ref i :: As) σ Q') (hi : i < N) (hσ : σ i = .inr (ci, fs)) (hlen : (xel (.ref i :: As)).length ≤ nL') (hn : As.length = n) (hdd : d' + 1 ≤ d) (hm : mc ≤ al.1 ∧ ms ≤ al.2) (hst : (st.map fun v => v.category).sum ≤ 8) (hst0 : As.reverse ++ .ref i :: st = st0) (hNN : ∀ n r τ, Q' n r τ → n = N + mc)
    (k : ∀ n r τ, Q' n r τ → V y cc rt d n (al.1 - mc, al.2 - ms) (pc + 3) ls (r.toList ++ st) τ Q) : V y cc rt d N al pc ls st0 σ Q := by
  intro p l e R s m args below meth c G A H locs cells slots C0 S0 Z lsA hC hH hL hN hR
  refine x_sized hH hN (fun hz => ?_)
  obtain ⟨n1, n2, n3, n4, n5, n6⟩ := id hN
  refine x_ran hC hH hL hN hR (mc := mc) (ms := ms) (a := ((Value.ref i :: As).map (xv G)).toArray) ?_ hz hm hNN k
  subst hst0
  exact va_runV (g := F0 m pc lsA ((As.reverse ++ Value.ref i :: st).map (xv G))) (As := As.map (xv G)) (b := xa G i) (rest := st.map (xv G)) ⟨hC.1, hC.2.1, hC.2.2.2.1, hC.2.2.2.2.1, hC.2.2.2.2.2.1⟩ (x_met hct hM.2.2.1 hlen l G) ⟨x_callB hC hM hdd hw, hC.2.2.2.2.2.1 _ hw2, hC.2.2.2.2.2.1 _ hw3⟩ ⟨x_blind, va_recv hC.2.2.2.2.2.2.2.1 hH.1 hc (xw_inr hi hσ), fun U hU hW => x_pre hC hH hz hU hW⟩ rfl (by rw [List.length_map]; exact hn) hL.1 (by simp [xv, List.map_reverse]) (x_room hst) hd ⟨by omega, by omega⟩
/-- invokestatic -/
theorem x_callS {y' : MethodName} {cc' : ByteArray} {nL' d' ix n mc ms : Nat} {rt' : Option FieldType} {As st0 : List Value} {Q' : Nat → Option Value → XW → Prop} (hd : decode cc pc = .ok (.invokestatic ix, 3)) (hM : xMi y' cc' nL' rt' n) (hw : Cond.methodLink y.cls ix y' ∈ lw_gd) (hw2 : Cond.static y' ∈ lw_gd) (hct : Ct y' cc' nL' rt' d' N (mc, ms) As σ Q') (hlen : (xel As).length ≤ nL') (hn : As.length = n) (hdd : d' + 1 ≤ d) (hm : mc ≤ al.1 ∧ ms ≤ al.2) (hst : (st.map fun v => v.category).sum ≤ 8) (hst0 : As.reverse ++ st = st0) (hNN : ∀ n r τ, Q' n r τ → n = N + mc)
    (k : ∀ n r τ, Q' n r τ → V y cc rt d n (al.1 - mc, al.2 - ms) (pc + 3) ls (r.toList ++ st) τ Q) : V y cc rt d N al pc ls st0 σ Q := by
  intro p l e R s m args below meth c G A H locs cells slots C0 S0 Z lsA hC hH hL hN hR
  refine x_sized hH hN (fun hz => ?_)
  obtain ⟨n1, n2, n3, n4, n5, n6⟩ := id hN
  refine x_ran hC hH hL hN hR (mc := mc) (ms := ms) (a := (As.map (xv G)).toArray) ?_ hz hm hNN k
  subst hst0
  exact va_runS (g := F0 m pc lsA ((As.reverse ++ st).map (xv G))) (As := As.map (xv G)) (rest := st.map (xv G)) ⟨hC.1, hC.2.1, hC.2.2.2.1, hC.2.2.2.2.1, hC.2.2.2.2.2.1⟩ (x_met hct hM.2.2.1 hlen l G) ⟨x_callB hC hM hdd hw, hC.2.2.2.2.2.1 _ hw2⟩ ⟨x_blind, fun U hU hW => x_pre hC hH hz hU hW⟩ rfl (by rw [List.length_map]; exact hn) hL.1 (by simp [List.map_reverse]) (x_room hst) hd ⟨by omega, by omega⟩
/-- a constructor of ours -/
theorem x_callI {y' : MethodName} {cc' : ByteArray} {nL' d' ix n mc ms i : Nat} {As st0 : List Value} {Q' : Nat → Option Value → XW → Prop} (hd : decode cc pc = .ok (.invokespecial ix, 3)) (hM : xMi y' cc' nL' none n) (hw : Cond.methodLink y.cls ix y' ∈ lw_gd) (hw2 : Cond.instanceMethod y' ∈ lw_gd) (hin : y'.name = "<init>") (hct : Ct y' cc' nL' none d' N (mc, ms) (.ref i :: As) σ Q') (hlen : (xel (.ref i :: As)).length ≤ nL') (hn : As.length = n) (hdd : d' + 1 ≤ d) (hm : mc ≤ al.1 ∧ ms ≤ al.2) (hst : (st.map fun v => v.category).sum ≤ 8) (hst0 : As.reverse ++ .ref i :: st = st0) (hNN : ∀ n r τ, Q' n r τ → n = N + mc)
    (k : ∀ n r τ, Q' n r τ → V y cc rt d n (al.1 - mc, al.2 - ms) (pc + 3) ls (r.toList ++ st) τ Q) : V y cc rt d N al pc ls st0 σ Q := by
  intro p l e R s m args below meth c G A H locs cells slots C0 S0 Z lsA hC hH hL hN hR
  refine x_sized hH hN (fun hz => ?_)
  obtain ⟨n1, n2, n3, n4, n5, n6⟩ := id hN
  refine x_ran hC hH hL hN hR (mc := mc) (ms := ms) (a := ((Value.ref i :: As).map (xv G)).toArray) ?_ hz hm hNN k
  subst hst0
  exact va_runI (g := F0 m pc lsA ((As.reverse ++ Value.ref i :: st).map (xv G))) (As := As.map (xv G)) (b := xa G i) (rest := st.map (xv G)) ⟨hC.1, hC.2.1, hC.2.2.2.1, hC.2.2.2.2.1, hC.2.2.2.2.2.1⟩ (x_met hct hM.2.2.1 hlen l G) ⟨x_callB hC hM hdd hw, hin, hC.2.2.2.2.2.1 _ hw2⟩ ⟨x_blind, fun U hU hW => x_pre (av := .ref i :: As) hC hH hz hU hW⟩ rfl (by rw [List.length_map]; exact hn) hL.1 (by simp [xv, List.map_reverse]) (x_room hst) hd ⟨by omega, by omega⟩
/-- clone of a static row -/
theorem x_clone {ix : Nat} (q : Nat) (hd : decode cc pc = .ok (.invokevirtual ix, 3)) (hq : q < 3) (hw : Cond.methodLink y.cls ix ⟨"[I", "clone", "()Ljava/lang/Object;"⟩ ∈ lw_gd) (hd1 : 1 ≤ d) (h1 : 1 ≤ al.1) (h2 : 7 ≤ al.2) (hlt : N < 1000) (hst : (st.map fun v => v.category).sum ≤ 8)
    (k : V y cc rt d (N + 1) (al.1 - 1, al.2 - 7) (pc + 3) ls (.ref N :: st) (xup σ N (.inl (0, 7, .inl (xsf q)))) Q) : V y cc rt d N al pc ls (.ref (1000 + q) :: st) σ Q := by
  intro p l e R s m args below meth c G A H locs cells slots C0 S0 Z lsA hC hH hL hN hR
  refine x_sized hH hN (fun hz => ?_)
  obtain ⟨n1, n2, n3, n4, n5, n6⟩ := id hN
  obtain ⟨-, ⟨cell, g2, hcl, hsl, hu, hns⟩, g3, g4⟩ := hC.2.2.2.2.2.2.2.2.2.2.2.1 q hq
  have hS := hH.2.2.1
  have hcH : H[xa G (1000 + q)]? = some cell := by rw [hS.2.1 _ (Array.getElem?_eq_some_iff.mp g2).1 g3]; exact g2
  have hnm : s.vm.findClass "[I" = some (G.2.2 0) := (hC.2.2.2.2.2.2.2.1.2 0 _ rfl).2
  have hsz : cell.slots.size = 7 := by rw [hsl]; exact arrV_size _ _ _
  obtain ⟨c0, t0', f1, f2, f3⟩ := Cond.castable_spec (va_Nw.use (A := args) rfl g4)
  cases hnm.symm.trans f1
  have hfr := hC.2.2.2.2.2.2.2.2.2.1
  have hlo := hC.2.2.2.2.2.2.2.2.2.2.1
  have hxa : xa G N = G.2.1.1 + N := if_pos hlt
  have hA := hC.2.2.2.2.2.2.2.2.1
  have hro := x_room (G := G) (m := m) (pc := pc) (lsA := lsA) (st0 := []) hst
  intro T hT X
  have hcT : T.heap[xa G (1000 + q)]? = some cell := by rw [hT]; exact hcH
  obtain ⟨-, kA, hkA, comp, hkind⟩ := State.isArrayOf_alike X.warmed.alike ((hC.2.2.2.2.2.2.2.1.2 0 _ rfl).1 0 (fun _ => .null))
  obtain ⟨-, kS, hkS, compS, hkindS⟩ := (hC.2.2.2.2.2.2.2.1.2 0 _ rfl).1 0 (fun _ => .null)
  obtain ⟨vm', X', stp⟩ := X.cloneArray hC.1 hC.2.2.2.2.1 (hC.2.2.2.2.2.1 _ hw) (hC.2.2.2.2.2.1 _ (by decide +kernel)) (hC.2.2.2.2.2.1 _ (by decide +kernel)) (hC.2.2.2.2.2.1 _ (by decide +kernel)) (hC.2.2.2.2.2.1 _ (by decide +kernel)) (a := xa G (1000 + q)) (cell := cell) hcT hns hu (by rw [hcl]; exact hnm) f2 (by rw [hcl]; exact f3)
    (fun i v hv => by
      have hk' : T.vm.classes[G.2.2 0]? = some kA := hkA
      have hi : i < 7 := by have := (Array.getElem?_eq_some_iff.mp hv).1; rw [hsz] at this; exact this
      have hv2 : v = .int (xsf q i) := by
        have h9 : (vp_cell (G.2.2 0) (7, .inl (xsf q))).slots[i]? = some (.int (xsf q i)) := arrV_read _ _ hi
        rw [hsl, h9] at hv
        exact (Option.some.inj hv).symm
      subst hv2
      rw [hcl]
      simp [State.fitsSlot, State.slotType?, hk', hkind, fits])
    (g := F0 m pc lsA (.ref (xa G (1000 + q)) :: st.map (xv G))) rfl (hL.1.trans hC.2.2.2.1.symm) rfl (by rw [hC.2.1]; exact hd) (by omega) (by
      have e2 : 2 * (F0 m pc lsA []).monitorRoom = 0 := rfl
      rw [e2] at hro
      show 2 * 0 + _ + 14 ≤ _
      omega) (by omega) (by rw [hsz]; omega) (hloader := by rw [hcl]; exact Vm.clonesLoader_of_array hkS hkindS)
  rw [hsz] at X'
  have hcE : ({ cls := cell.cls, slots := cell.slots } : Cell) = vp_cell (G.2.2 0) (7, .inl (xsf q)) := by rw [hcl, hsl]; rfl
  rw [hcE] at X' stp
  generalize hH1 : H.push (vp_cell (G.2.2 0) (7, .inl (xsf q))) = H1
  have z1 : H1.size = H.size + 1 := by rw [← hH1, Array.size_push]
  have e1 : H1[H.size]? = some (vp_cell (G.2.2 0) (7, .inl (xsf q))) := by rw [← hH1, Array.getElem?_push_size]
  have o1 : ∀ q : Nat, q < H.size → H1[q]? = H[q]? := fun q hq => by rw [← hH1, Array.getElem?_push, if_neg (Nat.ne_of_lt hq)]
  have hk : ∀ (j : Nat) (x : Nat × va_E), (xw G N σ)[j]? = some x → H1[x.1]? = H[x.1]? := fun j x hx => o1 x.1 ((hH.1 j x hx).lt)
  have hgo := k p l e R s m args below meth c G A H1 locs (cells + 1) (slots + 7) C0 S0 Z lsA hC ⟨by
      rw [xw_push]
      refine (hH.1.kept hk).app (fun j x hx => ?_)
      have hz' : j < 1 := (List.getElem?_eq_some_iff.mp hx).1
      rw [show j = 0 by omega] at hx
      cases hx
      show H1[xa G N]? = some (vp_cell _ _)
      rw [hxa, ← hz]
      exact e1, by
      rw [xw_push]
      exact hH.2.1.push hH.1 (by rw [hxa, hz]) (hA _ (by have := hS.1; omega)), ⟨by have := hS.1; omega, fun x g1 g2 => (o1 x (by have := hS.1; omega)).trans (hS.2.1 x g1 g2), hS.2.2⟩, by omega⟩ hL ⟨by show cells + 1 + (al.1 - 1) ≤ C0; omega, by show slots + 7 + (al.2 - 7) ≤ S0; omega, n3, n4, by omega, n6⟩ hR
  rw [List.map_cons] at hgo
  simp only [xv, hxa] at hgo
  obtain ⟨t, b1, b2⟩ := hgo ((T.setVm vm').pushCell (vp_cell (G.2.2 0) (7, .inl (xsf q)))) (by rw [← hH1, ← hT]; rfl) X'
  refine ⟨t, stp t ?_, b2⟩
  rw [hT, hz]
  exact b1
theorem x_castA {ix i : Nat} {x : vp_A} (hd : decode cc pc = .ok (.checkcast ix, 3)) (hw : Cond.classLink y.cls ix "[I" ∈ lw_gd) (hi : i < N) (hσ : σ i = .inl (0, x)) (k : V y cc rt d N al (pc + 3) ls (.ref i :: st) σ Q) : V y cc rt d N al pc ls (.ref i :: st) σ Q := by
  intro p l e R s m args below meth c G A H locs cells slots C0 S0 Z lsA hC hH hL hN hR
  exact va_castA hC.1 hC.2.1 hC.2.2.2.2.1 (hC.2.2.2.2.2.1 _ hw) hH.1 i (xw_inl hi hσ) (hC.2.2.2.2.2.2.2.1.2 0 _ rfl).2 hd (k p l e R s m args below meth c G A H locs cells slots C0 S0 Z lsA hC hH hL hN hR)
end VC
