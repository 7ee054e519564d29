/-! THE CLAIM OUT OF ONE WALK OF THE LAW'S BODY. Your part is whole_start (and what it stands on); all else here is the same for every law, but numbers. -/
def R_law : String := "CellFinderLaw"
def lw_P (b : Addr) (xs : List Int32) (args : Array Value) (s : State) : Prop := args = #[.ref b] ∧ s.IntsAt b xs ∧ xs.length ≤ 3072 ∧ (Jvm.Cond.and given_1 narrow_1).before args s = true
/-- what a walk over the start with the record d0 says of its end, said of the start itself -/
theorem lw_closed {s t : State} {o : Outcome} {d0 : Drawn} {L : List Loc} {k n : Nat} (hd0 : s.drawn.sameBut d0 lw_cs) (hv : ∃ v, o = .returned v) (hW : (s.setDrawn d0).WarmedH t.vm) (hs : (s.setDrawn d0).sameButNew ({ t with vm := s.vm } : State) L k n) : State.butDraws s t lw_cs (fun t1 => Framed s o t1 L k n) := by
  have h2 : t.drawn = d0 := congrArg State.drawn hs.1
  refine ⟨⟨hv, hW, State.sameButNew.setDrawn hs s.drawn⟩, ?_, by decide⟩
  rw [h2]
  exact hd0
def lw_Q (_ : Array Value) (s : State) (o : Outcome) (t : State) : Prop := o = .returned (some (.int 1)) ∧ State.butDraws s t lw_cs (fun t1 => Framed s o t1 [] 600000 7302250)
def lw_Z (below : List Frame) (a : Array Value) (s : State) : State → Prop := fun t => ∃ o, t.status = .running ∧ Ended t below o ∧ lw_Q a s o t
/-- the law's own end, with 1 on the stack, nothing written that was there before, its room as the claim has it; d0: the record of draws at this point (at the entry s.drawn: begin with 'refine W.base ?_' and 'have hd0 := Drawn.sameBut.refl s.drawn lw_cs') -/
theorem lw_ret {p : Program} {l : Launch} {e : Env} {s : State} {m : MethodId} {below : List Frame} {meth : Method} {c : Code} {b : Nat} {d0 : Drawn} (hd0 : s.drawn.sameBut d0 lw_cs) (hx : p.tables.exec = Jvm.exec) (hb : c.code = code) (hr : meth.sig.returnType = ret) (hlocks : meth.locks = false) {pc : Nat} {H : Heap} {ls : Array Slot} (hdg : decode code pc = .ok (.ireturn, 1)) : W p l e room_1 (s.setDrawn d0) m #[Value.ref b] below meth c H [] 600000 7302250 (lw_Z below #[Value.ref b] s) (F0 m pc ls [.int 1]) := by
  intro T hT X
  obtain ⟨fs, hret, hrun, hended, hW, hframe⟩ := X.leave (v := some (.int 1)) (hlocks := hlocks) (fun h => by rw [hr] at h; cases h)
  have hmeth' : T.vm.method? m = some meth := X.method'
  refine ⟨T.setFrames fs, ?_, .returned (some (.int 1)), hrun, hended, rfl, lw_closed hd0 ⟨_, rfl⟩ hW hframe⟩
  jvm_step X.here [X.here.top, hx, hb, hdg, hmeth', hr, ret, narrow_b1]
  (try refine ⟨rfl, ?_⟩); (try refine ⟨rfl, ?_⟩)
  first | (intro acts; rw [hret _ acts rfl rfl rfl]) | rw [hret _ _ rfl rfl rfl]
  exact Steps.refl _
/-- what holds at the law's entry: the machine, the code, the tables' words (any of lw_tbl by 'hts w (by decide +kernel)'), the script of L ints xs at the cell b, what the Statement gives of the start (any of its parts by flat_of_before) -/
def lw_At (p : Program) (s : State) (m : MethodId) (meth : Method) (c : Code) (b L : Nat) (xs : Nat → Int32) : Prop :=
  p.tables.exec = Jvm.exec ∧ c.code = code ∧ meth.sig.returnType = ret ∧ c.maxLocals = 4 ∧ s.vm.findClass R_law = some m.cls ∧ (∀ w ∈ lw_tbl, w.before #[Value.ref b] s = true) ∧ va_X b L xs s s.heap ∧ b < s.heap.size ∧ meth.locks = false ∧ (Jvm.Cond.and given_1 narrow_1).before #[Value.ref b] s = true

theorem ss_at {s : State} {a : Addr} {cell : Cell} (hc : s.heap[a]? = some cell) (hA : s.isArrayOf cell .int) (hu : cell.vm ≠ .unknown) : s.arrayAt? a = some cell := by
  obtain ⟨hns, k, hk, comp, hkind⟩ := hA
  have hst : cell.vm.isStatics = false := by
    cases hvm : cell.vm <;> simp [VmData.isStatics]
    exact absurd hvm (hns _)
  simp [State.arrayAt?, hc, hk, hu, hst, hkind]
theorem ss_size {args : Array Value} {s : State} {t : Term} {a : Addr} {cell : Cell} (ht : t.eval args s none [] s = some (.ref a)) (ha : s.arrayAt? a = some cell) (h : (Cond.eq (.length t) (.int 7)).before args s = true) : cell.slots.size = 7 := by
  obtain ⟨w, h1, h2⟩ := Cond.eq_one (show (Cond.eq (.length t) (.int 7)).holds args s none s [] = true from h)
  have h3 : w = .int 7 := by
    have : (Term.int 7).eval args s none [] s = some (.int 7) := rfl
    rw [this] at h2
    exact (Option.some.inj h2).symm
  subst h3
  by_cases hs : cell.slots.size < 2 ^ 31
  · have h4 : (Term.length t).eval args s none [] s = some (.int cell.slots.size.toInt32) := by simp [Term.eval, ht, ha, hs]
    rw [h4] at h1
    have h5 : nI cell.slots.size = nI 7 := Value.int.inj (Option.some.inj h1)
    exact (nI_eq hs (by decide)).mp h5
  · have h4 : (Term.length t).eval args s none [] s = none := by simp [Term.eval, ht, ha, hs]
    rw [h4] at h1
    cases h1
theorem ss_elem {args : Array Value} {s : State} {t : Term} {a : Addr} {cell : Cell} (ht : t.eval args s none [] s = some (.ref a)) (ha : s.arrayAt? a = some cell) {j v : Int32} {k : Nat} (hj : ¬ j < 0) (hk : j.toNatClampNeg = k) (h : (Cond.eq (.elem t (.int j)) (.int v)).before args s = true) : cell.slots[k]? = some (.int v) := by
  obtain ⟨w, h1, h2⟩ := Cond.eq_one (show (Cond.eq (.elem t (.int j)) (.int v)).holds args s none s [] = true from h)
  have h3 : w = .int v := by
    have : (Term.int v).eval args s none [] s = some (.int v) := rfl
    rw [this] at h2
    exact (Option.some.inj h2).symm
  subst h3
  have h4 : (Term.elem t (.int j)).eval args s none [] s = cell.slots[j.toNatClampNeg]? := by
    have : (Term.int j).eval args s none [] s = some (.int j) := rfl
    simp only [Term.eval] at this
    simp [Term.eval, ht, ha, hj]
  rw [h4, hk] at h1
  exact h1
theorem ss_slots {c0 : ClassId} {cell : Cell} {f : Nat → Int32} (hs : cell.slots.size = 7) (h : ∀ j, j < 7 → cell.slots[j]? = some (.int (f j))) : cell.slots = (vp_cell c0 (7, .inl f)).slots := by
  apply Array.ext_getElem?
  intro i
  by_cases hi : i < 7
  · rw [h i hi]
    exact (arrV_read (cI := c0) (N := 7) (fun j => Value.int (f j)) hi).symm
  · rw [Array.getElem?_eq_none (by omega), Array.getElem?_eq_none (by rw [show (vp_cell c0 (7, .inl f)).slots.size = 7 from arrV_size _ _ _]; omega)]
theorem ws_s0 {b : Addr} {s : State} {A : Nat → Prop} (hA : ∀ a : Nat, a < s.heap.size → ¬ A a) (hts : ∀ w ∈ lw_tbl, w.before #[Value.ref b] s = true) (hgv : (Jvm.Cond.and given_1 narrow_1).before #[Value.ref b] s = true) {c0 : ClassId} (hc0 : s.vm.findClass "[I" = some c0) : ∃ a : Nat, va_Z RX11 (xsn 0) "[I" (.ref a) A s s.heap ∧ (∃ cell : Cell, s.heap[a]? = some cell ∧ cell.cls = c0 ∧ cell.slots = (vp_cell c0 (7, .inl (xsf 0))).slots ∧ cell.vm ≠ .unknown ∧ ∀ j, cell.vm ≠ .statics j) ∧ ¬ A a := by
  have hs := flat_of_before _ hgv
  obtain ⟨a, c, cell, kk, ht, hfc, hcell, -, hst, hcls, -⟩ := Cond.exactly_spec (show (Cond.exactly (.static "CellFinde\x72" "LEAST" "[I") "[I").holds #[Value.ref b] s none s [] = true from hs _ (by decide +kernel))
  obtain ⟨hA1, hu⟩ := Cond.arrayOf_spec (show (Cond.arrayOf (.static "CellFinde\x72" "LEAST" "[I") .int).holds #[Value.ref b] s none s [] = true from hs _ (by decide +kernel)) ht hcell
  have hat := ss_at hcell hA1 hu
  have hsz := ss_size ht hat (hs _ (by decide +kernel))
  have e0 := ss_elem (k := 0) ht hat (by decide) (by decide) (hs (.eq (.elem (.static "CellFinde\x72" "LEAST" "[I") (.int 0)) (.int 4)) (by decide +kernel))
  have e1 := ss_elem (k := 1) ht hat (by decide) (by decide) (hs (.eq (.elem (.static "CellFinde\x72" "LEAST" "[I") (.int 1)) (.int 1)) (by decide +kernel))
  have e2 := ss_elem (k := 2) ht hat (by decide) (by decide) (hs (.eq (.elem (.static "CellFinde\x72" "LEAST" "[I") (.int 2)) (.int 1)) (by decide +kernel))
  have e3 := ss_elem (k := 3) ht hat (by decide) (by decide) (hs (.eq (.elem (.static "CellFinde\x72" "LEAST" "[I") (.int 3)) (.int 0)) (by decide +kernel))
  have e4 := ss_elem (k := 4) ht hat (by decide) (by decide) (hs (.eq (.elem (.static "CellFinde\x72" "LEAST" "[I") (.int 4)) (.int 40)) (by decide +kernel))
  have e5 := ss_elem (k := 5) ht hat (by decide) (by decide) (hs (.eq (.elem (.static "CellFinde\x72" "LEAST" "[I") (.int 5)) (.int 0)) (by decide +kernel))
  have e6 := ss_elem (k := 6) ht hat (by decide) (by decide) (hs (.eq (.elem (.static "CellFinde\x72" "LEAST" "[I") (.int 6)) (.int 1)) (by decide +kernel))
  refine ⟨a, va_Zof (hts (.laysStatic "CellFinde\x72" "LEAST" "[I") (by decide +kernel)) (hts (.initialized "CellFinde\x72") (by decide +kernel)) ht hA, ⟨cell, hcell, ?_, ?_, hu, hA1.1⟩, hA a (Array.getElem?_eq_some_iff.mp hcell).1⟩
  · rw [hcls]; exact Option.some.inj (hfc.symm.trans hc0)
  · refine ss_slots hsz (fun j hj => ?_)
    match j, hj with
    | 0, _ => exact e0
    | 1, _ => exact e1
    | 2, _ => exact e2
    | 3, _ => exact e3
    | 4, _ => exact e4
    | 5, _ => exact e5
    | 6, _ => exact e6
theorem ws_s1 {b : Addr} {s : State} {A : Nat → Prop} (hA : ∀ a : Nat, a < s.heap.size → ¬ A a) (hts : ∀ w ∈ lw_tbl, w.before #[Value.ref b] s = true) (hgv : (Jvm.Cond.and given_1 narrow_1).before #[Value.ref b] s = true) {c0 : ClassId} (hc0 : s.vm.findClass "[I" = some c0) : ∃ a : Nat, va_Z RX11 (xsn 1) "[I" (.ref a) A s s.heap ∧ (∃ cell : Cell, s.heap[a]? = some cell ∧ cell.cls = c0 ∧ cell.slots = (vp_cell c0 (7, .inl (xsf 1))).slots ∧ cell.vm ≠ .unknown ∧ ∀ j, cell.vm ≠ .statics j) ∧ ¬ A a := by
  have hs := flat_of_before _ hgv
  obtain ⟨a, c, cell, kk, ht, hfc, hcell, -, hst, hcls, -⟩ := Cond.exactly_spec (show (Cond.exactly (.static "CellFinde\x72" "GREATEST" "[I") "[I").holds #[Value.ref b] s none s [] = true from hs _ (by decide +kernel))
  obtain ⟨hA1, hu⟩ := Cond.arrayOf_spec (show (Cond.arrayOf (.static "CellFinde\x72" "GREATEST" "[I") .int).holds #[Value.ref b] s none s [] = true from hs _ (by decide +kernel)) ht hcell
  have hat := ss_at hcell hA1 hu
  have hsz := ss_size ht hat (hs _ (by decide +kernel))
  have e0 := ss_elem (k := 0) ht hat (by decide) (by decide) (hs (.eq (.elem (.static "CellFinde\x72" "GREATEST" "[I") (.int 0)) (.int 48)) (by decide +kernel))
  have e1 := ss_elem (k := 1) ht hat (by decide) (by decide) (hs (.eq (.elem (.static "CellFinde\x72" "GREATEST" "[I") (.int 1)) (.int 15)) (by decide +kernel))
  have e2 := ss_elem (k := 2) ht hat (by decide) (by decide) (hs (.eq (.elem (.static "CellFinde\x72" "GREATEST" "[I") (.int 2)) (.int 15)) (by decide +kernel))
  have e3 := ss_elem (k := 3) ht hat (by decide) (by decide) (hs (.eq (.elem (.static "CellFinde\x72" "GREATEST" "[I") (.int 3)) (.int 1)) (by decide +kernel))
  have e4 := ss_elem (k := 4) ht hat (by decide) (by decide) (hs (.eq (.elem (.static "CellFinde\x72" "GREATEST" "[I") (.int 4)) (.int 4000)) (by decide +kernel))
  have e5 := ss_elem (k := 5) ht hat (by decide) (by decide) (hs (.eq (.elem (.static "CellFinde\x72" "GREATEST" "[I") (.int 5)) (.int 1)) (by decide +kernel))
  have e6 := ss_elem (k := 6) ht hat (by decide) (by decide) (hs (.eq (.elem (.static "CellFinde\x72" "GREATEST" "[I") (.int 6)) (.int 8)) (by decide +kernel))
  refine ⟨a, va_Zof (hts (.laysStatic "CellFinde\x72" "GREATEST" "[I") (by decide +kernel)) (hts (.initialized "CellFinde\x72") (by decide +kernel)) ht hA, ⟨cell, hcell, ?_, ?_, hu, hA1.1⟩, hA a (Array.getElem?_eq_some_iff.mp hcell).1⟩
  · rw [hcls]; exact Option.some.inj (hfc.symm.trans hc0)
  · refine ss_slots hsz (fun j hj => ?_)
    match j, hj with
    | 0, _ => exact e0
    | 1, _ => exact e1
    | 2, _ => exact e2
    | 3, _ => exact e3
    | 4, _ => exact e4
    | 5, _ => exact e5
    | 6, _ => exact e6
theorem ws_s2 {b : Addr} {s : State} {A : Nat → Prop} (hA : ∀ a : Nat, a < s.heap.size → ¬ A a) (hts : ∀ w ∈ lw_tbl, w.before #[Value.ref b] s = true) (hgv : (Jvm.Cond.and given_1 narrow_1).before #[Value.ref b] s = true) {c0 : ClassId} (hc0 : s.vm.findClass "[I" = some c0) : ∃ a : Nat, va_Z RX11 (xsn 2) "[I" (.ref a) A s s.heap ∧ (∃ cell : Cell, s.heap[a]? = some cell ∧ cell.cls = c0 ∧ cell.slots = (vp_cell c0 (7, .inl (xsf 2))).slots ∧ cell.vm ≠ .unknown ∧ ∀ j, cell.vm ≠ .statics j) ∧ ¬ A a := by
  have hs := flat_of_before _ hgv
  obtain ⟨a, c, cell, kk, ht, hfc, hcell, -, hst, hcls, -⟩ := Cond.exactly_spec (show (Cond.exactly (.static "CellFinde\x72" "AT_FIRST" "[I") "[I").holds #[Value.ref b] s none s [] = true from hs _ (by decide +kernel))
  obtain ⟨hA1, hu⟩ := Cond.arrayOf_spec (show (Cond.arrayOf (.static "CellFinde\x72" "AT_FIRST" "[I") .int).holds #[Value.ref b] s none s [] = true from hs _ (by decide +kernel)) ht hcell
  have hat := ss_at hcell hA1 hu
  have hsz := ss_size ht hat (hs _ (by decide +kernel))
  have e0 := ss_elem (k := 0) ht hat (by decide) (by decide) (hs (.eq (.elem (.static "CellFinde\x72" "AT_FIRST" "[I") (.int 0)) (.int 48)) (by decide +kernel))
  have e1 := ss_elem (k := 1) ht hat (by decide) (by decide) (hs (.eq (.elem (.static "CellFinde\x72" "AT_FIRST" "[I") (.int 1)) (.int 7)) (by decide +kernel))
  have e2 := ss_elem (k := 2) ht hat (by decide) (by decide) (hs (.eq (.elem (.static "CellFinde\x72" "AT_FIRST" "[I") (.int 2)) (.int 6)) (by decide +kernel))
  have e3 := ss_elem (k := 3) ht hat (by decide) (by decide) (hs (.eq (.elem (.static "CellFinde\x72" "AT_FIRST" "[I") (.int 3)) (.int 1)) (by decide +kernel))
  have e4 := ss_elem (k := 4) ht hat (by decide) (by decide) (hs (.eq (.elem (.static "CellFinde\x72" "AT_FIRST" "[I") (.int 4)) (.int 800)) (by decide +kernel))
  have e5 := ss_elem (k := 5) ht hat (by decide) (by decide) (hs (.eq (.elem (.static "CellFinde\x72" "AT_FIRST" "[I") (.int 5)) (.int 0)) (by decide +kernel))
  have e6 := ss_elem (k := 6) ht hat (by decide) (by decide) (hs (.eq (.elem (.static "CellFinde\x72" "AT_FIRST" "[I") (.int 6)) (.int 1)) (by decide +kernel))
  refine ⟨a, va_Zof (hts (.laysStatic "CellFinde\x72" "AT_FIRST" "[I") (by decide +kernel)) (hts (.initialized "CellFinde\x72") (by decide +kernel)) ht hA, ⟨cell, hcell, ?_, ?_, hu, hA1.1⟩, hA a (Array.getElem?_eq_some_iff.mp hcell).1⟩
  · rw [hcls]; exact Option.some.inj (hfc.symm.trans hc0)
  · refine ss_slots hsz (fun j hj => ?_)
    match j, hj with
    | 0, _ => exact e0
    | 1, _ => exact e1
    | 2, _ => exact e2
    | 3, _ => exact e3
    | 4, _ => exact e4
    | 5, _ => exact e5
    | 6, _ => exact e6
set_option maxRecDepth 100000 in
set_option maxHeartbeats 2000000 in
theorem la_entry (n : Nat) (Inv : ITy) (pm_feed : PM_feed n Inv) (pm_bits : PM_bits n Inv) (pm_send : PM_send n Inv) (pm_rest : PM_rest n Inv) (pm_flip : PM_flip n Inv) (pm_drop : PM_drop n Inv) (pm_slip : PM_slip n Inv) (pm_disturb : PM_disturb n Inv) (pm_bit : PM_bit n Inv) (pm_empty : PM_empty n Inv) (pm_terms : PM_terms n Inv) (pm_take : PM_take n Inv) (pm_fresh : PM_fresh n Inv) (pm_stage : PM_stage n Inv) (pm_stages : PM_stages n Inv) (pm_state : PM_state n Inv) (pm_count : PM_count n Inv) (pm_delivered : PM_delivered n Inv) (pm_load : PM_load n Inv) (pm_field : PM_field n Inv) (pm_judged : PM_judged n Inv) (pm_turn : PM_turn n Inv) (pm_lost : PM_lost n Inv) (pm_look : PM_look n Inv) (pm_until : PM_until n Inv) (pm_would : PM_would n Inv) (pm_worst : PM_worst n Inv) (pm_regained : PM_regained n Inv) (pm_spread : PM_spread n Inv) (pm_rights : PM_rights n Inv) (pm_phase : PM_phase n Inv) (pm_tuned : PM_tuned n Inv) (pm_starts : PM_starts n Inv) (pm_check : PM_check n Inv) (pm_syndrome : PM_syndrome n Inv) (pm_single : PM_single n Inv) (pm_latest : PM_latest n Inv) (pm_pairs : PM_pairs n Inv) (pm_nearest : PM_nearest n Inv) (pm_mending : PM_mending n Inv) (pm_words : PM_words n Inv) (pm_cases : PM_cases n Inv) (pm_unseen : PM_unseen n Inv) (pm_odds : PM_odds n Inv) (pm_mean : PM_mean n Inv) (pm_half : PM_half n Inv) (pm_told : PM_told n Inv) (u : (Int32) × (Int32) × (Nat → Int32)) (hu : l_X1_init_35 n (fun _ => 0) n 1 39 (fun _ => 0) = some u) (hI : Inv 0 ((xsf 2)) (fun _ => 0) (((fun _ => 0))) (fun _ => 0) 0 (((fun _ => 0))) (((fun _ => 0))) (upd (fun _ => 0) 0 12) ((((fun _ => 0)))) (upd (fun _ => 0) 0 24) ((((fun _ => 0)))) (upd (fun _ => 0) 0 32) ((((fun _ => 0)))) (((fun _ => 0))) (fun _ => 0) (((fun _ => 0))) (fun _ => 0) 0 0 (((fun _ => 0))) (fun _ => 0) ((xsf 2)) (((fun _ => 0))) (fun _ => 0) 0 0 (((fun _ => 0))) (fun _ => 0) ((xsf 2)) (((fun _ => 0))) (fun _ => 0) 0 0 (((fun _ => 0))) (fun _ => 0) 0 ((fun _ => 0)) u.2.2 (((fun _ => 0))) (fun _ => 0) (((fun _ => 0))) (((fun _ => 0))) (((fun _ => 0))) (((fun _ => 0))) (fun _ => 0) (upd (upd (upd (upd (upd (upd (upd ((fun _ => 0)) 0 48) 1 7) 2 6) 3 1) 4 800) 5 0) 6 1) (upd (upd (upd (upd (upd (upd (upd ((fun _ => 0)) 0 4) 1 1) 2 1) 3 0) 4 40) 5 0) 6 1) (upd (upd (upd (upd (upd (upd (upd ((fun _ => 0)) 0 48) 1 15) 2 15) 3 1) 4 4000) 5 1) 6 8) ((fun _ => 0)) ((fun _ => 0)) ((fun _ => 0)) ((fun _ => 0)) ((fun _ => 0)) ((fun _ => 0)) ((fun _ => 0)) ((fun _ => 0)) ((fun _ => 0)) ((fun _ => 0)) ((fun _ => 0)) ((fun _ => 0)) ((fun _ => 0))) (XL : Nat) (xs : Nat → Int32) (hX : XL ≤ 3072) (s0 : XW) : VS XL xs 20 0 (61, 80251) 0 [some (.ref 1003), none, none, none] [] (xof s0 []) (fun _ r _ => r = some (.int 1)) := by
  refine s_new (fs := [.null, .null, .null, .null, .null, .null, .null, .null, .null, .null, .null, .null]) tyX11 dL_law_0 cl_L_7 (xm (i := 75) (by decide +kernel) (by decide +kernel)) (xm (i := 56) (by decide +kernel) (by decide +kernel)) inX11 tyX11_ok (rfl : vwCl[10]? = _) (by decide +kernel) (fun _ => rfl) (by decide) (by decide) (by decide) ?_
  refine VS.wr (L' := [(0, _)]) rfl ?_
  refine s_dup dL_law_3 rfl ?_
  refine s_callIL dL_law_4 mi_X11_init ml_L_9 im_X11_init rfl (fun s1 => k_X11_init_0 s1 n u hu) (Nat.le_of_ble_eq_true rfl) rfl (Nat.le_of_ble_eq_true rfl) ⟨Nat.le_of_ble_eq_true rfl, Nat.le_of_ble_eq_true rfl⟩ (Nat.le_of_ble_eq_true rfl) rfl rfl rfl ?_
  refine s_astore_n (ls' := [_, _, _, _]) dL_law_7 rfl rfl ?_
  refine s_new (fs := [.int 0, .null, .null, .null, .null, .null, .int 0, .int 0, .int 0, .int 0, .null, .null, .null, .null, .null, .int 0, .null, .null, .null, .null, .null, .null]) tyX12 dL_law_8 cl_L_10 (xm (i := 984) (by decide +kernel) (by decide +kernel)) (xm (i := 68) (by decide +kernel) (by decide +kernel)) inX12 tyX12_ok (rfl : vwCl[11]? = _) (by decide +kernel) (fun _ => rfl) (by decide) (by decide) (by decide) ?_
  refine VS.wr (L' := [(0, _), (1, _), (2, _), (3, _), (4, _), (7, _), (6, _), (5, _), (8, _), (15, _), (14, _), (13, _), (12, _), (11, _), (10, _), (9, _), (16, _), (20, _), (19, _), (18, _), (17, _), (21, _), (22, _), (26, _), (25, _), (24, _), (23, _), (27, _), (28, _), (32, _), (31, _), (30, _), (29, _), (33, _), (34, _), (35, _), (37, _), (36, _), (38, _), (41, _), (40, _), (39, _), (42, _), (43, _), (44, _)]) rfl ?_
  refine s_dup dL_law_11 rfl ?_
  refine s_callIL dL_law_12 mi_X12_init ml_L_12 im_X12_init rfl (fun s1 => k_X12_init_44 s1) (Nat.le_of_ble_eq_true rfl) rfl (Nat.le_of_ble_eq_true rfl) ⟨Nat.le_of_ble_eq_true rfl, Nat.le_of_ble_eq_true rfl⟩ (Nat.le_of_ble_eq_true rfl) rfl rfl rfl ?_
  refine s_astore_n (ls' := [_, _, _, _]) dL_law_15 rfl rfl ?_
  refine s_iconst (v := nI 0) dL_law_16 (by decide) ?_
  refine s_istore_n (ls' := [_, _, _, _]) dL_law_17 rfl rfl ?_
  refine VS.less (al2 := (0, 0)) ⟨Nat.zero_le _, Nat.zero_le _⟩ ?_
  generalize hw : xof _ _ = w
  have e : w = xof w (WAll ((xsf 2)) (fun _ => 0) (((fun _ => 0))) (fun _ => 0) 0 (((fun _ => 0))) (((fun _ => 0))) (upd (fun _ => 0) 0 12) ((((fun _ => 0)))) (upd (fun _ => 0) 0 24) ((((fun _ => 0)))) (upd (fun _ => 0) 0 32) ((((fun _ => 0)))) (((fun _ => 0))) (fun _ => 0) (((fun _ => 0))) (fun _ => 0) 0 0 (((fun _ => 0))) (fun _ => 0) ((xsf 2)) (((fun _ => 0))) (fun _ => 0) 0 0 (((fun _ => 0))) (fun _ => 0) ((xsf 2)) (((fun _ => 0))) (fun _ => 0) 0 0 (((fun _ => 0))) (fun _ => 0) 0 ((fun _ => 0)) u.2.2 (((fun _ => 0))) (fun _ => 0) (((fun _ => 0))) (((fun _ => 0))) (((fun _ => 0))) (((fun _ => 0))) (fun _ => 0) (upd (upd (upd (upd (upd (upd (upd ((fun _ => 0)) 0 48) 1 7) 2 6) 3 1) 4 800) 5 0) 6 1) (upd (upd (upd (upd (upd (upd (upd ((fun _ => 0)) 0 4) 1 1) 2 1) 3 0) 4 40) 5 0) 6 1) (upd (upd (upd (upd (upd (upd (upd ((fun _ => 0)) 0 48) 1 15) 2 15) 3 1) 4 4000) 5 1) 6 8) ((fun _ => 0)) ((fun _ => 0)) ((fun _ => 0)) ((fun _ => 0)) ((fun _ => 0)) ((fun _ => 0)) ((fun _ => 0)) ((fun _ => 0)) ((fun _ => 0)) ((fun _ => 0)) ((fun _ => 0)) ((fun _ => 0)) ((fun _ => 0))) := xof_over w _ (by subst hw; rfl)
  rw [e]
  exact la_loop n Inv pm_feed pm_bits pm_send pm_rest pm_flip pm_drop pm_slip pm_disturb pm_bit pm_empty pm_terms pm_take pm_fresh pm_stage pm_stages pm_state pm_count pm_delivered pm_load pm_field pm_judged pm_turn pm_lost pm_look pm_until pm_would pm_worst pm_regained pm_spread pm_rights pm_phase pm_tuned pm_starts pm_check pm_syndrome pm_single pm_latest pm_pairs pm_nearest pm_mending pm_words pm_cases pm_unseen pm_odds pm_mean pm_half pm_told XL xs hX w (XL + 1) 0 0 ((xsf 2)) (fun _ => 0) (((fun _ => 0))) (fun _ => 0) 0 (((fun _ => 0))) (((fun _ => 0))) (upd (fun _ => 0) 0 12) ((((fun _ => 0)))) (upd (fun _ => 0) 0 24) ((((fun _ => 0)))) (upd (fun _ => 0) 0 32) ((((fun _ => 0)))) (((fun _ => 0))) (fun _ => 0) (((fun _ => 0))) (fun _ => 0) 0 0 (((fun _ => 0))) (fun _ => 0) ((xsf 2)) (((fun _ => 0))) (fun _ => 0) 0 0 (((fun _ => 0))) (fun _ => 0) ((xsf 2)) (((fun _ => 0))) (fun _ => 0) 0 0 (((fun _ => 0))) (fun _ => 0) 0 ((fun _ => 0)) u.2.2 (((fun _ => 0))) (fun _ => 0) (((fun _ => 0))) (((fun _ => 0))) (((fun _ => 0))) (((fun _ => 0))) (fun _ => 0) (upd (upd (upd (upd (upd (upd (upd ((fun _ => 0)) 0 48) 1 7) 2 6) 3 1) 4 800) 5 0) 6 1) (upd (upd (upd (upd (upd (upd (upd ((fun _ => 0)) 0 4) 1 1) 2 1) 3 0) 4 40) 5 0) 6 1) (upd (upd (upd (upd (upd (upd (upd ((fun _ => 0)) 0 48) 1 15) 2 15) 3 1) 4 4000) 5 1) 6 8) ((fun _ => 0)) ((fun _ => 0)) ((fun _ => 0)) ((fun _ => 0)) ((fun _ => 0)) ((fun _ => 0)) ((fun _ => 0)) ((fun _ => 0)) ((fun _ => 0)) ((fun _ => 0)) ((fun _ => 0)) ((fun _ => 0)) ((fun _ => 0)) (Nat.zero_le _) (by omega) (by omega) hI
set_option maxRecDepth 100000 in
set_option maxHeartbeats 2000000 in
theorem ws_open (n : Nat) (Inv : ITy) (pm_feed : PM_feed n Inv) (pm_bits : PM_bits n Inv) (pm_send : PM_send n Inv) (pm_rest : PM_rest n Inv) (pm_flip : PM_flip n Inv) (pm_drop : PM_drop n Inv) (pm_slip : PM_slip n Inv) (pm_disturb : PM_disturb n Inv) (pm_bit : PM_bit n Inv) (pm_empty : PM_empty n Inv) (pm_terms : PM_terms n Inv) (pm_take : PM_take n Inv) (pm_fresh : PM_fresh n Inv) (pm_stage : PM_stage n Inv) (pm_stages : PM_stages n Inv) (pm_state : PM_state n Inv) (pm_count : PM_count n Inv) (pm_delivered : PM_delivered n Inv) (pm_load : PM_load n Inv) (pm_field : PM_field n Inv) (pm_judged : PM_judged n Inv) (pm_turn : PM_turn n Inv) (pm_lost : PM_lost n Inv) (pm_look : PM_look n Inv) (pm_until : PM_until n Inv) (pm_would : PM_would n Inv) (pm_worst : PM_worst n Inv) (pm_regained : PM_regained n Inv) (pm_spread : PM_spread n Inv) (pm_rights : PM_rights n Inv) (pm_phase : PM_phase n Inv) (pm_tuned : PM_tuned n Inv) (pm_starts : PM_starts n Inv) (pm_check : PM_check n Inv) (pm_syndrome : PM_syndrome n Inv) (pm_single : PM_single n Inv) (pm_latest : PM_latest n Inv) (pm_pairs : PM_pairs n Inv) (pm_nearest : PM_nearest n Inv) (pm_mending : PM_mending n Inv) (pm_words : PM_words n Inv) (pm_cases : PM_cases n Inv) (pm_unseen : PM_unseen n Inv) (pm_odds : PM_odds n Inv) (pm_mean : PM_mean n Inv) (pm_half : PM_half n Inv) (pm_told : PM_told n Inv) (u : (Int32) × (Int32) × (Nat → Int32)) (hu : l_X1_init_35 n (fun _ => 0) n 1 39 (fun _ => 0) = some u) (hI : Inv 0 ((xsf 2)) (fun _ => 0) (((fun _ => 0))) (fun _ => 0) 0 (((fun _ => 0))) (((fun _ => 0))) (upd (fun _ => 0) 0 12) ((((fun _ => 0)))) (upd (fun _ => 0) 0 24) ((((fun _ => 0)))) (upd (fun _ => 0) 0 32) ((((fun _ => 0)))) (((fun _ => 0))) (fun _ => 0) (((fun _ => 0))) (fun _ => 0) 0 0 (((fun _ => 0))) (fun _ => 0) ((xsf 2)) (((fun _ => 0))) (fun _ => 0) 0 0 (((fun _ => 0))) (fun _ => 0) ((xsf 2)) (((fun _ => 0))) (fun _ => 0) 0 0 (((fun _ => 0))) (fun _ => 0) 0 ((fun _ => 0)) u.2.2 (((fun _ => 0))) (fun _ => 0) (((fun _ => 0))) (((fun _ => 0))) (((fun _ => 0))) (((fun _ => 0))) (fun _ => 0) (upd (upd (upd (upd (upd (upd (upd ((fun _ => 0)) 0 48) 1 7) 2 6) 3 1) 4 800) 5 0) 6 1) (upd (upd (upd (upd (upd (upd (upd ((fun _ => 0)) 0 4) 1 1) 2 1) 3 0) 4 40) 5 0) 6 1) (upd (upd (upd (upd (upd (upd (upd ((fun _ => 0)) 0 48) 1 15) 2 15) 3 1) 4 4000) 5 1) 6 8) ((fun _ => 0)) ((fun _ => 0)) ((fun _ => 0)) ((fun _ => 0)) ((fun _ => 0)) ((fun _ => 0)) ((fun _ => 0)) ((fun _ => 0)) ((fun _ => 0)) ((fun _ => 0)) ((fun _ => 0)) ((fun _ => 0)) ((fun _ => 0))) {p : Program} {e : Env} {s : State} {m : MethodId} {below : List Frame} {meth : Method} {c : Code} (l : Launch) {b L : Nat} {xs : Nat → Int32} (hL : L ≤ 3072) (C0 : lw_At p s m meth c b L xs) : W p l e room_1 s m #[Value.ref b] below meth c s.heap [] 0 0 (lw_Z below #[Value.ref b] s) (entryFrame m ([Value.ref b] : List Value).toArray 4) := by
  obtain ⟨hx, hb, hr, hml, hown, hts, hX, hbl, hlocks, hgv⟩ := id C0
  have hA : ∀ a : Nat, a < s.heap.size → ¬ (fun q : Nat => s.heap.size ≤ q) a := fun a h => Nat.not_le.mpr h
  obtain ⟨c0, i0, hK0⟩ := u_known (C := RX1) (T := TX1) (N := 2) (n := 2) hts (fun w h => (List.mem_filter.mp (inX1 w h)).1) (hts (.instantiable RX1 2) (List.mem_of_getElem? (i := 288) (by decide +kernel)))
  obtain ⟨c1, i1, hK1⟩ := u_known (C := RX2) (T := TX2) (N := 1) (n := 1) hts (fun w h => (List.mem_filter.mp (inX2 w h)).1) (hts (.instantiable RX2 1) (List.mem_of_getElem? (i := 118) (by decide +kernel)))
  obtain ⟨c2, i2, hK2⟩ := u_known (C := RX3) (T := TX3) (N := 1) (n := 1) hts (fun w h => (List.mem_filter.mp (inX3 w h)).1) (hts (.instantiable RX3 1) (List.mem_of_getElem? (i := 324) (by decide +kernel)))
  obtain ⟨c3, i3, hK3⟩ := u_known (C := RX4) (T := TX4) (N := 3) (n := 3) hts (fun w h => (List.mem_filter.mp (inX4 w h)).1) (hts (.instantiable RX4 3) (List.mem_of_getElem? (i := 92) (by decide +kernel)))
  obtain ⟨c4, i4, hK4⟩ := u_known (C := RX5) (T := TX5) (N := 4) (n := 4) hts (fun w h => (List.mem_filter.mp (inX5 w h)).1) (hts (.instantiable RX5 4) (List.mem_of_getElem? (i := 143) (by decide +kernel)))
  obtain ⟨c5, i5, hK5⟩ := u_known (C := RX6) (T := TX6) (N := 19) (n := 19) hts (fun w h => (List.mem_filter.mp (inX6 w h)).1) (hts (.instantiable RX6 19) (List.mem_of_getElem? (i := 192) (by decide +kernel)))
  obtain ⟨c6, i6, hK6⟩ := u_known (C := RX7) (T := TX7) (N := 4) (n := 4) hts (fun w h => (List.mem_filter.mp (inX7 w h)).1) (hts (.instantiable RX7 4) (List.mem_of_getElem? (i := 149) (by decide +kernel)))
  obtain ⟨c7, i7, hK7⟩ := u_known (C := RX8) (T := TX8) (N := 4) (n := 4) hts (fun w h => (List.mem_filter.mp (inX8 w h)).1) (hts (.instantiable RX8 4) (List.mem_of_getElem? (i := 112) (by decide +kernel)))
  obtain ⟨c8, i8, hK8⟩ := u_known (C := RX9) (T := TX9) (N := 4) (n := 4) hts (fun w h => (List.mem_filter.mp (inX9 w h)).1) (hts (.instantiable RX9 4) (List.mem_of_getElem? (i := 304) (by decide +kernel)))
  obtain ⟨c9, i9, hK9⟩ := u_known (C := RX10) (T := TX10) (N := 3) (n := 3) hts (fun w h => (List.mem_filter.mp (inX10 w h)).1) (hts (.instantiable RX10 3) (List.mem_of_getElem? (i := 198) (by decide +kernel)))
  obtain ⟨c10, i10, hK10⟩ := u_known (C := RX11) (T := TX11) (N := 12) (n := 12) hts (fun w h => (List.mem_filter.mp (inX11 w h)).1) (hts (.instantiable RX11 12) (List.mem_of_getElem? (i := 75) (by decide +kernel)))
  obtain ⟨c11, i11, hK11⟩ := u_known (C := RX12) (T := TX12) (N := 22) (n := 22) hts (fun w h => (List.mem_filter.mp (inX12 w h)).1) (hts (.instantiable RX12 22) (List.mem_of_getElem? (i := 984) (by decide +kernel)))
  obtain ⟨cI, kI, mI, hfI, hkI, hdI⟩ := Cond.arrayClass_spec (hts (.arrayClass .int) (List.mem_of_getElem? (i := 109) (by decide +kernel)))
  obtain ⟨cB, kB, mB, hfB, hkB, hdB⟩ := Cond.arrayClass_spec (hts (.arrayClass .byte) (List.mem_of_getElem? (i := 110) (by decide +kernel)))
  obtain ⟨cJ, kJ, mJ, hfJ, hkJ, hdJ⟩ := Cond.arrayClass_spec (hts (.arrayClass .long) (List.mem_of_getElem? (i := 322) (by decide +kernel)))
  obtain ⟨cZ, kZ, mZ, hfZ, hkZ, hdZ⟩ := Cond.arrayClass_spec (hts (.arrayClass .boolean) (List.mem_of_getElem? (i := 1056) (by decide +kernel)))
  obtain ⟨a0, z0⟩ := ws_s0 hA hts hgv hfI
  obtain ⟨a1, z1⟩ := ws_s1 hA hts hgv hfI
  obtain ⟨a2, z2⟩ := ws_s2 hA hts hgv hfI
  obtain ⟨dC, dI, hKc⟩ : ∃ (dC : Nat → ClassId) (dI : Nat → Nat → Nat), ∀ (k : Nat) (q : vw_C), vwCl[k]? = some q → u_Kn s q.1 q.2.1 q.2.2 (dC k) (dI k) := by
    refine ⟨fun k => if k = 0 then c0 else if k = 1 then c1 else if k = 2 then c2 else if k = 3 then c3 else if k = 4 then c4 else if k = 5 then c5 else if k = 6 then c6 else if k = 7 then c7 else if k = 8 then c8 else if k = 9 then c9 else if k = 10 then c10 else c11, fun k => if k = 0 then i0 else if k = 1 then i1 else if k = 2 then i2 else if k = 3 then i3 else if k = 4 then i4 else if k = 5 then i5 else if k = 6 then i6 else if k = 7 then i7 else if k = 8 then i8 else if k = 9 then i9 else if k = 10 then i10 else i11, ?_⟩
    intro k q hq
    match k, hq with
    | 0, hq => cases hq; exact hK0
    | 1, hq => cases hq; exact hK1
    | 2, hq => cases hq; exact hK2
    | 3, hq => cases hq; exact hK3
    | 4, hq => cases hq; exact hK4
    | 5, hq => cases hq; exact hK5
    | 6, hq => cases hq; exact hK6
    | 7, hq => cases hq; exact hK7
    | 8, hq => cases hq; exact hK8
    | 9, hq => cases hq; exact hK9
    | 10, hq => cases hq; exact hK10
    | 11, hq => cases hq; exact hK11
    | k + 12, hq => simp [vwCl] at hq
  obtain ⟨G, hG1, hG2, hG3, hG4⟩ : ∃ G : XG, G.1 = (dC, dI) ∧ G.2.1.1 = s.heap.size ∧ (G.2.1.2 = fun i => if i = 1000 then a0 else if i = 1001 then a1 else if i = 1002 then a2 else b) ∧ (G.2.2 = fun i => if i = 0 then cI else if i = 1 then cB else if i = 2 then cJ else cZ) := ⟨((dC, dI), (s.heap.size, fun i => if i = 1000 then a0 else if i = 1001 then a1 else if i = 1002 then a2 else b), fun i => if i = 0 then cI else if i = 1 then cB else if i = 2 then cJ else cZ), rfl, rfl, rfl, rfl⟩
  have x0 : xa G 1000 = a0 := by simp [xa, hG3]
  have x1 : xa G 1001 = a1 := by simp [xa, hG3]
  have x2 : xa G 1002 = a2 := by simp [xa, hG3]
  have x3 : xa G 1003 = b := by simp [xa, hG3]
  have t0 : G.2.2 0 = cI := by simp [hG4]
  have t1 : G.2.2 1 = cB := by simp [hG4]
  have t2 : G.2.2 2 = cJ := by simp [hG4]
  have t3 : G.2.2 3 = cZ := by simp [hG4]
  have arr : ∀ {cA : ClassId} {kA : Class} {mA : ClassId} {ty : FieldType}, s.vm.classes[cA]? = some kA → kA.kind = .array mA ty → ArrOfT s cA ty := fun h1 h2 n z => ⟨fun k h => (by cases h), _, h1, _, h2⟩
  have hK : va_K G.1 vwCl (xt G) s := by
    rw [hG1]
    refine ⟨hKc, fun k q hq => ?_⟩
    unfold xt at hq
    rw [t0, t1, t2, t3] at hq
    match k, hq with
    | 0, hq => cases hq; exact ⟨arr hkI hdI, hfI⟩
    | 1, hq => cases hq; exact ⟨arr hkB hdB, hfB⟩
    | 2, hq => cases hq; exact ⟨arr hkJ hdJ, hfJ⟩
    | 3, hq => cases hq; exact ⟨arr hkZ hdZ, hfZ⟩
    | k + 4, hq => simp at hq
  have hcast : va_Nw (.castable "[I" "java/lang/Cloneable") s := va_Nw.of rfl (hts (.castable "[I" "java/lang/Cloneable") (by decide +kernel))
  have hZ : xZ G (fun q : Nat => s.heap.size ≤ q) s := by
    intro k hk
    match k, hk with
    | 0, _ => rw [show 1000 + 0 = 1000 from rfl, x0, t0]; exact ⟨z0.1, z0.2.1, z0.2.2, hcast⟩
    | 1, _ => rw [show 1000 + 1 = 1001 from rfl, x1, t0]; exact ⟨z1.1, z1.2.1, z1.2.2, hcast⟩
    | 2, _ => rw [show 1000 + 2 = 1002 from rfl, x2, t0]; exact ⟨z2.1, z2.2.1, z2.2.2, hcast⟩
  have hLs : xL G (xen 4 [.ref 1003]) ((lg_sl ([Value.ref b]) ++ List.replicate (4 - (lg_sl ([Value.ref b])).length) Slot.unset).toArray) := by
    have h := xen_L (G := G) (nL := 4) (av := [.ref 1003]) (Nat.le_of_ble_eq_true rfl)
    have e : ([Value.ref 1003] : List Value).map (xv G) = [Value.ref b] := by simp [xv, x3]
    rw [e] at h
    exact h
  rw [lg_entry_eq]
  refine la_entry n Inv pm_feed pm_bits pm_send pm_rest pm_flip pm_drop pm_slip pm_disturb pm_bit pm_empty pm_terms pm_take pm_fresh pm_stage pm_stages pm_state pm_count pm_delivered pm_load pm_field pm_judged pm_turn pm_lost pm_look pm_until pm_would pm_worst pm_regained pm_spread pm_rights pm_phase pm_tuned pm_starts pm_check pm_syndrome pm_single pm_latest pm_pairs pm_nearest pm_mending pm_words pm_cases pm_unseen pm_odds pm_mean pm_half pm_told u hu hI L xs hL (fun _ => .inr (0, [])) p l e room_1 s m #[Value.ref b] below meth c G (fun q : Nat => s.heap.size ≤ q) s.heap [] 0 0 600000 7302250 _ _ ⟨hx, hb, hr, hml, hown, fun w h => hts w (List.mem_filter.mp h).1, hlocks, hK, fun _ h => h, Nat.le_of_ble_eq_true rfl, Nat.le_of_ble_eq_true rfl, hZ, fun h => absurd h (by decide)⟩ ⟨by rw [x3]; exact hX, by rw [x3]; exact Nat.not_le.mpr hbl⟩ ⟨fun k q h => by simp [xw] at h, ⟨fun i j x y h => by simp [xw] at h, fun k q h => by simp [xw] at h⟩, va_S.rf, Nat.zero_le _⟩ hLs ⟨by decide, by decide, Nat.le_refl _, Nat.le_refl _, by rw [hG2], by rw [hG2]; exact Nat.le_refl _⟩ ?_
  intro N' σ' H' locs' r pc' lsA' i hq hH hret hd
  have hq : r = some (.int 1) := hq
  subst hq
  have hi : i = .ireturn := by
    cases i <;> first | rfl | exact absurd hret (by simp [xret])
  subst hi
  refine va_forget (fun q hq => hH.2.2.1.2.2 q hq) ?_
  exact W.base (lw_ret (d0 := s.drawn) (Drawn.sameBut.refl s.drawn lw_cs) hx hb hr hlocks hd)
