/-! PURE FUNCTIONS OF THE METHODS, by program (wip/gen/decomp.py), with their theorems. -/
theorem V.drop1 {y : MethodName} {cc : ByteArray} {rt : Option FieldType} {d N : Nat} {al : Nat × Nat} {pc i : Nat} {ls ls' : List (Option Value)} {st : List Value} {σ : XW} {Q : Nat → Option Value → XW → Prop} (hl : ls.set i none = ls') (k : V y cc rt d N al pc ls' st σ Q) : V y cc rt d N al pc ls st σ Q := by
  subst hl
  refine V.forget k (by rw [List.length_set]) (fun j v h => ?_)
  by_cases hj : i = j
  · subst hj
    by_cases hi : i < ls.length
    · rw [List.getElem?_set_self hi] at h; cases h
    · rw [List.getElem?_eq_none (by rw [List.length_set]; omega)] at h; cases h
  · rw [List.getElem?_set_ne hj] at h; exact h
theorem xck {α : Type} {b : Bool} {e : Option α} {q : α} (h : (bif b then e else none) = some q) : b = true ∧ e = some q := by
  cases b with
  | true => exact ⟨rfl, h⟩
  | false => cases h
theorem xif_p {α : Type} {c : Prop} {i : Decidable c} {a b : α} {q : α} (hc : c) (h : (@ite α c i a b) = q) : a = q := by rw [if_pos hc] at h; exact h
theorem xif_n {α : Type} {c : Prop} {i : Decidable c} {a b : α} {q : α} (hc : ¬ c) (h : (@ite α c i a b) = q) : b = q := by rw [if_neg hc] at h; exact h
theorem xsl {α β γ : Type} {f : α → γ} {g : β → γ} {z : α} {q : γ} (h : Sum.elim f g (Sum.inl z) = q) : f z = q := h
theorem xsr {α β γ : Type} {f : α → γ} {g : β → γ} {z : β} {q : γ} (h : Sum.elim f g (Sum.inr z) = q) : g z = q := h
def xin (j : Int32) (n : Nat) : Bool := !decide (j < 0) && decide (j.toNatClampNeg < n)
theorem xin_ok {j : Int32} {n : Nat} (h : xin j n = true) : vp_in j n := by
  simp only [xin, Bool.and_eq_true, Bool.not_eq_true', decide_eq_false_iff_not, decide_eq_true_eq] at h
  intro q
  rcases q with q | q
  · exact h.1 q
  · omega
def xnz (z : Int32) : Bool := !decide (z = 0)
theorem xnz_ok {z : Int32} (h : xnz z = true) : ¬ z = 0 := by simpa [xnz] using h
def xnzl (z : Int64) : Bool := !decide (z = 0)
theorem xnzl_ok {z : Int64} (h : xnzl z = true) : ¬ z = 0 := by simpa [xnzl] using h
def xb (z : Int32) : Bool := decide (z = 0) || decide (z = 1)
theorem xb_ok {z : Int32} (h : xb z = true) : z = 0 ∨ z = 1 := by simpa [xb] using h
def xn64 (r : UInt64) : Bool := decide (r &&& 0x7fffffffffffffff ≤ 0x7ff0000000000000)
theorem xn64_ok {r : UInt64} (h : xn64 r = true) : vf_n64 r := by
  unfold vf_n64
  exact of_decide_eq_true h
def xn32 (r : UInt32) : Bool := decide (r &&& 0x7fffffff ≤ 0x7f800000)
theorem xn32_ok {r : UInt32} (h : xn32 r = true) : vf_n32 r := by
  unfold vf_n32
  exact of_decide_eq_true h
def xcp (sp dp n : Int32) (n0 n1 : Nat) : Bool := decide (¬ sp < 0 ∧ ¬ dp < 0 ∧ ¬ n < 0 ∧ sp.toNatClampNeg + n.toNatClampNeg ≤ n0 ∧ dp.toNatClampNeg + n.toNatClampNeg ≤ n1)
theorem xcp_ok {sp dp n : Int32} {n0 n1 : Nat} (h : xcp sp dp n n0 n1 = true) : ¬ sp < 0 ∧ ¬ dp < 0 ∧ ¬ n < 0 ∧ sp.toNatClampNeg + n.toNatClampNeg ≤ n0 ∧ dp.toNatClampNeg + n.toNatClampNeg ≤ n1 := of_decide_eq_true h
def xfb (f : Nat → Int32) (sp n : Int32) : Bool := (List.range n.toNatClampNeg).all (fun q => fits .byte (.int (f (sp.toNatClampNeg + q))))
theorem xfb_ok {f : Nat → Int32} {sp n : Int32} (h : xfb f sp n = true) : ∀ q, q < n.toNatClampNeg → fits .byte (.int (f (sp.toNatClampNeg + q))) = true := fun q hq => List.all_eq_true.mp h q (List.mem_range.mpr hq)
section VK
variable {y : MethodName} {cc : ByteArray} {rt : Option FieldType} {d N : Nat} {al : Nat × Nat} {pc : Nat} {ls : List (Option Value)} {st : List Value} {σ : XW} {σ0 : XW} {L L' : List (Nat × XE)} {Q : Nat → Option Value → XW → Prop}
theorem x_ialdK {i n jn : Nat} {f : Nat → Int32} {j : Int32} {v : Int32} (hd : decode cc pc = .ok (.iaload, 1)) (hi : i < N) (hσ : σ i = .inl (0, n, .inl f)) (hj : vp_in j n) (hjn : j.toNatClampNeg = jn) (hv : f jn = v) (k : V y cc rt d N al (pc + 1) ls (.int v :: st) σ Q) : V y cc rt d N al pc ls (.int j :: .ref i :: st) σ Q := by
  subst hjn
  subst hv
  exact x_iald hd hi hσ hj k
theorem x_baldK {i n jn : Nat} {f : Nat → Int32} {j : Int32} {v : Int32} (hd : decode cc pc = .ok (.baload, 1)) (hi : i < N) (hσ : σ i = .inl (1, n, .inl f)) (hj : vp_in j n) (hjn : j.toNatClampNeg = jn) (hv : f jn = v) (k : V y cc rt d N al (pc + 1) ls (.int v :: st) σ Q) : V y cc rt d N al pc ls (.int j :: .ref i :: st) σ Q := by
  subst hjn
  subst hv
  exact x_bald hd hi hσ hj k
theorem x_zaldK {i n jn : Nat} {f : Nat → Int32} {j : Int32} {v : Int32} (hd : decode cc pc = .ok (.baload, 1)) (hi : i < N) (hσ : σ i = .inl (3, n, .inl f)) (hj : vp_in j n) (hjn : j.toNatClampNeg = jn) (hv : f jn = v) (k : V y cc rt d N al (pc + 1) ls (.int v :: st) σ Q) : V y cc rt d N al pc ls (.int j :: .ref i :: st) σ Q := by
  subst hjn
  subst hv
  exact x_zald hd hi hσ hj k
theorem x_laldK {i n jn : Nat} {f : Nat → Int64} {j : Int32} {v : Int64} (hd : decode cc pc = .ok (.laload, 1)) (hi : i < N) (hσ : σ i = .inl (2, n, .inr (.inl f))) (hj : vp_in j n) (hjn : j.toNatClampNeg = jn) (hv : f jn = v) (k : V y cc rt d N al (pc + 1) ls (.long v :: st) σ Q) : V y cc rt d N al pc ls (.int j :: .ref i :: st) σ Q := by
  subst hjn
  subst hv
  exact x_lald hd hi hσ hj k
theorem x_iastK {i n jn : Nat} {f : Nat → Int32} {j : Int32} {x : Int32} (hd : decode cc pc = .ok (.iastore, 1)) (hi : i < N) (hσ : xof σ0 L i = .inl (0, n, .inl f)) (hj : vp_in j n) (hjn : j.toNatClampNeg = jn) (hL : xwr L i (.inl (0, n, .inl (upd f jn x))) = L') (k : V y cc rt d N al (pc + 1) ls st (xof σ0 L') Q) : V y cc rt d N al pc ls (.int x :: .int j :: .ref i :: st) (xof σ0 L) Q := by
  subst hjn
  exact x_iastL hd hi hσ hj hL k
theorem x_bastK {i n jn : Nat} {f : Nat → Int32} {j : Int32} {x : Int32} (hd : decode cc pc = .ok (.bastore, 1)) (hi : i < N) (hσ : xof σ0 L i = .inl (1, n, .inl f)) (hj : vp_in j n) (hjn : j.toNatClampNeg = jn) (hL : xwr L i (.inl (1, n, .inl (upd f jn (vp_nar .byte x)))) = L') (k : V y cc rt d N al (pc + 1) ls st (xof σ0 L') Q) : V y cc rt d N al pc ls (.int x :: .int j :: .ref i :: st) (xof σ0 L) Q := by
  subst hjn
  exact x_bastL hd hi hσ hj hL k
theorem x_zastK {i n jn : Nat} {f : Nat → Int32} {j : Int32} {x : Int32} (hd : decode cc pc = .ok (.bastore, 1)) (hi : i < N) (hσ : xof σ0 L i = .inl (3, n, .inl f)) (hj : vp_in j n) (hjn : j.toNatClampNeg = jn) (hL : xwr L i (.inl (3, n, .inl (upd f jn (vp_nar .boolean x)))) = L') (k : V y cc rt d N al (pc + 1) ls st (xof σ0 L') Q) : V y cc rt d N al pc ls (.int x :: .int j :: .ref i :: st) (xof σ0 L) Q := by
  subst hjn
  exact x_zastL hd hi hσ hj hL k
theorem x_lastK {i n jn : Nat} {f : Nat → Int64} {j : Int32} {x : Int64} (hd : decode cc pc = .ok (.lastore, 1)) (hi : i < N) (hσ : xof σ0 L i = .inl (2, n, .inr (.inl f))) (hj : vp_in j n) (hjn : j.toNatClampNeg = jn) (hL : xwr L i (.inl (2, n, .inr (.inl (vp_updL f jn x)))) = L') (k : V y cc rt d N al (pc + 1) ls st (xof σ0 L') Q) : V y cc rt d N al pc ls (.long x :: .int j :: .ref i :: st) (xof σ0 L) Q := by
  subst hjn
  exact x_lastL hd hi hσ hj hL k
end VK
/-! calls over lists: what came back is laid into the list place by place -/
def xlk : List (Nat × XE) → Nat → XE → XE
  | [], _, f => f
  | (j, q) :: t, i, f => bif Nat.beq i j then q else xlk t i f
def xmg (L M : List (Nat × XE)) : List (Nat × XE) := L.map (fun p => (p.1, xlk M p.1 p.2))
def xhas : List (Nat × XE) → Nat → Bool
  | [], _ => false
  | (j, _) :: t, i => bif Nat.beq i j then true else xhas t i
theorem xof_lk (σ : XW) : ∀ (M : List (Nat × XE)) (i : Nat), xof σ M i = xlk M i (σ i)
  | [], _ => rfl
  | (j, q) :: t, i => by
    show (bif Nat.beq i j then q else xof σ t i) = (bif Nat.beq i j then q else xlk t i (σ i))
    rw [xof_lk σ t i]
theorem xlk_no : ∀ (M : List (Nat × XE)) (i : Nat) (f : XE), xhas M i = false → xlk M i f = f
  | [], _, _, _ => rfl
  | (j, q) :: t, i, f, h => by
    have h2 : (bif Nat.beq i j then true else xhas t i) = false := h
    show (bif Nat.beq i j then q else xlk t i f) = f
    cases hb : Nat.beq i j with
    | true => rw [hb] at h2; cases h2
    | false => rw [hb] at h2; exact xlk_no t i f h2
theorem xmg_at (σ0 : XW) (M : List (Nat × XE)) : ∀ (L : List (Nat × XE)) (i : Nat), xof σ0 (xmg L M) i = bif xhas L i then xlk M i (xof σ0 L i) else σ0 i
  | [], i => rfl
  | (j, f) :: t, i => by
    have ih := xmg_at σ0 M t i
    show (bif Nat.beq i j then xlk M j f else xof σ0 (xmg t M) i) = bif (bif Nat.beq i j then true else xhas t i) then xlk M i (bif Nat.beq i j then f else xof σ0 t i) else σ0 i
    cases hb : Nat.beq i j with
    | true =>
      have := Nat.eq_of_beq_eq_true hb
      subst this
      rfl
    | false => exact ih
theorem xhas_no (σ0 : XW) : ∀ (L : List (Nat × XE)) (i : Nat), xhas L i = false → xof σ0 L i = σ0 i
  | [], _, _ => rfl
  | (j, f) :: t, i, h => by
    have h2 : (bif Nat.beq i j then true else xhas t i) = false := h
    show (bif Nat.beq i j then f else xof σ0 t i) = σ0 i
    cases hb : Nat.beq i j with
    | true => rw [hb] at h2; cases h2
    | false => rw [hb] at h2; exact xhas_no σ0 t i h2
theorem xhas_all (L : List (Nat × XE)) : ∀ (M : List (Nat × XE)) (i : Nat), M.all (fun p => xhas L p.1) = true → xhas M i = true → xhas L i = true
  | [], _, _, h => by cases h
  | (j, q) :: t, i, ha, h => by
    rw [List.all_cons, Bool.and_eq_true] at ha
    have h2 : (bif Nat.beq i j then true else xhas t i) = true := h
    cases hb : Nat.beq i j with
    | true =>
      have := Nat.eq_of_beq_eq_true hb
      subst this
      exact ha.1
    | false => rw [hb] at h2; exact xhas_all L t i ha.2 h2
theorem xof_mg (σ0 : XW) (L M : List (Nat × XE)) (hm : M.all (fun p => xhas L p.1) = true) : xof (xof σ0 L) M = xof σ0 (xmg L M) := by
  funext i
  rw [xof_lk, xmg_at]
  cases hL : xhas L i with
  | true => rfl
  | false =>
    have h1 : xhas M i = false := by
      cases h : xhas M i with
      | false => rfl
      | true => rw [xhas_all L M i hm h] at hL; cases hL
    rw [xlk_no M i _ h1, xhas_no σ0 L i hL]
    rfl
section VLm
variable {y : MethodName} {cc : ByteArray} {rt : Option FieldType} {d N : Nat} {al : Nat × Nat} {pc : Nat} {ls ls' : List (Option Value)} {st : List Value} {σ0 : XW} {L L' : List (Nat × XE)} {Q : Nat → Option Value → XW → Prop}
theorem y_callVi {y' : MethodName} {cc' : ByteArray} {nL' d' ix n i ci nf : Nat} {rt' : Option FieldType} {T : u_T} {fs As st0 : List Value} {x : Int32} {M M' : List (Nat × XE)} (hM : xMi y' cc' nL' rt' n) (hw : Cond.methodLink y.cls ix y' ∈ lw_gd) (hw2 : Cond.instanceMethod y' ∈ lw_gd) (hw3 : Cond.selects y'.cls y' y' ∈ lw_gd) (hc : vwCl[ci]? = some (y'.cls, T, nf)) (hd : decode cc pc = .ok (.invokevirtual ix, 3)) (hct : ∀ σ1, Ct y' cc' nL' rt' d' N (0, 0) (.ref i :: As) (xof σ1 M) (xq N (some (.int x)) (xof σ1 M'))) (hi : i < N) (hσ : xof σ0 L i = .inr (ci, fs)) (hlen : (xel (.ref i :: As)).length ≤ nL') (hn : As.length = n) (hdd : d' + 1 ≤ d) (hst : (st.map fun v => v.category).sum ≤ 8) (hst0 : As.reverse ++ .ref i :: st = st0) (hsub : M.map (fun p => xof σ0 L p.1) = M.map (fun p => p.2)) (hmem : M'.all (fun p => xhas L p.1) = true) (hL : xmg L M' = L') (k : V y cc rt d N al (pc + 3) ls (.int x :: st) (xof σ0 L') Q) : V y cc rt d N al pc ls st0 (xof σ0 L) Q := by
  have hct0 := hct (xof σ0 L)
  rw [← xof_over (xof σ0 L) M hsub] at hct0
  refine x_callV hd hM hw hw2 hw3 hc hct0 hi hσ hlen hn hdd ⟨Nat.zero_le _, Nat.zero_le _⟩ hst hst0 xq_N ?_
  rintro _ _ _ ⟨rfl, rfl, rfl⟩
  rw [xof_mg _ _ _ hmem, hL]
  exact k
theorem y_callSi {y' : MethodName} {cc' : ByteArray} {nL' d' ix n : Nat} {rt' : Option FieldType} {As st0 : List Value} {x : Int32} {M M' : List (Nat × XE)} (hM : xMi y' cc' nL' rt' n) (hw : Cond.methodLink y.cls ix y' ∈ lw_gd) (hw2 : Cond.static y' ∈ lw_gd) (hd : decode cc pc = .ok (.invokestatic ix, 3)) (hct : ∀ σ1, Ct y' cc' nL' rt' d' N (0, 0) As (xof σ1 M) (xq N (some (.int x)) (xof σ1 M'))) (hlen : (xel As).length ≤ nL') (hn : As.length = n) (hdd : d' + 1 ≤ d) (hst : (st.map fun v => v.category).sum ≤ 8) (hst0 : As.reverse ++ st = st0) (hsub : M.map (fun p => xof σ0 L p.1) = M.map (fun p => p.2)) (hmem : M'.all (fun p => xhas L p.1) = true) (hL : xmg L M' = L') (k : V y cc rt d N al (pc + 3) ls (.int x :: st) (xof σ0 L') Q) : V y cc rt d N al pc ls st0 (xof σ0 L) Q := by
  have hct0 := hct (xof σ0 L)
  rw [← xof_over (xof σ0 L) M hsub] at hct0
  refine x_callS hd hM hw hw2 hct0 hlen hn hdd ⟨Nat.zero_le _, Nat.zero_le _⟩ hst hst0 xq_N ?_
  rintro _ _ _ ⟨rfl, rfl, rfl⟩
  rw [xof_mg _ _ _ hmem, hL]
  exact k
theorem y_callVl {y' : MethodName} {cc' : ByteArray} {nL' d' ix n i ci nf : Nat} {rt' : Option FieldType} {T : u_T} {fs As st0 : List Value} {x : Int64} {M M' : List (Nat × XE)} (hM : xMi y' cc' nL' rt' n) (hw : Cond.methodLink y.cls ix y' ∈ lw_gd) (hw2 : Cond.instanceMethod y' ∈ lw_gd) (hw3 : Cond.selects y'.cls y' y' ∈ lw_gd) (hc : vwCl[ci]? = some (y'.cls, T, nf)) (hd : decode cc pc = .ok (.invokevirtual ix, 3)) (hct : ∀ σ1, Ct y' cc' nL' rt' d' N (0, 0) (.ref i :: As) (xof σ1 M) (xq N (some (.long x)) (xof σ1 M'))) (hi : i < N) (hσ : xof σ0 L i = .inr (ci, fs)) (hlen : (xel (.ref i :: As)).length ≤ nL') (hn : As.length = n) (hdd : d' + 1 ≤ d) (hst : (st.map fun v => v.category).sum ≤ 8) (hst0 : As.reverse ++ .ref i :: st = st0) (hsub : M.map (fun p => xof σ0 L p.1) = M.map (fun p => p.2)) (hmem : M'.all (fun p => xhas L p.1) = true) (hL : xmg L M' = L') (k : V y cc rt d N al (pc + 3) ls (.long x :: st) (xof σ0 L') Q) : V y cc rt d N al pc ls st0 (xof σ0 L) Q := by
  have hct0 := hct (xof σ0 L)
  rw [← xof_over (xof σ0 L) M hsub] at hct0
  refine x_callV hd hM hw hw2 hw3 hc hct0 hi hσ hlen hn hdd ⟨Nat.zero_le _, Nat.zero_le _⟩ hst hst0 xq_N ?_
  rintro _ _ _ ⟨rfl, rfl, rfl⟩
  rw [xof_mg _ _ _ hmem, hL]
  exact k
theorem y_callSl {y' : MethodName} {cc' : ByteArray} {nL' d' ix n : Nat} {rt' : Option FieldType} {As st0 : List Value} {x : Int64} {M M' : List (Nat × XE)} (hM : xMi y' cc' nL' rt' n) (hw : Cond.methodLink y.cls ix y' ∈ lw_gd) (hw2 : Cond.static y' ∈ lw_gd) (hd : decode cc pc = .ok (.invokestatic ix, 3)) (hct : ∀ σ1, Ct y' cc' nL' rt' d' N (0, 0) As (xof σ1 M) (xq N (some (.long x)) (xof σ1 M'))) (hlen : (xel As).length ≤ nL') (hn : As.length = n) (hdd : d' + 1 ≤ d) (hst : (st.map fun v => v.category).sum ≤ 8) (hst0 : As.reverse ++ st = st0) (hsub : M.map (fun p => xof σ0 L p.1) = M.map (fun p => p.2)) (hmem : M'.all (fun p => xhas L p.1) = true) (hL : xmg L M' = L') (k : V y cc rt d N al (pc + 3) ls (.long x :: st) (xof σ0 L') Q) : V y cc rt d N al pc ls st0 (xof σ0 L) Q := by
  have hct0 := hct (xof σ0 L)
  rw [← xof_over (xof σ0 L) M hsub] at hct0
  refine x_callS hd hM hw hw2 hct0 hlen hn hdd ⟨Nat.zero_le _, Nat.zero_le _⟩ hst hst0 xq_N ?_
  rintro _ _ _ ⟨rfl, rfl, rfl⟩
  rw [xof_mg _ _ _ hmem, hL]
  exact k
theorem y_callVd {y' : MethodName} {cc' : ByteArray} {nL' d' ix n i ci nf : Nat} {rt' : Option FieldType} {T : u_T} {fs As st0 : List Value} {x : UInt64} {M M' : List (Nat × XE)} (hM : xMi y' cc' nL' rt' n) (hw : Cond.methodLink y.cls ix y' ∈ lw_gd) (hw2 : Cond.instanceMethod y' ∈ lw_gd) (hw3 : Cond.selects y'.cls y' y' ∈ lw_gd) (hc : vwCl[ci]? = some (y'.cls, T, nf)) (hd : decode cc pc = .ok (.invokevirtual ix, 3)) (hct : ∀ σ1, Ct y' cc' nL' rt' d' N (0, 0) (.ref i :: As) (xof σ1 M) (xq N (some (.double x)) (xof σ1 M'))) (hi : i < N) (hσ : xof σ0 L i = .inr (ci, fs)) (hlen : (xel (.ref i :: As)).length ≤ nL') (hn : As.length = n) (hdd : d' + 1 ≤ d) (hst : (st.map fun v => v.category).sum ≤ 8) (hst0 : As.reverse ++ .ref i :: st = st0) (hsub : M.map (fun p => xof σ0 L p.1) = M.map (fun p => p.2)) (hmem : M'.all (fun p => xhas L p.1) = true) (hL : xmg L M' = L') (k : V y cc rt d N al (pc + 3) ls (.double x :: st) (xof σ0 L') Q) : V y cc rt d N al pc ls st0 (xof σ0 L) Q := by
  have hct0 := hct (xof σ0 L)
  rw [← xof_over (xof σ0 L) M hsub] at hct0
  refine x_callV hd hM hw hw2 hw3 hc hct0 hi hσ hlen hn hdd ⟨Nat.zero_le _, Nat.zero_le _⟩ hst hst0 xq_N ?_
  rintro _ _ _ ⟨rfl, rfl, rfl⟩
  rw [xof_mg _ _ _ hmem, hL]
  exact k
theorem y_callSd {y' : MethodName} {cc' : ByteArray} {nL' d' ix n : Nat} {rt' : Option FieldType} {As st0 : List Value} {x : UInt64} {M M' : List (Nat × XE)} (hM : xMi y' cc' nL' rt' n) (hw : Cond.methodLink y.cls ix y' ∈ lw_gd) (hw2 : Cond.static y' ∈ lw_gd) (hd : decode cc pc = .ok (.invokestatic ix, 3)) (hct : ∀ σ1, Ct y' cc' nL' rt' d' N (0, 0) As (xof σ1 M) (xq N (some (.double x)) (xof σ1 M'))) (hlen : (xel As).length ≤ nL') (hn : As.length = n) (hdd : d' + 1 ≤ d) (hst : (st.map fun v => v.category).sum ≤ 8) (hst0 : As.reverse ++ st = st0) (hsub : M.map (fun p => xof σ0 L p.1) = M.map (fun p => p.2)) (hmem : M'.all (fun p => xhas L p.1) = true) (hL : xmg L M' = L') (k : V y cc rt d N al (pc + 3) ls (.double x :: st) (xof σ0 L') Q) : V y cc rt d N al pc ls st0 (xof σ0 L) Q := by
  have hct0 := hct (xof σ0 L)
  rw [← xof_over (xof σ0 L) M hsub] at hct0
  refine x_callS hd hM hw hw2 hct0 hlen hn hdd ⟨Nat.zero_le _, Nat.zero_le _⟩ hst hst0 xq_N ?_
  rintro _ _ _ ⟨rfl, rfl, rfl⟩
  rw [xof_mg _ _ _ hmem, hL]
  exact k
theorem y_callVv {y' : MethodName} {cc' : ByteArray} {nL' d' ix n i ci nf : Nat} {rt' : Option FieldType} {T : u_T} {fs As st0 : List Value}  {M M' : List (Nat × XE)} (hM : xMi y' cc' nL' rt' n) (hw : Cond.methodLink y.cls ix y' ∈ lw_gd) (hw2 : Cond.instanceMethod y' ∈ lw_gd) (hw3 : Cond.selects y'.cls y' y' ∈ lw_gd) (hc : vwCl[ci]? = some (y'.cls, T, nf)) (hd : decode cc pc = .ok (.invokevirtual ix, 3)) (hct : ∀ σ1, Ct y' cc' nL' rt' d' N (0, 0) (.ref i :: As) (xof σ1 M) (xq N (none) (xof σ1 M'))) (hi : i < N) (hσ : xof σ0 L i = .inr (ci, fs)) (hlen : (xel (.ref i :: As)).length ≤ nL') (hn : As.length = n) (hdd : d' + 1 ≤ d) (hst : (st.map fun v => v.category).sum ≤ 8) (hst0 : As.reverse ++ .ref i :: st = st0) (hsub : M.map (fun p => xof σ0 L p.1) = M.map (fun p => p.2)) (hmem : M'.all (fun p => xhas L p.1) = true) (hL : xmg L M' = L') (k : V y cc rt d N al (pc + 3) ls (st) (xof σ0 L') Q) : V y cc rt d N al pc ls st0 (xof σ0 L) Q := by
  have hct0 := hct (xof σ0 L)
  rw [← xof_over (xof σ0 L) M hsub] at hct0
  refine x_callV hd hM hw hw2 hw3 hc hct0 hi hσ hlen hn hdd ⟨Nat.zero_le _, Nat.zero_le _⟩ hst hst0 xq_N ?_
  rintro _ _ _ ⟨rfl, rfl, rfl⟩
  rw [xof_mg _ _ _ hmem, hL]
  exact k
theorem y_callSv {y' : MethodName} {cc' : ByteArray} {nL' d' ix n : Nat} {rt' : Option FieldType} {As st0 : List Value}  {M M' : List (Nat × XE)} (hM : xMi y' cc' nL' rt' n) (hw : Cond.methodLink y.cls ix y' ∈ lw_gd) (hw2 : Cond.static y' ∈ lw_gd) (hd : decode cc pc = .ok (.invokestatic ix, 3)) (hct : ∀ σ1, Ct y' cc' nL' rt' d' N (0, 0) As (xof σ1 M) (xq N (none) (xof σ1 M'))) (hlen : (xel As).length ≤ nL') (hn : As.length = n) (hdd : d' + 1 ≤ d) (hst : (st.map fun v => v.category).sum ≤ 8) (hst0 : As.reverse ++ st = st0) (hsub : M.map (fun p => xof σ0 L p.1) = M.map (fun p => p.2)) (hmem : M'.all (fun p => xhas L p.1) = true) (hL : xmg L M' = L') (k : V y cc rt d N al (pc + 3) ls (st) (xof σ0 L') Q) : V y cc rt d N al pc ls st0 (xof σ0 L) Q := by
  have hct0 := hct (xof σ0 L)
  rw [← xof_over (xof σ0 L) M hsub] at hct0
  refine x_callS hd hM hw hw2 hct0 hlen hn hdd ⟨Nat.zero_le _, Nat.zero_le _⟩ hst hst0 xq_N ?_
  rintro _ _ _ ⟨rfl, rfl, rfl⟩
  rw [xof_mg _ _ _ hmem, hL]
  exact k
end VLm
abbrev W_0 : Nat × XE := (0, .inr (10, [.ref 1, .ref 2, .ref 4, .ref 8, .ref 16, .ref 21, .ref 27, .ref 33, .ref 34, .ref 35, .ref 38, .ref 42]))
abbrev W_1 (a1 : Nat → Int32) : Nat × XE := (1, .inl (0, 7, .inl a1))
abbrev W_2 (o2 : Nat → Int32) : Nat × XE := (2, .inr (3, [.ref 3, .int (o2 1), .int (o2 2)]))
abbrev W_3 (a3 : Nat → Int32) : Nat × XE := (3, .inl (1, 9600, .inl a3))
abbrev W_4 (o4 : Nat → Int32) : Nat × XE := (4, .inr (7, [.ref 5, .ref 6, .ref 7, .int (o4 3)]))
abbrev W_5 (j5 : Int64) : Nat × XE := (5, .inr (1, [.long j5]))
abbrev W_6 (a6 : Nat → Int32) : Nat × XE := (6, .inl (0, 64, .inl a6))
abbrev W_7 (a7 : Nat → Int32) : Nat × XE := (7, .inl (1, 3072, .inl a7))
abbrev W_8 : Nat × XE := (8, .inr (4, [.ref 9, .ref 11, .ref 13, .ref 15]))
abbrev W_9 (o9 : Nat → Int32) : Nat × XE := (9, .inr (6, [.int (o9 0), .ref 10, .int (o9 2), .int (o9 3)]))
abbrev W_10 (a10 : Nat → Int32) : Nat × XE := (10, .inl (0, 36, .inl a10))
abbrev W_11 (o11 : Nat → Int32) : Nat × XE := (11, .inr (6, [.int (o11 0), .ref 12, .int (o11 2), .int (o11 3)]))
abbrev W_12 (a12 : Nat → Int32) : Nat × XE := (12, .inl (0, 72, .inl a12))
abbrev W_13 (o13 : Nat → Int32) : Nat × XE := (13, .inr (6, [.int (o13 0), .ref 14, .int (o13 2), .int (o13 3)]))
abbrev W_14 (a14 : Nat → Int32) : Nat × XE := (14, .inl (0, 96, .inl a14))
abbrev W_15 (a15 : Nat → Int32) : Nat × XE := (15, .inl (1, 576, .inl a15))
abbrev W_16 (o16 : Nat → Int32) : Nat × XE := (16, .inr (5, [.ref 1, .ref 4, .ref 8, .ref 17, .ref 18, .ref 19, .ref 20, .int (o16 7), .int (o16 8), .int (o16 9), .int (o16 10), .int (o16 11), .int (o16 12), .int (o16 13), .int (o16 14), .int (o16 15), .int (o16 16), .int (o16 17), .int (o16 18)]))
abbrev W_17 (a17 : Nat → Int32) : Nat × XE := (17, .inl (0, 14, .inl a17))
abbrev W_18 (o18 : Nat → Int32) (j18 : Int64) : Nat × XE := (18, .inr (9, [.long j18, .int (o18 1), .int (o18 2)]))
abbrev W_19 (j19 : Int64) : Nat × XE := (19, .inr (1, [.long j19]))
abbrev W_20 (a20 : Nat → Int32) : Nat × XE := (20, .inl (1, 48, .inl a20))
abbrev W_21 (o21 : Nat → Int32) : Nat × XE := (21, .inr (5, [.ref 22, .ref 4, .null, .ref 23, .ref 24, .ref 25, .ref 26, .int (o21 7), .int (o21 8), .int (o21 9), .int (o21 10), .int (o21 11), .int (o21 12), .int (o21 13), .int (o21 14), .int (o21 15), .int (o21 16), .int (o21 17), .int (o21 18)]))
abbrev W_22 (a22 : Nat → Int32) : Nat × XE := (22, .inl (0, 7, .inl a22))
abbrev W_23 (a23 : Nat → Int32) : Nat × XE := (23, .inl (0, 14, .inl a23))
abbrev W_24 (o24 : Nat → Int32) (j24 : Int64) : Nat × XE := (24, .inr (9, [.long j24, .int (o24 1), .int (o24 2)]))
abbrev W_25 (j25 : Int64) : Nat × XE := (25, .inr (1, [.long j25]))
abbrev W_26 (a26 : Nat → Int32) : Nat × XE := (26, .inl (1, 48, .inl a26))
abbrev W_27 (o27 : Nat → Int32) : Nat × XE := (27, .inr (5, [.ref 28, .ref 4, .null, .ref 29, .ref 30, .ref 31, .ref 32, .int (o27 7), .int (o27 8), .int (o27 9), .int (o27 10), .int (o27 11), .int (o27 12), .int (o27 13), .int (o27 14), .int (o27 15), .int (o27 16), .int (o27 17), .int (o27 18)]))
abbrev W_28 (a28 : Nat → Int32) : Nat × XE := (28, .inl (0, 7, .inl a28))
abbrev W_29 (a29 : Nat → Int32) : Nat × XE := (29, .inl (0, 14, .inl a29))
abbrev W_30 (o30 : Nat → Int32) (j30 : Int64) : Nat × XE := (30, .inr (9, [.long j30, .int (o30 1), .int (o30 2)]))
abbrev W_31 (j31 : Int64) : Nat × XE := (31, .inr (1, [.long j31]))
abbrev W_32 (a32 : Nat → Int32) : Nat × XE := (32, .inl (1, 48, .inl a32))
abbrev W_33 (o33 : Nat → Int32) (j33 : Int64) : Nat × XE := (33, .inr (9, [.long j33, .int (o33 1), .int (o33 2)]))
abbrev W_34 (a34 : Nat → Int32) : Nat × XE := (34, .inl (0, 424, .inl a34))
abbrev W_35 : Nat × XE := (35, .inr (0, [.ref 36, .ref 37]))
abbrev W_36 (a36 : Nat → Int32) : Nat × XE := (36, .inl (0, 40, .inl a36))
abbrev W_37 (a37 : Nat → Int32) : Nat × XE := (37, .inl (0, 8, .inl a37))
abbrev W_38 (o38 : Nat → Int32) : Nat × XE := (38, .inr (8, [.ref 39, .ref 40, .ref 41, .int (o38 3)]))
abbrev W_39 (a39 : Nat → Int64) : Nat × XE := (39, .inl (2, 41, .inr (.inl a39)))
abbrev W_40 (a40 : Nat → Int64) : Nat × XE := (40, .inl (2, 41, .inr (.inl a40)))
abbrev W_41 (a41 : Nat → Int32) : Nat × XE := (41, .inl (0, 41, .inl a41))
abbrev W_42 : Nat × XE := (42, .inr (2, [.ref 43]))
abbrev W_43 (a43 : Nat → Int64) : Nat × XE := (43, .inl (2, 17, .inr (.inl a43)))
abbrev W_44 (o44 : Nat → Int32) : Nat × XE := (44, .inr (11, [.int (o44 0), .ref 45, .ref 46, .ref 47, .ref 48, .ref 49, .int (o44 6), .int (o44 7), .int (o44 8), .int (o44 9), .ref 50, .ref 51, .ref 52, .ref 53, .ref 54, .int (o44 15), .ref 55, .ref 56, .ref 57, .ref 58, .ref 59, .ref 60]))
abbrev W_45 (a45 : Nat → Int32) : Nat × XE := (45, .inl (0, 7, .inl a45))
abbrev W_46 (a46 : Nat → Int32) : Nat × XE := (46, .inl (0, 7, .inl a46))
abbrev W_47 (a47 : Nat → Int32) : Nat × XE := (47, .inl (0, 7, .inl a47))
abbrev W_48 (a48 : Nat → Int32) : Nat × XE := (48, .inl (0, 9600, .inl a48))
abbrev W_49 (a49 : Nat → Int32) : Nat × XE := (49, .inl (0, 3200, .inl a49))
abbrev W_50 (a50 : Nat → Int32) : Nat × XE := (50, .inl (0, 10496, .inl a50))
abbrev W_51 (a51 : Nat → Int32) : Nat × XE := (51, .inl (0, 875, .inl a51))
abbrev W_52 (a52 : Nat → Int32) : Nat × XE := (52, .inl (0, 875, .inl a52))
abbrev W_53 (a53 : Nat → Int32) : Nat × XE := (53, .inl (0, 9600, .inl a53))
abbrev W_54 (a54 : Nat → Int32) : Nat × XE := (54, .inl (0, 9600, .inl a54))
abbrev W_55 (a55 : Nat → Int32) : Nat × XE := (55, .inl (3, 64, .inl a55))
abbrev W_56 (a56 : Nat → Int32) : Nat × XE := (56, .inl (0, 424, .inl a56))
abbrev W_57 (a57 : Nat → Int64) : Nat × XE := (57, .inl (2, 10496, .inr (.inl a57)))
abbrev W_58 (a58 : Nat → Int64) : Nat × XE := (58, .inl (2, 10496, .inr (.inl a58)))
abbrev W_59 (a59 : Nat → Int64) : Nat × XE := (59, .inl (2, 16, .inr (.inl a59)))
abbrev W_60 (a60 : Nat → Int64) : Nat × XE := (60, .inl (2, 16, .inr (.inl a60)))
