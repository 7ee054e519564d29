/-! Worlds as lists of cells over a base world. -/
def xof (σ0 : XW) : List (Nat × XE) → XW
  | [] => σ0
  | (j, q) :: t => fun i => bif Nat.beq i j then q else xof σ0 t i
def xwr : List (Nat × XE) → Nat → XE → List (Nat × XE)
  | [], i, q => [(i, q)]
  | (j, f) :: t, i, q => bif Nat.beq i j then (j, q) :: t else (j, f) :: xwr t i q
def xwrs (L : List (Nat × XE)) : List (Nat × XE) → List (Nat × XE)
  | [] => L
  | (i, q) :: t => xwr (xwrs L t) i q
theorem xof_cons (σ0 : XW) (i : Nat) (q : XE) (t : List (Nat × XE)) : xof σ0 ((i, q) :: t) = xup (xof σ0 t) i q := by
  funext j
  show (bif Nat.beq j i then q else xof σ0 t j) = if j = i then q else xof σ0 t j
  by_cases h : j = i
  · subst h; simp
  · have h2 : Nat.beq j i = false := by
      cases hb : Nat.beq j i with
      | false => rfl
      | true => exact absurd (Nat.eq_of_beq_eq_true hb) h
    rw [h2, if_neg h]; rfl
theorem xof_wr (σ0 : XW) : ∀ (L : List (Nat × XE)) (i : Nat) (q : XE), xup (xof σ0 L) i q = xof σ0 (xwr L i q)
  | [], i, q => (xof_cons σ0 i q []).symm
  | (j, f) :: t, i, q => by
    show _ = xof σ0 (bif Nat.beq i j then (j, q) :: t else (j, f) :: xwr t i q)
    cases hb : Nat.beq i j with
    | true =>
      have := Nat.eq_of_beq_eq_true hb
      subst this
      rw [xof_cons, xup_xup]
      exact (xof_cons σ0 i q t).symm
    | false =>
      have hne : i ≠ j := fun e => by subst e; simp at hb
      show _ = xof σ0 ((j, f) :: xwr t i q)
      rw [xof_cons, xof_cons, ← xof_wr σ0 t i q, xup_comm (Ne.symm hne)]
theorem xof_wrs (σ0 : XW) (L : List (Nat × XE)) : ∀ M : List (Nat × XE), xof (xof σ0 L) M = xof σ0 (xwrs L M)
  | [] => rfl
  | (i, q) :: t => by rw [xof_cons, xof_wrs σ0 L t, xof_wr]; rfl
theorem xof_over (σ : XW) : ∀ M : List (Nat × XE), M.map (fun p => σ p.1) = M.map (fun p => p.2) → σ = xof σ M
  | [], _ => rfl
  | (i, q) :: t, h => by
    have h1 : σ i = q := (List.cons.inj h).1
    have h2 := xof_over σ t (List.cons.inj h).2
    rw [xof_cons, ← h2]
    exact (xup_self h1).symm
def xq (N : Nat) (r : Option Value) (τ : XW) : Nat → Option Value → XW → Prop := fun n q ρ => n = N ∧ q = r ∧ ρ = τ
theorem xq_N {N : Nat} {r : Option Value} {τ : XW} : ∀ n q ρ, xq N r τ n q ρ → n = N + 0 := fun _ _ _ h => h.1
section VLs
variable {y : MethodName} {cc : ByteArray} {rt : Option FieldType} {d N : Nat} {al : Nat × Nat} {pc : Nat} {ls ls' : List (Option Value)} {st : List Value} {σ0 : XW} {L L' : List (Nat × XE)} {Q : Nat → Option Value → XW → Prop}
theorem V.wr {i : Nat} {q : XE} (h : xwr L i q = L') (k : V y cc rt d N al pc ls st (xof σ0 L') Q) : V y cc rt d N al pc ls st (xup (xof σ0 L) i q) Q := by
  rw [xof_wr, h]; exact k

theorem x_iastL {i n : Nat} {f : Nat → Int32} {j : Int32} {x : Int32} (hd : decode cc pc = .ok (.iastore, 1)) (hi : i < N) (hσ : xof σ0 L i = .inl (0, n, .inl f)) (hj : vp_in j n) (hL : xwr L i (.inl (0, n, .inl (upd f j.toNatClampNeg x))) = L') (k : V y cc rt d N al (pc + 1) ls st (xof σ0 L') Q) : V y cc rt d N al pc ls (.int x :: .int j :: .ref i :: st) (xof σ0 L) Q := x_iast hd hi hσ hj (V.wr hL k)
theorem x_bastL {i n : Nat} {f : Nat → Int32} {j : Int32} {x : Int32} (hd : decode cc pc = .ok (.bastore, 1)) (hi : i < N) (hσ : xof σ0 L i = .inl (1, n, .inl f)) (hj : vp_in j n) (hL : xwr L i (.inl (1, n, .inl (upd f j.toNatClampNeg (vp_nar .byte x)))) = L') (k : V y cc rt d N al (pc + 1) ls st (xof σ0 L') Q) : V y cc rt d N al pc ls (.int x :: .int j :: .ref i :: st) (xof σ0 L) Q := x_bast hd hi hσ hj (V.wr hL k)
theorem x_zastL {i n : Nat} {f : Nat → Int32} {j : Int32} {x : Int32} (hd : decode cc pc = .ok (.bastore, 1)) (hi : i < N) (hσ : xof σ0 L i = .inl (3, n, .inl f)) (hj : vp_in j n) (hL : xwr L i (.inl (3, n, .inl (upd f j.toNatClampNeg (vp_nar .boolean x)))) = L') (k : V y cc rt d N al (pc + 1) ls st (xof σ0 L') Q) : V y cc rt d N al pc ls (.int x :: .int j :: .ref i :: st) (xof σ0 L) Q := x_zast hd hi hσ hj (V.wr hL k)
theorem x_lastL {i n : Nat} {f : Nat → Int64} {j : Int32} {x : Int64} (hd : decode cc pc = .ok (.lastore, 1)) (hi : i < N) (hσ : xof σ0 L i = .inl (2, n, .inr (.inl f))) (hj : vp_in j n) (hL : xwr L i (.inl (2, n, .inr (.inl (vp_updL f j.toNatClampNeg x)))) = L') (k : V y cc rt d N al (pc + 1) ls st (xof σ0 L') Q) : V y cc rt d N al pc ls (.long x :: .int j :: .ref i :: st) (xof σ0 L) Q := x_last hd hi hσ hj (V.wr hL k)
theorem x_copyiL {ix i0 i1 n0 n1 t : Nat} {ty : FieldType} {f g : Nat → Int32} {sp dp n : Int32} (hd : decode cc pc = .ok (.invokestatic ix, 3)) (hw : Cond.methodLink y.cls ix arraycopyName ∈ lw_gd) (hd1 : 1 ≤ d) (hi0 : i0 < N) (hi1 : i1 < N) (h0 : xof σ0 L i0 = .inl (t, n0, .inl f)) (h1 : xof σ0 L i1 = .inl (t, n1, .inl g)) (ht : ∀ G : XG, (xt G)[t]? = some (G.2.2 t, ty)) (hprim : refKind ty = false) (hsp : ¬ sp < 0) (hdp : ¬ dp < 0) (hn : ¬ n < 0) (h4 : sp.toNatClampNeg + n.toNatClampNeg ≤ n0) (h5 : dp.toNatClampNeg + n.toNatClampNeg ≤ n1) (hfit : ∀ q, q < n.toNatClampNeg → fits ty (.int (f (sp.toNatClampNeg + q))) = true) (hst : (st.map fun v => v.category).sum ≤ 8) (hL : xwr L i1 (.inl (t, n1, .inl (va_cpy f g sp.toNatClampNeg dp.toNatClampNeg n.toNatClampNeg))) = L')
    (k : V y cc rt d N al (pc + 3) ls st (xof σ0 L') Q) : V y cc rt d N al pc ls (.int n :: .int dp :: .ref i1 :: .int sp :: .ref i0 :: st) (xof σ0 L) Q := x_copyi hd hw hd1 hi0 hi1 h0 h1 ht hprim hsp hdp hn h4 h5 hfit hst (V.wr hL k)
theorem x_callVi {y' : MethodName} {cc' : ByteArray} {nL' d' ix n i ci nf : Nat} {rt' : Option FieldType} {T : u_T} {fs As st0 : List Value} {x : Int32} {M M' : List (Nat × XE)} (hM : xMi y' cc' nL' rt' n) (hw : Cond.methodLink y.cls ix y' ∈ lw_gd) (hw2 : Cond.instanceMethod y' ∈ lw_gd) (hw3 : Cond.selects y'.cls y' y' ∈ lw_gd) (hc : vwCl[ci]? = some (y'.cls, T, nf)) (hd : decode cc pc = .ok (.invokevirtual ix, 3)) (hct : ∀ σ1, Ct y' cc' nL' rt' d' N (0, 0) (.ref i :: As) (xof σ1 M) (xq N (some (.int x)) (xof σ1 M'))) (hi : i < N) (hσ : xof σ0 L i = .inr (ci, fs)) (hlen : (xel (.ref i :: As)).length ≤ nL') (hn : As.length = n) (hdd : d' + 1 ≤ d) (hst : (st.map fun v => v.category).sum ≤ 8) (hst0 : As.reverse ++ .ref i :: st = st0) (hsub : M.map (fun p => xof σ0 L p.1) = M.map (fun p => p.2)) (hL : xwrs L M' = L') (k : V y cc rt d N al (pc + 3) ls (.int x :: st) (xof σ0 L') Q) : V y cc rt d N al pc ls st0 (xof σ0 L) Q := by
  have hct0 := hct (xof σ0 L)
  rw [← xof_over (xof σ0 L) M hsub] at hct0
  refine x_callV hd hM hw hw2 hw3 hc hct0 hi hσ hlen hn hdd ⟨Nat.zero_le _, Nat.zero_le _⟩ hst hst0 xq_N ?_
  rintro _ _ _ ⟨rfl, rfl, rfl⟩
  rw [xof_wrs, hL]
  exact k
theorem x_callSi {y' : MethodName} {cc' : ByteArray} {nL' d' ix n : Nat} {rt' : Option FieldType} {As st0 : List Value} {x : Int32} {M M' : List (Nat × XE)} (hM : xMi y' cc' nL' rt' n) (hw : Cond.methodLink y.cls ix y' ∈ lw_gd) (hw2 : Cond.static y' ∈ lw_gd) (hd : decode cc pc = .ok (.invokestatic ix, 3)) (hct : ∀ σ1, Ct y' cc' nL' rt' d' N (0, 0) As (xof σ1 M) (xq N (some (.int x)) (xof σ1 M'))) (hlen : (xel As).length ≤ nL') (hn : As.length = n) (hdd : d' + 1 ≤ d) (hst : (st.map fun v => v.category).sum ≤ 8) (hst0 : As.reverse ++ st = st0) (hsub : M.map (fun p => xof σ0 L p.1) = M.map (fun p => p.2)) (hL : xwrs L M' = L') (k : V y cc rt d N al (pc + 3) ls (.int x :: st) (xof σ0 L') Q) : V y cc rt d N al pc ls st0 (xof σ0 L) Q := by
  have hct0 := hct (xof σ0 L)
  rw [← xof_over (xof σ0 L) M hsub] at hct0
  refine x_callS hd hM hw hw2 hct0 hlen hn hdd ⟨Nat.zero_le _, Nat.zero_le _⟩ hst hst0 xq_N ?_
  rintro _ _ _ ⟨rfl, rfl, rfl⟩
  rw [xof_wrs, hL]
  exact k
theorem x_callVl {y' : MethodName} {cc' : ByteArray} {nL' d' ix n i ci nf : Nat} {rt' : Option FieldType} {T : u_T} {fs As st0 : List Value} {x : Int64} {M M' : List (Nat × XE)} (hM : xMi y' cc' nL' rt' n) (hw : Cond.methodLink y.cls ix y' ∈ lw_gd) (hw2 : Cond.instanceMethod y' ∈ lw_gd) (hw3 : Cond.selects y'.cls y' y' ∈ lw_gd) (hc : vwCl[ci]? = some (y'.cls, T, nf)) (hd : decode cc pc = .ok (.invokevirtual ix, 3)) (hct : ∀ σ1, Ct y' cc' nL' rt' d' N (0, 0) (.ref i :: As) (xof σ1 M) (xq N (some (.long x)) (xof σ1 M'))) (hi : i < N) (hσ : xof σ0 L i = .inr (ci, fs)) (hlen : (xel (.ref i :: As)).length ≤ nL') (hn : As.length = n) (hdd : d' + 1 ≤ d) (hst : (st.map fun v => v.category).sum ≤ 8) (hst0 : As.reverse ++ .ref i :: st = st0) (hsub : M.map (fun p => xof σ0 L p.1) = M.map (fun p => p.2)) (hL : xwrs L M' = L') (k : V y cc rt d N al (pc + 3) ls (.long x :: st) (xof σ0 L') Q) : V y cc rt d N al pc ls st0 (xof σ0 L) Q := by
  have hct0 := hct (xof σ0 L)
  rw [← xof_over (xof σ0 L) M hsub] at hct0
  refine x_callV hd hM hw hw2 hw3 hc hct0 hi hσ hlen hn hdd ⟨Nat.zero_le _, Nat.zero_le _⟩ hst hst0 xq_N ?_
  rintro _ _ _ ⟨rfl, rfl, rfl⟩
  rw [xof_wrs, hL]
  exact k
theorem x_callSl {y' : MethodName} {cc' : ByteArray} {nL' d' ix n : Nat} {rt' : Option FieldType} {As st0 : List Value} {x : Int64} {M M' : List (Nat × XE)} (hM : xMi y' cc' nL' rt' n) (hw : Cond.methodLink y.cls ix y' ∈ lw_gd) (hw2 : Cond.static y' ∈ lw_gd) (hd : decode cc pc = .ok (.invokestatic ix, 3)) (hct : ∀ σ1, Ct y' cc' nL' rt' d' N (0, 0) As (xof σ1 M) (xq N (some (.long x)) (xof σ1 M'))) (hlen : (xel As).length ≤ nL') (hn : As.length = n) (hdd : d' + 1 ≤ d) (hst : (st.map fun v => v.category).sum ≤ 8) (hst0 : As.reverse ++ st = st0) (hsub : M.map (fun p => xof σ0 L p.1) = M.map (fun p => p.2)) (hL : xwrs L M' = L') (k : V y cc rt d N al (pc + 3) ls (.long x :: st) (xof σ0 L') Q) : V y cc rt d N al pc ls st0 (xof σ0 L) Q := by
  have hct0 := hct (xof σ0 L)
  rw [← xof_over (xof σ0 L) M hsub] at hct0
  refine x_callS hd hM hw hw2 hct0 hlen hn hdd ⟨Nat.zero_le _, Nat.zero_le _⟩ hst hst0 xq_N ?_
  rintro _ _ _ ⟨rfl, rfl, rfl⟩
  rw [xof_wrs, hL]
  exact k
theorem x_callVd {y' : MethodName} {cc' : ByteArray} {nL' d' ix n i ci nf : Nat} {rt' : Option FieldType} {T : u_T} {fs As st0 : List Value} {x : UInt64} {M M' : List (Nat × XE)} (hM : xMi y' cc' nL' rt' n) (hw : Cond.methodLink y.cls ix y' ∈ lw_gd) (hw2 : Cond.instanceMethod y' ∈ lw_gd) (hw3 : Cond.selects y'.cls y' y' ∈ lw_gd) (hc : vwCl[ci]? = some (y'.cls, T, nf)) (hd : decode cc pc = .ok (.invokevirtual ix, 3)) (hct : ∀ σ1, Ct y' cc' nL' rt' d' N (0, 0) (.ref i :: As) (xof σ1 M) (xq N (some (.double x)) (xof σ1 M'))) (hi : i < N) (hσ : xof σ0 L i = .inr (ci, fs)) (hlen : (xel (.ref i :: As)).length ≤ nL') (hn : As.length = n) (hdd : d' + 1 ≤ d) (hst : (st.map fun v => v.category).sum ≤ 8) (hst0 : As.reverse ++ .ref i :: st = st0) (hsub : M.map (fun p => xof σ0 L p.1) = M.map (fun p => p.2)) (hL : xwrs L M' = L') (k : V y cc rt d N al (pc + 3) ls (.double x :: st) (xof σ0 L') Q) : V y cc rt d N al pc ls st0 (xof σ0 L) Q := by
  have hct0 := hct (xof σ0 L)
  rw [← xof_over (xof σ0 L) M hsub] at hct0
  refine x_callV hd hM hw hw2 hw3 hc hct0 hi hσ hlen hn hdd ⟨Nat.zero_le _, Nat.zero_le _⟩ hst hst0 xq_N ?_
  rintro _ _ _ ⟨rfl, rfl, rfl⟩
  rw [xof_wrs, hL]
  exact k
theorem x_callSd {y' : MethodName} {cc' : ByteArray} {nL' d' ix n : Nat} {rt' : Option FieldType} {As st0 : List Value} {x : UInt64} {M M' : List (Nat × XE)} (hM : xMi y' cc' nL' rt' n) (hw : Cond.methodLink y.cls ix y' ∈ lw_gd) (hw2 : Cond.static y' ∈ lw_gd) (hd : decode cc pc = .ok (.invokestatic ix, 3)) (hct : ∀ σ1, Ct y' cc' nL' rt' d' N (0, 0) As (xof σ1 M) (xq N (some (.double x)) (xof σ1 M'))) (hlen : (xel As).length ≤ nL') (hn : As.length = n) (hdd : d' + 1 ≤ d) (hst : (st.map fun v => v.category).sum ≤ 8) (hst0 : As.reverse ++ st = st0) (hsub : M.map (fun p => xof σ0 L p.1) = M.map (fun p => p.2)) (hL : xwrs L M' = L') (k : V y cc rt d N al (pc + 3) ls (.double x :: st) (xof σ0 L') Q) : V y cc rt d N al pc ls st0 (xof σ0 L) Q := by
  have hct0 := hct (xof σ0 L)
  rw [← xof_over (xof σ0 L) M hsub] at hct0
  refine x_callS hd hM hw hw2 hct0 hlen hn hdd ⟨Nat.zero_le _, Nat.zero_le _⟩ hst hst0 xq_N ?_
  rintro _ _ _ ⟨rfl, rfl, rfl⟩
  rw [xof_wrs, hL]
  exact k
theorem x_callVv {y' : MethodName} {cc' : ByteArray} {nL' d' ix n i ci nf : Nat} {rt' : Option FieldType} {T : u_T} {fs As st0 : List Value}  {M M' : List (Nat × XE)} (hM : xMi y' cc' nL' rt' n) (hw : Cond.methodLink y.cls ix y' ∈ lw_gd) (hw2 : Cond.instanceMethod y' ∈ lw_gd) (hw3 : Cond.selects y'.cls y' y' ∈ lw_gd) (hc : vwCl[ci]? = some (y'.cls, T, nf)) (hd : decode cc pc = .ok (.invokevirtual ix, 3)) (hct : ∀ σ1, Ct y' cc' nL' rt' d' N (0, 0) (.ref i :: As) (xof σ1 M) (xq N (none) (xof σ1 M'))) (hi : i < N) (hσ : xof σ0 L i = .inr (ci, fs)) (hlen : (xel (.ref i :: As)).length ≤ nL') (hn : As.length = n) (hdd : d' + 1 ≤ d) (hst : (st.map fun v => v.category).sum ≤ 8) (hst0 : As.reverse ++ .ref i :: st = st0) (hsub : M.map (fun p => xof σ0 L p.1) = M.map (fun p => p.2)) (hL : xwrs L M' = L') (k : V y cc rt d N al (pc + 3) ls (st) (xof σ0 L') Q) : V y cc rt d N al pc ls st0 (xof σ0 L) Q := by
  have hct0 := hct (xof σ0 L)
  rw [← xof_over (xof σ0 L) M hsub] at hct0
  refine x_callV hd hM hw hw2 hw3 hc hct0 hi hσ hlen hn hdd ⟨Nat.zero_le _, Nat.zero_le _⟩ hst hst0 xq_N ?_
  rintro _ _ _ ⟨rfl, rfl, rfl⟩
  rw [xof_wrs, hL]
  exact k
theorem x_callSv {y' : MethodName} {cc' : ByteArray} {nL' d' ix n : Nat} {rt' : Option FieldType} {As st0 : List Value}  {M M' : List (Nat × XE)} (hM : xMi y' cc' nL' rt' n) (hw : Cond.methodLink y.cls ix y' ∈ lw_gd) (hw2 : Cond.static y' ∈ lw_gd) (hd : decode cc pc = .ok (.invokestatic ix, 3)) (hct : ∀ σ1, Ct y' cc' nL' rt' d' N (0, 0) As (xof σ1 M) (xq N (none) (xof σ1 M'))) (hlen : (xel As).length ≤ nL') (hn : As.length = n) (hdd : d' + 1 ≤ d) (hst : (st.map fun v => v.category).sum ≤ 8) (hst0 : As.reverse ++ st = st0) (hsub : M.map (fun p => xof σ0 L p.1) = M.map (fun p => p.2)) (hL : xwrs L M' = L') (k : V y cc rt d N al (pc + 3) ls (st) (xof σ0 L') Q) : V y cc rt d N al pc ls st0 (xof σ0 L) Q := by
  have hct0 := hct (xof σ0 L)
  rw [← xof_over (xof σ0 L) M hsub] at hct0
  refine x_callS hd hM hw hw2 hct0 hlen hn hdd ⟨Nat.zero_le _, Nat.zero_le _⟩ hst hst0 xq_N ?_
  rintro _ _ _ ⟨rfl, rfl, rfl⟩
  rw [xof_wrs, hL]
  exact k
end VLs
