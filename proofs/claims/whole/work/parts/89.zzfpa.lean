/-! doubles above nothing: twice, half, what they are measured by -/
def nm (v : UInt64) (c : Nat) (q : Int) : Prop := FP.Core.val64 v = .fin false c q ∧ 4503599627370496 ≤ c ∧ c < 9007199254740992 ∧ -1074 ≤ q ∧ q ≤ 971
theorem nm_fits {c : Nat} {q : Int} (h : 4503599627370496 ≤ c ∧ c < 9007199254740992 ∧ -1074 ≤ q ∧ q ≤ 971) : FP.Core.fits FP.Core.b64 (.fin false c q) := by
  refine ⟨show c < 2 ^ 53 from h.2.1, ?_, ?_, Or.inr (show 2 ^ 52 ≤ c from h.1)⟩
  · have : FP.Core.b64.qmin = -1074 := by decide
    omega
  · have : FP.Core.b64.qmax = 971 := by decide
    omega
theorem v_two : FP.Core.val64 4611686018427387904 = .fin false 4503599627370496 (-51) := by decide +kernel
theorem v_one : FP.Core.val64 4607182418800017408 = .fin false 4503599627370496 (-52) := by decide +kernel
theorem v_nul : FP.Core.val64 0 = .fin false 0 (-1074) := by decide +kernel
theorem nm_dbl {v : UInt64} {c : Nat} {q : Int} (h : nm v c q) (hq : q < 971) : nm (FP.dmul v 4611686018427387904) c (q + 1) := by
  obtain ⟨h1, h2, h3, h4, h5⟩ := h
  refine ⟨?_, h2, h3, by omega, by omega⟩
  show FP.Core.val64 (FP.Core.dmul v 4611686018427387904) = _
  rw [FP.Core.val64_dmul, h1, v_two]
  show FP.Core.roundRatio FP.Core.b64 false (c * 4503599627370496) 1 (q + -51) = _
  refine FP.Core.roundRatio_exact FP.Core.good_b64 (by decide) (nm_fits ⟨h2, h3, by omega, by omega⟩) ?_
  rw [show (q + -51 - (q + 1)).toNat = 0 by omega, show (q + 1 - (q + -51)).toNat = 52 by omega, Nat.pow_zero, Nat.mul_one, Nat.mul_one]
theorem nm_hlv {v : UInt64} {c : Nat} {q : Int} (h : nm v c q) (hq : -1074 < q) : nm (FP.ddiv v 4611686018427387904) c (q - 1) := by
  obtain ⟨h1, h2, h3, h4, h5⟩ := h
  refine ⟨?_, h2, h3, by omega, by omega⟩
  show FP.Core.val64 (FP.Core.ddiv v 4611686018427387904) = _
  rw [FP.Core.val64_ddiv, h1, v_two]
  show FP.Core.roundRatio FP.Core.b64 false c 4503599627370496 (q - -51) = _
  refine FP.Core.roundRatio_exact FP.Core.good_b64 (by decide) (nm_fits ⟨h2, h3, by omega, by omega⟩) ?_
  rw [show (q - -51 - (q - 1)).toNat = 52 by omega, show (q - 1 - (q - -51)).toNat = 0 by omega, Nat.pow_zero, Nat.mul_one]
theorem nm_nn {v : UInt64} {c : Nat} {q : Int} (h : nm v c q) : FP.Core.val64 v ≠ .nan := by
  rw [h.1]
  exact fun e => FP.Core.Datum.noConfusion e
theorem xn64_t {v : UInt64} (h : FP.Core.val64 v ≠ .nan) : xn64 v = true := by
  have h2 := (FP.Core.ne_nan v).mp h
  unfold xn64
  refine decide_eq_true ?_
  rw [UInt64.le_iff_toNat_le, UInt64.toNat_and]
  show v.toNat &&& (2 ^ 63 - 1) ≤ 9218868437227405312
  rw [Nat.and_two_pow_sub_one_eq_mod]
  exact h2
theorem nm_x {v : UInt64} {c : Nat} {q : Int} (h : nm v c q) : xn64 v = true := xn64_t (nm_nn h)
theorem nm_z {v : UInt64} {c : Nat} {q : Int} (h : nm v c q) : FP.Core.zval FP.Core.b64 (FP.Core.val64 v) = ((c * 2 ^ (q + 1074).toNat : Nat) : Int) := by
  rw [h.1]
  show ((c * 2 ^ (q - FP.Core.b64.qmin).toNat : Nat) : Int) = _
  rw [show FP.Core.b64.qmin = -1074 by decide, show (q - -1074).toNat = (q + 1074).toNat by omega]
theorem nm_one : nm 4607182418800017408 4503599627370496 (-52) := ⟨v_one, by decide, by decide, by decide, by decide⟩
theorem nm_two : nm 4611686018427387904 4503599627370496 (-51) := ⟨v_two, by decide, by decide, by decide, by decide⟩
theorem pw_mono {c c' : Nat} {m m' : Nat} (h1 : c < 9007199254740992) (h2 : 4503599627370496 ≤ c') (h : m < m') : c * 2 ^ m < c' * 2 ^ m' := by
  have e : 2 ^ m' = 2 ^ m * 2 ^ (m' - m) := by rw [← Nat.pow_add]; congr 1; omega
  have e2 : 2 ≤ 2 ^ (m' - m) := by
    have := Nat.pow_le_pow_right (show 0 < 2 by decide) (show 1 ≤ m' - m by omega)
    simpa using this
  have hp : 0 < 2 ^ m := Nat.two_pow_pos m
  rw [e, Nat.mul_comm (2 ^ m), ← Nat.mul_assoc]
  refine Nat.mul_lt_mul_of_pos_right ?_ hp
  have := Nat.mul_le_mul h2 e2
  omega
theorem nm_cl {v w : UInt64} {c c' : Nat} {q q' : Int} (h : nm v c q) (h' : nm w c' q') (hq : q < q') (o : CmpOp) : Op.cmpValue (FP.dcmp v w) o = -1 := by
  have : FP.Core.dcmp v w = some .lt := FP.Core.dcmp_lt.mpr ⟨nm_nn h, nm_nn h', by
    rw [nm_z h, nm_z h']
    have e1 := h.2.2.2.1
    exact Int.ofNat_lt.mpr (pw_mono h.2.2.1 h'.2.1 (by omega))⟩
  show Op.cmpValue (FP.Core.dcmp v w) o = -1
  rw [this]
  rfl
theorem nm_cg {v w : UInt64} {c c' : Nat} {q q' : Int} (h : nm v c q) (h' : nm w c' q') (hq : q' < q ∨ (q' = q ∧ c' ≤ c)) (o : CmpOp) : Op.cmpValue (FP.dcmp v w) o = 0 ∨ Op.cmpValue (FP.dcmp v w) o = 1 := by
  have : FP.Core.dcmp v w = some .gt ∨ FP.Core.dcmp v w = some .eq := FP.Core.dcmp_ge.mpr ⟨nm_nn h, nm_nn h', by
    rw [nm_z h, nm_z h']
    have e1 := h'.2.2.2.1
    rcases hq with hq | ⟨hq, hc⟩
    · exact Int.le_of_lt (Int.ofNat_lt.mpr (pw_mono h'.2.2.1 h.2.1 (by omega)))
    · rw [hq]
      exact Int.ofNat_le.mpr (Nat.mul_le_mul_right _ hc)⟩
  show Op.cmpValue (FP.Core.dcmp v w) o = 0 ∨ Op.cmpValue (FP.Core.dcmp v w) o = 1
  rcases this with e | e <;> rw [e]
  · exact Or.inr rfl
  · exact Or.inl rfl
theorem nm_c0 {v : UInt64} {c : Nat} {q : Int} (h : nm v c q) (o : CmpOp) : Op.cmpValue (FP.dcmp v 0) o = 1 := by
  have : FP.Core.dcmp v 0 = some .gt := FP.Core.dcmp_gt.mpr ⟨nm_nn h, by rw [v_nul]; exact fun e => FP.Core.Datum.noConfusion e, by
    rw [nm_z h, v_nul]
    show ((0 * 2 ^ (-1074 - FP.Core.b64.qmin).toNat : Nat) : Int) < _
    rw [Nat.zero_mul]
    have := h.2.1
    exact Int.ofNat_lt.mpr (Nat.mul_pos (by omega) (Nat.two_pow_pos _))⟩
  show Op.cmpValue (FP.Core.dcmp v 0) o = 1
  rw [this]
  rfl
theorem c00 (o : CmpOp) : Op.cmpValue (FP.dcmp 0 0) o = 0 := by
  show Op.cmpValue (FP.Core.dcmp 0 0) o = 0
  rw [show FP.Core.dcmp 0 0 = some .eq by decide +kernel]
  rfl
theorem pw_mg {t c c' : Nat} {m m' : Nat} (h1 : c < 2 * t) (h2 : t ≤ c') (h : m < m') : c * 2 ^ m < c' * 2 ^ m' := by
  have e : 2 ^ m' = 2 ^ m * 2 ^ (m' - m) := by rw [← Nat.pow_add]; congr 1; omega
  have e2 : 2 ≤ 2 ^ (m' - m) := by
    have := Nat.pow_le_pow_right (show 0 < 2 by decide) (show 1 ≤ m' - m by omega)
    simpa using this
  have hp : 0 < 2 ^ m := Nat.two_pow_pos m
  rw [e, Nat.mul_comm (2 ^ m), ← Nat.mul_assoc]
  refine Nat.mul_lt_mul_of_pos_right ?_ hp
  have := Nat.mul_le_mul h2 e2
  omega
theorem tl_fits {f : FP.Core.Fmt} (hf : FP.Core.Good f) {q : Int} (h1 : f.qmin ≤ q) (h2 : q ≤ f.qmax) : FP.Core.fits f (.fin false f.tails q) := by
  refine ⟨?_, h1, h2, Or.inr (Nat.le_refl _)⟩
  have := FP.Core.two_tails hf
  have := FP.Core.tails_pos f
  omega
theorem rr_nm {f : FP.Core.Fmt} (hf : FP.Core.Good f) {A B : Nat} {e e0 lo hi : Int} (hB : 0 < B) (h0 : e0 ≤ f.qmin) (h0e : e0 ≤ e) (hlo : f.qmin ≤ lo) (hlh : lo ≤ hi) (hhi : hi ≤ f.qmax) (hl : f.tails * 2 ^ (lo - e0).toNat * B ≤ A * 2 ^ (e - e0).toNat) (hu : A * 2 ^ (e - e0).toNat ≤ f.tails * 2 ^ (hi - e0).toNat * B) : ∃ c q, FP.Core.roundRatio f false A B e = .fin false c q ∧ f.tails ≤ c ∧ c < 2 * f.tails ∧ lo ≤ q ∧ q ≤ hi := by
  have ht := FP.Core.two_tails hf
  have htp := FP.Core.tails_pos f
  have hx : f.exps - 2 = (f.qmax - f.qmin + 1).toNat := by
    have := FP.Core.emax_exps hf
    have := FP.Core.qmax_qmin f
    omega
  have hz (q : Int) (h : f.qmin ≤ q) : FP.Core.zmag f (.fin false f.tails q) * 2 ^ (f.qmin - e0).toNat = f.tails * 2 ^ (q - e0).toNat := by
    show f.tails * 2 ^ (q - f.qmin).toNat * 2 ^ (f.qmin - e0).toNat = _
    rw [Nat.mul_assoc, ← Nat.pow_add]
    congr 2
    omega
  have L := FP.Core.zmag_roundRatio_ge hf (s := false) hB (tl_fits hf hlo (by omega)) h0 h0e (A := A) (by rw [hz lo hlo]; exact hl)
  have U := FP.Core.zmag_roundRatio_le hf (s := false) hB (tl_fits hf (show f.qmin ≤ hi by omega) hhi) (fun e => FP.Core.Datum.noConfusion e) h0 h0e (A := A) (by rw [hz hi (by omega)]; exact hu)
  have hfit := FP.Core.roundRatio_fits hf false A hB e
  rcases FP.Core.roundRatio_cases f false A B e with ⟨c, q, h⟩ | h
  · rw [h] at L U hfit
    obtain ⟨f1, f2, f3, f4⟩ := hfit
    have L : f.tails * 2 ^ (lo - f.qmin).toNat ≤ c * 2 ^ (q - f.qmin).toNat := L
    have U : c * 2 ^ (q - f.qmin).toNat ≤ f.tails * 2 ^ (hi - f.qmin).toNat := U
    have hc : f.tails ≤ c := by
      rcases f4 with f4 | f4
      · rw [f4, show (f.qmin - f.qmin).toNat = 0 by omega, Nat.pow_zero, Nat.mul_one] at L
        refine Nat.le_trans ?_ L
        exact Nat.le_mul_of_pos_right _ (Nat.two_pow_pos _)
      · exact f4
    have hc2 : c < 2 * f.tails := by omega
    refine ⟨c, q, h, hc, hc2, ?_, ?_⟩
    · refine Int.not_lt.mp fun hh => ?_
      have := pw_mg hc2 (Nat.le_refl f.tails) (show (q - f.qmin).toNat < (lo - f.qmin).toNat by omega)
      omega
    · refine Int.not_lt.mp fun hh => ?_
      have := pw_mg (show f.tails < 2 * f.tails by omega) hc (show (hi - f.qmin).toNat < (q - f.qmin).toNat by omega)
      omega
  · rw [h] at U
    have U : f.tails * 2 ^ (f.exps - 2) ≤ f.tails * 2 ^ (hi - f.qmin).toNat := U
    have := pw_mg (show f.tails < 2 * f.tails by omega) (Nat.le_refl f.tails) (show (hi - f.qmin).toNat < f.exps - 2 by omega)
    omega
theorem rr64 {v : UInt64} {A B : Nat} {e lo hi : Int} (hv : FP.Core.val64 v = FP.Core.roundRatio FP.Core.b64 false A B e) (hB : 0 < B) (he : -3000 ≤ e) (hlo : -1074 ≤ lo) (hlh : lo ≤ hi) (hhi : hi ≤ 971) (hl : 4503599627370496 * 2 ^ (lo + 3000).toNat * B ≤ A * 2 ^ (e + 3000).toNat) (hu : A * 2 ^ (e + 3000).toNat ≤ 4503599627370496 * 2 ^ (hi + 3000).toNat * B) : ∃ c q, nm v c q ∧ lo ≤ q ∧ q ≤ hi := by
  have q1 : FP.Core.b64.qmin = -1074 := by decide
  have q2 : FP.Core.b64.qmax = 971 := by decide
  have q3 : FP.Core.b64.tails = 4503599627370496 := by decide
  have h := rr_nm FP.Core.good_b64 (e0 := -3000) hB (by omega) he (by omega) hlh (by omega) (by rw [q3, show (lo - -3000) = lo + 3000 by omega, show (e - -3000) = e + 3000 by omega]; exact hl) (by rw [q3, show (hi - -3000) = hi + 3000 by omega, show (e - -3000) = e + 3000 by omega]; exact hu)
  rw [q3] at h
  obtain ⟨c, q, e1, e2, e3, e4, e5⟩ := h
  exact ⟨c, q, ⟨hv.trans e1, e2, by omega, by omega, by omega⟩, e4, e5⟩
theorem nn_fin {s : Bool} {c : Nat} {q : Int} : FP.Core.Datum.fin s c q ≠ .nan := fun e => FP.Core.Datum.noConfusion e
theorem lN_int {a : Nat} (h : a < 2 ^ 63) : (lN a).toInt = a := Int64.toInt_ofNat_of_lt h
theorem nm_l2d {a : Nat} (h0 : 0 < a) (h : a < 2 ^ 63) : ∃ c q, nm (FP.l2d (lN a)) c q ∧ -52 ≤ q ∧ q ≤ 11 := by
  refine rr64 (A := a) (B := 1) (e := 0) ?_ (by decide) (by decide) (by decide) (by decide) (by decide) ?_ ?_
  · show FP.Core.val64 (FP.Core.l2d (lN a)) = _
    rw [FP.Core.val64_l2d, lN_int h]
    show FP.Core.roundRatio FP.Core.b64 (decide ((a : Int) < 0)) (a : Int).natAbs 1 0 = _
    rw [decide_eq_false (by omega), Int.natAbs_natCast]
  · rw [Nat.mul_one, show ((-52 : Int) + 3000).toNat = 2948 from rfl, show ((0 : Int) + 3000).toNat = 2948 + 52 from rfl, Nat.pow_add, ← Nat.mul_assoc, Nat.mul_right_comm]
    exact Nat.mul_le_mul_right _ (by omega)
  · rw [Nat.mul_one, show ((11 : Int) + 3000).toNat = 3000 + 11 from rfl, show ((0 : Int) + 3000).toNat = 3000 from rfl, Nat.pow_add]
    generalize 2 ^ 3000 = z
    rw [Nat.mul_comm z (2 ^ 11), ← Nat.mul_assoc]
    exact Nat.mul_le_mul_right _ (by omega)
theorem nm_div {v w : UInt64} {c c' : Nat} {q q' : Int} (h : nm v c q) (h' : nm w c' q') (h1 : -1000 ≤ q - q') (h2 : q - q' ≤ 1000) : ∃ d r, nm (FP.ddiv v w) d r ∧ q - q' - 53 ≤ r ∧ r ≤ q - q' - 51 := by
  obtain ⟨a1, a2, a3, a4, a5⟩ := h
  obtain ⟨b1, b2, b3, b4, b5⟩ := h'
  refine rr64 (A := c) (B := c') (e := q - q') ?_ (by omega) (by omega) (by omega) (by omega) (by omega) ?_ ?_
  · show FP.Core.val64 (FP.Core.ddiv v w) = _
    rw [FP.Core.val64_ddiv, a1, b1]
    show (if c' = 0 then _ else _) = _
    rw [if_neg (by omega)]
    rfl
  · rw [show (q - q' + 3000).toNat = (q - q' - 53 + 3000).toNat + 53 by omega, Nat.pow_add]
    generalize 2 ^ (q - q' - 53 + 3000).toNat = z
    rw [Nat.mul_comm z, ← Nat.mul_assoc, Nat.mul_right_comm]
    exact Nat.mul_le_mul_right _ (by omega)
  · rw [show (q - q' - 51 + 3000).toNat = (q - q' + 3000).toNat - 51 by omega]
    generalize hz : (q - q' + 3000).toNat = z
    have : 51 ≤ z := by omega
    rw [show z = z - 51 + 51 by omega, Nat.add_sub_cancel, Nat.pow_add]
    generalize 2 ^ (z - 51) = y
    rw [Nat.mul_comm y, ← Nat.mul_assoc, Nat.mul_right_comm 4503599627370496]
    exact Nat.mul_le_mul_right _ (by omega)
theorem nm_q {v : UInt64} {c : Nat} {q : Int} (h : nm v c q) : -1074 ≤ q ∧ q ≤ 971 := h.2.2.2
/- float -/
def nf (v : UInt32) (c : Nat) (q : Int) : Prop := FP.Core.val32 v = .fin false c q ∧ 8388608 ≤ c ∧ c < 16777216
theorem d2f_c {v : UInt64} {c : Nat} {q : Int} (h : nm v c q) : FP.d2f v = FP.Core.d2f v := by
  unfold FP.d2f
  have := (FP.Core.notNaN_iff v).mpr (nm_nn h)
  rw [this]
  rfl
theorem nm_d2f {v : UInt64} {c : Nat} {q : Int} (h : nm v c q) (h1 : -170 ≤ q) (h2 : q ≤ 70) : ∃ d r, nf (FP.d2f v) d r ∧ q + 29 ≤ r ∧ r ≤ q + 30 := by
  rw [d2f_c h]
  obtain ⟨a1, a2, a3, a4, a5⟩ := h
  have q1 : FP.Core.b32.qmin = -149 := by decide
  have q2 : FP.Core.b32.qmax = 104 := by decide
  have q3 : FP.Core.b32.tails = 8388608 := by decide
  have h := rr_nm FP.Core.good_b32 (A := c) (B := 1) (e := q) (e0 := -3000) (lo := q + 29) (hi := q + 30) (by decide) (by omega) (by omega) (by omega) (by omega) (by omega) (by
    rw [q3, Nat.mul_one, show (q + 29 - -3000).toNat = (q - -3000).toNat + 29 by omega, Nat.pow_add]
    generalize 2 ^ (q - -3000).toNat = z
    rw [Nat.mul_comm z, ← Nat.mul_assoc]
    exact Nat.mul_le_mul_right _ (by omega)) (by
    rw [q3, Nat.mul_one, show (q + 30 - -3000).toNat = (q - -3000).toNat + 30 by omega, Nat.pow_add]
    generalize 2 ^ (q - -3000).toNat = z
    rw [Nat.mul_comm z, ← Nat.mul_assoc]
    exact Nat.mul_le_mul_right _ (by omega))
  rw [q3] at h
  obtain ⟨d, r, e1, e2, e3, e4, e5⟩ := h
  refine ⟨d, r, ⟨?_, e2, by omega⟩, e4, e5⟩
  rw [FP.Core.val32_d2f, a1]
  exact e1
theorem nf_nn {v : UInt32} {c : Nat} {q : Int} (h : nf v c q) : FP.Core.val32 v ≠ .nan := by
  rw [h.1]
  exact nn_fin
theorem xn32_t {v : UInt32} (h : FP.Core.val32 v ≠ .nan) : xn32 v = true := by
  have h2 := (FP.Core.ne_nan32 v).mp h
  unfold xn32
  refine decide_eq_true ?_
  rw [UInt32.le_iff_toNat_le, UInt32.toNat_and]
  show v.toNat &&& (2 ^ 31 - 1) ≤ 2139095040
  rw [Nat.and_two_pow_sub_one_eq_mod]
  exact h2
theorem f2d_c {v : UInt32} (h : FP.Core.val32 v ≠ .nan) : FP.f2d v = FP.Core.f2d v := by
  unfold FP.f2d
  have := (FP.Core.notNaN_iff32 v).mpr h
  rw [this]
  rfl
theorem nf_f2d {v : UInt32} {c : Nat} {q : Int} (h : nf v c q) (h1 : -500 ≤ q) (h2 : q ≤ 500) : nm (FP.f2d v) (c * 536870912) (q - 29) := by
  rw [f2d_c (nf_nn h)]
  obtain ⟨a1, a2, a3⟩ := h
  refine ⟨?_, by omega, by omega, by omega, by omega⟩
  rw [FP.Core.val64_f2d, a1]
  show FP.Core.roundRatio FP.Core.b64 false c 1 q = _
  refine FP.Core.roundRatio_exact FP.Core.good_b64 (by decide) (nm_fits ⟨by omega, by omega, by omega, by omega⟩) ?_
  rw [show (q - (q - 29)).toNat = 29 by omega, show (q - 29 - q).toNat = 0 by omega, Nat.pow_zero, Nat.mul_one, Nat.mul_one]
/- zero -/
theorem d2f_z : FP.d2f 0 = 0 := by decide +kernel
theorem f2d_z : FP.f2d 0 = 0 := by decide +kernel
theorem l2d_z : FP.l2d (lN 0) = 0 := by decide +kernel
theorem div_z {w : UInt64} {c : Nat} {q : Int} (h : nm w c q) : FP.ddiv 0 w = 0 := by
  have e : FP.Core.val64 (FP.Core.ddiv 0 w) = .fin false 0 (-1074) := by
    rw [FP.Core.val64_ddiv, v_nul, h.1]
    show (if c = 0 then _ else _) = _
    have := h.2.1
    rw [if_neg (by omega)]
    rfl
  exact FP.Core.val64_inj (by rw [show FP.Core.val64 (FP.ddiv 0 w) = _ from e]; exact nn_fin) (e.trans v_nul.symm)
