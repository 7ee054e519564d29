/-! THE RECEIVER ON PAPER, step by step; and that the model goes so -/
theorem sn_ap (S : Nat → Nat) (k : Nat) : sn S k = nI (S k) := rfl
theorem sn_su (S : Nat → Nat) (k v : Nat) : upd (sn S) k (nI v) = sn (su S k v) := by
  funext j
  by_cases h : j = k
  · simp [upd, sn, su, h]
  · simp [upd, sn, su, h]
theorem su_s {S : Nat → Nat} {k v : Nat} : su S k v k = v := if_pos rfl
theorem su_n {S : Nat → Nat} {k v j : Nat} (h : j ≠ k) : su S k v j = S j := if_neg h
theorem xin_t {k N : Nat} (h : k < N) (hN : N < 2 ^ 31) : xin (nI k) N = true := by
  rw [xin_nI (by omega)]; exact decide_eq_true h
theorem nI_nat (x : Int32) : nI x.toBitVec.toNat = x := by
  apply i32_ext
  apply BitVec.eq_of_toNat_eq
  rw [nI_tn]
  exact Nat.mod_eq_of_lt x.toBitVec.isLt
def bn (b : Bool) : Nat := if b then 1 else 0
theorem bn_lt (b : Bool) : bn b < 2 := by cases b <;> decide
theorem b2i_bn (b : Bool) : b2i b = nI (bn b) := by cases b <;> rfl
theorem nI_shl1 (x : Nat) : (nI x <<< (1 &&& 31)).toBitVec.toNat = 2 * (x % 2 ^ 31) := by
  rw [pk_shl (nI x) (1 &&& 31) 1 (by decide), nI_tn]
  omega
theorem or_low {a b : Nat} (hb : b < 2) : 2 * a ||| b = 2 * a + b := by
  have h := Nat.shiftLeft_add_eq_or_of_lt (b := b) (i := 1) (by omega) a
  rw [Nat.shiftLeft_eq] at h
  rw [show 2 * a = a * 2 ^ 1 by omega]
  exact h.symm
theorem nI_shor {x b : Nat} (hb : b < 2) : (nI x <<< (1 &&& 31)) ||| nI b = nI (2 * x + b) := by
  apply i32_ext
  apply BitVec.eq_of_toNat_eq
  rw [Int32.toBitVec_or, BitVec.toNat_or, nI_shl1, nI_tn, nI_tn, Nat.mod_eq_of_lt (show b < 2 ^ 32 by omega), or_low hb]
  omega
theorem nI_and8 (a : Nat) : nI a &&& 255 = nI (a % 256) := by
  rw [pk_and (nI a) (m := 255) 8 (by decide), nI_tn]
  congr 1
  omega
theorem nI_and11 (a : Nat) : nI a &&& 2047 = nI (a % 2048) := by
  rw [pk_and (nI a) (m := 2047) 11 (by decide), nI_tn]
  congr 1
  omega
theorem nI_shr7 {a : Nat} (h : a < 256) : nI a >>> (7 &&& 31) = nI (a / 128) := pk_shrN (n := a) (by omega) (7 &&& 31) 7 (by decide)
theorem nI_shr10 {a : Nat} (h : a < 2048) : nI a >>> (10 &&& 31) = nI (a / 1024) := pk_shrN (n := a) (by omega) (10 &&& 31) 10 (by decide)
theorem nI_us31 {a : Nat} (h : a < 2 ^ 32) : xus (nI a) 31 = nI (a / 2 ^ 31) := pk_ushrN h 31 31 (by decide)
theorem nI_eq0 {a : Nat} (h : a < 2 ^ 31) : nI a = 0 ↔ a = 0 := nI_eq (b := 0) h (by decide)
theorem nI_eq1 {a : Nat} (h : a < 2 ^ 31) : nI a = 1 ↔ a = 1 := nI_eq (b := 1) h (by decide)
theorem nI_eq2 {a : Nat} (h : a < 2 ^ 31) : nI a = 2 ↔ a = 2 := nI_eq (b := 2) h (by decide)
/-- one more of a count -/
def aCt (S : Nat → Nat) (k : Nat) : Nat → Nat := su S (13 + k) (S (13 + k) + 1)
/-- STATE becomes another one -/
def aTl (to : Nat) (S : Nat → Nat) : Nat → Nat := su (su (su S (704 + 3 * (S 20 % 24)) (S 0)) (704 + 3 * (S 20 % 24) + 1) (S 1)) (704 + 3 * (S 20 % 24) + 2) to
def aT4 (to : Nat) (S : Nat → Nat) : Nat → Nat := if to = 2 then aCt S 4 else S
def aT5 (S : Nat → Nat) : Nat → Nat := if S 1 = 2 then aCt S 5 else S
def aTe (to : Nat) (S : Nat → Nat) : Nat → Nat := su (su (su (su (su (su S 1 to) 6 0) 7 0) 8 0) 9 0) 874 0
def aTn (to : Nat) (S : Nat → Nat) : Nat → Nat := aTe to (aT5 (aT4 to (aCt (aTl to S) 7)))
theorem m_counts (o44 S : Nat → Int32) (R : Nat → Nat) (hS : S = sn R) {k : Nat} (hk : k < 14) : f_X12_counts_44 o44 S (nI k) = some (sn (aCt R k)) := by
  subst hS
  unfold f_X12_counts_44
  rw [show (13 : Int32) + nI k = nI (13 + k) from nI_add 13 k, xin_t (show 13 + k < 875 by omega) (by decide), cond_true, cond_true, nI_clamp (by omega), sn_ap, nI_1, sn_su]
  rfl
theorem m_cnt (o44 : Nat → Int32) (R : Nat → Nat) (k : Nat) (p : Int32) (hp : p = nI k) (hk : k < 14) : f_X12_counts_44 o44 (sn R) p = some (sn (aCt R k)) := by
  subst hp
  exact m_counts o44 (sn R) R rfl hk
theorem aCt_lo (S : Nat → Nat) (k : Nat) {j : Nat} (h : j < 13) : aCt S k j = S j := su_n (by omega)
theorem aTl_lo (to : Nat) (S : Nat → Nat) {j : Nat} (h : j < 704) : aTl to S j = S j := by
  unfold aTl
  rw [su_n (by omega), su_n (by omega), su_n (by omega)]
theorem aT4_lo (to : Nat) (S : Nat → Nat) {j : Nat} (h : j < 13) : aT4 to S j = S j := by
  unfold aT4
  by_cases c : to = 2
  · rw [if_pos c, aCt_lo _ _ h]
  · rw [if_neg c]
theorem m_turns83 (o44 : Nat → Int32) (R : Nat → Nat) (to : Nat) : b_X12_turns_44_83 o44 (sn R) (nI to) = some (sn (aTe to R)) := by
  unfold b_X12_turns_44_83
  have e : ∀ (U : Nat → Nat) (k : Nat), upd (sn U) k 0 = sn (su U k 0) := fun U k => sn_su U k 0
  rw [sn_su, e, e, e, e, e]
  rfl
theorem m_turns68 (o44 : Nat → Int32) (R : Nat → Nat) (to : Nat) (h1 : R 1 ≤ 2) : b_X12_turns_44_68 o44 (sn R) (nI to) = some (sn (aTe to (aT5 R))) := by
  unfold b_X12_turns_44_68 aT5
  rw [sn_ap]
  by_cases c : R 1 = 2
  · rw [if_pos (by rw [c]; rfl), if_pos c, m_cnt o44 R 5 5 rfl (by decide), Option.bind_some, m_turns83]
  · rw [if_neg (fun z => c ((nI_eq2 (by omega)).mp z)), if_neg c, m_turns83]
theorem m_turns (o44 : Nat → Int32) (R : Nat → Nat) (to : Nat) (p : Int32) (hp : p = nI to) (hto : to ≤ 2) (h1 : R 1 ≤ 2) (h20 : R 20 < 2 ^ 31) : f_X12_turns_44 o44 (sn R) p = some (sn (aTn to R)) := by
  subst hp
  unfold f_X12_turns_44
  have e : nI (R 20) - nI (R 20) / 24 * 24 = nI (R 20 % 24) := pk_rem (d := 24) h20 (by decide) (by decide)
  have hm : R 20 % 24 < 24 := Nat.mod_lt _ (by decide)
  have e2 : (704 : Int32) + 3 * nI (R 20 % 24) = nI (704 + 3 * (R 20 % 24)) := by
    rw [show (3 : Int32) * nI (R 20 % 24) = nI (3 * (R 20 % 24)) from pk_mul 3 _]
    exact nI_add 704 _
  have e3 : nI (704 + 3 * (R 20 % 24)) + 2 = nI (704 + 3 * (R 20 % 24) + 2) := nI_add _ 2
  simp only [sn_ap, e, e2, nI_1, e3]
  rw [xin_t (show 704 + 3 * (R 20 % 24) < 875 by omega) (by decide), xin_t (show 704 + 3 * (R 20 % 24) + 1 < 875 by omega) (by decide), xin_t (show 704 + 3 * (R 20 % 24) + 2 < 875 by omega) (by decide), nI_clamp (by omega), nI_clamp (by omega), nI_clamp (by omega)]
  simp only [cond_true, sn_su, sn_ap]
  rw [su_n (show (1 : Nat) ≠ 704 + 3 * (R 20 % 24) by omega)]
  have e4 : su (su (su R (704 + 3 * (R 20 % 24)) (R 0)) (704 + 3 * (R 20 % 24) + 1) (R 1)) (704 + 3 * (R 20 % 24) + 2) to = aTl to R := rfl
  rw [e4, m_cnt o44 (aTl to R) 7 7 rfl (by decide), Option.bind_some]
  have h1' : aCt (aTl to R) 7 1 ≤ 2 := by rw [aCt_lo _ _ (by decide), aTl_lo _ _ (by decide)]; exact h1
  by_cases c : to = 2
  · rw [if_pos (by rw [c]; rfl), m_cnt o44 _ 4 4 rfl (by decide), Option.bind_some, m_turns68 _ _ _ (by rw [aCt_lo _ _ (by decide)]; exact h1')]
    unfold aTn aT4
    rw [if_pos c]
  · rw [if_neg (fun z => c ((nI_eq2 (by omega)).mp z)), m_turns68 _ _ _ h1']
    unfold aTn aT4
    rw [if_neg c]
/-- SYNDROME of the last 40 bits -/
def aSyn (S : Nat → Nat) : Nat := chk (S 27) ^^^ S 28
theorem m_syn {n : Nat} (hn : 40 ≤ n) (o44 : Nat → Int32) (R : Nat → Nat) (h27 : R 27 < 2 ^ 32) : f_X12_syndromeNow_44 n o44 (sn R) = some (nI (aSyn R)) := by
  unfold f_X12_syndromeNow_44
  rw [checkOf_is hn, Option.bind_some, sn_ap, sn_ap, nI_xor, pk_tn h27]
  rfl
theorem aSyn_lt {S : Nat → Nat} (h : S 28 < 256) : aSyn S < 256 := xor_lt256 (chk_lt _) h
/-- HUNT -/
def aHu (T : Nat → Nat) (S : Nat → Nat) : Nat → Nat := if (S 874 + 1) % T 6 = 0 ∧ 40 ≤ S 5 ∧ aSyn S = 0 then su (aTn 1 (su S 874 (S 874 + 1))) 2 0 else su S 874 (S 874 + 1)
theorem m_hunts {n : Nat} (hn : 40 ≤ n) {T : Nat → Nat} {a1 a45 : Nat → Int32} (hT : iT T a1 a45) (o44 : Nat → Int32) (R : Nat → Nat) (h1 : R 1 ≤ 2) (h5 : R 5 < 2 ^ 31) (h20 : R 20 < 2 ^ 31) (h874 : R 874 + 1 < 2 ^ 31) (h27 : R 27 < 2 ^ 32) (h28 : R 28 < 256) : f_X12_hunts_44 n o44 a45 (sn R) = some (sn (aHu T R)) := by
  unfold f_X12_hunts_44
  have t6 := hT.2.2.2.2.2.2.2
  have e6 : a45 6 = nI (T 6) := (hT.1 6 (by decide)).2
  have e0 : xnz (nI (T 6)) = true := by
    unfold xnz
    have : ¬ nI (T 6) = 0 := nI_ne0 (by omega) (by omega)
    simp [this]
  rw [e6, e0, cond_true]
  simp only [sn_ap, nI_1]
  rw [pk_rem (d := T 6) h874 (by omega) (by omega), sn_su, m_syn hn _ _ (show su R 874 (R 874 + 1) 27 < 2 ^ 32 from h27)]
  have hm : (R 874 + 1) % T 6 < T 6 := Nat.mod_lt _ (by omega)
  have es : aSyn (su R 874 (R 874 + 1)) = aSyn R := rfl
  rw [es]
  unfold aHu
  by_cases c1 : (R 874 + 1) % T 6 = 0
  · rw [if_pos (by rw [c1]; rfl)]
    by_cases c2 : 40 ≤ R 5
    · rw [if_neg (show ¬ nI (R 5) < 40 from nI_nlt (a := R 5) (b := 40) c2 h5), Option.bind_some]
      by_cases c3 : aSyn R = 0
      · rw [if_pos (by rw [c3]; rfl), if_pos ⟨c1, c2, c3⟩, m_turns o44 _ 1 1 rfl (by decide) (show su R 874 (R 874 + 1) 1 ≤ 2 from h1) (show su R 874 (R 874 + 1) 20 < 2 ^ 31 from h20), Option.bind_some]
        exact congrArg some (sn_su _ 2 0)
      · have hl := aSyn_lt h28
        rw [if_neg (fun z => c3 ((nI_eq0 (by omega)).mp z)), if_neg (fun z => c3 z.2.2)]
    · rw [if_pos (show nI (R 5) < 40 from nI_lt (a := R 5) (b := 40) (by omega) (by decide)), if_neg (fun z => c2 z.2.1)]
  · rw [if_neg (fun z => c1 ((nI_eq0 (by omega)).mp z)), if_neg (fun z => c1 z.1)]
