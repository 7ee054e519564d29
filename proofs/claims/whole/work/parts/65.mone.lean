/-! one bit taken, by the model -/
/-- what a bit is DESCRAMBLED to -/
def aPn (b : Nat) (S : Nat → Nat) : Nat := b ^^^ (S 29 / 1024 % 2)
def aL1 (b : Nat) (S : Nat → Nat) : Nat → Nat := su (su (su (su S 29 ((2 * S 29 + S 30 / 2 ^ 31) % 2048)) 30 ((2 * S 30 + b) % 2 ^ 32)) 31 ((2 * S 31 + aPn b S) % 256)) 7 (S 7 + 1)
def aL2 (b : Nat) (S : Nat → Nat) : Nat → Nat := if (S 7 + 1) % 8 = 0 then su (aL1 b S) (31 + (S 7 + 1) / 8) ((2 * S 31 + aPn b S) % 256) else aL1 b S
def aL3 (T : Nat → Nat) (sc : Nat) (hd : Nat → Int32) (sy : Nat → Nat → Nat) (S : Nat → Nat) : Nat → Nat := if 8 * T 0 ≤ S 7 then (if S 9 = 0 then su (su S 7 0) 6 1 else if T 5 = 1 ∧ nI (S 11) = 1 then aCt (su (su S 7 0) 6 1) 10 else aDl (T 0) sc hd sy (su (su S 7 0) 6 1)) else S
def aLd (T : Nat → Nat) (sc : Nat) (hd : Nat → Int32) (sy : Nat → Nat → Nat) (b : Nat) (S : Nat → Nat) : Nat → Nat := aL3 T sc hd sy (aL2 b S)
theorem xor2_lt {a b : Nat} (ha : a < 2) (hb : b < 2) : a ^^^ b < 2 := Nat.xor_lt_two_pow (n := 1) ha hb
theorem aPn_lt {b : Nat} (hb : b < 2) (S : Nat → Nat) : aPn b S < 2 := xor2_lt hb (Nat.mod_lt _ (by decide))
theorem m_plain {b : Nat} (R : Nat → Nat) (h29 : R 29 < 2 ^ 11) : nI b ^^^ ((nI (R 29) >>> (10 &&& 31)) &&& 1) = nI (aPn b R) := by
  rw [nI_shr10 (by omega), nI_and1, nI_xor]
  rfl
theorem aL1_0 (b : Nat) (S : Nat → Nat) {j : Nat} (h : j ≠ 29 ∧ j ≠ 30 ∧ j ≠ 31 ∧ j ≠ 7) : aL1 b S j = S j := by
  unfold aL1
  rw [su_n h.2.2.2, su_n h.2.2.1, su_n h.2.1, su_n h.1]
theorem aL1_7 (b : Nat) (S : Nat → Nat) : aL1 b S 7 = S 7 + 1 := rfl
theorem aL2_0 (b : Nat) (S : Nat → Nat) {j : Nat} (h : j ≠ 29 ∧ j ≠ 30 ∧ j ≠ 31 ∧ j ≠ 7) (h2 : j < 32 ∨ 80 ≤ j) (h7 : S 7 < 8 * 48) : aL2 b S j = S j := by
  unfold aL2
  by_cases c : (S 7 + 1) % 8 = 0
  · rw [if_pos c, su_n (by omega), aL1_0 _ _ h]
  · rw [if_neg c, aL1_0 _ _ h]
theorem aL2_7 (b : Nat) (S : Nat → Nat) : aL2 b S 7 = S 7 + 1 := by
  unfold aL2
  by_cases c : (S 7 + 1) % 8 = 0
  · rw [if_pos c, su_n (by omega), aL1_7]
  · rw [if_neg c, aL1_7]
theorem aL2_b {b : Nat} (hb : b < 2) (S : Nat → Nat) (h : ∀ i, i < 48 → S (32 + i) < 256) : ∀ i, i < 48 → aL2 b S (32 + i) < 256 := by
  intro i hi
  unfold aL2
  by_cases c : (S 7 + 1) % 8 = 0
  · rw [if_pos c]
    by_cases d : 32 + i = 31 + (S 7 + 1) / 8
    · rw [d, su_s]; exact Nat.mod_lt _ (by decide)
    · rw [su_n d, aL1_0 _ _ (by omega)]; exact h i hi
  · rw [if_neg c, aL1_0 _ _ (by omega)]; exact h i hi
theorem m_load185 {n sc hs : Nat} (hn : 80 ≤ n) {T : Nat → Nat} {a1 a45 : Nat → Int32} (hT : iT T a1 a45) {o4 o44 a6 a7 a49 : Nat → Int32} {j5 : Int64} {hd : Nat → Int32} {sy : Nat → Nat → Nat} (hS : iS (T 0) sc hs hd sy o4 j5 a6 a7 o44 a49) (R : Nat → Nat) (a53 a54 : Nat → Int32) (h7 : R 7 < 2 ^ 31) (h9 : R 9 ≤ 1) (h16 : R 16 < 2 ^ 31) (hb : ∀ i, i < 48 → R (32 + i) < 256) : b_X12_takesLoad_44_185 n o44 a45 a49 (sn R) a53 a54 = some (sn (aL3 T sc hd sy R), a53, a54) := by
  unfold b_X12_takesLoad_44_185 aL3
  have t0 := hT.2.1
  have t5 := hT.2.2.2.2.2.2.1
  have e0 : a45 0 = nI (T 0) := (hT.1 0 (by decide)).2
  have e5 : a45 5 = nI (T 5) := (hT.1 5 (by decide)).2
  have z0 : ∀ (U : Nat → Nat) (k : Nat), upd (sn U) k 0 = sn (su U k 0) := fun U k => sn_su U k 0
  have z1 : ∀ (U : Nat → Nat) (k : Nat), upd (sn U) k 1 = sn (su U k 1) := fun U k => sn_su U k 1
  rw [e0, e5, show (8 : Int32) * nI (T 0) = nI (8 * T 0) from pk_mul 8 _]
  simp only [sn_ap, z0, z1]
  have hd1 : b_X12_takesLoad_44_262 n o44 a45 a49 (sn (su (su R 7 0) 6 1)) a53 a54 = some (sn (aDl (T 0) sc hd sy (su (su R 7 0) 6 1)), a53, a54) := by
    unfold b_X12_takesLoad_44_262
    rw [m_delivers hn hS t0.2 e0 _ (show su (su R 7 0) 6 1 16 < 2 ^ 31 from h16) (fun i hi => by rw [su_n (by omega), su_n (by omega)]; exact hb i hi), Option.bind_some]
  by_cases c : 8 * T 0 ≤ R 7
  · rw [if_pos (nI_le c h7), if_pos c]
    by_cases d : R 9 = 0
    · rw [if_pos (by rw [d]; rfl), if_pos d]
    · rw [if_neg (fun z => d ((nI_eq0 (by omega)).mp z)), if_neg d]
      by_cases g : T 5 = 1
      · rw [if_pos (by rw [g]; rfl)]
        by_cases q : nI (R 11) = 1
        · rw [if_pos q, if_pos ⟨g, q⟩, m_cnt o44 _ 10 10 rfl (by decide), Option.bind_some]
        · rw [if_neg q, if_neg (fun z => q z.2), hd1]
      · rw [if_neg (fun z => g ((nI_eq1 (by omega)).mp z)), if_neg (fun z => g z.1), hd1]
  · rw [if_neg (nI_ge (by omega) (by omega)), if_neg c]
theorem m_load63 {n sc hs : Nat} (hn : 80 ≤ n) {T : Nat → Nat} {a1 a45 : Nat → Int32} (hT : iT T a1 a45) {o4 o44 a6 a7 a49 : Nat → Int32} {j5 : Int64} {hd : Nat → Int32} {sy : Nat → Nat → Nat} (hS : iS (T 0) sc hs hd sy o4 j5 a6 a7 o44 a49) (R : Nat → Nat) (a53 a54 : Nat → Int32) {b : Nat} (hbit : b < 2) (h7 : R 7 < 8 * T 0) (h9 : R 9 ≤ 1) (h16 : R 16 < 2 ^ 31) (h30 : R 30 < 2 ^ 32) (hb : ∀ i, i < 48 → R (32 + i) < 256) : b_X12_takesLoad_44_63 n o44 a45 a49 (sn R) a53 a54 (nI b) (nI (aPn b R)) = some (sn (aLd T sc hd sy b R), a53, a54) := by
  unfold b_X12_takesLoad_44_63
  have t0 := hT.2.1
  simp only [sn_ap]
  have e8 : nI (R 7 + 1) - nI (R 7 + 1) / 8 * 8 = nI ((R 7 + 1) % 8) := pk_rem (d := 8) (by omega) (by decide) (by decide)
  have e8' : nI (R 7 + 1) / 8 = nI ((R 7 + 1) / 8) := pk_div (d := 8) (by omega) (by decide) (by decide)
  have g1 : ((nI (R 29) <<< (1 &&& 31)) ||| xus (nI (R 30)) 31) &&& 2047 = nI ((2 * R 29 + R 30 / 2 ^ 31) % 2048) := by
    rw [nI_us31 h30, nI_shor (show R 30 / 2 ^ 31 < 2 by omega), nI_and11]
  have g2 : (nI (R 30) <<< (1 &&& 31)) ||| nI b = nI ((2 * R 30 + b) % 2 ^ 32) := by
    rw [nI_shor hbit, nI_mod]
  have g3 : ((nI (R 31) <<< (1 &&& 31)) ||| nI (aPn b R)) &&& 255 = nI ((2 * R 31 + aPn b R) % 256) := by
    rw [nI_shor (aPn_lt hbit R), nI_and8]
  simp only [nI_1 (R 7)]
  simp only [e8]
  simp only [e8', g1, g2, g3]
  simp only [sn_su]
  have e1 : su (su (su (su R 29 ((2 * R 29 + R 30 / 2 ^ 31) % 2048)) 30 ((2 * R 30 + b) % 2 ^ 32)) 31 ((2 * R 31 + aPn b R) % 256)) 7 (R 7 + 1) = aL1 b R := rfl
  rw [e1]
  have fin : b_X12_takesLoad_44_185 n o44 a45 a49 (sn (aL2 b R)) a53 a54 = some (sn (aLd T sc hd sy b R), a53, a54) := by
    refine m_load185 hn hT hS (aL2 b R) a53 a54 ?_ ?_ ?_ (aL2_b hbit R hb)
    · rw [aL2_7]; omega
    · rw [aL2_0 b R (by decide) (by decide) (by omega)]; exact h9
    · rw [aL2_0 b R (by decide) (by decide) (by omega)]; exact h16
  by_cases c : (R 7 + 1) % 8 = 0
  · rw [if_pos (by rw [c]; rfl)]
    have e3 : (32 : Int32) + nI ((R 7 + 1) / 8) - 1 = nI (31 + (R 7 + 1) / 8) := by
      rw [show (32 : Int32) + nI ((R 7 + 1) / 8) = nI (32 + (R 7 + 1) / 8) from nI_add 32 _, show 32 + (R 7 + 1) / 8 = (31 + (R 7 + 1) / 8) + 1 by omega]
      exact nI_pred _
    rw [e3, xin_t (show 31 + (R 7 + 1) / 8 < 875 by omega) (by decide), cond_true, nI_clamp (by omega)]
    have e2 : su (aL1 b R) (31 + (R 7 + 1) / 8) ((2 * R 31 + aPn b R) % 256) = aL2 b R := by unfold aL2; rw [if_pos c]
    rw [e2]
    exact fin
  · rw [if_neg (fun z => c ((nI_eq0 (by omega)).mp z))]
    have e2 : aL1 b R = aL2 b R := by unfold aL2; rw [if_neg c]
    rw [e2]
    exact fin
/-- what is seen of a bit at a place -/
def aSee (v : Int32) (w : Int32) (b : Nat) (S : Nat → Nat) (a : Nat → Int32) : Nat → Int32 := if v = w then upd a (S 0 - 1) (nI (aPn b S + 1)) else a
theorem m_load {n sc hs : Nat} (hn : 80 ≤ n) {T : Nat → Nat} {a1 a45 : Nat → Int32} (hT : iT T a1 a45) {o4 o44 a6 a7 a49 : Nat → Int32} {j5 : Int64} {hd : Nat → Int32} {sy : Nat → Nat → Nat} (hS : iS (T 0) sc hs hd sy o4 j5 a6 a7 o44 a49) (R : Nat → Nat) (a53 a54 : Nat → Int32) {b : Nat} (hbit : b < 2) (h0 : 0 < R 0 ∧ R 0 ≤ 9600) (h7 : R 7 < 8 * T 0) (h9 : R 9 ≤ 1) (h16 : R 16 < 2 ^ 31) (h29 : R 29 < 2 ^ 11) (h30 : R 30 < 2 ^ 32) (hb : ∀ i, i < 48 → R (32 + i) < 256) : f_X12_takesLoad_44 n o44 a45 a49 (sn R) a53 a54 (nI b) = some (sn (aLd T sc hd sy b R), aSee (o44 15) 1 b R a53, aSee (o44 15) 2 b R a54) := by
  unfold f_X12_takesLoad_44 aSee
  have e0 : nI (R 0) - 1 = nI (R 0 - 1) := by
    obtain ⟨q, hq⟩ : ∃ q, R 0 = q + 1 := ⟨R 0 - 1, by omega⟩
    rw [hq]; exact nI_pred q
  simp only [sn_ap]
  rw [m_plain R h29, nI_1, e0, xin_t (show R 0 - 1 < 9600 by omega) (by decide), cond_true, nI_clamp (by omega)]
  have fin : ∀ a53 a54, b_X12_takesLoad_44_63 n o44 a45 a49 (sn R) a53 a54 (nI b) (nI (aPn b R)) = some (sn (aLd T sc hd sy b R), a53, a54) := fun a53 a54 => m_load63 hn hT hS R a53 a54 hbit h7 h9 h16 h30 hb
  have mid : ∀ a53, b_X12_takesLoad_44_39 n o44 a45 a49 (sn R) a53 a54 (nI b) (nI (aPn b R)) = some (sn (aLd T sc hd sy b R), a53, if o44 15 = 2 then upd a54 (R 0 - 1) (nI (aPn b R + 1)) else a54) := by
    intro a53
    unfold b_X12_takesLoad_44_39
    simp only [sn_ap]
    rw [e0, nI_1, xin_t (show R 0 - 1 < 9600 by omega) (by decide), cond_true, nI_clamp (by omega)]
    by_cases c : o44 15 = 2
    · rw [if_pos c, if_pos c, fin]
    · rw [if_neg c, if_neg c, fin]
  by_cases c : o44 15 = 1
  · rw [if_pos c, if_pos c, mid]
  · rw [if_neg c, if_neg c, mid]
/-- behind a bit: STILL, ALARM -/
def aW1 (was : Nat) (S : Nat → Nat) : Nat → Nat := su S 872 (if (S 1 = 2 ↔ was = 2) then S 872 + 1 else 1)
def aW2 (S : Nat → Nat) : Nat → Nat := if S 1 ≠ 2 ∧ S 873 = 0 then aCt S 11 else S
def aWt (T : Nat → Nat) (was : Nat) (S : Nat → Nat) : Nat → Nat := if T 4 ≤ aW1 was S 872 then su (aW2 (aW1 was S)) 873 (if S 1 = 2 then 0 else 1) else aW1 was S
theorem m_watch {n : Nat} {T : Nat → Nat} {a1 a45 : Nat → Int32} (hT : iT T a1 a45) (o44 a48 a49 : Nat → Int32) (R : Nat → Nat) (a53 a54 : Nat → Int32) (was : Nat) (hw : was ≤ 2) (h1 : R 1 ≤ 2) (h872 : R 872 + 1 < 2 ^ 31) (h873 : R 873 ≤ 1) : b_X12_takesOne_44_147 n o44 a45 a48 a49 (sn R) a53 a54 (nI was) = some (sn (aWt T was R), a53, a54) := by
  have t4 := hT.2.2.2.2.2.1
  have e4 : a45 4 = nI (T 4) := (hT.1 4 (by decide)).2
  have x3 : xin 873 875 = true := xin_t (k := 873) (by decide) (by decide)
  have c3 : Int32.toNatClampNeg 873 = 873 := nI_clamp (n := 873) (by decide)
  have x2 : xin 872 875 = true := xin_t (k := 872) (by decide) (by decide)
  have c2 : Int32.toNatClampNeg 872 = 872 := nI_clamp (n := 872) (by decide)
  have z0 : ∀ (U : Nat → Nat) (k : Nat), upd (sn U) k 0 = sn (su U k 0) := fun U k => sn_su U k 0
  have z1 : ∀ (U : Nat → Nat) (k : Nat), upd (sn U) k 1 = sn (su U k 1) := fun U k => sn_su U k 1
  have s238 : ∀ (U : Nat → Nat) (l3 : Int32), b_X12_takesOne_44_238 n o44 a45 a48 a49 (sn U) a53 a54 l3 = some (sn (su U 873 (if l3 = 0 then 1 else 0)), a53, a54) := by
    intro U l3
    unfold b_X12_takesOne_44_238 b_X12_takesOne_44_254
    rw [x3, cond_true, cond_true, c3, z0, z1]
    by_cases c : l3 = 0
    · rw [if_pos c, if_pos c]
    · rw [if_neg c, if_neg c]
  have s198 : ∀ (v : Nat) (l3 : Int32), v < 2 ^ 31 → b_X12_takesOne_44_198 n o44 a45 a48 a49 (sn R) a53 a54 l3 872 (nI v) = some (sn (if T 4 ≤ v then su (if l3 = 0 ∧ R 873 = 0 then aCt (su R 872 v) 11 else su R 872 v) 873 (if l3 = 0 then 1 else 0) else su R 872 v), a53, a54) := by
    intro v l3 hv
    unfold b_X12_takesOne_44_198
    rw [x2, cond_true, c2, sn_su, sn_ap, su_s, sn_ap, su_n (show (873 : Nat) ≠ 872 by decide), e4]
    by_cases c : T 4 ≤ v
    · rw [if_pos (nI_le c hv), if_pos c]
      by_cases d : l3 = 0
      · rw [if_pos d]
        by_cases g : R 873 = 0
        · rw [if_pos (by rw [g]; rfl), if_pos ⟨d, g⟩, m_cnt o44 _ 11 11 rfl (by decide), Option.bind_some, s238]
        · rw [if_neg (fun z => g ((nI_eq0 (by omega)).mp z)), if_neg (fun z => g z.2), s238]
      · rw [if_neg d, if_neg (fun z => d z.1), s238]
    · rw [if_neg (nI_ge (by omega) (by omega)), if_neg c]
  have s181 : ∀ (l3 t3 : Int32), b_X12_takesOne_44_181 n o44 a45 a48 a49 (sn R) a53 a54 l3 872 l3 t3 = some (sn (if T 4 ≤ (if l3 = t3 then R 872 + 1 else 1) then su (if l3 = 0 ∧ R 873 = 0 then aCt (su R 872 (if l3 = t3 then R 872 + 1 else 1)) 11 else su R 872 (if l3 = t3 then R 872 + 1 else 1)) 873 (if l3 = 0 then 1 else 0) else su R 872 (if l3 = t3 then R 872 + 1 else 1)), a53, a54) := by
    intro l3 t3
    unfold b_X12_takesOne_44_181
    by_cases c : l3 = t3
    · rw [if_pos c, if_pos c, sn_ap, nI_1, s198 _ _ h872]
    · rw [if_neg c, if_neg c]
      exact s198 1 l3 (by decide)
  unfold b_X12_takesOne_44_147 b_X12_takesOne_44_162
  rw [sn_ap, s181, s181, s181, s181]
  have hi : ∀ x : Nat, x ≤ 2 → (nI x = 2 ↔ x = 2) := fun x hx => nI_eq2 (by omega)
  unfold aWt aW2 aW1
  by_cases c : R 1 = 2
  · have c' : nI (R 1) = 2 := (hi _ h1).mpr c
    rw [if_pos c']
    by_cases d : was = 2
    · rw [if_pos ((hi _ hw).mpr d)]
      simp [c, d, su]
    · rw [if_neg (fun z => d ((hi _ hw).mp z))]
      simp [c, d, su]
  · have c' : ¬ nI (R 1) = 2 := fun z => c ((hi _ h1).mp z)
    rw [if_neg c']
    by_cases d : was = 2
    · rw [if_pos ((hi _ hw).mpr d)]
      simp [c, d, su]
    · rw [if_neg (fun z => d ((hi _ hw).mp z))]
      simp [c, d, su]
/-- a bit is taken -/
def aPs (b : Nat) (S : Nat → Nat) : Nat → Nat := su (su (su (su S 0 (S 0 + 1)) 27 ((2 * S 27 + S 28 / 128) % 2 ^ 32)) 28 ((2 * S 28 + b) % 256)) 5 (S 5 + 1)
def aKd (x : Nat) : Nat := if x = 0 then 6 else if x = 1 then 12 else 13
def aP1 (b : Nat) (S : Nat → Nat) : Nat → Nat := aCt (aPs b S) (aKd (S 1))
def aMid (T : Nat → Nat) (sc : Nat) (hd : Nat → Int32) (sy : Nat → Nat → Nat) (b : Nat) (S : Nat → Nat) : Nat → Nat := if S 1 = 0 then aHu T (aP1 b S) else if S 6 = 1 then aHd T (aP1 b S) else aLd T sc hd sy b (aP1 b S)
def aSt (T : Nat → Nat) (sc : Nat) (hd : Nat → Int32) (sy : Nat → Nat → Nat) (b : Nat) (S : Nat → Nat) : Nat → Nat := aWt T (S 1) (aMid T sc hd sy b S)
/-- 0 where the bit isn't taken as LOAD, else one more than what it is DESCRAMBLED to -/
def aPl (b : Nat) (S : Nat → Nat) : Nat := if S 1 ≠ 0 ∧ S 6 = 0 then aPn b S + 1 else 0
def aSe (v w : Int32) (b : Nat) (S : Nat → Nat) (a : Nat → Int32) : Nat → Int32 := if v = w ∧ S 1 ≠ 0 ∧ S 6 = 0 then upd a (S 0) (nI (aPl b S)) else a
theorem aKd_lt (x : Nat) : aKd x < 14 := by
  unfold aKd
  by_cases c : x = 0
  · rw [if_pos c]; decide
  · rw [if_neg c]
    by_cases d : x = 1
    · rw [if_pos d]; decide
    · rw [if_neg d]; decide
theorem aP1_at (b : Nat) (S : Nat → Nat) {j : Nat} (h : j < 13 ∨ 27 ≤ j) : aP1 b S j = aPs b S j := by
  have := aKd_lt (S 1)
  unfold aP1 aCt
  rw [su_n (by omega)]
theorem aPs_at (b : Nat) (S : Nat → Nat) {j : Nat} (h : j ≠ 0 ∧ j ≠ 27 ∧ j ≠ 28 ∧ j ≠ 5) : aPs b S j = S j := by
  unfold aPs
  rw [su_n h.2.2.2, su_n h.2.2.1, su_n h.2.1, su_n h.1]
theorem aP1_c (b : Nat) (S : Nat → Nat) {k : Nat} (h : k < 14) : aP1 b S (13 + k) = if k = aKd (S 1) then S (13 + k) + 1 else S (13 + k) := by
  unfold aP1 aCt
  by_cases c : k = aKd (S 1)
  · rw [if_pos c, ← c, su_s, aPs_at _ _ (by omega)]
  · rw [if_neg c, su_n (by omega), aPs_at _ _ (by omega)]
