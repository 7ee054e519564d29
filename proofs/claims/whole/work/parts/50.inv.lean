/-! THE INVARIANT between the class's variables and the model's, and the first methods. -/
def b2i (b : Bool) : Int32 := if b then 1 else 0
/-- a byte as the class holds it -/
def sb (y : Nat) : Int32 := (nI y).toInt8.toInt32
/-- terms: the same on both sides, within their bounds -/
def iT (T : Nat → Nat) (a1 a45 : Nat → Int32) : Prop := (∀ k, k < 7 → a1 k = nI (T k) ∧ a45 k = nI (T k)) ∧ (4 ≤ T 0 ∧ T 0 ≤ 48) ∧ (1 ≤ T 1 ∧ T 1 ≤ 15) ∧ (1 ≤ T 2 ∧ T 2 ≤ 15) ∧ T 3 ≤ 1 ∧ (40 ≤ T 4 ∧ T 4 ≤ 4000) ∧ T 5 ≤ 1 ∧ (1 ≤ T 6 ∧ T 6 ≤ 8)
/-- the line: its length, how many were taken, its bits -/
def iL (sz at_ : Nat) (bt : Nat → Bool) (o2 a3 o44 a48 a51 : Nat → Int32) : Prop := o2 1 = nI sz ∧ o2 2 = nI at_ ∧ o44 6 = nI sz ∧ a51 0 = nI at_ ∧ at_ ≤ sz ∧ sz ≤ 9600 ∧ ∀ j, j < sz → a3 j = b2i (bt j) ∧ a48 j = b2i (bt j)
/-- 43 bits: in one long, and in two ints -/
def i43 (h : Nat) (j : Int64) (e l : Int32) : Prop := h < 2 ^ 43 ∧ j = lN h ∧ e = nI (h / 2 ^ 32) ∧ l = nI h
/-- the sender -/
def iS (T0 sc hs : Nat) (hd : Nat → Int32) (sy : Nat → Nat → Nat) (o4 : Nat → Int32) (j5 : Int64) (a6 a7 o44 a49 : Nat → Int32) : Prop := o4 3 = nI sc ∧ o44 7 = nI sc ∧ sc ≤ 64 ∧ i43 hs j5 (o44 8) (o44 9) ∧ ∀ s, s < sc → a6 s = hd s ∧ a49 (50 * s) = hd s ∧ a49 (50 * s + 1) = nI T0 ∧ ∀ i, i < T0 → sy s i < 256 ∧ a7 (48 * s + i) = sb (sy s i) ∧ a49 (50 * s + 2 + i) = nI (sy s i)
/-- times x, by x to the 8th, x squared, x and 1; what is left of the lowest k bits of w -/
def tx (r : Nat) : Nat := if 128 ≤ r then (2 * r) ^^^ 263 else 2 * r
def rmod : Nat → Nat → Nat
  | 0, _ => 0
  | k + 1, w => tx (rmod k (w / 2)) ^^^ (w % 2)
/-- THE RECEIVER ON PAPER: a row S of numbers, by the model's places: 0 AT, 1 STATE, 2 RIGHT, 3 WRONG, 4 MODE, 5 TAKEN, 6 in a head, 7 loaded, 8 headed, 9 GOOD, 10 mended, 11 HEADER, 12 place, 13.. counts, 27 and 28 the last 40 bits, 29 and 30 the 43 bits, 31 the byte, 32.. the load, 80.. the cells, 704.. the turns, 776.. the judged, 872 STILL, 873 ALARM, 874 hunted -/
def sn (S : Nat → Nat) : Nat → Int32 := fun k => nI (S k)
def su (S : Nat → Nat) (k v : Nat) : Nat → Nat := fun j => if j = k then v else S j
/-- its bounds -/
def lw (T0 m : Nat) (S : Nat → Nat) : Prop :=
  (S 1 ≤ 2 ∧ S 2 ≤ m ∧ S 3 ≤ m ∧ S 4 ≤ 1 ∧ S 873 ≤ 1 ∧ S 872 ≤ m ∧ S 874 ≤ m) ∧
  S 6 ≤ 1 ∧ S 9 ≤ 1 ∧ S 10 ≤ 1 ∧ S 8 < 40 ∧ S 7 < 8 * T0 ∧ (S 6 = 1 → S 7 = 0) ∧ (S 6 = 0 → S 8 = 0) ∧ (S 1 = 0 → S 6 = 0 ∧ S 7 = 0 ∧ S 9 = 0)
def hb (S : Nat → Nat) : Prop := (S 27 < 2 ^ 32 ∧ S 28 < 256 ∧ S 29 < 2 ^ 11 ∧ S 30 < 2 ^ 32 ∧ S 31 < 256) ∧ (∀ i, i < 48 → S (32 + i) < 256) ∧ (∀ s i, s < 12 → i < 48 → S (80 + 52 * s + 4 + i) < 256)
def bC (m : Nat) (S : Nat → Nat) : Prop := ∀ k, k < 14 → S (13 + k) ≤ m
def aW (T0 B : Nat) (S : Nat → Nat) : Prop := lw T0 (S 5) S ∧ S 5 ≤ B ∧ hb S ∧ bC (8 * S 5) S
/-- the class's receiver is as S: its numbers, its counts, its window, its load -/
def cO (T0 : Nat) (S : Nat → Nat) (o : Nat → Int32) : Prop :=
  (o 7 = nI (S 1) ∧ o 8 = nI (S 2) ∧ o 9 = nI (S 3) ∧ o 10 = nI (S 4) ∧ o 12 = nI (S 873) ∧ o 13 = nI (S 872) ∧ o 14 = nI (S 874)) ∧
  (S 6 = 0 → o 15 = nI (S 7) ∧ o 11 = nI (S 9) ∧ (S 9 = 1 → o 16 = nI (S 11) ∧ o 17 = nI (S 10) ∧ o 18 = nI (S 12))) ∧ (S 6 = 1 → o 15 = nI (8 * T0 + S 8) ∧ o 11 = 0)
def cC (c : Nat → Nat) (a : Nat → Int32) : Prop := ∀ k, k < 14 → a k = nI (c k)
def cV (S : Nat → Nat) (ow : Nat → Int32) (jw : Int64) : Prop := ow 1 = nI (rmod 40 (S 27 * 256 + S 28)) ∧ ow 2 = nI (S 5) ∧ jw = lN (S 27 * 256 + S 28)
def cY (S : Nat → Nat) (ald : Nat → Int32) : Prop := ∃ ly : Nat → Nat, (∀ i, i < 48 → ly i < 256 ∧ ald i = sb (ly i)) ∧ (S 6 = 0 → (∀ i, i < S 7 / 8 → ly i = S (32 + i)) ∧ ly (S 7 / 8) % 2 ^ (S 7 % 8) = S 31 % 2 ^ (S 7 % 8))
def cR (T0 : Nat) (S : Nat → Nat) (o a ow : Nat → Int32) (jw jh : Int64) (ald : Nat → Int32) : Prop := cO T0 S o ∧ cC (fun k => S (13 + k)) a ∧ cV S ow jw ∧ jh = lN (S 29 * 2 ^ 32 + S 30) ∧ cY S ald
/-- what the class's receiver keeps -/
def gC (T0 : Nat) (S : Nat → Nat) (o9 a10 a15 : Nat → Int32) : Prop := (o9 0 = 12 ∧ o9 2 = nI (S 16) ∧ o9 3 = nI (S 16 % 12)) ∧ ∀ s, s < 12 → s < S 16 → a10 (3 * s) = nI (S (80 + 52 * s)) ∧ a10 (3 * s + 1) = nI (S (80 + 52 * s + 1)) ∧ a10 (3 * s + 2) = nI (S (80 + 52 * s + 2)) ∧ S (80 + 52 * s + 3) = T0 ∧ ∀ i, i < T0 → a15 (48 * s + i) = sb (S (80 + 52 * s + 4 + i))
def gT (S : Nat → Nat) (o11 a12 : Nat → Int32) : Prop := (o11 0 = 24 ∧ o11 2 = nI (S 20) ∧ o11 3 = nI (S 20 % 24)) ∧ ∀ s c, s < 24 → s < S 20 → c < 3 → a12 (3 * s + c) = nI (S (704 + 3 * s + c))
def gJ (S : Nat → Nat) (o13 a14 : Nat → Int32) : Prop := (o13 0 = 32 ∧ o13 2 = nI (S 21) ∧ o13 3 = nI (S 21 % 32)) ∧ ∀ s c, s < 32 → s < S 21 → c < 3 → a14 (3 * s + c) = nI (S (776 + 3 * s + c))
def cG (T0 : Nat) (S : Nat → Nat) (o9 a10 o11 a12 o13 a14 a15 : Nat → Int32) : Prop := gC T0 S o9 a10 a15 ∧ gT S o11 a12 ∧ gJ S o13 a14
theorem lgc_lt (a b : Int64) : lg_cmp a b < 0 ↔ a < b := by
  unfold lg_cmp
  by_cases h1 : b < a
  · rw [if_pos h1]
    exact ⟨fun h => absurd h (by decide), fun h => absurd h1 (lg_lt_not h)⟩
  · rw [if_neg h1]
    by_cases h2 : a = b
    · rw [if_pos h2]
      subst h2
      exact ⟨fun h => absurd h (by decide), fun h => absurd h h1⟩
    · rw [if_neg h2]
      refine ⟨fun _ => ?_, fun _ => by decide⟩
      rw [Int64.lt_iff_toInt_lt] at h1 ⊢
      have h3 : a.toInt ≠ b.toInt := fun e => h2 (Int64.toInt_inj.mp e)
      omega
theorem lgc_gt (a b : Int64) : 0 < lg_cmp a b ↔ b < a := by
  unfold lg_cmp
  by_cases h1 : b < a
  · rw [if_pos h1]
    exact ⟨fun _ => h1, fun _ => by decide⟩
  · rw [if_neg h1]
    by_cases h2 : a = b
    · rw [if_pos h2]
      exact ⟨fun h => absurd h (by decide), fun h => absurd h h1⟩
    · rw [if_neg h2]
      exact ⟨fun h => absurd h (by decide), fun h => absurd h h1⟩
theorem i2l_lt (a b : Int32) : a.toInt64 < b.toInt64 ↔ a < b := by
  rw [Int64.lt_iff_toInt_lt, Int32.lt_iff_toInt_lt, Int32.toInt_toInt64, Int32.toInt_toInt64]
/-- both tests of bounds say the same -/
theorem isIn_is (x lo hi : Int32) : f_X12_isIn x.toInt64 lo.toInt64 hi.toInt64 = f_X11_isWithin x lo hi := by
  unfold f_X12_isIn f_X11_isWithin
  simp only [lgc_lt, lgc_gt, i2l_lt]
theorem isW (x lo hi : Int32) : f_X11_isWithin x lo hi = some (if lo ≤ x ∧ x ≤ hi then 1 else 0) := by
  unfold f_X11_isWithin
  by_cases h1 : x < lo
  · rw [if_pos h1, if_neg]
    rintro ⟨h2, -⟩
    exact absurd h1 (Int32.not_lt.mpr h2)
  · rw [if_neg h1]
    by_cases h2 : hi < x
    · rw [if_pos h2, if_neg]
      rintro ⟨-, h3⟩
      exact absurd h2 (Int32.not_lt.mpr h3)
    · rw [if_neg h2, if_pos ⟨Int32.not_lt.mp h1, Int32.not_lt.mp h2⟩]
theorem xin_nI {k N : Nat} (hk : k < 2 ^ 31) : xin (nI k) N = decide (k < N) := by
  unfold xin
  rw [nI_clamp hk]
  have : ¬ nI k < 0 := nI_pos hk
  simp [this]
/-- x to the k-th, by the divisor -/
def pw : Nat → Nat
  | 0 => 1
  | k + 1 => tx (pw k)
/-- what stays as it was made -/
def iC (o44 a36 a46 a47 : Nat → Int32) : Prop := o44 15 = 0 ∧ (∀ k, k < 7 → a46 k = xsf 0 k ∧ a47 k = xsf 1 k) ∧ ∀ j, j < 40 → a36 j = nI (pw (39 - j))
/-- words counted, or not yet: on each side. wn w s: how many rows of 40 bits of weight w have the syndrome s, by bits one after the other -/
def wn : Nat → Nat → Nat → Nat
  | 0, w, s => if w = 0 ∧ s = 0 then 1 else 0
  | k + 1, w, s => wn k w s + if w = 0 then 0 else wn k (w - 1) (s ^^^ pw k)
def iW (o38 : Nat → Int32) (a39 : Nat → Int64) (a41 : Nat → Int32) (a57 : Nat → Int64) : Prop := ((o38 3 = 0 ∧ (∀ k, k < 41 → a39 k = 0) ∧ ∀ k, k < 41 → a41 k = 0) ∨ (o38 3 = 1 ∧ ∀ k, k < 41 → a39 k = lN (wn 40 k 0))) ∧ ((∀ j, j < 10496 → a57 j = 0) ∨ (∀ k s, k < 41 → s < 256 → a57 (256 * k + s) = lN (wn 40 k s)))
