/-! THE INVARIANT between the class's variables and the model's, and the first methods. -/
def b2i (b : Bool) : Int32 := if b then 1 else 0
/-- a byte as the class holds it -/
def sb (y : Nat) : Int32 := (nI y).toInt8.toInt32
/-- terms: the same on both sides, within their bounds -/
def iT (T : Nat → Nat) (a1 a45 : Nat → Int32) : Prop := (∀ k, k < 7 → a1 k = nI (T k) ∧ a45 k = nI (T k)) ∧ (4 ≤ T 0 ∧ T 0 ≤ 48) ∧ (1 ≤ T 1 ∧ T 1 ≤ 15) ∧ (1 ≤ T 2 ∧ T 2 ≤ 15) ∧ T 3 ≤ 1 ∧ (40 ≤ T 4 ∧ T 4 ≤ 4000) ∧ T 5 ≤ 1 ∧ (1 ≤ T 6 ∧ T 6 ≤ 8)
/-- the line: its length, how many were taken, its bits -/
def iL (sz at_ : Nat) (bt : Nat → Bool) (o2 a3 o44 a48 a51 : Nat → Int32) : Prop := o2 1 = nI sz ∧ o2 2 = nI at_ ∧ o44 6 = nI sz ∧ a51 0 = nI at_ ∧ at_ ≤ sz ∧ sz ≤ 9600 ∧ ∀ j, j < sz → a3 j = b2i (bt j) ∧ a48 j = b2i (bt j)
/-- 43 bits: in one long, and in two ints -/
def i43 (h : Nat) (j : Int64) (e l : Int32) : Prop := h < 2 ^ 43 ∧ j = lN h ∧ e = nI (h / 2 ^ 32) ∧ l = nI h
/-- the sender -/
def iS (T0 sc hs : Nat) (hd : Nat → Int32) (sy : Nat → Nat → Nat) (o4 : Nat → Int32) (j5 : Int64) (a6 a7 o44 a49 : Nat → Int32) : Prop := o4 3 = nI sc ∧ o44 7 = nI sc ∧ sc ≤ 64 ∧ i43 hs j5 (o44 8) (o44 9) ∧ ∀ s, s < sc → a6 s = hd s ∧ a49 (50 * s) = hd s ∧ a49 (50 * s + 1) = nI T0 ∧ ∀ i, i < T0 → sy s i < 256 ∧ a7 (48 * s + i) = sb (sy s i) ∧ a49 (50 * s + 2 + i) = nI (sy s i)
/-- times x, by x to the 8th, x squared, x and 1; what is left of the lowest k bits of w -/
def tx (r : Nat) : Nat := if 128 ≤ r then (2 * r) ^^^ 263 else 2 * r
def rmod : Nat → Nat → Nat
  | 0, _ => 0
  | k + 1, w => tx (rmod k (w / 2)) ^^^ (w % 2)
/-- the receiver: its numbers st (state), rg (right), wg (wrong), md (mode), gd (good), am (alarm), sl (still), hu (hunted), sp (spot), tk (taken), w (the last 40 bits), h (43 bits of load), cn (counts), lb (bytes of load), pb (the model's byte register) -/
def iR (T0 B st rg wg md gd am sl hu sp tk w h : Nat) (cn lb : Nat → Nat) (pb : Nat) (o a ow : Nat → Int32) (jw jh : Int64) (ald r : Nat → Int32) : Prop :=
  (o 7 = nI st ∧ r 1 = nI st ∧ st ≤ 2) ∧ (o 8 = nI rg ∧ r 2 = nI rg ∧ rg ≤ tk) ∧ (o 9 = nI wg ∧ r 3 = nI wg ∧ wg ≤ tk) ∧ (o 10 = nI md ∧ r 4 = nI md ∧ md ≤ 1) ∧ (o 11 = nI gd ∧ gd ≤ 1) ∧ (o 12 = nI am ∧ r 873 = nI am ∧ am ≤ 1) ∧ (o 13 = nI sl ∧ r 872 = nI sl ∧ sl ≤ tk) ∧ (o 14 = nI hu ∧ r 874 = nI hu ∧ hu ≤ tk) ∧
  (o 15 = nI sp ∧ sp < 8 * T0 + 40 ∧ (st = 0 → sp = 0 ∧ gd = 0)) ∧ (sp < 8 * T0 → r 6 = 0 ∧ r 7 = nI sp ∧ r 8 = 0 ∧ r 9 = nI gd) ∧ (8 * T0 ≤ sp → r 6 = 1 ∧ r 7 = 0 ∧ r 8 = nI (sp - 8 * T0) ∧ gd = 0) ∧ (gd = 1 → o 16 = r 11 ∧ o 17 = r 10 ∧ o 18 = r 12) ∧
  (ow 2 = nI tk ∧ r 5 = nI tk ∧ tk ≤ B) ∧ (w < 2 ^ 40 ∧ jw = lN w ∧ ow 1 = nI (rmod 40 w) ∧ r 27 = nI (w / 256) ∧ r 28 = nI (w % 256)) ∧ i43 h jh (r 29) (r 30) ∧
  (∀ k, k < 14 → a k = nI (cn k) ∧ r (13 + k) = nI (cn k) ∧ cn k ≤ tk) ∧ (∀ i, i < 48 → lb i < 256 ∧ ald i = sb (lb i)) ∧ (r 31 = nI pb ∧ pb < 256) ∧ (sp < 8 * T0 → (∀ i, i < sp / 8 → r (32 + i) = nI (lb i)) ∧ lb (sp / 8) % 2 ^ (sp % 8) = pb % 2 ^ (sp % 8))
/-- what the receiver keeps -/
def iG (T0 : Nat) (cn : Nat → Nat) (gy : Nat → Nat → Nat) (o9 a10 o11 a12 o13 a14 a15 r : Nat → Int32) : Prop :=
  (o9 0 = 12 ∧ o9 2 = nI (cn 3) ∧ o9 3 = nI (cn 3 % 12)) ∧ (o11 0 = 24 ∧ o11 2 = nI (cn 7) ∧ o11 3 = nI (cn 7 % 24)) ∧ (o13 0 = 32 ∧ o13 2 = nI (cn 8) ∧ o13 3 = nI (cn 8 % 32)) ∧
  (∀ s, s < 12 → s < cn 3 → a10 (3 * s) = r (80 + 52 * s) ∧ a10 (3 * s + 1) = r (80 + 52 * s + 1) ∧ a10 (3 * s + 2) = r (80 + 52 * s + 2) ∧ r (80 + 52 * s + 3) = nI T0 ∧ ∀ i, i < T0 → gy s i < 256 ∧ a15 (48 * s + i) = sb (gy s i) ∧ r (80 + 52 * s + 4 + i) = nI (gy s i)) ∧
  (∀ s c, s < 24 → s < cn 7 → c < 3 → a12 (3 * s + c) = r (704 + 3 * s + c)) ∧ (∀ s c, s < 32 → s < cn 8 → c < 3 → a14 (3 * s + c) = r (776 + 3 * s + c))
theorem lgc_lt (a b : Int64) : lg_cmp a b < 0 ↔ a < b := by
  unfold lg_cmp
  by_cases h1 : b < a
  · rw [if_pos h1]
    exact ⟨fun h => absurd h (by decide), fun h => absurd h1 (lg_lt_not h)⟩
  · rw [if_neg h1]
    by_cases h2 : a = b
    · rw [if_pos h2]
      subst h2
      exact ⟨fun h => absurd h (by decide), fun h => absurd h h1⟩
    · rw [if_neg h2]
      refine ⟨fun _ => ?_, fun _ => by decide⟩
      rw [Int64.lt_iff_toInt_lt] at h1 ⊢
      have h3 : a.toInt ≠ b.toInt := fun e => h2 (Int64.toInt_inj.mp e)
      omega
theorem lgc_gt (a b : Int64) : 0 < lg_cmp a b ↔ b < a := by
  unfold lg_cmp
  by_cases h1 : b < a
  · rw [if_pos h1]
    exact ⟨fun _ => h1, fun _ => by decide⟩
  · rw [if_neg h1]
    by_cases h2 : a = b
    · rw [if_pos h2]
      exact ⟨fun h => absurd h (by decide), fun h => absurd h h1⟩
    · rw [if_neg h2]
      exact ⟨fun h => absurd h (by decide), fun h => absurd h h1⟩
theorem i2l_lt (a b : Int32) : a.toInt64 < b.toInt64 ↔ a < b := by
  rw [Int64.lt_iff_toInt_lt, Int32.lt_iff_toInt_lt, Int32.toInt_toInt64, Int32.toInt_toInt64]
/-- both tests of bounds say the same -/
theorem isIn_is (x lo hi : Int32) : f_X12_isIn x.toInt64 lo.toInt64 hi.toInt64 = f_X11_isWithin x lo hi := by
  unfold f_X12_isIn f_X11_isWithin
  simp only [lgc_lt, lgc_gt, i2l_lt]
theorem isW (x lo hi : Int32) : f_X11_isWithin x lo hi = some (if lo ≤ x ∧ x ≤ hi then 1 else 0) := by
  unfold f_X11_isWithin
  by_cases h1 : x < lo
  · rw [if_pos h1, if_neg]
    rintro ⟨h2, -⟩
    exact absurd h1 (Int32.not_lt.mpr h2)
  · rw [if_neg h1]
    by_cases h2 : hi < x
    · rw [if_pos h2, if_neg]
      rintro ⟨-, h3⟩
      exact absurd h2 (Int32.not_lt.mpr h3)
    · rw [if_neg h2, if_pos ⟨Int32.not_lt.mp h1, Int32.not_lt.mp h2⟩]
theorem xin_nI {k N : Nat} (hk : k < 2 ^ 31) : xin (nI k) N = decide (k < N) := by
  unfold xin
  rw [nI_clamp hk]
  have : ¬ nI k < 0 := nI_pos hk
  simp [this]
