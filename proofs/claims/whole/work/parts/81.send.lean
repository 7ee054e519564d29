/-! the SENDER -/
/-- bits of a byte scrambled, the highest of m first: the 43 bits behind it, what came of it -/
def scB (y : Nat) : Nat → Nat → Nat → Nat × Nat
  | 0, h, o => (h, o)
  | m + 1, h, o => scB y m ((2 * h + ((y / 2 ^ m % 2) ^^^ (h / 2 ^ 42))) % 2 ^ 43) (2 * o + ((y / 2 ^ m % 2) ^^^ (h / 2 ^ 42)))
theorem sb_bit : ∀ y, y < 256 → ∀ k, k < 8 → (sb y).toBitVec.toNat / 2 ^ k % 2 = y / 2 ^ k % 2 := by decide +kernel
theorem xb_lt {y m h : Nat} (hh : h < 2 ^ 43) : (y / 2 ^ m % 2) ^^^ (h / 2 ^ 42) < 2 := xor2_lt (Nat.mod_lt _ (by decide)) (by omega)
theorem scB_lt (y : Nat) : ∀ m h o, h < 2 ^ 43 → (scB y m h o).1 < 2 ^ 43 ∧ (scB y m h o).2 < 2 ^ m * (o + 1) := by
  intro m
  induction m with
  | zero => intro h o hh; exact ⟨hh, by show o < 2 ^ 0 * (o + 1); rw [Nat.pow_zero]; omega⟩
  | succ m ih =>
    intro h o hh
    have hx := xb_lt (y := y) (m := m) hh
    obtain ⟨h1, h2⟩ := ih ((2 * h + ((y / 2 ^ m % 2) ^^^ (h / 2 ^ 42))) % 2 ^ 43) (2 * o + ((y / 2 ^ m % 2) ^^^ (h / 2 ^ 42))) (Nat.mod_lt _ (by decide))
    refine ⟨h1, Nat.lt_of_lt_of_le h2 ?_⟩
    rw [show 2 ^ (m + 1) * (o + 1) = 2 ^ m * (2 * (o + 1)) by rw [Nat.pow_succ 2 m, Nat.mul_assoc]]
    exact Nat.mul_le_mul_left _ (by omega)
theorem old_is {h : Nat} (hh : h < 2 ^ 43) : Int64.toInt32 (xul (lN h) 42) = nI (h / 2 ^ 42) := by
  rw [show xul (lN h) 42 = lN (h / 2 ^ 42) from xul_is (k := 42) (by omega) (by decide), lN_i]
theorem c_scr {n : Nat} (hn : 40 ≤ n) (o4 : Nat → Int32) {y h : Nat} (hy : y < 256) (hh : h < 2 ^ 43) : f_X8_scrambled_4 n o4 (lN h) (sb y) = some (nI (scB y 8 h 0).2, lN (scB y 8 h 0).1) := by
  have loop : ∀ (m k h o : Nat), m ≤ 8 → m < k → h < 2 ^ 43 → ∃ l, l_X8_scrambled_4_5 n o4 (sb y) k (nI o) (nI m - 1) (lN h) = some (nI (scB y m h o).2, l, lN (scB y m h o).1) := by
    intro m
    induction m with
    | zero =>
      intro k h o _ hk hh
      obtain ⟨k, rfl⟩ : ∃ q, k = q + 1 := ⟨k - 1, by omega⟩
      rw [l_X8_scrambled_4_5, if_pos (by decide)]
      exact ⟨_, rfl⟩
    | succ m ih =>
      intro k h o hm hk hh
      obtain ⟨k, rfl⟩ : ∃ q, k = q + 1 := ⟨k - 1, by omega⟩
      have hx := xb_lt (y := y) (m := m) hh
      rw [l_X8_scrambled_4_5, nI_pred, if_neg (nI_pos (by omega))]
      unfold f_X2_oldest_5 f_X2_push_5
      rw [Option.bind_some, Option.bind_some, old_is hh, bit_is _ (by omega), sb_bit y hy m (by omega), nI_xor, his_j hx, nI_shor hx, show nI m + (-1) = nI m - 1 from (Int32.sub_eq_add_neg _ _).symm]
      exact ih k _ _ (by omega) (by omega) (Nat.mod_lt _ (by decide))
  unfold f_X8_scrambled_4
  obtain ⟨l, e⟩ := loop 8 n h 0 (by decide) (by omega) hh
  have e' : l_X8_scrambled_4_5 n o4 (sb y) n 0 7 (lN h) = some (nI (scB y 8 h 0).2, l, lN (scB y 8 h 0).1) := e
  rw [e', Option.bind_some]
/-- the model's numbers, but for those of line and sender -/
def fr4 (o44 o44' : Nat → Int32) : Prop := ∀ j, j ≠ 6 → j ≠ 7 → j ≠ 8 → j ≠ 9 → o44' j = o44 j
theorem m_scr1 (o44 a48 : Nat → Int32) {z h b : Nat} (hb : b < 2) (hz : z < 9600) (hh : h < 2 ^ 43) (h6 : o44 6 = nI z) (h8 : o44 8 = nI (h / 2 ^ 32)) (h9 : o44 9 = nI h) : ∃ o44', f_X12_scrambles_44 o44 a48 (nI b) = some (o44', upd a48 z (nI (b ^^^ (h / 2 ^ 42)))) ∧ o44' 6 = nI (z + 1) ∧ o44' 8 = nI ((2 * h + (b ^^^ (h / 2 ^ 42))) % 2 ^ 43 / 2 ^ 32) ∧ o44' 9 = nI ((2 * h + (b ^^^ (h / 2 ^ 42))) % 2 ^ 43) ∧ o44' 7 = o44 7 ∧ fr4 o44 o44' := by
  have hx : b ^^^ (h / 2 ^ 42) < 2 := xor2_lt hb (by omega)
  have e1 : nI b ^^^ ((nI (h / 2 ^ 32) >>> (10 &&& 31)) &&& 1) = nI (b ^^^ (h / 2 ^ 42)) := by
    rw [nI_shr10 (by omega), nI_and1, nI_xor, show h / 2 ^ 32 / 1024 % 2 = h / 2 ^ 42 by omega]
  have e2 : ((nI (h / 2 ^ 32) <<< (1 &&& 31)) ||| xus (nI h) 31) &&& 2047 = nI ((2 * h + (b ^^^ (h / 2 ^ 42))) % 2 ^ 43 / 2 ^ 32) := by
    rw [← nI_mod h, nI_us31 (Nat.mod_lt _ (by decide)), nI_shor (by omega), nI_and11]
    congr 1
    omega
  have e3 : (nI h <<< (1 &&& 31)) ||| nI (b ^^^ (h / 2 ^ 42)) = nI ((2 * h + (b ^^^ (h / 2 ^ 42))) % 2 ^ 43) := by
    rw [nI_shor hx, ← nI_mod (2 * h + _), ← nI_mod ((2 * h + _) % 2 ^ 43)]
    congr 1
    omega
  unfold f_X12_scrambles_44 f_X12_lays_44
  rw [h8, h9, e1, e2, e3]
  have e6 : upd (upd o44 8 (nI ((2 * h + (b ^^^ (h / 2 ^ 42))) % 2 ^ 43 / 2 ^ 32))) 9 (nI ((2 * h + (b ^^^ (h / 2 ^ 42))) % 2 ^ 43)) 6 = nI z := h6
  rw [e6, xin_t hz (by decide), cond_true, nI_clamp (by omega), Option.bind_some, nI_1]
  exact ⟨_, rfl, rfl, rfl, rfl, rfl, fun j h1 h2 h3 h4 => by
    show upd (upd (upd o44 8 _) 9 _) 6 _ j = o44 j
    rw [pk_un h1, pk_un h4, pk_un h3]⟩
theorem m_scr {n : Nat} (hn : 40 ≤ n) (a45 a49 : Nat → Int32) (o44 a48 : Nat → Int32) {z h y at_ i : Nat} (hy : y < 256) (hz : z + 8 ≤ 9600) (hh : h < 2 ^ 43) (hat : at_ + 2 + i < 3200) (ea : a49 (at_ + 2 + i) = nI y) (h6 : o44 6 = nI z) (h8 : o44 8 = nI (h / 2 ^ 32)) (h9 : o44 9 = nI h) : ∃ l o44', l_X12_sends_44_62 n a45 a49 (nI at_) (nI i) n 7 o44 a48 = some (l, o44', wr a48 z 8 (vb (nI (scB y 8 h 0).2) 8)) ∧ o44' 6 = nI (z + 8) ∧ o44' 8 = nI ((scB y 8 h 0).1 / 2 ^ 32) ∧ o44' 9 = nI (scB y 8 h 0).1 ∧ o44' 7 = o44 7 ∧ fr4 o44 o44' := by
  have loop : ∀ (m k q h o : Nat) (o44 : Nat → Int32), q + m = 8 → m < k → h < 2 ^ 43 → o44 6 = nI (z + q) → o44 8 = nI (h / 2 ^ 32) → o44 9 = nI h → ∃ l o44', l_X12_sends_44_62 n a45 a49 (nI at_) (nI i) k (nI m - 1) o44 (wr a48 z q (fun x => b2i (Nat.testBit o (q - 1 - x)))) = some (l, o44', wr a48 z 8 (fun x => b2i (Nat.testBit (scB y m h o).2 (8 - 1 - x)))) ∧ o44' 6 = nI (z + 8) ∧ o44' 8 = nI ((scB y m h o).1 / 2 ^ 32) ∧ o44' 9 = nI (scB y m h o).1 ∧ o44' 7 = o44 7 ∧ fr4 o44 o44' := by
    intro m
    induction m with
    | zero =>
      intro k q h o o44 hq hk hh g6 g8 g9
      obtain ⟨k, rfl⟩ : ∃ q, k = q + 1 := ⟨k - 1, by omega⟩
      rw [l_X12_sends_44_62, if_pos (by decide), show q = 8 by omega]
      exact ⟨_, _, rfl, by rw [g6, show q = 8 by omega], g8, g9, rfl, fun j _ _ _ _ => rfl⟩
    | succ m ih =>
      intro k q h o o44 hq hk hh g6 g8 g9
      obtain ⟨k, rfl⟩ : ∃ q, k = q + 1 := ⟨k - 1, by omega⟩
      have hm7 : m ≤ 7 := by omega
      have hx := xb_lt (y := y) (m := m) hh
      have es : (nI y >>> (nI m &&& 31)) &&& 1 = nI (y / 2 ^ m % 2) := by
        have hs : ∀ m, m ≤ 7 → ((nI m &&& 31).toBitVec.smod 32).toNat = m := by decide +kernel
        rw [pk_shrN (by omega) _ m (hs m hm7), nI_and1]
      rw [l_X12_sends_44_62, nI_pred, if_neg (nI_pos (by omega)), show nI at_ + 2 = nI (at_ + 2) from nI_add at_ 2, nI_add, xin_t hat (by decide), cond_true, nI_clamp (by omega), ea, es]
      obtain ⟨o44', e1, e2, e3, e4, e5, e6⟩ := m_scr1 o44 (wr a48 z q (fun x => b2i (Nat.testBit o (q - 1 - x)))) (b := y / 2 ^ m % 2) (Nat.mod_lt _ (by decide)) (show z + q < 9600 by omega) hh g6 g8 g9
      rw [e1, Option.bind_some, show nI m + (-1) = nI m - 1 from (Int32.sub_eq_add_neg _ _).symm]
      have ew : upd (wr a48 z q (fun x => b2i (Nat.testBit o (q - 1 - x)))) (z + q) (nI ((y / 2 ^ m % 2) ^^^ (h / 2 ^ 42))) = wr a48 z (q + 1) (fun x => b2i (Nat.testBit (2 * o + ((y / 2 ^ m % 2) ^^^ (h / 2 ^ 42))) (q + 1 - 1 - x))) := by
        funext j
        unfold upd wr
        by_cases c : j = z + q
        · rw [if_pos c, if_pos ⟨by omega, by omega⟩]
          show _ = b2i ((2 * o + (y / 2 ^ m % 2 ^^^ h / 2 ^ 42)).testBit (q + 1 - 1 - (j - z)))
          rw [show q + 1 - 1 - (j - z) = 0 by omega, Nat.testBit_zero]
          have hx2 : (y / 2 ^ m % 2) ^^^ (h / 2 ^ 42) = 0 ∨ (y / 2 ^ m % 2) ^^^ (h / 2 ^ 42) = 1 := by omega
          rcases hx2 with e | e
          · rw [e, show (2 * o + 0) % 2 = 0 by omega]; rfl
          · rw [e, show (2 * o + 1) % 2 = 1 by omega]; rfl
        · rw [if_neg c]
          by_cases d : z ≤ j ∧ j < z + q
          · rw [if_pos d, if_pos ⟨d.1, by omega⟩]
            show b2i (o.testBit (q - 1 - (j - z))) = b2i ((2 * o + (y / 2 ^ m % 2 ^^^ h / 2 ^ 42)).testBit (q + 1 - 1 - (j - z)))
            rw [show q + 1 - 1 - (j - z) = (q - 1 - (j - z)) + 1 by omega, Nat.testBit_succ, show (2 * o + ((y / 2 ^ m % 2) ^^^ (h / 2 ^ 42))) / 2 = o by omega]
          · rw [if_neg d, if_neg (fun w => d ⟨w.1, by omega⟩)]
      show ∃ l o44'', l_X12_sends_44_62 n a45 a49 (nI at_) (nI i) k (nI m - 1) o44' (upd (wr a48 z q (fun x => b2i (Nat.testBit o (q - 1 - x)))) (z + q) (nI ((y / 2 ^ m % 2) ^^^ (h / 2 ^ 42)))) = _ ∧ _
      rw [ew]
      obtain ⟨l, o44'', f1, f2, f3, f4, f5, f6⟩ := ih k (q + 1) _ (2 * o + ((y / 2 ^ m % 2) ^^^ (h / 2 ^ 42))) o44' (by omega) (by omega) (Nat.mod_lt _ (by decide)) (by rw [e2, Nat.add_assoc]) e3 e4
      exact ⟨l, o44'', f1, f2, f3, f4, f5.trans e5, fun j a b c d => (f6 j a b c d).trans (e6 j a b c d)⟩
  obtain ⟨l, o44', f1, f2⟩ := loop 8 n 0 h 0 o44 (by decide) (by omega) hh h6 h8 h9
  rw [wr_0] at f1
  have hl := (scB_lt y 8 h 0 hh).2
  have ev : (fun x => b2i (Nat.testBit (scB y 8 h 0).2 (8 - 1 - x))) = vb (nI (scB y 8 h 0).2) 8 := by
    funext x
    unfold vb tb
    rw [pk_tn (by omega)]
  rw [ev] at f1
  exact ⟨l, o44', f1, f2⟩
/-- all bytes of a LOAD -/
theorem k_loads {n : Nat} (hn : 100 ≤ n) {at_ sc T0 : Nat} (hsc : sc < 64) (hT : T0 ≤ 48) (o4 a6 a7 a45 a49 a51 : Nat → Int32) (hdr : Int32) (y : Nat → Nat) (e45 : a45 0 = nI T0) (hb : ∀ i, i < T0 → y i < 256 ∧ a7 (48 * sc + i) = sb (y i) ∧ a49 (50 * sc + 2 + i) = nI (y i)) : ∀ (m k1 k2 i sz h : Nat) (bt : Nat → Bool) (o2 a3 o44 a48 : Nat → Int32), i + m = T0 → m < k1 → m < k2 → sz + 8 * m ≤ 9600 → h < 2 ^ 43 → o44 8 = nI (h / 2 ^ 32) → o44 9 = nI h → iL sz at_ bt o2 a3 o44 a48 a51 → ∃ (l l' : Int32) (o2' a3' o44' a48' : Nat → Int32) (h' : Nat) (bt' : Nat → Bool), l_X8_putCell_4_2_42 n o4 a6 a7 hdr (nI T0) (nI (48 * sc)) k1 (nI i) o2 a3 (lN h) = some (l, o2', a3', lN h') ∧ l_X12_sends_44_48 n a45 a49 (nI (50 * sc)) k2 (nI i) o44 a48 = some (l', o44', a48') ∧ h' < 2 ^ 43 ∧ o44' 8 = nI (h' / 2 ^ 32) ∧ o44' 9 = nI h' ∧ o44' 7 = o44 7 ∧ fr4 o44 o44' ∧ iL (sz + 8 * m) at_ bt' o2' a3' o44' a48' a51 := by
  intro m
  induction m with
  | zero =>
    intro k1 k2 i sz h bt o2 a3 o44 a48 hi hk1 hk2 hz hh g8 g9 hL
    obtain ⟨k1, rfl⟩ : ∃ q, k1 = q + 1 := ⟨k1 - 1, by omega⟩
    obtain ⟨k2, rfl⟩ : ∃ q, k2 = q + 1 := ⟨k2 - 1, by omega⟩
    rw [l_X8_putCell_4_2_42, l_X12_sends_44_48, e45, if_pos (nI_le (by omega) (by omega)), if_pos (nI_le (by omega) (by omega))]
    exact ⟨_, _, _, _, _, _, h, bt, rfl, rfl, hh, g8, g9, rfl, fun j _ _ _ _ => rfl, hL⟩
  | succ m ih =>
    intro k1 k2 i sz h bt o2 a3 o44 a48 hi hk1 hk2 hz hh g8 g9 hL
    obtain ⟨k1, rfl⟩ : ∃ q, k1 = q + 1 := ⟨k1 - 1, by omega⟩
    obtain ⟨k2, rfl⟩ : ∃ q, k2 = q + 1 := ⟨k2 - 1, by omega⟩
    obtain ⟨w1, w2, w3⟩ := hb i (by omega)
    rw [l_X8_putCell_4_2_42, l_X12_sends_44_48, e45, if_neg (nI_ge (by omega) (by omega)), if_neg (nI_ge (by omega) (by omega)), nI_add (48 * sc) i, if_neg (show ¬ 3072 ≤ nI (48 * sc + i) from nI_ge (b := 3072) (by omega) (by decide)), xin_t (show 48 * sc + i < 3072 by omega) (by decide), cond_true, nI_clamp (by omega), w2, c_scr (by omega) o4 w1 hh, Option.bind_some]
    obtain ⟨l, o44', f1, f2, f3, f4, f5, f6⟩ := m_scr (n := n) (by omega) a45 a49 o44 a48 (at_ := 50 * sc) (i := i) w1 (show sz + 8 ≤ 9600 by omega) hh (by omega) w3 hL.2.2.1 g8 g9
    have ca := c_append (n := n) (by omega) (sz := sz) o2 a3 hL.1 8 (nI (scB (y i) 8 h 0).2) (by decide) (by omega)
    have ca' : f_X4_append_2 n o2 a3 8 (nI (scB (y i) 8 h 0).2) = some (upd o2 1 (nI (sz + 8)), wr a3 sz 8 (vb (nI (scB (y i) 8 h 0).2) 8)) := ca
    rw [f1, Option.bind_some]
    simp only []
    rw [ca', Option.bind_some, nI_1]
    have hL2 : iL (sz + 8) at_ (bA bt sz 8 (nI (scB (y i) 8 h 0).2)) (upd o2 1 (nI (sz + 8))) (wr a3 sz 8 (vb (nI (scB (y i) 8 h 0).2) 8)) o44' (wr a48 sz 8 (vb (nI (scB (y i) 8 h 0).2) 8)) a51 := by
      obtain ⟨q1, q2, q3, q4⟩ := iL_ap hL 8 (nI (scB (y i) 8 h 0).2) (by omega)
      exact ⟨q1, q2, f2, q4⟩
    obtain ⟨l1, l2, o2', a3', o44'', a48', h', bt', r1, r2, r3, r4, r5, r6, r7, r8⟩ := ih k1 k2 (i + 1) (sz + 8) (scB (y i) 8 h 0).1 _ _ _ o44' _ (by omega) (by omega) (by omega) (by omega) (scB_lt (y i) 8 h 0 hh).1 f3 f4 hL2
    refine ⟨l1, l2, o2', a3', o44'', a48', h', bt', r1, r2, r3, r4, r5, r6.trans f5, fun j a b c d => (r7 j a b c d).trans (f6 j a b c d), ?_⟩
    rw [show sz + 8 * (m + 1) = sz + 8 + 8 * m by omega]
    exact r8
/-- a CELL put on the line -/
theorem k_put {n : Nat} (hn : 100 ≤ n) {at_ sc T0 sz h : Nat} (hsc : sc < 64) (hT : T0 ≤ 48) {bt : Nat → Bool} (o2 a3 o4 a6 a7 o44 a45 a48 a49 a51 : Nat → Int32) (j5 : Int64) (hdr : Int32) (y : Nat → Nat) (e45 : a45 0 = nI T0) (h4 : o4 3 = nI sc) (h7 : o44 7 = nI sc) (h43 : i43 h j5 (o44 8) (o44 9)) (hL : iL sz at_ bt o2 a3 o44 a48 a51) (hz : sz + 40 + 8 * T0 ≤ 9600) (hb : ∀ i, i < T0 → y i < 256 ∧ a7 (48 * sc + i) = sb (y i) ∧ a49 (50 * sc + 2 + i) = nI (y i)) : ∃ (o2' a3' o44' a48' : Nat → Int32) (j5' : Int64) (h' : Nat) (bt' : Nat → Bool), f_X8_putCell_4_2 n o2 a3 o4 j5 a6 a7 hdr (nI T0) = some (o2', a3', upd o4 3 (nI (sc + 1)), j5', upd a6 sc hdr) ∧ f_X12_sends_44 n o44 a45 a48 a49 hdr = some (o44', a48', upd (upd a49 (50 * sc) hdr) (50 * sc + 1) (nI T0)) ∧ i43 h' j5' (o44' 8) (o44' 9) ∧ o44' 7 = nI (sc + 1) ∧ fr4 o44 o44' ∧ iL (sz + 40 + 8 * T0) at_ bt' o2' a3' o44' a48' a51 := by
  obtain ⟨g1, rfl, g3, g4⟩ := h43
  unfold f_X8_putCell_4_2 f_X12_sends_44
  rw [h4, h7, if_pos (show nI sc < 64 from nI_lt (b := 64) hsc (by decide)), show (50 : Int32) * nI sc = nI (50 * sc) from pk_mul 50 sc, nI_1, xin_t (show 50 * sc < 3200 by omega) (by decide), xin_t (show 50 * sc + 1 < 3200 by omega) (by decide), cond_true, cond_true, nI_clamp (by omega), nI_clamp (by omega), e45, show nI sc * 48 = nI (48 * sc) by rw [show (48 : Int32) = nI 48 from rfl, pk_mul, Nat.mul_comm]]
  obtain ⟨o2a, a3a, o44a, a48a, bta, e1, e2, hLa, ea⟩ := k_append (n := n) (by omega) hL 32 hdr 32 rfl (by decide) (by omega)
  rw [e1, e2, Option.bind_some, Option.bind_some, ofHeader_is (by omega), checkOf_is (by omega), Option.bind_some, Option.bind_some]
  obtain ⟨o2b, a3b, o44b, a48b, btb, e1, e2, hLb, eb⟩ := k_append (n := n) (by omega) hLa 8 (nI (chk hdr.toBitVec.toNat)) 8 rfl (by decide) (by omega)
  simp only []
  rw [e1, e2, Option.bind_some, Option.bind_some]
  obtain ⟨l, l', o2', a3', o44', a48', h', bt', r1, r2, r3, r4, r5, r6, r7, r8⟩ := k_loads hn hsc hT o4 a6 a7 a45 (upd (upd a49 (50 * sc) hdr) (50 * sc + 1) (nI T0)) a51 hdr y e45 (fun i hi => ⟨(hb i hi).1, (hb i hi).2.1, by rw [pk_un (by omega), pk_un (by omega)]; exact (hb i hi).2.2⟩) T0 n n 0 (sz + 32 + 8) h btb o2b a3b o44b a48b (by omega) (by omega) (by omega) (by omega) g1 (by rw [eb 8 (by decide), ea 8 (by decide)]; exact g3) (by rw [eb 9 (by decide), ea 9 (by decide)]; exact g4) hLb
  have r1' : l_X8_putCell_4_2_42 n o4 a6 a7 hdr (nI T0) (nI (48 * sc)) n 0 o2b a3b (lN h) = some (l, o2', a3', lN h') := r1
  have r2' : l_X12_sends_44_48 n a45 (upd (upd a49 (50 * sc) hdr) (50 * sc + 1) (nI T0)) (nI (50 * sc)) n 0 o44b a48b = some (l', o44', a48') := r2
  have e7 : o44' 7 = nI sc := by rw [r6, eb 7 (by decide), ea 7 (by decide), h7]
  simp only []
  rw [r1', r2', Option.bind_some, Option.bind_some]
  unfold b_X8_putCell_4_2_87
  simp only []
  rw [h4, xin_t hsc (by decide), cond_true, nI_clamp (by omega), nI_1, e7, nI_1]
  refine ⟨_, _, _, _, _, h', bt', rfl, rfl, ⟨r3, rfl, r4, r5⟩, rfl, fun j a b c d => ?_, ?_⟩
  · rw [pk_un b, r7 j a b c d, eb j a, ea j a]
  · rw [show sz + 40 + 8 * T0 = sz + 32 + 8 + 8 * T0 by omega]
    exact r8
