/-! bits come behind the line, go, come in -/
def tb (v : Int32) (k : Nat) : Bool := Nat.testBit v.toBitVec.toNat k
theorem tb_is (v : Int32) {k : Nat} (hk : k < 32) : xus v (nI k) &&& 1 = b2i (tb v k) := by
  rw [bit_is v hk]
  unfold tb b2i
  rw [Nat.testBit_eq_decide_div_mod_eq]
  have h : v.toBitVec.toNat / 2 ^ k % 2 < 2 := Nat.mod_lt _ (by decide)
  have h2 : v.toBitVec.toNat / 2 ^ k % 2 = 0 ∨ v.toBitVec.toNat / 2 ^ k % 2 = 1 := by omega
  rcases h2 with e | e
  · rw [e]; rfl
  · rw [e]; rfl
theorem b2i_nar (b : Bool) : vp_nar .byte (Int8.toInt32 (Int32.toInt8 (b2i b))) = b2i b := by
  rw [pk_vb]
  cases b <;> decide
/-- a stretch of an array written anew -/
def wr {α : Type} (f : Nat → α) (fr m : Nat) (g : Nat → α) : Nat → α := fun j => if fr ≤ j ∧ j < fr + m then g (j - fr) else f j
theorem wr_0 {α : Type} (f : Nat → α) (fr : Nat) (g : Nat → α) : wr f fr 0 g = f := by
  funext j
  exact if_neg (fun z => by omega)
theorem wr_s (f : Nat → Int32) (fr m : Nat) (g : Nat → Int32) : upd (wr f fr m g) (fr + m) (g m) = wr f fr (m + 1) g := by
  funext j
  unfold upd wr
  by_cases c : j = fr + m
  · rw [if_pos c, if_pos ⟨by omega, by omega⟩, c]
    congr 1
    omega
  · rw [if_neg c]
    by_cases d : fr ≤ j ∧ j < fr + m
    · rw [if_pos d, if_pos ⟨d.1, by omega⟩]
    · rw [if_neg d, if_neg (fun z => d ⟨z.1, by omega⟩)]
def vb (v : Int32) (m i : Nat) : Int32 := b2i (tb v (m - 1 - i))
theorem sh_ix {m i : Nat} (h : i < m) : nI m - 1 - nI i = nI (m - 1 - i) := by
  rw [show nI m - 1 = nI (m - 1) from pk_sub (b := 1) (by omega), pk_sub (by omega)]
theorem c_write {n : Nat} (hn : 40 ≤ n) (o2 a3 : Nat → Int32) (fr m : Nat) (v : Int32) (hm : m ≤ 32) (hf : fr + m ≤ 9600) : f_X4_write_2 n o2 a3 (nI fr) (nI m) v = some (wr a3 fr m (vb v m)) := by
  have loop : ∀ (q k i : Nat), i + q = m → q < k → l_X4_write_2_3 n o2 (nI fr) (nI m) v k (nI i) (wr a3 fr i (vb v m)) = some (nI m, wr a3 fr m (vb v m)) := by
    intro q
    induction q with
    | zero =>
      intro k i hi hk
      obtain ⟨k, rfl⟩ : ∃ q, k = q + 1 := ⟨k - 1, by omega⟩
      rw [l_X4_write_2_3, if_pos (nI_le (by omega) (by omega)), show i = m by omega]
    | succ q ih =>
      intro k i hi hk
      obtain ⟨k, rfl⟩ : ∃ q, k = q + 1 := ⟨k - 1, by omega⟩
      rw [l_X4_write_2_3, if_neg (nI_ge (by omega) (by omega)), nI_add, if_neg (nI_pos (by omega)), if_neg (show ¬ 9600 ≤ nI (fr + i) from nI_ge (b := 9600) (by omega) (by decide)), xin_t (show fr + i < 9600 by omega) (by decide), cond_true, nI_clamp (by omega), sh_ix (by omega), tb_is v (by omega), b2i_nar, nI_1]
      have e : upd (wr a3 fr i (vb v m)) (fr + i) (b2i (tb v (m - 1 - i))) = wr a3 fr (i + 1) (vb v m) := wr_s a3 fr i (vb v m)
      rw [e]
      exact ih k (i + 1) (by omega) (by omega)
  unfold f_X4_write_2
  have h := loop m n 0 (by omega) (by omega)
  rw [wr_0] at h
  have h' : l_X4_write_2_3 n o2 (nI fr) (nI m) v n 0 a3 = some (nI m, wr a3 fr m (vb v m)) := h
  rw [h', Option.bind_some]
theorem room_is {sz : Nat} (hs : sz ≤ 9600) {o2 : Nat → Int32} (h1 : o2 1 = nI sz) {m : Nat} (hm : m < 2 ^ 30) : f_X4_hasRoomFor_2 o2 (nI m) = some (if sz + m ≤ 9600 then 1 else 0) := by
  unfold f_X4_hasRoomFor_2
  rw [if_neg (nI_pos (by omega)), h1, show (9600 : Int32) - nI sz = nI (9600 - sz) from pk_sub (a := 9600) hs]
  by_cases c : sz + m ≤ 9600
  · rw [if_neg (nI_nlt (by omega) (by omega)), if_pos c]
  · rw [if_pos (nI_lt (by omega) (by omega)), if_neg c]
theorem c_append {n : Nat} (hn : 40 ≤ n) {sz : Nat} (o2 a3 : Nat → Int32) (h1 : o2 1 = nI sz) (m : Nat) (v : Int32) (hm : m ≤ 32) (hf : sz + m ≤ 9600) : f_X4_append_2 n o2 a3 (nI m) v = some (upd o2 1 (nI (sz + m)), wr a3 sz m (vb v m)) := by
  unfold f_X4_append_2
  rw [room_is (by omega) h1 (by omega), if_pos hf, Option.bind_some, if_neg one_ne, h1, c_write hn o2 a3 sz m v hm hf, Option.bind_some, nI_add]
theorem upd_upd (f : Nat → Int32) (k : Nat) (x y : Int32) : upd (upd f k x) k y = upd f k y := by
  funext j
  unfold upd
  by_cases c : j = k
  · rw [if_pos c, if_pos c]
  · rw [if_neg c, if_neg c, if_neg c]
theorem upd_id (f : Nat → Int32) (k : Nat) (x : Int32) (h : f k = x) : upd f k x = f := by
  funext j
  unfold upd
  by_cases c : j = k
  · rw [if_pos c, c, h]
  · rw [if_neg c]
theorem m_lays (o44 a48 : Nat → Int32) (z : Nat) (hz : z < 9600) (b : Int32) : f_X12_lays_44 (upd o44 6 (nI z)) a48 b = some (upd o44 6 (nI (z + 1)), upd a48 z b) := by
  unfold f_X12_lays_44
  rw [show upd o44 6 (nI z) 6 = nI z from rfl, xin_t hz (by decide), cond_true, nI_clamp (by omega), upd_upd, nI_1]
theorem m_bits {n : Nat} (hn : 40 ≤ n) {sz : Nat} (o44 a48 : Nat → Int32) (h1 : o44 6 = nI sz) (m : Nat) (v : Int32) (hm : m ≤ 32) (hf : sz + m ≤ 9600) : f_X12_laysBits_44 n o44 a48 (nI m) v = some (upd o44 6 (nI (sz + m)), wr a48 sz m (vb v m)) := by
  have loop : ∀ (q k i : Nat), i + q = m → q < k → ∃ l, l_X12_laysBits_44_4 n v k (nI q - 1) (upd o44 6 (nI (sz + i))) (wr a48 sz i (vb v m)) = some (l, upd o44 6 (nI (sz + m)), wr a48 sz m (vb v m)) := by
    intro q
    induction q with
    | zero =>
      intro k i hi hk
      obtain ⟨k, rfl⟩ : ∃ q, k = q + 1 := ⟨k - 1, by omega⟩
      rw [l_X12_laysBits_44_4, if_pos (by decide), show i = m by omega]
      exact ⟨_, rfl⟩
    | succ q ih =>
      intro k i hi hk
      obtain ⟨k, rfl⟩ : ∃ q, k = q + 1 := ⟨k - 1, by omega⟩
      rw [l_X12_laysBits_44_4, nI_pred, if_neg (nI_pos (by omega)), tb_is v (by omega), m_lays o44 _ (sz + i) (by omega), Option.bind_some]
      have e : upd (wr a48 sz i (vb v m)) (sz + i) (b2i (tb v q)) = wr a48 sz (i + 1) (vb v m) := by
        rw [← wr_s]
        unfold vb
        rw [show m - 1 - i = q by omega]
      have e2 : nI q + (-1) = nI q - 1 := (Int32.sub_eq_add_neg _ _).symm
      show ∃ l, l_X12_laysBits_44_4 n v k (nI q + (-1)) (upd o44 6 (nI (sz + i + 1))) (upd (wr a48 sz i (vb v m)) (sz + i) (b2i (tb v q))) = _
      rw [e, e2, Nat.add_assoc]
      exact ih k (i + 1) (by omega) (by omega)
  unfold f_X12_laysBits_44
  obtain ⟨l, h⟩ := loop m n 0 (by omega) (by omega)
  rw [wr_0, Nat.add_zero, upd_id o44 6 _ h1] at h
  rw [h, Option.bind_some]
/-- the line's bits, some more behind it -/
def bA (bt : Nat → Bool) (sz m : Nat) (v : Int32) : Nat → Bool := wr bt sz m (fun i => tb v (m - 1 - i))
theorem iL_ap {sz at_ : Nat} {bt : Nat → Bool} {o2 a3 o44 a48 a51 : Nat → Int32} (hL : iL sz at_ bt o2 a3 o44 a48 a51) (m : Nat) (v : Int32) (hf : sz + m ≤ 9600) : iL (sz + m) at_ (bA bt sz m v) (upd o2 1 (nI (sz + m))) (wr a3 sz m (vb v m)) (upd o44 6 (nI (sz + m))) (wr a48 sz m (vb v m)) a51 := by
  obtain ⟨l1, l2, l3, l4, l5, l6, l7⟩ := hL
  refine ⟨rfl, l2, rfl, l4, by omega, hf, fun j hj => ?_⟩
  unfold bA wr
  by_cases c : sz ≤ j ∧ j < sz + m
  · rw [if_pos c, if_pos c, if_pos c]; exact ⟨rfl, rfl⟩
  · rw [if_neg c, if_neg c, if_neg c]; exact l7 j (by omega)
theorem k_append {n : Nat} (hn : 40 ≤ n) {sz at_ : Nat} {bt : Nat → Bool} {o2 a3 o44 a48 a51 : Nat → Int32} (hL : iL sz at_ bt o2 a3 o44 a48 a51) (m : Nat) (v p : Int32) (hp : p = nI m) (hm : m ≤ 32) (hf : sz + m ≤ 9600) : ∃ o2' a3' o44' a48' bt', f_X4_append_2 n o2 a3 p v = some (o2', a3') ∧ f_X12_laysBits_44 n o44 a48 p v = some (o44', a48') ∧ iL (sz + m) at_ bt' o2' a3' o44' a48' a51 ∧ (∀ j, j ≠ 6 → o44' j = o44 j) := by
  subst hp
  exact ⟨_, _, _, _, _, c_append hn o2 a3 hL.1 m v hm hf, m_bits hn o44 a48 hL.2.2.1 m v hm hf, iL_ap hL m v hf, fun j hj => pk_un hj⟩
theorem k_bits {n : Nat} (hn : 40 ≤ n) {sz at_ : Nat} {bt : Nat → Bool} {o2 a3 o44 a48 a51 : Nat → Int32} (hL : iL sz at_ bt o2 a3 o44 a48 a51) (p1 p2 : Int32) : ∃ a o2' a3' o44' a48' sz' bt', f_X11_bits_0 n o2 a3 p1 p2 = some (a, o2', a3') ∧ f_X12_bits_44 n o44 a48 p1 p2 = some (a, o44', a48') ∧ iL sz' at_ bt' o2' a3' o44' a48' a51 ∧ (∀ j, j ≠ 6 → o44' j = upd o44 0 0 j) := by
  have hl := hL.2.2.2.2.2.1
  unfold f_X11_bits_0 f_X12_bits_44
  rw [isW, isIn_w p1 1 32 1 32 rfl rfl, hL.2.2.1]
  simp only [Option.bind_some]
  have hL0 : iL sz at_ bt o2 a3 (upd o44 0 0) a48 a51 := hL
  by_cases c : 1 ≤ p1 ∧ p1 ≤ 32
  · rw [if_pos c, if_neg one_ne, if_neg one_ne]
    obtain ⟨m, h1, h2, rfl⟩ := i32_in (a := 1) (b := 32) (by decide) c (by decide)
    rw [room_is hl hL.1 (by omega), Option.bind_some, nI_add]
    by_cases d : sz + m ≤ 9600
    · rw [if_pos d, if_neg one_ne, if_pos (show nI (sz + m) ≤ 9600 from nI_le (b := 9600) d (by decide))]
      obtain ⟨o2', a3', o44', a48', bt', e1, e2, e3, e4⟩ := k_append hn hL0 m p2 _ rfl h2 d
      rw [e1, e2, Option.bind_some, Option.bind_some]
      exact ⟨_, _, _, _, _, _, _, rfl, by show some (o44' 6, o44', a48') = some (o2' 1, o44', a48'); rw [e3.1, e3.2.2.1], e3, e4⟩
    · rw [if_neg d, if_pos rfl, if_neg (show ¬ nI (sz + m) ≤ 9600 from nI_ge (a := 9600) (by omega) (by omega))]
      exact ⟨_, _, _, _, _, _, _, rfl, rfl, hL0, fun j hj => rfl⟩
  · rw [if_neg c, if_pos rfl, if_pos rfl]
    exact ⟨_, _, _, _, _, _, _, rfl, rfl, hL0, fun j hj => rfl⟩
theorem k_feed {n : Nat} (hn : 40 ≤ n) {sz at_ : Nat} {bt : Nat → Bool} {o2 a3 o44 a48 a51 : Nat → Int32} (hL : iL sz at_ bt o2 a3 o44 a48 a51) (p1 p2 p3 p4 p5 : Int32) : ∃ a o2' a3' o44' a48' sz' bt', f_X11_feed_0 n o2 a3 p1 p2 p3 p4 p5 = some (a, o2', a3') ∧ f_X12_feed_44 n o44 a48 p1 p2 p3 p4 p5 = some (a, o44', a48') ∧ iL sz' at_ bt' o2' a3' o44' a48' a51 ∧ (∀ j, j ≠ 6 → o44' j = upd o44 0 0 j) := by
  have hl := hL.2.2.2.2.2.1
  unfold f_X11_feed_0 f_X12_feed_44
  have hL0 : iL sz at_ bt o2 a3 (upd o44 0 0) a48 a51 := hL
  have er : f_X4_hasRoomFor_2 o2 160 = some (if sz + 160 ≤ 9600 then 1 else 0) := room_is (m := 160) hl hL.1 (by decide)
  rw [er, Option.bind_some, hL.2.2.1, show nI sz + 160 = nI (sz + 160) from nI_add sz 160]
  by_cases d : sz + 160 ≤ 9600
  · rw [if_pos d, if_neg one_ne, if_pos (show nI (sz + 160) ≤ 9600 from nI_le (b := 9600) d (by decide))]
    obtain ⟨o2a, a3a, o44a, a48a, bta, e1, e2, hLa, ea⟩ := k_append hn hL0 32 p1 32 rfl (by decide) (by omega)
    rw [e1, e2, Option.bind_some, Option.bind_some]
    obtain ⟨o2b, a3b, o44b, a48b, btb, e1, e2, hLb, eb⟩ := k_append hn hLa 32 p2 32 rfl (by decide) (by omega)
    simp only []
    rw [e1, e2, Option.bind_some, Option.bind_some]
    obtain ⟨o2c, a3c, o44c, a48c, btc, e1, e2, hLc, ec⟩ := k_append hn hLb 32 p3 32 rfl (by decide) (by omega)
    simp only []
    rw [e1, e2, Option.bind_some, Option.bind_some]
    obtain ⟨o2d, a3d, o44d, a48d, btd, e1, e2, hLd, ed⟩ := k_append hn hLc 32 p4 32 rfl (by decide) (by omega)
    simp only []
    rw [e1, e2, Option.bind_some, Option.bind_some]
    obtain ⟨o2e, a3e, o44e, a48e, bte, e1, e2, hLe, ee⟩ := k_append hn hLd 32 p5 32 rfl (by decide) (by omega)
    simp only []
    rw [e1, e2, Option.bind_some, Option.bind_some]
    exact ⟨_, _, _, _, _, _, _, rfl, by show some (o44e 6, o44e, a48e) = some (o2e 1, o44e, a48e); rw [hLe.1, hLe.2.2.1], hLe, fun j hj => by rw [ee j hj, ed j hj, ec j hj, eb j hj, ea j hj]⟩
  · rw [if_neg d, if_pos rfl, if_neg (show ¬ nI (sz + 160) ≤ 9600 from nI_ge (a := 9600) (by omega) (by omega))]
    exact ⟨_, _, _, _, _, _, _, rfl, rfl, hL0, fun j hj => rfl⟩
theorem fit_b (b : Bool) : fits .byte (.int (b2i b)) = true := by
  have h := pk_fb (b2i b)
  have e : (b2i b).toInt8.toInt32 = b2i b := by cases b <;> decide
  rw [e] at h
  exact h
theorem xfb_t {sz : Nat} {bt : Nat → Bool} {a3 : Nat → Int32} (h : ∀ j, j < sz → a3 j = b2i (bt j)) (s m : Nat) (hs : s + m ≤ sz) (hz : sz ≤ 9600) : xfb a3 (nI s) (nI m) = true := by
  unfold xfb
  rw [nI_clamp (by omega), nI_clamp (by omega)]
  refine List.all_eq_true.mpr (fun q hq => ?_)
  have := List.mem_range.mp hq
  rw [h _ (by omega)]
  exact fit_b _
theorem xcp_t {s d m n0 n1 : Nat} (h1 : s + m ≤ n0) (h2 : d + m ≤ n1) (b0 : n0 < 2 ^ 31) (b1 : n1 < 2 ^ 31) : xcp (nI s) (nI d) (nI m) n0 n1 = true := by
  unfold xcp
  rw [nI_clamp (by omega), nI_clamp (by omega), nI_clamp (by omega)]
  exact decide_eq_true ⟨nI_pos (by omega), nI_pos (by omega), nI_pos (by omega), h1, h2⟩
theorem k_drop {n : Nat} (hn : 9700 ≤ n) {sz at_ : Nat} {bt : Nat → Bool} {o2 a3 o44 a48 a51 : Nat → Int32} (hL : iL sz at_ bt o2 a3 o44 a48 a51) (p1 p2 : Int32) : ∃ a o2' a3' o44' a48' sz' bt', f_X11_drop_0 o2 a3 p1 p2 = some (a, o2', a3') ∧ f_X12_drop_44 n o44 a48 a51 p1 p2 = some (a, o44', a48') ∧ iL sz' at_ bt' o2' a3' o44' a48' a51 ∧ (∀ j, j ≠ 6 → o44' j = upd o44 0 0 j) := by
  obtain ⟨l1, l2, l3, l4, l5, l6, l7⟩ := id hL
  have hL0 : iL sz at_ bt o2 a3 (upd o44 0 0) a48 a51 := hL
  unfold f_X11_drop_0 f_X12_drop_44
  rw [has_is l6 l1, isBit_is (o44 := upd o44 0 0) l6 l3, isW, isIn_w p2 1 400 1 400 rfl rfl]
  simp only [Option.bind_some]
  by_cases c : 0 ≤ p1 ∧ p1 < nI sz
  · rw [if_pos c, if_neg one_ne, if_neg one_ne]
    obtain ⟨i, hi, rfl⟩ := nI_of (Int32.not_lt.mpr c.1)
    have his : i < sz := (nI_ltI hi (by omega)).mp c.2
    by_cases d : 1 ≤ p2 ∧ p2 ≤ 400
    · rw [if_pos d, if_neg one_ne, if_neg one_ne, l1, l2, l3, l4, pk_sub (by omega)]
      obtain ⟨m, h1, h2, rfl⟩ := i32_in (a := 1) (b := 400) (by decide) d (by decide)
      by_cases g : m ≤ sz - i
      · rw [if_pos (nI_le g (by omega)), if_pos (nI_le g (by omega))]
        by_cases x : nI at_ ≤ nI i
        · have x' : at_ ≤ i := (nI_leI (by omega) (by omega)).mp x
          rw [if_pos x, if_pos x]
          have ec : f_X4_cut_2 o2 a3 (nI i) (nI m) = some (upd o2 1 (nI (sz - m)), va_cpy a3 a3 (i + m) i (sz - i - m)) := by
            unfold f_X4_cut_2
            rw [has_is l6 l1, if_pos c, Option.bind_some, if_neg one_ne, if_neg (nI_pos (by omega)), l1, pk_sub (by omega), if_neg (nI_nlt g (by omega)), nI_add, pk_sub (by omega), pk_sub (by omega), xcp_t (by omega) (by omega) (by decide) (by decide), xfb_t (fun j hj => (l7 j hj).1) (i + m) (sz - i - m) (by omega) l6, cond_true, cond_true, nI_clamp (by omega), nI_clamp (by omega), nI_clamp (by omega)]
          rw [ec, Option.bind_some, nI_add, pk_sub (by omega)]
          have loop : ∀ (q k z : Nat), z + q = sz → i + m ≤ z → q < k → ∃ l, l_X12_drop_44_58 n (upd o44 0 0) a51 (nI m) k (nI z) (wr a48 i (z - m - i) (fun j => a48 (i + m + j))) = some (l, wr a48 i (sz - m - i) (fun j => a48 (i + m + j))) := by
            intro q
            induction q with
            | zero =>
              intro k z hz hz2 hk
              obtain ⟨k, rfl⟩ : ∃ q, k = q + 1 := ⟨k - 1, by omega⟩
              rw [l_X12_drop_44_58, show upd o44 0 0 6 = o44 6 from rfl, l3, if_pos (nI_le (by omega) (by omega)), show z = sz by omega]
              exact ⟨_, rfl⟩
            | succ q ih =>
              intro k z hz hz2 hk
              obtain ⟨k, rfl⟩ : ∃ q, k = q + 1 := ⟨k - 1, by omega⟩
              rw [l_X12_drop_44_58, show upd o44 0 0 6 = o44 6 from rfl, l3, if_neg (nI_ge (by omega) (by omega)), pk_sub (by omega), xin_t (show z < 9600 by omega) (by decide), xin_t (show z - m < 9600 by omega) (by decide), cond_true, cond_true, nI_clamp (by omega), nI_clamp (by omega), nI_1]
              have er : wr a48 i (z - m - i) (fun j => a48 (i + m + j)) z = a48 (i + m + (z - m - i)) := by
                unfold wr
                rw [if_neg (fun w => by omega)]
                congr 1
                omega
              have ew := wr_s a48 i (z - m - i) (fun j => a48 (i + m + j))
              rw [show i + (z - m - i) = z - m by omega, show z - m - i + 1 = z + 1 - m - i by omega] at ew
              rw [er, ew]
              exact ih k (z + 1) (by omega) (by omega) (by omega)
          obtain ⟨l, hl⟩ := loop (sz - (i + m)) n (i + m) (by omega) (by omega) (by omega)
          rw [show i + m - m - i = 0 by omega, wr_0] at hl
          rw [hl, Option.bind_some]
          refine ⟨_, _, _, _, _, sz - m, fun j => if i ≤ j then bt (j + m) else bt j, rfl, rfl, ⟨rfl, l2, rfl, l4, by omega, by omega, fun j hj => ?_⟩, fun j hj => pk_un hj⟩
          show va_cpy a3 a3 (i + m) i (sz - i - m) j = b2i (if i ≤ j then bt (j + m) else bt j) ∧ wr a48 i (sz - m - i) (fun j => a48 (i + m + j)) j = b2i (if i ≤ j then bt (j + m) else bt j)
          by_cases y : i ≤ j
          · rw [if_pos y, pk_cpy_in y (by omega)]
            unfold wr
            rw [if_pos ⟨y, by omega⟩, show i + m + (j - i) = j + m by omega]
            show a3 (j + m) = _ ∧ a48 (i + m + (j - i)) = _
            rw [show i + m + (j - i) = j + m by omega]
            exact l7 (j + m) (by omega)
          · rw [if_neg y, pk_cpy_out (by omega)]
            unfold wr
            rw [if_neg (fun w => y w.1)]
            exact l7 j (by omega)
        · rw [if_neg x, if_neg x]
          exact ⟨_, _, _, _, _, _, _, rfl, rfl, hL0, fun j hj => rfl⟩
      · rw [if_neg (nI_ge (by omega) (by omega)), if_neg (nI_ge (by omega) (by omega))]
        exact ⟨_, _, _, _, _, _, _, rfl, rfl, hL0, fun j hj => rfl⟩
    · rw [if_neg d, if_pos rfl, if_pos rfl]
      exact ⟨_, _, _, _, _, _, _, rfl, rfl, hL0, fun j hj => rfl⟩
  · rw [if_neg c, if_pos rfl, if_pos rfl]
    exact ⟨_, _, _, _, _, _, _, rfl, rfl, hL0, fun j hj => rfl⟩
