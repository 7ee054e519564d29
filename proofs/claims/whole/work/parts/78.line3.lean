/-! bits come in; bits disturbed -/
theorem k_slip {n : Nat} (hn : 9700 ≤ n) {sz at_ : Nat} {bt : Nat → Bool} {o2 a3 o44 a48 a51 : Nat → Int32} (hL : iL sz at_ bt o2 a3 o44 a48 a51) (p1 p2 p3 : Int32) : ∃ a o2' a3' o44' a48' sz' bt', f_X11_slip_0 n o2 a3 p1 p2 p3 = some (a, o2', a3') ∧ f_X12_slip_44 n o44 a48 a51 p1 p2 p3 = some (a, o44', a48') ∧ iL sz' at_ bt' o2' a3' o44' a48' a51 ∧ (∀ j, j ≠ 6 → o44' j = upd o44 0 0 j) := by
  obtain ⟨l1, l2, l3, l4, l5, l6, l7⟩ := id hL
  have hL0 : iL sz at_ bt o2 a3 (upd o44 0 0) a48 a51 := hL
  unfold f_X11_slip_0 f_X12_slip_44
  rw [l1, l2, l3, l4, isW p1, isIn_w p1 0 (nI sz) 0 (Int32.toInt64 (nI sz)) rfl rfl, isW p2, isIn_w p2 1 32 1 32 rfl rfl]
  simp only [Option.bind_some]
  by_cases c : 0 ≤ p1 ∧ p1 ≤ nI sz
  · rw [if_pos c, if_neg one_ne, if_neg one_ne]
    obtain ⟨i, hi, rfl⟩ := nI_of (Int32.not_lt.mpr c.1)
    have his : i ≤ sz := (nI_leI hi (by omega)).mp c.2
    by_cases d : 1 ≤ p2 ∧ p2 ≤ 32
    · rw [if_pos d, if_neg one_ne, if_neg one_ne]
      obtain ⟨m, h1, h2, rfl⟩ := i32_in (a := 1) (b := 32) (by decide) d (by decide)
      rw [room_is l6 l1 (by omega), Option.bind_some, nI_add]
      by_cases g : sz + m ≤ 9600
      · rw [if_pos g, if_neg one_ne, if_pos (show nI (sz + m) ≤ 9600 from nI_le (b := 9600) g (by decide))]
        by_cases x : nI at_ ≤ nI i
        · have x' : at_ ≤ i := (nI_leI (by omega) (by omega)).mp x
          rw [if_pos x, if_pos x]
          have ec : f_X4_insert_2 n o2 a3 (nI i) (nI m) p3 = some (upd o2 1 (nI (sz + m)), wr (va_cpy a3 a3 i (i + m) (sz - i)) i m (vb p3 m)) := by
            unfold f_X4_insert_2
            rw [if_neg (nI_pos (by omega)), l1, if_neg (nI_nlt his (by omega)), room_is l6 l1 (by omega), if_pos g, Option.bind_some, if_neg one_ne, nI_add, nI_add, pk_sub his, xcp_t (by omega) (by omega) (by decide) (by decide), xfb_t (fun j hj => (l7 j hj).1) i (sz - i) (by omega) l6, cond_true, cond_true, nI_clamp (by omega), nI_clamp (by omega), nI_clamp (by omega), c_write (by omega) o2 _ i m p3 h2 (by omega), Option.bind_some]
          rw [ec, Option.bind_some]
          have loop : ∀ (q k z : Nat), i + q = z → z ≤ sz → q < k → ∃ l, l_X12_slip_44_73 n (upd o44 0 0) a51 (nI i) (nI m) p3 k (nI z - 1) (fun j => if z + m ≤ j ∧ j < sz + m then a48 (j - m) else a48 j) = some (l, fun j => if i + m ≤ j ∧ j < sz + m then a48 (j - m) else a48 j) := by
            intro q
            induction q with
            | zero =>
              intro k z hz hz2 hk
              obtain ⟨k, rfl⟩ : ∃ q, k = q + 1 := ⟨k - 1, by omega⟩
              have hc : nI z - 1 < nI i := by
                rw [show z = i by omega, show (1 : Int32) = nI 1 from rfl, Int32.lt_iff_toInt_lt, pk_sub_toInt (by omega) (by omega), nI_toInt (by omega)]
                omega
              rw [l_X12_slip_44_73, if_pos hc, show z = i by omega]
              exact ⟨_, rfl⟩
            | succ q ih =>
              intro k z hz hz2 hk
              obtain ⟨k, rfl⟩ : ∃ q, k = q + 1 := ⟨k - 1, by omega⟩
              obtain ⟨y, rfl⟩ : ∃ y, z = y + 1 := ⟨z - 1, by omega⟩
              rw [l_X12_slip_44_73, nI_pred, if_neg (nI_nlt (by omega) (by omega)), nI_add, xin_t (show y < 9600 by omega) (by decide), xin_t (show y + m < 9600 by omega) (by decide), cond_true, cond_true, nI_clamp (by omega), nI_clamp (by omega), show nI y + (-1) = nI y - 1 from (Int32.sub_eq_add_neg _ _).symm]
              have ef : upd (fun j => if y + 1 + m ≤ j ∧ j < sz + m then a48 (j - m) else a48 j) (y + m) (if y + 1 + m ≤ y ∧ y < sz + m then a48 (y - m) else a48 y) = (fun j => if y + m ≤ j ∧ j < sz + m then a48 (j - m) else a48 j) := by
                funext j
                unfold upd
                by_cases e : j = y + m
                · rw [if_pos e, if_neg (fun w => by omega), if_pos ⟨by omega, by omega⟩, e]
                  congr 1
                  omega
                · rw [if_neg e]
                  show (if y + 1 + m ≤ j ∧ j < sz + m then a48 (j - m) else a48 j) = _
                  by_cases f : y + 1 + m ≤ j ∧ j < sz + m
                  · rw [if_pos f, if_pos ⟨by omega, f.2⟩]
                  · rw [if_neg f, if_neg (fun w => f ⟨by omega, w.2⟩)]
              rw [ef]
              exact ih k y (by omega) (by omega) (by omega)
          obtain ⟨l, hl⟩ := loop (sz - i) n sz (by omega) (by omega) (by omega)
          have e0 : (fun j => if sz + m ≤ j ∧ j < sz + m then a48 (j - m) else a48 j) = a48 := by
            funext j
            exact if_neg (fun w => by omega)
          rw [e0] at hl
          rw [hl, Option.bind_some]
          have loop2 : ∀ (F : Nat → Int32) (q k z : Nat), z + q = m → q < k → ∃ l, l_X12_slip_44_104 n (upd o44 0 0) a51 (nI i) (nI m) p3 k (nI z) (wr F i z (vb p3 m)) = some (l, wr F i m (vb p3 m)) := by
            intro F q
            induction q with
            | zero =>
              intro k z hz hk
              obtain ⟨k, rfl⟩ : ∃ q, k = q + 1 := ⟨k - 1, by omega⟩
              rw [l_X12_slip_44_104, if_pos (nI_le (by omega) (by omega)), show z = m by omega]
              exact ⟨_, rfl⟩
            | succ q ih =>
              intro k z hz hk
              obtain ⟨k, rfl⟩ : ∃ q, k = q + 1 := ⟨k - 1, by omega⟩
              rw [l_X12_slip_44_104, if_neg (nI_ge (by omega) (by omega)), nI_add, xin_t (show i + z < 9600 by omega) (by decide), cond_true, nI_clamp (by omega), sh_ix (by omega), tb_is p3 (by omega), nI_1]
              have e : upd (wr F i z (vb p3 m)) (i + z) (b2i (tb p3 (m - 1 - z))) = wr F i (z + 1) (vb p3 m) := wr_s F i z (vb p3 m)
              rw [e]
              exact ih k (z + 1) (by omega) (by omega)
          obtain ⟨l', hl'⟩ := loop2 (fun j => if i + m ≤ j ∧ j < sz + m then a48 (j - m) else a48 j) m n 0 (by omega) (by omega)
          rw [wr_0] at hl'
          have hl'' : l_X12_slip_44_104 n (upd o44 0 0) a51 (nI i) (nI m) p3 n 0 (fun j => if i + m ≤ j ∧ j < sz + m then a48 (j - m) else a48 j) = some (l', wr (fun j => if i + m ≤ j ∧ j < sz + m then a48 (j - m) else a48 j) i m (vb p3 m)) := hl'
          simp only []
          rw [hl'', Option.bind_some]
          refine ⟨_, _, _, _, _, sz + m, fun j => if j < i then bt j else if j < i + m then tb p3 (m - 1 - (j - i)) else bt (j - m), rfl, rfl, ⟨rfl, l2, rfl, l4, by omega, by omega, fun j hj => ?_⟩, fun j hj => pk_un hj⟩
          show wr (va_cpy a3 a3 i (i + m) (sz - i)) i m (vb p3 m) j = b2i (if j < i then bt j else if j < i + m then tb p3 (m - 1 - (j - i)) else bt (j - m)) ∧ wr (fun j => if i + m ≤ j ∧ j < sz + m then a48 (j - m) else a48 j) i m (vb p3 m) j = b2i (if j < i then bt j else if j < i + m then tb p3 (m - 1 - (j - i)) else bt (j - m))
          unfold wr
          by_cases y : j < i
          · rw [if_pos y, if_neg (fun w => by omega), if_neg (fun w => by omega), pk_cpy_out (by omega)]
            show _ ∧ (if i + m ≤ j ∧ j < sz + m then a48 (j - m) else a48 j) = _
            rw [if_neg (fun w => by omega)]
            exact l7 j (by omega)
          · rw [if_neg y]
            by_cases y2 : j < i + m
            · rw [if_pos y2, if_pos ⟨by omega, y2⟩, if_pos ⟨by omega, y2⟩]
              exact ⟨rfl, rfl⟩
            · rw [if_neg y2, if_neg (fun w => by omega), if_neg (fun w => by omega), pk_cpy_in (by omega) (by omega), show i + (j - (i + m)) = j - m by omega]
              show _ ∧ (if i + m ≤ j ∧ j < sz + m then a48 (j - m) else a48 j) = _
              rw [if_pos ⟨by omega, hj⟩]
              exact l7 (j - m) (by omega)
        · rw [if_neg x, if_neg x]
          exact ⟨_, _, _, _, _, _, _, rfl, rfl, hL0, fun j hj => rfl⟩
      · rw [if_neg g, if_pos rfl, if_neg (show ¬ nI (sz + m) ≤ 9600 from nI_ge (a := 9600) (by omega) (by omega))]
        exact ⟨_, _, _, _, _, _, _, rfl, rfl, hL0, fun j hj => rfl⟩
    · rw [if_neg d, if_pos rfl, if_pos rfl]
      exact ⟨_, _, _, _, _, _, _, rfl, rfl, hL0, fun j hj => rfl⟩
  · rw [if_neg c, if_pos rfl, if_pos rfl]
    exact ⟨_, _, _, _, _, _, _, rfl, rfl, hL0, fun j hj => rfl⟩
/-- the numbers by a SEED -/
def fol (s : Nat) : Nat := (s * 1103 + 12345) % 1000003
theorem fol_is {s : Nat} (hs : s ≤ 1000003) : (nI s * 1103 + 12345) - (nI s * 1103 + 12345) / 1000003 * 1000003 = nI (fol s) := by
  rw [show nI s * 1103 = nI (s * 1103) from pk_mul s 1103, show nI (s * 1103) + 12345 = nI (s * 1103 + 12345) from nI_add _ 12345]
  exact pk_rem (d := 1000003) (by omega) (by decide) (by decide)
theorem fol_le (s : Nat) : fol s ≤ 1000003 := Nat.le_of_lt (Nat.mod_lt _ (by decide))
theorem bit_tg {sz at_ : Nat} {bt : Nat → Bool} {o2 a3 o44 a48 a51 : Nat → Int32} (hL : iL sz at_ bt o2 a3 o44 a48 a51) {j : Nat} (hj : j < sz) : f_X4_toggle_2 o2 a3 (nI j) = some (upd a3 j (b2i (!bt j))) ∧ 1 - a48 j = b2i (!bt j) ∧ iL sz at_ (fun i => if i = j then !bt j else bt i) o2 (upd a3 j (b2i (!bt j))) o44 (upd a48 j (b2i (!bt j))) a51 := by
  obtain ⟨l1, l2, l3, l4, l5, l6, l7⟩ := hL
  refine ⟨?_, by rw [(l7 j hj).2, tog_m], l1, l2, l3, l4, l5, l6, fun i hi => ?_⟩
  · unfold f_X4_toggle_2
    rw [has_is l6 l1, if_pos ⟨nI_pos' (by omega), nI_lt hj (by omega)⟩, Option.bind_some, if_neg one_ne, xin_t (show j < 9600 by omega) (by decide), cond_true, cond_true, nI_clamp (by omega), (l7 j hj).1, tog_c]
  · by_cases e : i = j
    · subst e; simp [upd]
    · simp [upd, e, l7 i hi]
theorem k_disturb {n : Nat} (hn : 9700 ≤ n) {sz at_ : Nat} {bt : Nat → Bool} {o2 a3 o44 a48 a51 : Nat → Int32} (hL : iL sz at_ bt o2 a3 o44 a48 a51) (p1 p2 p3 p4 : Int32) : ∃ a a3' a48' bt', f_X11_disturb_0 n o2 a3 p1 p2 p3 p4 = some (a, a3') ∧ f_X12_disturb_44 n o44 a48 a51 p1 p2 p3 p4 = some (a, upd o44 0 0, a48') ∧ iL sz at_ bt' o2 a3' o44 a48' a51 := by
  obtain ⟨l1, l2, l3, l4, l5, l6, l7⟩ := id hL
  unfold f_X11_disturb_0 f_X12_disturb_44
  rw [has_is l6 l1, isBit_is (o44 := upd o44 0 0) l6 l3, isW p2, isIn_w p2 1 2000 1 2000 rfl rfl, isW p3, isIn_w p3 1 1000 1 1000 rfl rfl, isW p4, isIn_w p4 0 1000003 0 1000003 rfl rfl]
  simp only [Option.bind_some]
  by_cases c : 0 ≤ p1 ∧ p1 < nI sz
  · rw [if_pos c, if_neg one_ne, if_neg one_ne]
    obtain ⟨i, hi, rfl⟩ := nI_of (Int32.not_lt.mpr c.1)
    have his : i < sz := (nI_ltI hi (by omega)).mp c.2
    by_cases d : 1 ≤ p2 ∧ p2 ≤ 2000
    · rw [if_pos d, if_neg one_ne, if_neg one_ne, l1, l2, l3, l4, pk_sub (by omega)]
      obtain ⟨m, h1, h2, rfl⟩ := i32_in (a := 1) (b := 2000) (by decide) d (by decide)
      by_cases g : m ≤ sz - i
      · rw [if_pos (nI_le g (by omega)), if_neg (nI_nlt g (by omega))]
        by_cases d3 : 1 ≤ p3 ∧ p3 ≤ 1000
        · rw [if_pos d3, if_neg one_ne, if_neg one_ne]
          obtain ⟨w, w1, w2, rfl⟩ := i32_in (a := 1) (b := 1000) (by decide) d3 (by decide)
          by_cases d4 : 0 ≤ p4 ∧ p4 ≤ 1000003
          · rw [if_pos d4, if_neg one_ne, if_neg one_ne]
            obtain ⟨sd, s1, s2, rfl⟩ := i32_in (a := 0) (b := 1000003) (by decide) d4 (by decide)
            by_cases x : nI at_ ≤ nI i
            · rw [if_pos x, if_pos x]
              have xw : xnz (nI w) = true := by
                unfold xnz
                have : ¬ nI w = 0 := nI_ne0 (by omega) (by omega)
                simp [this]
              have loop : ∀ (q k z f s : Nat) (a3 a48 : Nat → Int32) (bt : Nat → Bool), z + q = m → q < k → s ≤ 1000003 → iL sz at_ bt o2 a3 o44 a48 a51 → ∃ (f' s' z' z'' : Int32) (a3' a48' : Nat → Int32) (bt' : Nat → Bool), l_X11_disturb_0_90 n o2 (nI i) (nI m) (nI w) k (nI f) (nI s) (nI z) a3 = some (f', s', z', a3') ∧ l_X12_disturb_44_89 n (upd o44 0 0) a51 (nI i) (nI m) (nI w) k (nI f) (nI s) (nI (i + z)) a48 = some (f', s', z'', a48') ∧ iL sz at_ bt' o2 a3' o44 a48' a51 := by
                intro q
                induction q with
                | zero =>
                  intro k z f s a3 a48 bt hz hk hs hL
                  obtain ⟨k, rfl⟩ : ∃ q, k = q + 1 := ⟨k - 1, by omega⟩
                  rw [l_X11_disturb_0_90, l_X12_disturb_44_89, nI_add i m, if_pos (nI_le (by omega) (by omega)), if_pos (nI_le (by omega) (by omega))]
                  exact ⟨_, _, _, _, _, _, bt, rfl, rfl, hL⟩
                | succ q ih =>
                  intro k z f s a3 a48 bt hz hk hs hL
                  obtain ⟨k, rfl⟩ : ∃ q, k = q + 1 := ⟨k - 1, by omega⟩
                  rw [l_X11_disturb_0_90, l_X12_disturb_44_89, nI_add i m, nI_add i z, if_neg (nI_ge (by omega) (by omega)), if_neg (nI_ge (by omega) (by omega))]
                  unfold f_X8_following
                  have hfl := fol_le s
                  rw [fol_is hs, Option.bind_some, xw, cond_true, cond_true, pk_rem (d := w) (by omega) (by omega) (by omega), nI_1, nI_1]
                  by_cases e : fol s % w = 0
                  · have e' : nI (fol s % w) = 0 := by rw [e]; rfl
                    obtain ⟨t1, t2, t3⟩ := bit_tg hL (j := i + z) (by omega)
                    rw [if_pos e', if_pos e', xin_t (show i + z < 9600 by omega) (by decide), cond_true, cond_true, nI_clamp (by omega), t1, Option.bind_some, t2, nI_1]
                    exact ih k (z + 1) (f + 1) (fol s) _ _ _ (by omega) (by omega) hfl t3
                  · have hm : fol s % w < w := Nat.mod_lt _ (by omega)
                    have e' : ¬ nI (fol s % w) = 0 := fun q => e ((nI_eq0 (by omega)).mp q)
                    rw [if_neg e', if_neg e', nI_1 (i + z)]
                    exact ih k (z + 1) f (fol s) _ _ _ (by omega) (by omega) hfl hL
              obtain ⟨f', s', z', z'', a3', a48', bt', e1, e2, e3⟩ := loop m n 0 0 sd a3 a48 bt (by omega) (by omega) (by omega) hL
              have e1' : l_X11_disturb_0_90 n o2 (nI i) (nI m) (nI w) n 0 (nI sd) 0 a3 = some (f', s', z', a3') := e1
              have e2' : l_X12_disturb_44_89 n (upd o44 0 0) a51 (nI i) (nI m) (nI w) n 0 (nI sd) (nI i) a48 = some (f', s', z'', a48') := e2
              rw [e1', e2', Option.bind_some, Option.bind_some]
              exact ⟨_, _, _, bt', rfl, rfl, e3⟩
            · rw [if_neg x, if_neg x]
              exact ⟨_, _, _, bt, rfl, rfl, hL⟩
          · rw [if_neg d4, if_pos rfl, if_pos rfl]
            exact ⟨_, _, _, bt, rfl, rfl, hL⟩
        · rw [if_neg d3, if_pos rfl, if_pos rfl]
          exact ⟨_, _, _, bt, rfl, rfl, hL⟩
      · rw [if_neg (nI_ge (by omega) (by omega)), if_pos (nI_lt (by omega) (by omega))]
        exact ⟨_, _, _, bt, rfl, rfl, hL⟩
    · rw [if_neg d, if_pos rfl, if_pos rfl]
      exact ⟨_, _, _, bt, rfl, rfl, hL⟩
  · rw [if_neg c, if_pos rfl, if_pos rfl]
    exact ⟨_, _, _, bt, rfl, rfl, hL⟩
