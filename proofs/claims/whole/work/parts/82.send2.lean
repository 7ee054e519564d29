/-! send, rest -/
theorem roomC_is {sc sz T0 m : Nat} {a1 o2 o4 : Nat → Int32} (hsc : sc ≤ 64) (hz : sz ≤ 9600) (hT : T0 ≤ 48) (hm : m ≤ 20) (e1 : a1 0 = nI T0) (e2 : o2 1 = nI sz) (e4 : o4 3 = nI sc) : f_X11_hasRoomForCells_0 a1 o2 o4 (nI m) = some (if sc + m ≤ 64 ∧ sz + m * (40 + 8 * T0) ≤ 9600 then 1 else 0) := by
  unfold f_X11_hasRoomForCells_0
  have hb : m * (40 + 8 * T0) ≤ 20 * 424 := Nat.mul_le_mul hm (by omega)
  rw [e4, nI_add, e1, show (8 : Int32) * nI T0 = nI (8 * T0) from pk_mul 8 _, show (40 : Int32) + nI (8 * T0) = nI (40 + 8 * T0) from nI_add 40 _, pk_mul, room_is hz e2 (by omega), Option.bind_some]
  by_cases c : sc + m ≤ 64
  · rw [if_neg (show ¬ 64 < nI (sc + m) from nI_nlt (a := 64) c (by decide))]
    by_cases d : sz + m * (40 + 8 * T0) ≤ 9600
    · rw [if_pos d, if_neg one_ne, if_pos ⟨c, d⟩]
    · rw [if_neg d, if_pos rfl, if_neg (fun z => d z.2)]
  · rw [if_pos (show 64 < nI (sc + m) from nI_lt (a := 64) (by omega) (by omega)), if_neg (fun z => c z.1)]
theorem roomM_is {sc sz T0 m : Nat} {a45 o44 : Nat → Int32} (hsc : sc ≤ 64) (hz : sz ≤ 9600) (hT : T0 ≤ 48) (hm : m ≤ 20) (e1 : a45 0 = nI T0) (e2 : o44 6 = nI sz) (e4 : o44 7 = nI sc) : f_X12_hasRoom_44 o44 a45 (nI m) = some (if sc + m ≤ 64 ∧ sz + m * (40 + 8 * T0) ≤ 9600 then 1 else 0) := by
  unfold f_X12_hasRoom_44 f_X12_cellLong_44
  have hb : m * (40 + 8 * T0) ≤ 20 * 424 := Nat.mul_le_mul hm (by omega)
  rw [e4, nI_add, e1, e2, show (8 : Int32) * nI T0 = nI (8 * T0) from pk_mul 8 _, show (40 : Int32) + nI (8 * T0) = nI (40 + 8 * T0) from nI_add 40 _, Option.bind_some, pk_mul, nI_add]
  by_cases c : sc + m ≤ 64
  · rw [if_neg (show ¬ 64 < nI (sc + m) from nI_nlt (a := 64) c (by decide))]
    by_cases d : sz + m * (40 + 8 * T0) ≤ 9600
    · rw [if_neg (show ¬ 9600 < nI (sz + m * (40 + 8 * T0)) from nI_nlt (a := 9600) d (by decide)), if_pos ⟨c, d⟩]
    · rw [if_pos (show 9600 < nI (sz + m * (40 + 8 * T0)) from nI_lt (a := 9600) (by omega) (by omega)), if_neg (fun z => d z.2)]
  · rw [if_pos (show 64 < nI (sc + m) from nI_lt (a := 64) (by omega) (by omega)), if_neg (fun z => c z.1)]
def fs (s : Nat) : Nat → Nat
  | 0 => s
  | i + 1 => fol (fs s i)
theorem fs_le {s : Nat} (hs : s ≤ 1000003) (i : Nat) : fs s i ≤ 1000003 := by
  cases i with
  | zero => exact hs
  | succ i => exact fol_le _
theorem sb_mod (s : Nat) : (nI s).toInt8.toInt32 = sb (s % 256) := by
  unfold sb
  congr 1
  apply Int8.toBitVec_inj.mp
  rw [Int32.toBitVec_toInt8, Int32.toBitVec_toInt8, BitVec.signExtend_eq_setWidth_of_le _ (by decide), BitVec.signExtend_eq_setWidth_of_le _ (by decide)]
  apply BitVec.eq_of_toNat_eq
  rw [BitVec.toNat_setWidth, BitVec.toNat_setWidth, nI_tn, nI_tn]
  omega
/-- what a LOAD by a SEED is on both sides -/
theorem c_fill {n : Nat} (hn : 100 ≤ n) {sc T0 sd : Nat} (hsc : sc < 64) (hT : T0 ≤ 48) (hsd : sd ≤ 1000003) (o4 a7 : Nat → Int32) (e4 : o4 3 = nI sc) : f_X8_fillBySeed_4 n o4 a7 (nI sd) (nI T0) = some (wr a7 (48 * sc) T0 (fun i => sb (fs sd (i + 1) % 256))) := by
  have loop : ∀ (q k i : Nat), i + q = T0 → q < k → ∃ l l', l_X8_fillBySeed_4_14 n o4 (nI T0) (nI (48 * sc)) k (nI (fs sd i)) (nI i) (wr a7 (48 * sc) i (fun i => sb (fs sd (i + 1) % 256))) = some (l, l', wr a7 (48 * sc) T0 (fun i => sb (fs sd (i + 1) % 256))) := by
    intro q
    induction q with
    | zero =>
      intro k i hi hk
      obtain ⟨k, rfl⟩ : ∃ q, k = q + 1 := ⟨k - 1, by omega⟩
      rw [l_X8_fillBySeed_4_14, if_pos (nI_le (by omega) (by omega)), show i = T0 by omega]
      exact ⟨_, _, rfl⟩
    | succ q ih =>
      intro k i hi hk
      obtain ⟨k, rfl⟩ : ∃ q, k = q + 1 := ⟨k - 1, by omega⟩
      rw [l_X8_fillBySeed_4_14, if_neg (nI_ge (by omega) (by omega)), nI_add, if_neg (show ¬ 3072 ≤ nI (48 * sc + i) from nI_ge (b := 3072) (by omega) (by decide))]
      unfold f_X8_following
      rw [fol_is (fs_le hsd i), Option.bind_some, xin_t (show 48 * sc + i < 3072 by omega) (by decide), cond_true, nI_clamp (by omega), pk_vb, sb_mod, nI_1]
      have e := wr_s a7 (48 * sc) i (fun i => sb (fs sd (i + 1) % 256))
      have e' : upd (wr a7 (48 * sc) i (fun i => sb (fs sd (i + 1) % 256))) (48 * sc + i) (sb (fol (fs sd i) % 256)) = wr a7 (48 * sc) (i + 1) (fun i => sb (fs sd (i + 1) % 256)) := e
      rw [e']
      exact ih k (i + 1) (by omega) (by omega)
  unfold f_X8_fillBySeed_4
  obtain ⟨l, l', h⟩ := loop T0 n 0 (by omega) (by omega)
  rw [wr_0] at h
  have h' : l_X8_fillBySeed_4_14 n o4 (nI T0) (nI (48 * sc)) n (nI sd) 0 a7 = some (l, l', wr a7 (48 * sc) T0 (fun i => sb (fs sd (i + 1) % 256))) := h
  rw [e4, show nI sc * 48 = nI (48 * sc) by rw [show (48 : Int32) = nI 48 from rfl, pk_mul, Nat.mul_comm], h', Option.bind_some]
theorem m_fill {n : Nat} (hn : 100 ≤ n) {sc T0 sd : Nat} (hsc : sc < 64) (hT : T0 ≤ 48) (hsd : sd ≤ 1000003) (o44 a45 a48 a49 : Nat → Int32) (p1 : Int32) (e7 : o44 7 = nI sc) (e0 : a45 0 = nI T0) : ∃ l l', l_X12_send_44_36 n o44 a45 a48 p1 n (nI sd) 0 a49 = some (l, l', wr a49 (50 * sc + 2) T0 (fun i => nI (fs sd (i + 1) % 256))) := by
  have loop : ∀ (q k i : Nat), i + q = T0 → q < k → ∃ l l', l_X12_send_44_36 n o44 a45 a48 p1 k (nI (fs sd i)) (nI i) (wr a49 (50 * sc + 2) i (fun i => nI (fs sd (i + 1) % 256))) = some (l, l', wr a49 (50 * sc + 2) T0 (fun i => nI (fs sd (i + 1) % 256))) := by
    intro q
    induction q with
    | zero =>
      intro k i hi hk
      obtain ⟨k, rfl⟩ : ∃ q, k = q + 1 := ⟨k - 1, by omega⟩
      rw [l_X12_send_44_36, e0, if_pos (nI_le (by omega) (by omega)), show i = T0 by omega]
      exact ⟨_, _, rfl⟩
    | succ q ih =>
      intro k i hi hk
      obtain ⟨k, rfl⟩ : ∃ q, k = q + 1 := ⟨k - 1, by omega⟩
      have hfl := fol_le (fs sd i)
      rw [l_X12_send_44_36, e0, if_neg (nI_ge (by omega) (by omega)), e7, show (50 : Int32) * nI sc = nI (50 * sc) from pk_mul 50 sc, show nI (50 * sc) + 2 = nI (50 * sc + 2) from nI_add _ 2, nI_add (50 * sc + 2) i, xin_t (show 50 * sc + 2 + i < 3200 by omega) (by decide), cond_true, nI_clamp (by omega), fol_is (fs_le hsd i), nI_1, show nI (fol (fs sd i)) - nI (fol (fs sd i)) / 256 * 256 = nI (fol (fs sd i) % 256) from pk_rem (d := 256) (by omega) (by decide) (by decide)]
      have e := wr_s a49 (50 * sc + 2) i (fun i => nI (fs sd (i + 1) % 256))
      have e' : upd (wr a49 (50 * sc + 2) i (fun i => nI (fs sd (i + 1) % 256))) (50 * sc + 2 + i) (nI (fol (fs sd i) % 256)) = wr a49 (50 * sc + 2) (i + 1) (fun i => nI (fs sd (i + 1) % 256)) := e
      rw [e']
      exact ih k (i + 1) (by omega) (by omega)
  obtain ⟨l, l', h⟩ := loop T0 n 0 (by omega) (by omega)
  rw [wr_0] at h
  exact ⟨l, l', h⟩
theorem c_idle {n : Nat} (hn : 100 ≤ n) {sc T0 : Nat} (hsc : sc < 64) (hT : T0 ≤ 48) (o4 a7 : Nat → Int32) (e4 : o4 3 = nI sc) : f_X8_fillIdle_4 n o4 a7 (nI T0) = some (wr a7 (48 * sc) T0 (fun _ => sb 106)) := by
  have loop : ∀ (q k i : Nat), i + q = T0 → q < k → ∃ l, l_X8_fillIdle_4_10 n o4 (nI T0) (nI (48 * sc)) k (nI i) (wr a7 (48 * sc) i (fun _ => sb 106)) = some (l, wr a7 (48 * sc) T0 (fun _ => sb 106)) := by
    intro q
    induction q with
    | zero =>
      intro k i hi hk
      obtain ⟨k, rfl⟩ : ∃ q, k = q + 1 := ⟨k - 1, by omega⟩
      rw [l_X8_fillIdle_4_10, if_pos (nI_le (by omega) (by omega)), show i = T0 by omega]
      exact ⟨_, rfl⟩
    | succ q ih =>
      intro k i hi hk
      obtain ⟨k, rfl⟩ : ∃ q, k = q + 1 := ⟨k - 1, by omega⟩
      have e106 : vp_nar .byte 106 = sb 106 := pk_vb 106
      rw [l_X8_fillIdle_4_10, if_neg (nI_ge (by omega) (by omega)), nI_add, if_neg (show ¬ 3072 ≤ nI (48 * sc + i) from nI_ge (b := 3072) (by omega) (by decide)), xin_t (show 48 * sc + i < 3072 by omega) (by decide), cond_true, nI_clamp (by omega), e106, nI_1]
      have e := wr_s a7 (48 * sc) i (fun _ => sb 106)
      rw [e]
      exact ih k (i + 1) (by omega) (by omega)
  unfold f_X8_fillIdle_4
  obtain ⟨l, h⟩ := loop T0 n 0 (by omega) (by omega)
  rw [wr_0] at h
  have h' : l_X8_fillIdle_4_10 n o4 (nI T0) (nI (48 * sc)) n 0 a7 = some (l, wr a7 (48 * sc) T0 (fun _ => sb 106)) := h
  rw [e4, show nI sc * 48 = nI (48 * sc) by rw [show (48 : Int32) = nI 48 from rfl, pk_mul, Nat.mul_comm], h', Option.bind_some]
theorem m_idle {n : Nat} (hn : 100 ≤ n) {sc T0 : Nat} (hsc : sc < 64) (hT : T0 ≤ 48) (o44 a45 a48 a49 : Nat → Int32) (p1 p2 : Int32) (e7 : o44 7 = nI sc) (e0 : a45 0 = nI T0) : ∃ l, l_X12_rest_44_40 n o44 a45 a48 p1 p2 n 0 a49 = some (l, wr a49 (50 * sc + 2) T0 (fun _ => nI 106)) := by
  have loop : ∀ (q k i : Nat), i + q = T0 → q < k → ∃ l, l_X12_rest_44_40 n o44 a45 a48 p1 p2 k (nI i) (wr a49 (50 * sc + 2) i (fun _ => nI 106)) = some (l, wr a49 (50 * sc + 2) T0 (fun _ => nI 106)) := by
    intro q
    induction q with
    | zero =>
      intro k i hi hk
      obtain ⟨k, rfl⟩ : ∃ q, k = q + 1 := ⟨k - 1, by omega⟩
      rw [l_X12_rest_44_40, e0, if_pos (nI_le (by omega) (by omega)), show i = T0 by omega]
      exact ⟨_, rfl⟩
    | succ q ih =>
      intro k i hi hk
      obtain ⟨k, rfl⟩ : ∃ q, k = q + 1 := ⟨k - 1, by omega⟩
      rw [l_X12_rest_44_40, e0, if_neg (nI_ge (by omega) (by omega)), e7, show (50 : Int32) * nI sc = nI (50 * sc) from pk_mul 50 sc, show nI (50 * sc) + 2 = nI (50 * sc + 2) from nI_add _ 2, nI_add (50 * sc + 2) i, xin_t (show 50 * sc + 2 + i < 3200 by omega) (by decide), cond_true, nI_clamp (by omega), nI_1]
      have e := wr_s a49 (50 * sc + 2) i (fun _ => nI 106)
      have e' : upd (wr a49 (50 * sc + 2) i (fun _ => nI 106)) (50 * sc + 2 + i) 106 = wr a49 (50 * sc + 2) (i + 1) (fun _ => nI 106) := e
      rw [e']
      exact ih k (i + 1) (by omega) (by omega)
  obtain ⟨l, h⟩ := loop T0 n 0 (by omega) (by omega)
  rw [wr_0] at h
  exact ⟨l, h⟩
/-- a CELL more -/
theorem k_cell {n : Nat} (hn : 100 ≤ n) {at_ sc T0 sz hs : Nat} (hsc : sc < 64) (hT : T0 ≤ 48) {bt : Nat → Bool} {hd : Nat → Int32} {sy : Nat → Nat → Nat} {o2 a3 o4 a6 a7 o44 a45 a48 a49 a51 : Nat → Int32} {j5 : Int64} (hdr : Int32) (y : Nat → Nat) (hy : ∀ i, i < T0 → y i < 256) (e45 : a45 0 = nI T0) (hL : iL sz at_ bt o2 a3 o44 a48 a51) (hS : iS T0 sc hs hd sy o4 j5 a6 a7 o44 a49) (hz : sz + 40 + 8 * T0 ≤ 9600) : ∃ (o2' a3' o4' a6' o44' a48' a49' : Nat → Int32) (j5' : Int64) (hs' : Nat) (bt' : Nat → Bool) (hd' : Nat → Int32) (sy' : Nat → Nat → Nat), f_X8_putCell_4_2 n o2 a3 o4 j5 a6 (wr a7 (48 * sc) T0 (fun i => sb (y i))) hdr (nI T0) = some (o2', a3', o4', j5', a6') ∧ f_X12_sends_44 n o44 a45 a48 (wr a49 (50 * sc + 2) T0 (fun i => nI (y i))) hdr = some (o44', a48', a49') ∧ fr4 o44 o44' ∧ iL (sz + 40 + 8 * T0) at_ bt' o2' a3' o44' a48' a51 ∧ iS T0 (sc + 1) hs' hd' sy' o4' j5' a6' (wr a7 (48 * sc) T0 (fun i => sb (y i))) o44' a49' := by
  obtain ⟨s1, s2, s3, s4, s5⟩ := hS
  have hb : ∀ i, i < T0 → y i < 256 ∧ wr a7 (48 * sc) T0 (fun i => sb (y i)) (48 * sc + i) = sb (y i) ∧ wr a49 (50 * sc + 2) T0 (fun i => nI (y i)) (50 * sc + 2 + i) = nI (y i) := by
    intro i hi
    refine ⟨hy i hi, ?_, ?_⟩
    · unfold wr
      rw [if_pos ⟨by omega, by omega⟩, show 48 * sc + i - 48 * sc = i by omega]
    · unfold wr
      rw [if_pos ⟨by omega, by omega⟩, show 50 * sc + 2 + i - (50 * sc + 2) = i by omega]
  obtain ⟨o2', a3', o44', a48', j5', h', bt', r1, r2, r3, r4, r5, r6⟩ := k_put hn hsc hT o2 a3 o4 a6 (wr a7 (48 * sc) T0 (fun i => sb (y i))) o44 a45 a48 (wr a49 (50 * sc + 2) T0 (fun i => nI (y i))) a51 j5 hdr y e45 s1 s2 s4 hL hz hb
  refine ⟨_, _, _, _, _, _, _, _, h', bt', fun s => if s = sc then hdr else hd s, fun s => if s = sc then y else sy s, r1, r2, r5, r6, rfl, r4, by omega, r3, fun s hs2 => ?_⟩
  by_cases c : s = sc
  · subst c
    dsimp only
    rw [if_pos rfl, if_pos rfl]
    refine ⟨pk_us, ?_, pk_us, fun i hi => ⟨hy i hi, (hb i hi).2.1, ?_⟩⟩
    · rw [pk_un (by omega), pk_us]
    · rw [pk_un (by omega), pk_un (by omega)]; exact (hb i hi).2.2
  · dsimp only
    rw [if_neg c, if_neg c]
    obtain ⟨w1, w2, w3, w4⟩ := s5 s (by omega)
    refine ⟨by rw [pk_un c]; exact w1, ?_, ?_, fun i hi => ⟨(w4 i hi).1, ?_, ?_⟩⟩
    · rw [pk_un (by omega), pk_un (by omega)]
      unfold wr
      rw [if_neg (fun z => by omega)]; exact w2
    · rw [pk_un (by omega), pk_un (by omega)]
      unfold wr
      rw [if_neg (fun z => by omega)]; exact w3
    · unfold wr
      rw [if_neg (fun z => by omega)]; exact (w4 i hi).2.1
    · rw [pk_un (by omega), pk_un (by omega)]
      unfold wr
      rw [if_neg (fun z => by omega)]; exact (w4 i hi).2.2
theorem k_send {n : Nat} (hn : 100 ≤ n) {at_ sc sz hs : Nat} {T : Nat → Nat} {bt : Nat → Bool} {hd : Nat → Int32} {sy : Nat → Nat → Nat} {a1 o2 a3 o4 a6 a7 o44 a45 a48 a49 a51 : Nat → Int32} {j5 : Int64} (hT : iT T a1 a45) (hL : iL sz at_ bt o2 a3 o44 a48 a51) (hS : iS (T 0) sc hs hd sy o4 j5 a6 a7 o44 a49) (p1 p2 : Int32) : ∃ (a : Int32) (o2' a3' o4' a6' a7' o44' a48' a49' : Nat → Int32) (j5' : Int64) (sz' sc' hs' : Nat) (bt' : Nat → Bool) (hd' : Nat → Int32) (sy' : Nat → Nat → Nat), f_X11_send_0 n a1 o2 a3 o4 j5 a6 a7 p1 p2 = some (a, o2', a3', o4', j5', a6', a7') ∧ f_X12_send_44 n o44 a45 a48 a49 p1 p2 = some (a, o44', a48', a49') ∧ fr4 (upd o44 0 0) o44' ∧ iL sz' at_ bt' o2' a3' o44' a48' a51 ∧ iS (T 0) sc' hs' hd' sy' o4' j5' a6' a7' o44' a49' := by
  have t0 := hT.2.1
  have ha := (hT.1 0 (by decide)).1
  have hb := (hT.1 0 (by decide)).2
  have hL0 : iL sz at_ bt o2 a3 (upd o44 0 0) a48 a51 := hL
  have hS0 : iS (T 0) sc hs hd sy o4 j5 a6 a7 (upd o44 0 0) a49 := hS
  unfold f_X11_send_0 f_X12_send_44
  rw [isW p2, isIn_w p2 0 1000003 0 1000003 rfl rfl]
  have r1 : f_X11_hasRoomForCells_0 a1 o2 o4 1 = some (if sc + 1 ≤ 64 ∧ sz + 1 * (40 + 8 * T 0) ≤ 9600 then 1 else 0) := roomC_is (m := 1) hS.2.2.1 hL.2.2.2.2.2.1 t0.2 (by decide) ha hL.1 hS.1
  have r2 : f_X12_hasRoom_44 (upd o44 0 0) a45 1 = some (if sc + 1 ≤ 64 ∧ sz + 1 * (40 + 8 * T 0) ≤ 9600 then 1 else 0) := roomM_is (m := 1) hS.2.2.1 hL.2.2.2.2.2.1 t0.2 (by decide) hb hL.2.2.1 hS.2.1
  rw [r1, r2]
  simp only [Option.bind_some]
  by_cases c : 0 ≤ p2 ∧ p2 ≤ 1000003
  · rw [if_pos c, if_neg one_ne, if_neg one_ne]
    obtain ⟨sd, -, s2, rfl⟩ := i32_in (a := 0) (b := 1000003) (by decide) c (by decide)
    by_cases d : sc + 1 ≤ 64 ∧ sz + 1 * (40 + 8 * T 0) ≤ 9600
    · obtain ⟨l, l', e2⟩ := m_fill hn (sc := sc) (T0 := T 0) (sd := sd) (by omega) t0.2 s2 (upd o44 0 0) a45 a48 a49 p1 hS.2.1 hb
      rw [if_pos d, if_neg one_ne, if_neg one_ne, ha, c_fill hn (sc := sc) (T0 := T 0) (sd := sd) (by omega) t0.2 s2 o4 a7 hS.1, e2, Option.bind_some, Option.bind_some]
      obtain ⟨o2', a3', o4', a6', o44', a48', a49', j5', hs', bt', hd', sy', f1, f2, f3, f4, f5⟩ := k_cell hn (sc := sc) (by omega) t0.2 p1 (fun i => fs sd (i + 1) % 256) (fun i _ => Nat.mod_lt _ (by decide)) hb hL0 hS0 (by omega)
      simp only []
      rw [f1, f2, Option.bind_some, Option.bind_some]
      refine ⟨_, _, _, _, _, _, _, _, _, _, _, sc + 1, hs', bt', hd', sy', rfl, ?_, f3, f4, f5⟩
      show some (o44' 7 - 1, o44', a48', a49') = some (o4' 3 - 1, _, _, _)
      rw [f5.1, f5.2.1]
    · rw [if_neg d, if_pos rfl, if_pos rfl]
      exact ⟨_, _, _, _, _, _, _, _, _, _, _, _, _, bt, hd, sy, rfl, rfl, fun j _ _ _ _ => rfl, hL0, hS0⟩
  · rw [if_neg c, if_pos rfl, if_pos rfl]
    exact ⟨_, _, _, _, _, _, _, _, _, _, _, _, _, bt, hd, sy, rfl, rfl, fun j _ _ _ _ => rfl, hL0, hS0⟩
theorem k_rest {n : Nat} (hn : 100 ≤ n) {at_ sc sz hs : Nat} {T : Nat → Nat} {bt : Nat → Bool} {hd : Nat → Int32} {sy : Nat → Nat → Nat} {a1 o2 a3 o4 a6 a7 o44 a45 a48 a49 a51 : Nat → Int32} {j5 : Int64} (hT : iT T a1 a45) (hL : iL sz at_ bt o2 a3 o44 a48 a51) (hS : iS (T 0) sc hs hd sy o4 j5 a6 a7 o44 a49) (p1 : Int32) : ∃ (a : Int32) (o2' a3' o4' a6' a7' o44' a48' a49' : Nat → Int32) (j5' : Int64) (sz' sc' hs' : Nat) (bt' : Nat → Bool) (hd' : Nat → Int32) (sy' : Nat → Nat → Nat), f_X11_rest_0 n a1 o2 a3 o4 j5 a6 a7 p1 = some (a, o2', a3', o4', j5', a6', a7') ∧ f_X12_rest_44 n o44 a45 a48 a49 p1 = some (a, o44', a48', a49') ∧ fr4 (upd o44 0 0) o44' ∧ iL sz' at_ bt' o2' a3' o44' a48' a51 ∧ iS (T 0) sc' hs' hd' sy' o4' j5' a6' a7' o44' a49' := by
  have t0 := hT.2.1
  have ha := (hT.1 0 (by decide)).1
  have hb := (hT.1 0 (by decide)).2
  have hL0 : iL sz at_ bt o2 a3 (upd o44 0 0) a48 a51 := hL
  have hS0 : iS (T 0) sc hs hd sy o4 j5 a6 a7 (upd o44 0 0) a49 := hS
  unfold f_X11_rest_0 f_X12_rest_44
  rw [isW p1, isIn_w p1 1 20 1 20 rfl rfl]
  simp only [Option.bind_some]
  by_cases c : 1 ≤ p1 ∧ p1 ≤ 20
  · rw [if_pos c, if_neg one_ne, if_neg one_ne]
    obtain ⟨m, m1, m2, rfl⟩ := i32_in (a := 1) (b := 20) (by decide) c (by decide)
    rw [roomC_is (m := m) hS.2.2.1 hL.2.2.2.2.2.1 t0.2 m2 ha hL.1 hS.1, roomM_is (m := m) hS0.2.2.1 hL.2.2.2.2.2.1 t0.2 m2 hb hL0.2.2.1 hS0.2.1, Option.bind_some, Option.bind_some]
    by_cases d : sc + m ≤ 64 ∧ sz + m * (40 + 8 * T 0) ≤ 9600
    · rw [if_pos d, if_neg one_ne, if_neg one_ne]
      have loop : ∀ (q k i sc sz hs : Nat) (bt : Nat → Bool) (hd : Nat → Int32) (sy : Nat → Nat → Nat) (o2 a3 o4 a6 a7 o44 a48 a49 : Nat → Int32) (j5 : Int64), i + q = m → q < k → sc + q ≤ 64 → sz + q * (40 + 8 * T 0) ≤ 9600 → iL sz at_ bt o2 a3 o44 a48 a51 → iS (T 0) sc hs hd sy o4 j5 a6 a7 o44 a49 → ∃ (l l' : Int32) (o2' a3' o4' a6' a7' o44' a48' a49' : Nat → Int32) (j5' : Int64) (sz' sc' hs' : Nat) (bt' : Nat → Bool) (hd' : Nat → Int32) (sy' : Nat → Nat → Nat), l_X11_rest_0_26 n a1 (nI m) k (nI i) o2 a3 o4 j5 a6 a7 = some (l, o2', a3', o4', j5', a6', a7') ∧ l_X12_rest_44_33 n a45 (nI m) k (nI i) o44 a48 a49 = some (l', o44', a48', a49') ∧ fr4 o44 o44' ∧ iL sz' at_ bt' o2' a3' o44' a48' a51 ∧ iS (T 0) sc' hs' hd' sy' o4' j5' a6' a7' o44' a49' := by
        intro q
        induction q with
        | zero =>
          intro k i sc sz hs bt hd sy o2 a3 o4 a6 a7 o44 a48 a49 j5 hi hk h1 h2 hL hS
          obtain ⟨k, rfl⟩ : ∃ q, k = q + 1 := ⟨k - 1, by omega⟩
          rw [l_X11_rest_0_26, l_X12_rest_44_33, if_pos (nI_le (by omega) (by omega)), if_pos (nI_le (by omega) (by omega))]
          exact ⟨_, _, _, _, _, _, _, _, _, _, _, _, _, _, bt, hd, sy, rfl, rfl, fun j _ _ _ _ => rfl, hL, hS⟩
        | succ q ih =>
          intro k i sc sz hs bt hd sy o2 a3 o4 a6 a7 o44 a48 a49 j5 hi hk h1 h2 hL hS
          obtain ⟨k, rfl⟩ : ∃ q, k = q + 1 := ⟨k - 1, by omega⟩
          have h3 : q * (40 + 8 * T 0) + (40 + 8 * T 0) = (q + 1) * (40 + 8 * T 0) := (Nat.succ_mul _ _).symm
          obtain ⟨l, e2⟩ := m_idle hn (sc := sc) (T0 := T 0) (by omega) t0.2 o44 a45 a48 a49 (nI m) (nI i) hS.2.1 hb
          rw [l_X11_rest_0_26, l_X12_rest_44_33, if_neg (nI_ge (by omega) (by omega)), if_neg (nI_ge (by omega) (by omega)), ha, c_idle hn (sc := sc) (T0 := T 0) (by omega) t0.2 o4 a7 hS.1, e2, Option.bind_some, Option.bind_some]
          obtain ⟨o2', a3', o4', a6', o44', a48', a49', j5', hs', bt', hd', sy', f1, f2, f3, f4, f5⟩ := k_cell hn (sc := sc) (by omega) t0.2 1 (fun _ => 106) (fun i _ => by decide) hb hL hS (by omega)
          simp only []
          rw [f1, f2, Option.bind_some, Option.bind_some, nI_1]
          obtain ⟨l1, l2, x1, x2, x3, x4, x5, x6, x7, x8, x9, y1, y2, y3, y4, y5, y6, z1, z2, z3, z4, z5⟩ := ih k (i + 1) (sc + 1) (sz + 40 + 8 * T 0) hs' bt' hd' sy' o2' a3' o4' a6' (wr a7 (48 * sc) (T 0) (fun _ => sb 106)) o44' a48' a49' j5' (by omega) (by omega) (by omega) (by omega) f4 f5
          exact ⟨l1, l2, x1, x2, x3, x4, x5, x6, x7, x8, x9, y1, y2, y3, y4, y5, y6, z1, z2, fun j a b c d => (z3 j a b c d).trans (f3 j a b c d), z4, z5⟩
      obtain ⟨l1, l2, x1, x2, x3, x4, x5, x6, x7, x8, x9, y1, y2, y3, y4, y5, y6, z1, z2, z3, z4, z5⟩ := loop m n 0 sc sz hs bt hd sy o2 a3 o4 a6 a7 (upd o44 0 0) a48 a49 j5 (by omega) (by omega) d.1 d.2 hL0 hS0
      have z1' : l_X11_rest_0_26 n a1 (nI m) n 0 o2 a3 o4 j5 a6 a7 = some (l1, x1, x2, x3, x9, x4, x5) := z1
      have z2' : l_X12_rest_44_33 n a45 (nI m) n 0 (upd o44 0 0) a48 a49 = some (l2, x6, x7, x8) := z2
      rw [z1', z2', Option.bind_some, Option.bind_some]
      refine ⟨_, _, _, _, _, _, _, _, _, _, _, y2, y3, y4, y5, y6, rfl, ?_, z3, z4, z5⟩
      show some (x6 7, x6, x7, x8) = some (x3 3, _, _, _)
      rw [z5.1, z5.2.1]
    · rw [if_neg d, if_pos rfl, if_pos rfl]
      exact ⟨_, _, _, _, _, _, _, _, _, _, _, _, _, bt, hd, sy, rfl, rfl, fun j _ _ _ _ => rfl, hL0, hS0⟩
  · rw [if_neg c, if_pos rfl, if_pos rfl]
    exact ⟨_, _, _, _, _, _, _, _, _, _, _, _, _, bt, hd, sy, rfl, rfl, fun j _ _ _ _ => rfl, hL0, hS0⟩
