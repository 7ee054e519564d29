/-! stages, fresh, take -/
theorem lN_nat (x : Int64) : lN x.toBitVec.toNat = x := by
  apply i64_ext
  apply BitVec.eq_of_toNat_eq
  rw [lN_bv, BitVec.toNat_ofNat]
  exact Nat.mod_eq_of_lt x.toBitVec.isLt
theorem i2l_mask (b : Int32) : Int32.toInt64 b &&& 4294967295 = lN b.toBitVec.toNat := by
  have h := lN_mask (Int32.toInt64 b).toBitVec.toNat 4294967295 32 (by decide) (by decide)
  rw [lN_nat] at h
  rw [h]
  congr 1
  have e : (Int32.toInt64 b).toBitVec = b.toBitVec.signExtend 64 := rfl
  have hl := b.toBitVec.isLt
  rw [e, BitVec.toNat_signExtend, BitVec.toNat_setWidth]
  by_cases c : b.toBitVec.msb = true
  · rw [if_pos c]; omega
  · rw [if_neg c]; omega
theorem lN_shl11 (x : Nat) : lN x <<< (Int32.toInt64 11 &&& 63) = lN (x * 2048) := by
  apply i64_ext
  apply BitVec.eq_of_toNat_eq
  have h : (Int32.toInt64 11 &&& 63 : Int64) = 11 := by decide
  have e : (lN x <<< (Int32.toInt64 11 &&& 63)).toBitVec = (lN x).toBitVec <<< 11 := by rw [h]; rfl
  rw [e, BitVec.toNat_shiftLeft, lN_bv, lN_bv, BitVec.toNat_ofNat, BitVec.toNat_ofNat, Nat.shiftLeft_eq]
  omega
theorem lN_or (a b : Nat) : lN a ||| lN b = lN (a ||| b) := by
  apply i64_ext
  apply BitVec.eq_of_toNat_eq
  rw [Int64.toBitVec_or, BitVec.toNat_or, lN_bv, lN_bv, lN_bv, BitVec.toNat_ofNat, BitVec.toNat_ofNat, BitVec.toNat_ofNat, Nat.or_mod_two_pow]
theorem or11 {a b : Nat} (ha : a < 2048) : b * 2048 ||| a = b * 2048 + a := by
  have h := Nat.shiftLeft_add_eq_or_of_lt (b := a) (i := 11) ha b
  rw [Nat.shiftLeft_eq] at h
  exact h.symm
theorem stg_c {a : Nat} (ha : a < 2048) (b : Int32) (j : Int64) : f_X2_set_19 j (nI a) b = some (lN (b.toBitVec.toNat * 2048 + a)) := by
  unfold f_X2_set_19
  rw [i2l_mask, lN_shl11, show nI a &&& 2047 = nI a by rw [nI_and11, Nat.mod_eq_of_lt ha], nI_l (by omega), lN_or, or11 ha]
theorem stg_l {a : Nat} (ha : a < 2048) (b : Int32) : nI a ||| (b <<< (11 &&& 31)) = nI ((b.toBitVec.toNat * 2048 + a) % 2 ^ 32) := by
  apply i32_ext
  apply BitVec.eq_of_toNat_eq
  have hb := b.toBitVec.isLt
  have e : b.toBitVec.toNat * 2 ^ 11 % 2 ^ 32 = (b.toBitVec.toNat % 2 ^ 21) * 2048 := by omega
  rw [Int32.toBitVec_or, BitVec.toNat_or, pk_shl b (11 &&& 31) 11 (by decide), nI_tn, nI_tn, Nat.mod_eq_of_lt (show a < 2 ^ 32 by omega), e, Nat.or_comm, or11 ha]
  omega
theorem stg_h (b : Int32) : xus b 21 = nI (b.toBitVec.toNat / 2 ^ 21) := by
  have h := pk_ushr b 21 21 (by decide)
  rw [← nI_nat (xus b 21)]
  congr 1
theorem stg_n {n : Nat} (hn : 100 ≤ n) (o44 a51 : Nat → Int32) (x y : Int32) : ∃ l, l_X12_stages_44_49 n o44 a51 x y n 0 0 = some (nI (pop 32 x.toBitVec.toNat + pop 32 y.toBitVec.toNat), l) := by
  have loop : ∀ (q k i v : Nat), i + q = 32 → q < k → ∃ l, l_X12_stages_44_49 n o44 a51 x y k (nI v) (nI i) = some (nI (v + pop q (x.toBitVec.toNat / 2 ^ i) + pop q (y.toBitVec.toNat / 2 ^ i)), l) := by
    intro q
    induction q with
    | zero =>
      intro k i v hi hk
      obtain ⟨k, rfl⟩ : ∃ q, k = q + 1 := ⟨k - 1, by omega⟩
      rw [l_X12_stages_44_49, if_pos (show 32 ≤ nI i from nI_le (a := 32) (by omega) (by omega))]
      exact ⟨_, rfl⟩
    | succ q ih =>
      intro k i v hi hk
      obtain ⟨k, rfl⟩ : ∃ q, k = q + 1 := ⟨k - 1, by omega⟩
      rw [l_X12_stages_44_49, if_neg (show ¬ 32 ≤ nI i from nI_ge (b := 32) (by omega) (by decide)), bit_is x (by omega), bit_is y (by omega), nI_add, nI_add, nI_1]
      obtain ⟨l, h⟩ := ih k (i + 1) (v + (x.toBitVec.toNat / 2 ^ i % 2 + y.toBitVec.toNat / 2 ^ i % 2)) (by omega) (by omega)
      rw [h]
      refine ⟨l, ?_⟩
      have eq : ∀ z : Nat, z / 2 ^ i / 2 = z / 2 ^ (i + 1) := fun z => by rw [Nat.div_div_eq_div_mul]; rfl
      rw [pop, pop, eq, eq]
      congr 3
      omega
  obtain ⟨l, h⟩ := loop 32 n 0 0 (by decide) (by omega)
  rw [Nat.pow_zero, Nat.div_one, Nat.div_one, Nat.zero_add] at h
  exact ⟨l, h⟩
theorem pop_hi {k x m : Nat} (hx : x < 2 ^ k) : pop (k + m) x = pop k x := by
  rw [pop_add, Nat.div_eq_of_lt hx, pop_0, Nat.add_zero]
theorem k_stages {n : Nat} (hn : 100 ≤ n) {T0 B : Nat} {S : Nat → Nat} {o a ow o44 : Nat → Int32} {jw jh : Int64} {ald o9 a10 o11 a12 o13 a14 a15 : Nat → Int32} (tT : T0 ≤ 48) (hW : aW T0 B S) (hR : cR T0 S o a ow jw jh ald) (hG : cG T0 S o9 a10 o11 a12 o13 a14 a15) (p1 p2 : Int32) : ∃ x jh' S', f_X11_stages_0 o jh p1 p2 = some (x, jh') ∧ f_X12_stages_44 n o44 (sn S) p1 p2 = some (x, upd o44 0 0, sn S') ∧ S' 0 = S 0 ∧ aW T0 B S' ∧ cR T0 S' o a ow jw jh' ald ∧ cG T0 S' o9 a10 o11 a12 o13 a14 a15 := by
  unfold f_X11_stages_0 f_X12_stages_44
  rw [isW, isIn_w p1 0 2047 0 2047 rfl rfl]
  simp only [Option.bind_some]
  by_cases c : 0 ≤ p1 ∧ p1 ≤ 2047
  · rw [if_pos c, if_neg one_ne, if_neg one_ne]
    obtain ⟨x, -, hx, rfl⟩ := i32_in (a := 0) (b := 2047) (by decide) c (by decide)
    have hy := p2.toBitVec.isLt
    obtain ⟨l, e⟩ := stg_n hn (upd o44 0 0) (upd (upd (sn S) 30 (nI ((p2.toBitVec.toNat * 2048 + x) % 2 ^ 32))) 29 (nI (p2.toBitVec.toNat / 2 ^ 21))) (nI x) p2
    rw [stg_c (by omega), Option.bind_some]
    unfold f_X2_ones_19
    rw [bc_is (by omega), Option.bind_some, Option.bind_some, stg_l (by omega), stg_h, e, Option.bind_some, sn_su, sn_su]
    have ep : pop 64 (p2.toBitVec.toNat * 2048 + x) = pop 32 (nI x).toBitVec.toNat + pop 32 p2.toBitVec.toNat := by
      rw [pk_tn (by omega), show (64 : Nat) = 11 + 53 by decide, pop_add, show (p2.toBitVec.toNat * 2048 + x) / 2 ^ 11 = p2.toBitVec.toNat by omega, ← pop_mod 11, show (p2.toBitVec.toNat * 2048 + x) % 2 ^ 11 = x by omega, show pop 53 p2.toBitVec.toNat = pop 32 p2.toBitVec.toNat from pop_hi (k := 32) (m := 21) hy, show pop 32 x = pop 11 x from pop_hi (k := 11) (m := 21) (show x < 2 ^ 11 by omega)]
    rw [ep]
    refine ⟨_, _, _, rfl, rfl, rfl, ?_, ?_, ?_⟩
    · obtain ⟨w1, w2, ⟨⟨h1, h2, h3, h4, h5⟩, h6, h7⟩, w4⟩ := hW
      refine ⟨w1, w2, ⟨⟨h1, h2, ?_, ?_, h5⟩, fun i hi => ?_, fun s i hs hi => ?_⟩, fun k hk => ?_⟩
      · show p2.toBitVec.toNat / 2 ^ 21 < 2 ^ 11
        omega
      · show (p2.toBitVec.toNat * 2048 + x) % 2 ^ 32 < 2 ^ 32
        exact Nat.mod_lt _ (by decide)
      · rw [su_n (by omega), su_n (by omega)]; exact h6 i hi
      · rw [su_n (by omega), su_n (by omega)]; exact h7 s i hs hi
      · rw [su_n (by omega), su_n (by omega)]; exact w4 k hk
    · obtain ⟨h1, h2, h3, h4, h5⟩ := hR
      have h7 : S 7 < 384 := by have := hW.1.2.2.2.2.2.1; omega
      refine ⟨h1, cC_cg h2 (fun k hk => by rw [su_n (by omega), su_n (by omega)]), h3, ?_, cY_cg h5 rfl rfl rfl (fun i hi => by rw [su_n (by omega), su_n (by omega)]) h7⟩
      show lN (p2.toBitVec.toNat * 2048 + x) = lN (p2.toBitVec.toNat / 2 ^ 21 * 2 ^ 32 + (p2.toBitVec.toNat * 2048 + x) % 2 ^ 32)
      rw [show p2.toBitVec.toNat / 2 ^ 21 * 2 ^ 32 + (p2.toBitVec.toNat * 2048 + x) % 2 ^ 32 = p2.toBitVec.toNat * 2048 + x by omega]
    · exact ⟨gC_cg hG.1 tT rfl (fun j h1 h2 => by rw [su_n (by omega), su_n (by omega)]), gT_cg hG.2.1 rfl (fun j h1 h2 => by rw [su_n (by omega), su_n (by omega)]), gJ_cg hG.2.2 rfl (fun j h1 h2 => by rw [su_n (by omega), su_n (by omega)])⟩
  · rw [if_neg c, if_pos rfl, if_pos rfl]
    exact ⟨_, _, S, rfl, rfl, rfl, hW, hR, hG⟩
/-- a FRESH receiver -/
def aFr (S : Nat → Nat) : Nat → Nat := fun j => if 1 ≤ j ∧ j < 875 then 0 else S j
theorem m_fresh {n : Nat} (hn : 1000 ≤ n) (o44 : Nat → Int32) (S : Nat → Nat) : f_X12_freshens_44 n o44 (sn S) = some (sn (aFr S)) := by
  have loop : ∀ (q k i : Nat), i + q = 875 → 1 ≤ i → q < k → ∃ l, l_X12_freshens_44_2 n o44 k (nI i) (sn (fun j => if 1 ≤ j ∧ j < i then 0 else S j)) = some (l, sn (aFr S)) := by
    intro q
    induction q with
    | zero =>
      intro k i hi h1 hk
      obtain ⟨k, rfl⟩ : ∃ q, k = q + 1 := ⟨k - 1, by omega⟩
      rw [l_X12_freshens_44_2, if_pos (show 875 ≤ nI i from nI_le (a := 875) (by omega) (by omega)), show i = 875 by omega]
      exact ⟨_, rfl⟩
    | succ q ih =>
      intro k i hi h1 hk
      obtain ⟨k, rfl⟩ : ∃ q, k = q + 1 := ⟨k - 1, by omega⟩
      rw [l_X12_freshens_44_2, if_neg (show ¬ 875 ≤ nI i from nI_ge (b := 875) (by omega) (by decide)), xin_t (show i < 875 by omega) (by decide), cond_true, nI_clamp (by omega), nI_1, show (0 : Int32) = nI 0 from rfl, sn_su]
      have e : su (fun j => if 1 ≤ j ∧ j < i then 0 else S j) i 0 = (fun j => if 1 ≤ j ∧ j < i + 1 then 0 else S j) := by
        funext j
        unfold su
        by_cases c : j = i
        · rw [if_pos c, if_pos ⟨by omega, by omega⟩]
        · rw [if_neg c]
          show (if 1 ≤ j ∧ j < i then 0 else S j) = _
          by_cases d : 1 ≤ j ∧ j < i
          · rw [if_pos d, if_pos ⟨d.1, by omega⟩]
          · rw [if_neg d, if_neg (fun z => d ⟨z.1, by omega⟩)]
      rw [e]
      exact ih k (i + 1) (by omega) (by omega) (by omega)
  unfold f_X12_freshens_44
  obtain ⟨l, h⟩ := loop 874 n 1 (by decide) (by decide) (by omega)
  have e : (fun j => if 1 ≤ j ∧ j < 1 then 0 else S j) = S := by
    funext j
    exact if_neg (fun z => by omega)
  rw [e] at h
  have h' : l_X12_freshens_44_2 n o44 n 1 (sn S) = some (l, sn (aFr S)) := h
  rw [h', Option.bind_some]
theorem aFr_z (S : Nat → Nat) {j : Nat} (h : 1 ≤ j ∧ j < 875) : aFr S j = 0 := if_pos h
theorem aW_fr (T0 B : Nat) (S : Nat → Nat) (h0 : 0 < T0) : aW T0 B (aFr S) := by
  have z : ∀ j, 1 ≤ j → j < 875 → aFr S j = 0 := fun j h1 h2 => aFr_z S ⟨h1, h2⟩
  refine ⟨?_, by rw [z 5 (by decide) (by decide)]; omega, ⟨?_, fun i hi => by rw [z _ (by omega) (by omega)]; decide, fun s i hs hi => by rw [z _ (by omega) (by omega)]; decide⟩, fun k hk => by rw [z _ (by omega) (by omega)]; omega⟩
  · unfold lw
    rw [z 1 (by decide) (by decide), z 2 (by decide) (by decide), z 3 (by decide) (by decide), z 4 (by decide) (by decide), z 873 (by decide) (by decide), z 872 (by decide) (by decide), z 874 (by decide) (by decide), z 6 (by decide) (by decide), z 9 (by decide) (by decide), z 10 (by decide) (by decide), z 8 (by decide) (by decide), z 7 (by decide) (by decide), z 5 (by decide) (by decide)]
    exact ⟨⟨by decide, by decide, by decide, by decide, by decide, by decide, by decide⟩, by decide, by decide, by decide, by decide, by omega, fun _ => rfl, fun _ => rfl, fun _ => ⟨rfl, rfl, rfl⟩⟩
  · rw [z 27 (by decide) (by decide), z 28 (by decide) (by decide), z 29 (by decide) (by decide), z 30 (by decide) (by decide), z 31 (by decide) (by decide)]
    decide
theorem cR_fr {T0 : Nat} {S : Nat → Nat} {o a ow : Nat → Int32} {jw jh : Int64} {ald : Nat → Int32} (hY : cY S ald) (h7 : ∀ k, 7 ≤ k → k ≤ 15 → o k = 0) (ha : ∀ k, k < 14 → a k = 0) (h1 : ow 1 = 0) (h2 : ow 2 = 0) (hj : jw = 0) (hh : jh = 0) : cR T0 (aFr S) o a ow jw jh ald := by
  have z : ∀ j, 1 ≤ j → j < 875 → aFr S j = 0 := fun j h1 h2 => aFr_z S ⟨h1, h2⟩
  refine ⟨?_, fun k hk => by show a k = nI (aFr S (13 + k)); rw [ha k hk, z _ (by omega) (by omega)]; rfl, ?_, by rw [hh, z 29 (by decide) (by decide), z 30 (by decide) (by decide)]; rfl, cY_0 hY (fun _ => z 7 (by decide) (by decide))⟩
  · unfold cO
    rw [z 1 (by decide) (by decide), z 2 (by decide) (by decide), z 3 (by decide) (by decide), z 4 (by decide) (by decide), z 873 (by decide) (by decide), z 872 (by decide) (by decide), z 874 (by decide) (by decide), z 6 (by decide) (by decide), z 7 (by decide) (by decide), z 9 (by decide) (by decide), h7 7 (by decide) (by decide), h7 8 (by decide) (by decide), h7 9 (by decide) (by decide), h7 10 (by decide) (by decide), h7 12 (by decide) (by decide), h7 13 (by decide) (by decide), h7 14 (by decide) (by decide), h7 15 (by decide) (by decide), h7 11 (by decide) (by decide)]
    exact ⟨⟨rfl, rfl, rfl, rfl, rfl, rfl, rfl⟩, fun _ => ⟨rfl, rfl, fun q => (by cases q)⟩, fun q => (by cases q)⟩
  · unfold cV
    rw [z 27 (by decide) (by decide), z 28 (by decide) (by decide), z 5 (by decide) (by decide), h1, h2, hj]
    exact ⟨by decide +kernel, rfl, rfl⟩
theorem fill_17 {n : Nat} (hn : 100 ≤ n) (a : Nat → Int32) : ∃ a', f_J7_fill_53178_17 n a 0 = some a' ∧ ∀ k, k < 14 → a' k = 0 := by
  have loop : ∀ (q k i : Nat) (a : Nat → Int32), i + q = 14 → q < k → (∀ j, j < i → a j = 0) → ∃ l a', l_J7_fill_53178_17_5 n 0 14 k (nI i) a = some (l, a') ∧ ∀ j, j < 14 → a' j = 0 := by
    intro q
    induction q with
    | zero =>
      intro k i a hi hk ha
      obtain ⟨k, rfl⟩ : ∃ q, k = q + 1 := ⟨k - 1, by omega⟩
      rw [l_J7_fill_53178_17_5, if_pos (show 14 ≤ nI i from nI_le (a := 14) (by omega) (by omega))]
      exact ⟨_, _, rfl, fun j hj => ha j (by omega)⟩
    | succ q ih =>
      intro k i a hi hk ha
      obtain ⟨k, rfl⟩ : ∃ q, k = q + 1 := ⟨k - 1, by omega⟩
      rw [l_J7_fill_53178_17_5, if_neg (show ¬ 14 ≤ nI i from nI_ge (b := 14) (by omega) (by decide)), xin_t (show i < 14 by omega) (by decide), cond_true, nI_clamp (by omega), nI_1]
      refine ih k (i + 1) _ (by omega) (by omega) (fun j hj => ?_)
      by_cases e : j = i
      · rw [e, pk_us]
      · rw [pk_un e]; exact ha j (by omega)
  obtain ⟨l, a', h, h2⟩ := loop 14 n 0 a (by decide) (by omega) (fun j hj => absurd hj (Nat.not_lt_zero j))
  unfold f_J7_fill_53178_17
  have h' : l_J7_fill_53178_17_5 n 0 14 n 0 a = some (l, a') := h
  rw [h', Option.bind_some]
  exact ⟨_, rfl, h2⟩
theorem k_fresh {n : Nat} (hn : 1000 ≤ n) {T0 B : Nat} {S : Nat → Nat} {o a ow o44 : Nat → Int32} {jw jh : Int64} {ald o9 a10 o11 a12 o13 a14 a15 : Nat → Int32} (h0 : 0 < T0) (hR : cR T0 S o a ow jw jh ald) (hG : cG T0 S o9 a10 o11 a12 o13 a14 a15) : ∃ x o9' o11' o13' o' a' ow' jw' jh', f_X11_fresh_0 n o9 o11 o13 o a ow jw jh = some (x, o9', o11', o13', o', a', ow', jw', jh') ∧ f_X12_fresh_44 n o44 (sn S) = some (x, upd o44 0 0, sn (aFr S)) ∧ aW T0 B (aFr S) ∧ cR T0 (aFr S) o' a' ow' jw' jh' ald ∧ cG T0 (aFr S) o9' a10 o11' a12 o13' a14 a15 := by
  obtain ⟨a', f1, f2⟩ := fill_17 (n := n) (by omega) a
  unfold f_X11_fresh_0 f_X12_fresh_44 f_X6_restart_16 f_X5_clear_8 f_X10_clear_18 f_X2_clear_19 f_X7_clear_9 f_X7_clear_11 f_X7_clear_13
  rw [f1, m_fresh hn, sn_ap, hR.2.1 3 (by decide)]
  simp only [Option.bind_some]
  have z : ∀ j, 1 ≤ j → j < 875 → aFr S j = 0 := fun j h1 h2 => aFr_z S ⟨h1, h2⟩
  refine ⟨_, _, _, _, _, _, _, _, _, rfl, rfl, aW_fr T0 B S h0, cR_fr hR.2.2.2.2 (fun k h1 h2 => ?_) f2 rfl rfl rfl rfl, ⟨⟨?_, fun s hs hs2 => ?_⟩, ⟨?_, fun s c hs hs2 => ?_⟩, ⟨?_, fun s c hs hs2 => ?_⟩⟩⟩
  · have hk : k = 7 ∨ k = 8 ∨ k = 9 ∨ k = 10 ∨ k = 11 ∨ k = 12 ∨ k = 13 ∨ k = 14 ∨ k = 15 := by omega
    rcases hk with rfl | rfl | rfl | rfl | rfl | rfl | rfl | rfl | rfl <;> rfl
  · rw [z 16 (by decide) (by decide)]; exact ⟨hG.1.1.1, rfl, rfl⟩
  · rw [z 16 (by decide) (by decide)] at hs2; omega
  · rw [z 20 (by decide) (by decide)]; exact ⟨hG.2.1.1.1, rfl, rfl⟩
  · rw [z 20 (by decide) (by decide)] at hs2; omega
  · rw [z 21 (by decide) (by decide)]; exact ⟨hG.2.2.1.1, rfl, rfl⟩
  · rw [z 21 (by decide) (by decide)] at hs2; omega
/-- m bits taken, by a row g of bits -/
def aRun (T : Nat → Nat) (sc : Nat) (hd : Nat → Int32) (sy : Nat → Nat → Nat) (g : Nat → Nat) : Nat → (Nat → Nat) → (Nat → Nat)
  | 0, S => S
  | m + 1, S => aRun T sc hd sy g m (aSt T sc hd sy (g (S 0)) S)
/-- what is seen meanwhile -/
def aRs (T : Nat → Nat) (sc : Nat) (hd : Nat → Int32) (sy : Nat → Nat → Nat) (g : Nat → Nat) (v w : Int32) : Nat → (Nat → Nat) → (Nat → Int32) → (Nat → Int32)
  | 0, _, a => a
  | m + 1, S, a => aRs T sc hd sy g v w m (aSt T sc hd sy (g (S 0)) S) (aSe v w (g (S 0)) S a)
theorem aRs_no (T : Nat → Nat) (sc : Nat) (hd : Nat → Int32) (sy : Nat → Nat → Nat) (g : Nat → Nat) {v w : Int32} (h : v ≠ w) : ∀ m S a, aRs T sc hd sy g v w m S a = a := by
  intro m
  induction m with
  | zero => intro S a; rfl
  | succ m ih =>
    intro S a
    rw [aRs, ih]
    exact if_neg (fun z => h z.1)
theorem aRun_W {T : Nat → Nat} {sc : Nat} {hd : Nat → Int32} {sy : Nat → Nat → Nat} {g : Nat → Nat} (tb : tB T) (hg : ∀ p, g p < 2) : ∀ (m B : Nat) (S : Nat → Nat), aW (T 0) B S → aW (T 0) (B + m) (aRun T sc hd sy g m S) ∧ aRun T sc hd sy g m S 0 = S 0 + m := by
  intro m
  induction m with
  | zero => intro B S h; exact ⟨h, rfl⟩
  | succ m ih =>
    intro B S h
    have t0 := tb.1
    obtain ⟨h1, h2⟩ := ih (B + 1) _ (aW_st (sc := sc) (hd := hd) (sy := sy) (b := g (S 0)) (by omega) t0.2 (hg _) h)
    rw [aRun, h2, aSt_0 t0.2 h.1.2.2.2.2.2.1, show B + (m + 1) = B + 1 + m by omega]
    exact ⟨h1, by omega⟩
theorem m_takes2 {n sc hs : Nat} (hn : 80 ≤ n) {T : Nat → Nat} {a1 a45 : Nat → Int32} (hT : iT T a1 a45) {o4 o44 a6 a7 a48 a49 : Nat → Int32} {j5 : Int64} {hd : Nat → Int32} {sy : Nat → Nat → Nat} (hS : iS (T 0) sc hs hd sy o4 j5 a6 a7 o44 a49) {sz : Nat} (hz : sz ≤ 9600) (h6 : o44 6 = nI sz) {g : Nat → Nat} (hg : ∀ p, g p < 2) (ha : ∀ p, p < sz → a48 p = nI (g p)) (L : Nat) (hL : L < 2 ^ 31) : ∀ (m k i B : Nat) (S : Nat → Nat) (a53 a54 : Nat → Int32), m = min (L - i) (sz - S 0) → i ≤ L → S 0 ≤ sz → m < k → 8 * (B + m) + 100 < 2 ^ 31 → aW (T 0) B S → ∃ l, l_X12_takes_44_2 n o44 a45 a48 a49 (nI L) k (nI i) (sn S) a53 a54 = some (l, sn (aRun T sc hd sy g m S), aRs T sc hd sy g (o44 15) 1 m S a53, aRs T sc hd sy g (o44 15) 2 m S a54) := by
  intro m
  induction m with
  | zero =>
    intro k i B S a53 a54 hm hi h0 hk hB hW
    obtain ⟨k, rfl⟩ : ∃ q, k = q + 1 := ⟨k - 1, by omega⟩
    rw [l_X12_takes_44_2, h6, sn_ap]
    by_cases c : L ≤ i
    · rw [if_pos (nI_le c (by omega))]; exact ⟨_, rfl⟩
    · rw [if_neg (nI_ge (by omega) (by omega)), if_pos (nI_le (by omega) (by omega))]; exact ⟨_, rfl⟩
  | succ m ih =>
    intro k i B S a53 a54 hm hi h0 hk hB hW
    obtain ⟨k, rfl⟩ : ∃ q, k = q + 1 := ⟨k - 1, by omega⟩
    have t0 := hT.2.1
    rw [l_X12_takes_44_2, h6, sn_ap, if_neg (nI_ge (by omega) (by omega)), if_neg (nI_ge (by omega) (by omega)), m_one hn hT hS S a53 a54 (b := g (S 0)) (B := B) (hg _) (by omega) hW (by omega) (ha _ (by omega)), Option.bind_some, nI_1]
    exact ih k (i + 1) (B + 1) _ _ _ (by rw [aSt_0 t0.2 hW.1.2.2.2.2.2.1]; omega) (by omega) (by rw [aSt_0 t0.2 hW.1.2.2.2.2.2.1]; omega) (by omega) (by omega) (aW_st (by omega) t0.2 (hg _) hW)
theorem m_takes {n sc hs : Nat} (hn : 10000 ≤ n) {T : Nat → Nat} {a1 a45 : Nat → Int32} (hT : iT T a1 a45) {o4 o44 a6 a7 a48 a49 : Nat → Int32} {j5 : Int64} {hd : Nat → Int32} {sy : Nat → Nat → Nat} (hS : iS (T 0) sc hs hd sy o4 j5 a6 a7 o44 a49) {sz : Nat} (hz : sz ≤ 9600) (h6 : o44 6 = nI sz) {g : Nat → Nat} (hg : ∀ p, g p < 2) (ha : ∀ p, p < sz → a48 p = nI (g p)) (L : Nat) (hL : L ≤ 9600) (p : Int32) (hp : p = nI L) {B : Nat} {S : Nat → Nat} (a53 a54 : Nat → Int32) (h0 : S 0 ≤ sz) (hB : 8 * (B + 9600) + 100 < 2 ^ 31) (hW : aW (T 0) B S) : f_X12_takes_44 n o44 a45 a48 a49 (sn S) a53 a54 p = some (sn (aRun T sc hd sy g (min L (sz - S 0)) S), aRs T sc hd sy g (o44 15) 1 (min L (sz - S 0)) S a53, aRs T sc hd sy g (o44 15) 2 (min L (sz - S 0)) S a54) := by
  subst hp
  unfold f_X12_takes_44
  obtain ⟨l, h⟩ := m_takes2 (n := n) (by omega) hT hS hz h6 hg ha L (by omega) (min L (sz - S 0)) n 0 B S a53 a54 (by omega) (by omega) h0 (by omega) (by omega) hW
  have h' : l_X12_takes_44_2 n o44 a45 a48 a49 (nI L) n 0 (sn S) a53 a54 = _ := h
  rw [h', Option.bind_some]
theorem bitAt_is (o2 a3 : Nat → Int32) {p : Nat} (hp : p < 9600) : f_X4_bitAt_2 o2 a3 (nI p) = some (a3 p) := by
  unfold f_X4_bitAt_2
  rw [if_neg (nI_pos (by omega)), if_neg (show ¬ 9600 ≤ nI p from nI_ge (b := 9600) (by omega) (by decide)), xin_t hp (by decide), cond_true, nI_clamp (by omega)]
theorem bn_neg (b : Bool) : 1 - nI (bn b) = nI (bn (!b)) := by cases b <;> decide
/-- the bits of the line, one of them flipped -/
def gF (bt : Nat → Bool) (f : Int32) (p : Nat) : Nat := if nI p = f then bn (!bt p) else bn (bt p)
theorem gF_lt (bt : Nat → Bool) (f : Int32) (p : Nat) : gF bt f p < 2 := by
  unfold gF
  by_cases c : nI p = f
  · rw [if_pos c]; exact bn_lt _
  · rw [if_neg c]; exact bn_lt _
theorem adv_16 {n sc hs : Nat} (hn : 80 ≤ n) {T : Nat → Nat} {a1 : Nat → Int32} (hT : ∀ k, k < 7 → a1 k = nI (T k)) (tb : tB T) {o2 a3 o4 o44 a6 a7 a49 : Nat → Int32} {j5 : Int64} {hd : Nat → Int32} {sy : Nat → Nat → Nat} (hS : iS (T 0) sc hs hd sy o4 j5 a6 a7 o44 a49) {sz : Nat} (hz : sz ≤ 9600) {bt : Nat → Bool} (ha : ∀ p, p < sz → a3 p = b2i (bt p)) (f : Int32) (e : Nat) (he : e ≤ sz) : ∀ (m k B : Nat) (S : Nat → Nat) (o9 a10 o11 a12 o13 a14 a15 o a ow : Nat → Int32) (jw jh : Int64) (ald : Nat → Int32), S 0 + m = e → m < k → 8 * (B + m) + 100 < 2 ^ 31 → aW (T 0) B S → cR (T 0) S o a ow jw jh ald → cG (T 0) S o9 a10 o11 a12 o13 a14 a15 → ∃ l o9' a10' o11' a12' o13' a14' a15' o' a' ow' jw' jh' ald', l_X11_advance_0_16_9 n a1 o2 a3 o4 a6 a7 (nI e) f k (nI (S 0)) o9 a10 o11 a12 o13 a14 a15 o a ow jw jh ald = some (l, o9', a10', o11', a12', o13', a14', a15', o', a', ow', jw', jh', ald') ∧ cR (T 0) (aRun T sc hd sy (gF bt f) m S) o' a' ow' jw' jh' ald' ∧ cG (T 0) (aRun T sc hd sy (gF bt f) m S) o9' a10' o11' a12' o13' a14' a15' := by
  intro m
  induction m with
  | zero =>
    intro k B S o9 a10 o11 a12 o13 a14 a15 o a ow jw jh ald h0 hk hB hW hR hG
    obtain ⟨k, rfl⟩ : ∃ q, k = q + 1 := ⟨k - 1, by omega⟩
    rw [l_X11_advance_0_16_9, if_pos (nI_le (by omega) (by omega))]
    exact ⟨_, _, _, _, _, _, _, _, _, _, _, _, _, _, rfl, hR, hG⟩
  | succ m ih =>
    intro k B S o9 a10 o11 a12 o13 a14 a15 o a ow jw jh ald h0 hk hB hW hR hG
    obtain ⟨k, rfl⟩ : ∃ q, k = q + 1 := ⟨k - 1, by omega⟩
    have t0 := tb.1
    obtain ⟨o9', a10', o11', a12', o13', a14', a15', o', a', ow', jw', jh', ald', e1, e2, e3⟩ := recv_16 hn hT tb hS S o9 a10 o11 a12 o13 a14 a15 o a ow jw jh ald (b := gF bt f (S 0)) (gF_lt bt f _) (by omega) hW hR hG
    have s0 := aSt_0 (sc := sc) (hd := hd) (sy := sy) (b := gF bt f (S 0)) t0.2 hW.1.2.2.2.2.2.1
    obtain ⟨l, x1, x2, x3, x4, x5, x6, x7, x8, x9, y1, y2, y3, y4, f1, f2, f3⟩ := ih k (B + 1) _ o9' a10' o11' a12' o13' a14' a15' o' a' ow' jw' jh' ald' (by rw [s0]; omega) (by omega) (by omega) (aW_st (by omega) t0.2 (gF_lt bt f _) hW) e2 e3
    rw [s0] at f1
    refine ⟨l, x1, x2, x3, x4, x5, x6, x7, x8, x9, y1, y2, y3, y4, ?_, f2, f3⟩
    rw [l_X11_advance_0_16_9, if_neg (nI_ge (by omega) (by omega)), bitAt_is o2 a3 (by omega), Option.bind_some, ha _ (by omega), b2i_bn, bn_neg, nI_1]
    by_cases c : nI (S 0) = f
    · have eg : gF bt f (S 0) = bn (!bt (S 0)) := if_pos c
      rw [eg] at e1
      rw [if_pos c, e1, Option.bind_some]
      exact f1
    · have eg : gF bt f (S 0) = bn (bt (S 0)) := if_neg c
      rw [eg] at e1
      rw [if_neg c, e1, Option.bind_some]
      exact f1
theorem gF_no (bt : Nat → Bool) {p : Nat} (hp : p < 2 ^ 31) : gF bt (-1) p = bn (bt p) := if_neg (fun z => by
  have h := nI_pos' hp
  rw [z] at h
  exact absurd h (by decide))
theorem endOf_is {sz at_ L : Nat} {o2 : Nat → Int32} (h1 : o2 1 = nI sz) (h2 : o2 2 = nI at_) (ha : at_ ≤ sz) (hz : sz ≤ 9600) (hL : L ≤ 9600) (p : Int32) (hp : p = nI L) : f_X11_endOf_0 o2 p = some (nI (at_ + min L (sz - at_))) := by
  subst hp
  unfold f_X11_endOf_0
  rw [h1, h2, nI_add]
  by_cases c : at_ + L < sz
  · rw [if_pos (nI_lt c (by omega)), show at_ + min L (sz - at_) = at_ + L by omega]
  · rw [if_neg (nI_nlt (by omega) (by omega)), show at_ + min L (sz - at_) = sz by omega]
theorem k_take {n sc hs : Nat} (hn : 10000 ≤ n) {T : Nat → Nat} {a1 a45 : Nat → Int32} (hT : iT T a1 a45) {o2 a3 o4 o44 a6 a7 a48 a49 a53 a54 : Nat → Int32} {j5 : Int64} {hd : Nat → Int32} {sy : Nat → Nat → Nat} (hS : iS (T 0) sc hs hd sy o4 j5 a6 a7 o44 a49) {sz B : Nat} {bt : Nat → Bool} {S : Nat → Nat} {o a ow : Nat → Int32} {jw jh : Int64} {ald o9 a10 o11 a12 o13 a14 a15 : Nat → Int32} (h15 : o44 15 = 0) (hB : 8 * (B + 9600) + 100 < 2 ^ 31) (hL : iL sz (S 0) bt o2 a3 o44 a48 (sn S)) (hW : aW (T 0) B S) (hR : cR (T 0) S o a ow jw jh ald) (hG : cG (T 0) S o9 a10 o11 a12 o13 a14 a15) (p1 : Int32) : ∃ x o2' o9' a10' o11' a12' o13' a14' a15' o' a' ow' jw' jh' ald' S', f_X11_take_0 n a1 o2 a3 o4 a6 a7 o9 a10 o11 a12 o13 a14 a15 o a ow jw jh ald p1 = some (x, o2', o9', a10', o11', a12', o13', a14', a15', o', a', ow', jw', jh', ald') ∧ f_X12_take_44 n o44 a45 a48 a49 (sn S) a53 a54 p1 = some (x, upd o44 0 0, sn S', a53, a54) ∧ iL sz (S' 0) bt o2' a3 o44 a48 (sn S') ∧ aW (T 0) (B + 9600) S' ∧ cR (T 0) S' o' a' ow' jw' jh' ald' ∧ cG (T 0) S' o9' a10' o11' a12' o13' a14' a15' := by
  obtain ⟨l1, l2, l3, l4, l5, l6, l7⟩ := id hL
  have hS0 : iS (T 0) sc hs hd sy o4 j5 a6 a7 (upd o44 0 0) a49 := hS
  unfold f_X11_take_0 f_X12_take_44
  rw [isW, isIn_w p1 1 9600 1 9600 rfl rfl]
  simp only [Option.bind_some]
  by_cases c : 1 ≤ p1 ∧ p1 ≤ 9600
  · rw [if_pos c, if_neg one_ne, if_neg one_ne]
    obtain ⟨L, h1, h2, rfl⟩ := i32_in (a := 1) (b := 9600) (by decide) c (by decide)
    have hm : ∀ p, p < sz → a48 p = nI (gF bt (-1) p) := fun p hp => by rw [gF_no bt (by omega), ← b2i_bn]; exact (l7 p hp).2
    rw [endOf_is l1 l2 l5 l6 h2 _ rfl, Option.bind_some, m_takes hn hT hS0 l6 (show upd o44 0 0 6 = nI sz from l3) (gF_lt bt (-1)) hm L h2 _ rfl a53 a54 l5 hB hW, Option.bind_some, aRs_no _ _ _ _ _ (show upd o44 0 0 15 ≠ 1 by show o44 15 ≠ 1; rw [h15]; decide), aRs_no _ _ _ _ _ (show upd o44 0 0 15 ≠ 2 by show o44 15 ≠ 2; rw [h15]; decide)]
    unfold f_X11_advance_0_16
    obtain ⟨l, o9', a10', o11', a12', o13', a14', a15', o', a', ow', jw', jh', ald', e1, e2, e3⟩ := adv_16 (n := n) (by omega) (fun k hk => (hT.1 k hk).1) hT.2 hS l6 (fun p hp => (l7 p hp).1) (-1) (S 0 + min L (sz - S 0)) (by omega) (min L (sz - S 0)) n B S o9 a10 o11 a12 o13 a14 a15 o a ow jw jh ald rfl (by omega) (by omega) hW hR hG
    obtain ⟨r1, r2⟩ := aRun_W (sc := sc) (hd := hd) (sy := sy) (g := gF bt (-1)) hT.2 (gF_lt bt (-1)) (min L (sz - S 0)) B S hW
    rw [l2, e1, Option.bind_some, Option.bind_some]
    refine ⟨_, _, _, _, _, _, _, _, _, _, _, _, _, _, _, aRun T sc hd sy (gF bt (-1)) (min L (sz - S 0)) S, rfl, ?_, ⟨l1, ?_, l3, rfl, by rw [r2]; omega, l6, l7⟩, ⟨r1.1, Nat.le_trans r1.2.1 (by omega), r1.2.2⟩, e2, e3⟩
    · show some (sn (aRun T sc hd sy (gF bt (-1)) (min L (sz - S 0)) S) 1, _, _, _, _) = some (o' 7, _, _, _, _)
      rw [sn_ap, e2.1.1.1]
    · rw [r2]; rfl
  · rw [if_neg c, if_pos rfl, if_pos rfl]
    exact ⟨_, _, _, _, _, _, _, _, _, _, _, _, _, _, _, S, rfl, rfl, hL, ⟨hW.1, Nat.le_trans hW.2.1 (by omega), hW.2.2⟩, hR, hG⟩
