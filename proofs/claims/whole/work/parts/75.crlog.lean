/-! the class's receiver with its log takes a bit -/
theorem gC_add {T0 : Nat} {S S' : Nat → Nat} {o9 a10 a15 ald : Nat → Int32} (hT : T0 ≤ 48) (h : gC T0 S o9 a10 a15) (ly : Nat → Nat) (hl : ∀ i, i < 48 → ald i = sb (ly i)) (p1 p2 p3 : Int32) (e0 : S' 16 = S 16 + 1) (e1 : p1 = nI (S' (80 + 52 * (S 16 % 12)))) (e2 : p2 = nI (S' (80 + 52 * (S 16 % 12) + 1))) (e3 : p3 = nI (S' (80 + 52 * (S 16 % 12) + 2))) (e4 : S' (80 + 52 * (S 16 % 12) + 3) = T0) (e5 : ∀ i, i < T0 → S' (80 + 52 * (S 16 % 12) + 4 + i) = ly i) (eo : ∀ j, 80 ≤ j → j < 704 → (j < 80 + 52 * (S 16 % 12) ∨ 80 + 52 * (S 16 % 12) + 52 ≤ j) → S' j = S j) : ∃ o9' a10' a15', f_X5_addCell_8_20 o9 a10 a15 ald p1 p2 p3 = some (o9', a10', a15') ∧ gC T0 S' o9' a10' a15' := by
  obtain ⟨⟨h1, h2, h3⟩, h4⟩ := h
  have hm : S 16 % 12 < 12 := Nat.mod_lt _ (by decide)
  have c0 : Int32.toNatClampNeg 0 = 0 := nI_clamp (n := 0) (by decide)
  have c48 : Int32.toNatClampNeg 48 = 48 := nI_clamp (n := 48) (by decide)
  have cm : Int32.toNatClampNeg (nI (48 * (S 16 % 12))) = 48 * (S 16 % 12) := nI_clamp (by omega)
  have q1 : xcp 0 (nI (48 * (S 16 % 12))) 48 48 576 = true := by
    unfold xcp
    rw [c0, c48, cm]
    exact decide_eq_true ⟨by decide, nI_pos (by omega), by decide, by omega, by omega⟩
  have q2 : xfb ald 0 48 = true := by
    unfold xfb
    rw [c0, c48]
    refine List.all_eq_true.mpr (fun q hq => ?_)
    have := List.mem_range.mp hq
    rw [Nat.zero_add, hl q this]
    exact pk_fb _
  have e : f_X5_addCell_8_20 o9 a10 a15 ald p1 p2 p3 = some (upd (upd o9 2 (nI (S 16 + 1))) 3 (nI ((S 16 + 1) % 12)), upd (upd (upd a10 (3 * (S 16 % 12)) p1) (3 * (S 16 % 12) + 1) p2) (3 * (S 16 % 12) + 2) p3, va_cpy ald a15 0 (48 * (S 16 % 12)) 48) := by
    unfold f_X5_addCell_8_20
    rw [h3, show (48 : Int32) * nI (S 16 % 12) = nI (48 * (S 16 % 12)) from pk_mul 48 _, if_neg (nI_pos (by omega)), show (576 : Int32) - nI (48 * (S 16 % 12)) = nI (576 - 48 * (S 16 % 12)) from pk_sub (a := 576) (by omega), if_neg (show ¬ nI (576 - 48 * (S 16 % 12)) < 48 from nI_nlt (b := 48) (by omega) (by omega)), q1, q2, cond_true, cond_true, c0, c48, cm]
    unfold b_X5_addCell_8_20_46
    rw [add_9 o9 a10 p1 p2 p3 (S 16) h1 h2 h3, Option.bind_some]
  refine ⟨_, _, _, e, ⟨h1, ?_, ?_⟩, fun s hs hs2 => ?_⟩
  · rw [e0]; rfl
  · rw [e0]; rfl
  · rw [e0] at hs2
    by_cases d : s = S 16 % 12
    · rw [d]
      refine ⟨?_, ?_, ?_, e4, fun i hi => ?_⟩
      · rw [pk_un (by omega), pk_un (by omega), pk_us, e1]
      · rw [pk_un (by omega), pk_us, e2]
      · rw [pk_us, e3]
      · rw [pk_cpy_in (by omega) (by omega), e5 i hi, show 0 + (48 * (S 16 % 12) + i - 48 * (S 16 % 12)) = i by omega, hl i (by omega)]
    · obtain ⟨g1, g2, g3, g4, g5⟩ := h4 s hs (by omega)
      have hd : s < S 16 % 12 ∨ S 16 % 12 < s := by omega
      refine ⟨?_, ?_, ?_, ?_, fun i hi => ?_⟩
      · rw [pk_un (by omega), pk_un (by omega), pk_un (by omega), eo _ (by omega) (by omega) (by omega)]; exact g1
      · rw [pk_un (by omega), pk_un (by omega), pk_un (by omega), eo _ (by omega) (by omega) (by omega)]; exact g2
      · rw [pk_un (by omega), pk_un (by omega), pk_un (by omega), eo _ (by omega) (by omega) (by omega)]; exact g3
      · rw [eo _ (by omega) (by omega) (by omega)]; exact g4
      · rw [pk_cpy_out (by omega), eo _ (by omega) (by omega) (by omega)]; exact g5 i hi
theorem dl_log {T0 sc : Nat} {hd : Nat → Int32} {sy : Nat → Nat → Nat} (S : Nat → Nat) {j : Nat} (h : 80 ≤ j ∧ j < 704) : aDl T0 sc hd sy S j = aD1 T0 S j := by
  unfold aDl
  by_cases c : aFn T0 hd sy (nI (S 11)) (fun i => S (32 + i)) sc 0 = -1
  · rw [if_pos c]
    unfold aCt
    rw [su_n (by omega)]
  · rw [if_neg c]
theorem dl_16 {T0 sc : Nat} {hd : Nat → Int32} {sy : Nat → Nat → Nat} (S : Nat → Nat) : aDl T0 sc hd sy S 16 = S 16 + 1 := by
  have h := aD1_c T0 S (k := 3) (by decide)
  have e : aD1 T0 S 16 = S 16 + 1 := h
  unfold aDl
  by_cases c : aFn T0 hd sy (nI (S 11)) (fun i => S (32 + i)) sc 0 = -1
  · rw [if_pos c]; exact e
  · rw [if_neg c]; exact e
theorem gC_dl {T0 sc : Nat} {hd : Nat → Int32} {sy : Nat → Nat → Nat} {S : Nat → Nat} {o9 a10 a15 ald : Nat → Int32} (hT : T0 ≤ 48) (h : gC T0 S o9 a10 a15) (ly : Nat → Nat) (hl : ∀ i, i < 48 → ald i = sb (ly i)) (hly : ∀ i, i < T0 → ly i = S (32 + i)) (p1 p2 p3 : Int32) (e1 : p1 = nI (S 11)) (e2 : p2 = nI (S 10)) (e3 : p3 = nI (S 12)) : ∃ o9' a10' a15', f_X5_addCell_8_20 o9 a10 a15 ald p1 p2 p3 = some (o9', a10', a15') ∧ gC T0 (aDl T0 sc hd sy S) o9' a10' a15' := by
  have hm : S 16 % 12 < 12 := Nat.mod_lt _ (by decide)
  have rd : ∀ j, 80 ≤ j → j < 704 → (j < 80 + 52 * (S 16 % 12) + 4 ∨ 80 + 52 * (S 16 % 12) + 4 + T0 ≤ j) → aDl T0 sc hd sy S j = su (su (su (su S (80 + 52 * (S 16 % 12)) (S 11)) (80 + 52 * (S 16 % 12) + 1) (S 10)) (80 + 52 * (S 16 % 12) + 2) (S 12)) (80 + 52 * (S 16 % 12) + 3) T0 j := by
    intro j h1 h2 h3
    rw [dl_log S (by omega)]
    unfold aD1 aCt
    rw [su_n (by omega)]
    exact if_neg (fun z => by omega)
  refine gC_add hT h ly hl p1 p2 p3 (dl_16 S) ?_ ?_ ?_ ?_ ?_ ?_
  · rw [rd _ (by omega) (by omega) (by omega), su_n (by omega), su_n (by omega), su_n (by omega), su_s, e1]
  · rw [rd _ (by omega) (by omega) (by omega), su_n (by omega), su_n (by omega), su_s, e2]
  · rw [rd _ (by omega) (by omega) (by omega), su_n (by omega), su_s, e3]
  · rw [rd _ (by omega) (by omega) (by omega), su_s]
  · intro i hi
    rw [dl_log S (by omega)]
    unfold aD1 aCt
    rw [su_n (by omega)]
    unfold aCp
    rw [if_pos ⟨by omega, by omega⟩, su_n (by omega), su_n (by omega), su_n (by omega), su_n (by omega), hly i hi]
    congr 1
    omega
  · intro j h1 h2 h3
    rw [rd _ h1 h2 (by omega), su_n (by omega), su_n (by omega), su_n (by omega), su_n (by omega)]
theorem al_20 : ∀ (n : Nat) (o4 a7 ald : Nat → Int32) (l3 l4 l5 : Int32) (k : Nat) (l6 : Int32), l_X8_isLoadLike_4_20_37 n o4 a7 ald l3 l4 l5 k l6 = l_X8_isLoadLike_4_26_37 n o4 a7 ald l3 l4 l5 k l6 := by
  intro n o4 a7 ald l3 l4 l5 k
  induction k with
  | zero => intro l6; rfl
  | succ k ih => intro l6; rw [l_X8_isLoadLike_4_20_37, l_X8_isLoadLike_4_26_37, ih]
theorem fl_20 (n : Nat) (o4 a6 a7 ald : Nat → Int32) (x p3 p4 : Int32) : f_X8_firstLike_4_20 n o4 a6 a7 ald x p3 p4 = f_X8_firstLike_4_26 n o4 a6 a7 ald x p3 p4 := by
  have e1 : ∀ (p1 p3 p4 : Int32), f_X8_isLoadLike_4_20 n o4 a7 ald p1 p3 p4 = f_X8_isLoadLike_4_26 n o4 a7 ald p1 p3 p4 := by
    intro p1 p3 p4
    unfold f_X8_isLoadLike_4_20 f_X8_isLoadLike_4_26
    rw [al_20]
  have e2 : ∀ (k : Nat) (l5 : Int32), l_X8_firstLike_4_20_3 n o4 a6 a7 ald x p3 p4 k l5 = l_X8_firstLike_4_26_3 n o4 a6 a7 ald x p3 p4 k l5 := by
    intro k
    induction k with
    | zero => intro l5; rfl
    | succ k ih => intro l5; rw [l_X8_firstLike_4_20_3, l_X8_firstLike_4_26_3, ih, e1]
  unfold f_X8_firstLike_4_20 f_X8_firstLike_4_26
  rw [e2]
theorem end_16 {n sc hs : Nat} (hn : 80 ≤ n) {T : Nat → Nat} {a22 : Nat → Int32} (hT : ∀ k, k < 7 → a22 k = nI (T k)) (tb : T 0 ≤ 48 ∧ T 5 ≤ 1) {o4 o44 a6 a7 a49 : Nat → Int32} {j5 : Int64} {hd : Nat → Int32} {sy : Nat → Nat → Nat} (hS : iS (T 0) sc hs hd sy o4 j5 a6 a7 o44 a49) (S : Nat → Nat) (o9 a10 a15 o a ald : Nat → Int32) (ly : Nat → Nat) (h9 : S 9 ≤ 1) (h8 : S 8 = 0) (h6 : S 6 = 0) (h7 : S 7 = 8 * T 0) (hl : ∀ i, i < 48 → ly i < 256 ∧ ald i = sb (ly i)) (hly : ∀ i, i < T 0 → ly i = S (32 + i)) (hO : cO (T 0) S o) (hc : cC (fun k => S (13 + k)) a) (hg : gC (T 0) S o9 a10 a15) : ∃ o9' a10' a15' o' a', f_X6_endLoad_16 n a22 o4 a6 a7 o9 a10 a15 o a ald = some (o9', a10', a15', o', a') ∧ gC (T 0) (aL3 T sc hd sy S) o9' a10' a15' ∧ cO (T 0) (aL3 T sc hd sy S) o' ∧ cC (fun k => aL3 T sc hd sy S (13 + k)) a' := by
  obtain ⟨⟨k1, k2, k3, k4, k5, k6, k7⟩, k8, k9⟩ := hO
  obtain ⟨g1, g2, g3⟩ := k8 h6
  have hU : ∀ o' : Nat → Int32, o' 7 = o 7 → o' 8 = o 8 → o' 9 = o 9 → o' 10 = o 10 → o' 12 = o 12 → o' 13 = o 13 → o' 14 = o 14 → o' 15 = o 15 → o' 11 = 0 → cO (T 0) (su (su S 7 0) 6 1) o' := by
    intro o' q1 q2 q3 q4 q5 q6 q7 q8 q9
    unfold cO
    rw [q1, q2, q3, q4, q5, q6, q7, q8, q9]
    refine ⟨⟨k1, k2, k3, k4, k5, k6, k7⟩, fun q => (by cases q), fun _ => ⟨?_, rfl⟩⟩
    rw [g1, h7, show su (su S 7 0) 6 1 8 = 0 from h8]
    rfl
  have hcU : cC (fun k => su (su S 7 0) 6 1 (13 + k)) a := cC_cg hc (fun k hk => by rw [su_c _ _ _ (by decide) hk, su_c _ _ _ (by decide) hk])
  have hgU : gC (T 0) (su (su S 7 0) 6 1) o9 a10 a15 := gC_cg hg tb.1 rfl (fun j h1 h2 => by rw [su_n (by omega), su_n (by omega)])
  unfold f_X6_endLoad_16
  rw [g2, hT 5 (by decide)]
  unfold aL3
  rw [if_pos (Nat.le_of_eq h7.symm)]
  by_cases c : S 9 = 0
  · rw [if_pos (by rw [c]; rfl), if_pos c]
    exact ⟨_, _, _, _, _, rfl, hgU, hU o rfl rfl rfl rfl rfl rfl rfl rfl (by rw [g2, c]; rfl), hcU⟩
  · have c1 : S 9 = 1 := by omega
    obtain ⟨m1, m2, m3⟩ := g3 c1
    rw [if_neg (fun z => c ((nI_eq0 (by omega)).mp z)), if_neg c, m1]
    have fin : ∃ o9' a10' a15' o' a', b_X6_endLoad_16_43 n a22 o4 a6 a7 o9 a10 a15 (upd o 11 0) a ald = some (o9', a10', a15', o', a') ∧ gC (T 0) (aDl (T 0) sc hd sy (su (su S 7 0) 6 1)) o9' a10' a15' ∧ cO (T 0) (aDl (T 0) sc hd sy (su (su S 7 0) 6 1)) o' ∧ cC (fun k => aDl (T 0) sc hd sy (su (su S 7 0) 6 1) (13 + k)) a' := by
      unfold b_X6_endLoad_16_43 b_X6_endLoad_16_90
      rw [show upd o 11 0 16 = o 16 from rfl, m1, show f_X8_firstLike_4_20 n o4 a6 a7 ald (nI (S 11)) 0 (a22 0) = f_X8_firstLike_4_26 n o4 a6 a7 ald (nI (S 11)) 0 (a22 0) by rw [fl_20], first_26 hn tb.1 hS ald (nI (S 11)) 0 (by omega) ly (fun i hi => by rw [Nat.zero_add]; exact hl i (by omega)) 0 (a22 0) rfl (hT 0 (by decide)), Option.bind_some]
      have ef : aFn (T 0) hd sy (nI (S 11)) ly sc 0 = aFn (T 0) hd sy (nI (su (su S 7 0) 6 1 11)) (fun i => su (su S 7 0) 6 1 (32 + i)) sc 0 := by
        show _ = aFn (T 0) hd sy (nI (S 11)) (fun i => su (su S 7 0) 6 1 (32 + i)) sc 0
        refine aFn_cg (fun i hi => ?_) sc 0
        show ly i = su (su S 7 0) 6 1 (32 + i)
        rw [su_n (by omega), su_n (by omega)]; exact hly i hi
      obtain ⟨o9', a10', a15', j1, j2⟩ := gC_dl (sc := sc) (hd := hd) (sy := sy) tb.1 hgU ly (fun i hi => (hl i hi).2) (fun i hi => by rw [su_n (by omega), su_n (by omega)]; exact hly i hi) (nI (S 11)) (upd o 11 0 17) (upd o 11 0 18) rfl m2 m3
      unfold aDl at j2
      rw [ef, j1, Option.bind_some]
      unfold aDl
      by_cases d : aFn (T 0) hd sy (nI (su (su S 7 0) 6 1 11)) (fun i => su (su S 7 0) 6 1 (32 + i)) sc 0 = -1
      · rw [if_pos d] at j2
        rw [if_pos d, if_pos d]
        refine ⟨_, _, _, _, _, rfl, j2, cO_cg (hU (upd o 11 0) rfl rfl rfl rfl rfl rfl rfl rfl rfl) (fun j hj => ?_), ?_⟩
        · have h := aDl_lo (T0 := T 0) (sc := sc) (hd := hd) (sy := sy) (S := su (su S 7 0) 6 1) tb.1 j (by omega) (by omega)
          unfold aDl at h
          rw [if_pos d] at h
          exact h
        · refine cC_cg (cC_ct (cC_ct hcU (j := 3) (by decide)) (j := 9) (by decide)) (fun k hk => ?_)
          rw [aCt_c _ _ hk, aD1_c _ _ hk]
      · rw [if_neg d] at j2
        rw [if_neg d, if_neg d]
        refine ⟨_, _, _, _, _, rfl, j2, cO_cg (hU (upd o 11 0) rfl rfl rfl rfl rfl rfl rfl rfl rfl) (fun j hj => ?_), ?_⟩
        · have h := aDl_lo (T0 := T 0) (sc := sc) (hd := hd) (sy := sy) (S := su (su S 7 0) 6 1) tb.1 j (by omega) (by omega)
          unfold aDl at h
          rw [if_neg d] at h
          exact h
        · refine cC_cg (cC_ct hcU (j := 3) (by decide)) (fun k hk => ?_)
          rw [aD1_c _ _ hk]
    by_cases d : T 5 = 1
    · rw [if_pos (by rw [d]; rfl)]
      by_cases g : nI (S 11) = 1
      · rw [if_pos g, if_pos ⟨d, g⟩]
        refine ⟨_, _, _, _, _, rfl, gC_cg hgU tb.1 rfl (fun j h1 h2 => su_n (by omega)), cO_cg (hU (upd o 11 0) rfl rfl rfl rfl rfl rfl rfl rfl rfl) (ct_lo _ (by decide)), ?_⟩
        exact cC_cg (cC_ct hcU (j := 10) (by decide)) (fun k hk => aCt_c _ _ hk)
      · rw [if_neg g, if_neg (fun z => g z.2)]
        exact fin
    · rw [if_neg (fun z => d ((nI_eq1 (by omega)).mp z)), if_neg (fun z => d z.1)]
      exact fin
theorem carry_16 {n sc hs : Nat} (hn : 80 ≤ n) {T : Nat → Nat} {a22 : Nat → Int32} (hT : ∀ k, k < 7 → a22 k = nI (T k)) (tb : T 0 ≤ 48 ∧ T 5 ≤ 1) {o4 o44 a6 a7 a49 : Nat → Int32} {j5 : Int64} {hd : Nat → Int32} {sy : Nat → Nat → Nat} (hS : iS (T 0) sc hs hd sy o4 j5 a6 a7 o44 a49) (S : Nat → Nat) (o9 a10 a15 o a ald : Nat → Int32) (jh : Int64) (b : Nat) (hbit : b < 2) (h9 : S 9 ≤ 1) (h8 : S 6 = 0 → S 8 = 0) (h6 : S 6 = 0) (h7 : S 7 < 8 * T 0) (h29 : S 29 < 2 ^ 11) (h30 : S 30 < 2 ^ 32) (hO : cO (T 0) S o) (hc : cC (fun k => S (13 + k)) a) (hJ : jh = lN (S 29 * 2 ^ 32 + S 30)) (hY : cY S ald) (hg : gC (T 0) S o9 a10 a15) : ∃ o9' a10' a15' o' a' jh' ald', f_X6_carry_16 n a22 o4 a6 a7 o9 a10 a15 o a jh ald (nI b) = some (o9', a10', a15', o', a', jh', ald') ∧ gC (T 0) (aLd T sc hd sy b S) o9' a10' a15' ∧ cO (T 0) (aLd T sc hd sy b S) o' ∧ cC (fun k => aLd T sc hd sy b S (13 + k)) a' ∧ jh' = lN (aLd T sc hd sy b S 29 * 2 ^ 32 + aLd T sc hd sy b S 30) ∧ cY (aLd T sc hd sy b S) ald' := by
  obtain ⟨⟨k1, k2, k3, k4, k5, k6, k7⟩, k8, k9⟩ := id hO
  obtain ⟨g1, g2, g3⟩ := k8 h6
  obtain ⟨ly, y1, y2⟩ := hY
  obtain ⟨y3, y4⟩ := y2 h6
  obtain ⟨j1, j2⟩ := his_is h29 h30 hJ hbit
  have ep : nI b ^^^ nI (S 29 / 1024) = nI (aPn b S) := by
    rw [nI_xor]
    unfold aPn
    rw [Nat.mod_eq_of_lt (show S 29 / 1024 < 2 by omega)]
  have hp := aPn_lt hbit S
  have ex : xus (nI (S 7)) 3 = nI (S 7 / 8) := pk_ushrN (by omega) 3 3 (by decide)
  have e2 : ∀ j, (j ≠ 7 ∧ (j < 29 ∨ 80 ≤ j)) → aL2 b S j = S j := fun j hj => aL2_0 b S (by omega) (by omega) (by omega)
  have e27 := aL2_7 b S
  have e229 : aL2 b S 29 = aL1 b S 29 ∧ aL2 b S 30 = aL1 b S 30 ∧ aL2 b S 31 = (2 * S 31 + aPn b S) % 256 := by
    unfold aL2
    by_cases c : (S 7 + 1) % 8 = 0
    · rw [if_pos c, su_n (by omega), su_n (by omega), su_n (by omega)]; exact ⟨rfl, rfl, rfl⟩
    · rw [if_neg c]; exact ⟨rfl, rfl, rfl⟩
  obtain ⟨z1, z2⟩ := ly_step (S := S) (ly := ly) (b := b) (by omega) y3 y4 rfl
  let ly' : Nat → Nat := fun i => if i = S 7 / 8 then (2 * ly i + aPn b S) % 256 else ly i
  have hl' : ∀ i, i < 48 → ly' i < 256 ∧ upd ald (S 7 / 8) (sb ((2 * ly (S 7 / 8) + aPn b S) % 256)) i = sb (ly' i) := by
    intro i hi
    by_cases c : i = S 7 / 8
    · have e : ly' i = (2 * ly (S 7 / 8) + aPn b S) % 256 := by show (if i = S 7 / 8 then _ else _) = _; rw [if_pos c, c]
      rw [e, c, pk_us]
      exact ⟨Nat.mod_lt _ (by decide), rfl⟩
    · have e : ly' i = ly i := if_neg c
      rw [e, pk_un c]
      exact y1 i hi
  have hO2 : cO (T 0) (aL2 b S) (upd o 15 (nI (S 7 + 1))) := by
    unfold cO
    rw [e2 1 (by decide), e2 2 (by decide), e2 3 (by decide), e2 4 (by decide), e2 873 (by decide), e2 872 (by decide), e2 874 (by decide), e2 6 (by decide), e2 8 (by decide), e2 9 (by decide), e2 10 (by decide), e2 11 (by decide), e2 12 (by decide), e27]
    exact ⟨⟨k1, k2, k3, k4, k5, k6, k7⟩, fun _ => ⟨rfl, g2, g3⟩, fun q => absurd (h6.symm.trans q) (by decide)⟩
  have hc2 : cC (fun k => aL2 b S (13 + k)) a := cC_cg hc (fun k hk => aL2_c b S hk)
  have hg2 : gC (T 0) (aL2 b S) o9 a10 a15 := gC_cg hg tb.1 (e2 16 (by decide)) (fun j h1 h2 => e2 j (by omega))
  unfold f_X6_carry_16 f_X2_oldest_19 f_X2_push_19
  rw [Option.bind_some, Option.bind_some, j1, j2, ep, g1, ex, if_neg (show ¬ 48 ≤ nI (S 7 / 8) from nI_ge (b := 48) (by omega) (by decide)), xin_t (show S 7 / 8 < 48 by omega) (by decide), cond_true, cond_true, nI_clamp (by omega), (y1 (S 7 / 8) (by omega)).2, pk_vb, sb_push _ (y1 (S 7 / 8) (by omega)).1 _ hp]
  unfold b_X6_carry_16_51 f_X6_loadBits_16
  rw [Option.bind_some, g1, nI_1, hT 0 (by decide), show (8 : Int32) * nI (T 0) = nI (8 * T 0) from pk_mul 8 _]
  by_cases c : S 7 + 1 = 8 * T 0
  · rw [if_pos (by rw [c])]
    obtain ⟨o9', a10', a15', o', a', f1, f0, f2, f3⟩ := end_16 hn hT tb hS (aL2 b S) o9 a10 a15 (upd o 15 (nI (S 7 + 1))) a (upd ald (S 7 / 8) (sb ((2 * ly (S 7 / 8) + aPn b S) % 256))) ly' (by rw [e2 9 (by decide)]; exact h9) (by rw [e2 8 (by decide)]; exact h8 h6) (by rw [e2 6 (by decide)]; exact h6) (by rw [e27]; exact c) hl' (fun i hi => z1 i (by omega)) hO2 hc2 hg2
    rw [f1, Option.bind_some]
    have e6 : aLd T sc hd sy b S 6 = 1 ∧ aLd T sc hd sy b S 29 = aL1 b S 29 ∧ aLd T sc hd sy b S 30 = aL1 b S 30 := by
      unfold aLd aL3
      rw [if_pos (by rw [e27]; omega)]
      by_cases d : aL2 b S 9 = 0
      · rw [if_pos d]; exact ⟨rfl, e229.1, e229.2.1⟩
      · rw [if_neg d]
        by_cases g : T 5 = 1 ∧ nI (aL2 b S 11) = 1
        · rw [if_pos g]; exact ⟨rfl, e229.1, e229.2.1⟩
        · rw [if_neg g, aDl_lo tb.1 6 (by decide) (by decide), aDl_lo tb.1 29 (by decide) (by decide), aDl_lo tb.1 30 (by decide) (by decide)]; exact ⟨rfl, e229.1, e229.2.1⟩
    exact ⟨_, _, _, _, _, _, _, rfl, f0, f2, f3, by rw [e6.2.1, e6.2.2], ly', hl', fun q => absurd (e6.1.symm.trans q) (by decide)⟩
  · rw [if_neg (fun z => c ((nI_eq (by omega) (by omega)).mp z))]
    have el : aLd T sc hd sy b S = aL2 b S := by unfold aLd aL3; rw [if_neg (by rw [e27]; omega)]
    rw [el]
    refine ⟨_, _, _, _, _, _, _, rfl, hg2, hO2, hc2, by rw [e229.1, e229.2.1], ly', hl', fun _ => ?_⟩
    rw [e27, e229.2.2]
    exact ⟨z1, z2⟩
theorem fin_16 {n : Nat} {T : Nat → Nat} {a22 : Nat → Int32} (hT : ∀ k, k < 7 → a22 k = nI (T k)) (tb : tB T) (o4 a6 a7 : Nat → Int32) (V : Nat → Nat) (o9 a10 o11 a12 o13 a14 a15 o a ow : Nat → Int32) (jw jh : Int64) (ald : Nat → Int32) (was : Nat) (hw : was ≤ 2) (h1 : V 1 ≤ 2) (h7 : V 7 < 8 * T 0) (h872 : V 872 + 1 < 2 ^ 31) (h873 : V 873 ≤ 1) (hO : cO (T 0) V o) (hc : cC (fun k => V (13 + k)) a) (hV : cV V ow jw) (hJ : jh = lN (V 29 * 2 ^ 32 + V 30)) (hY : cY V ald) : ∃ o' a' ow' jw' jh' ald', b_X6_receive_16_105 n a22 o4 a6 a7 o9 a10 o11 a12 o13 a14 a15 o a ow jw jh ald (nI was) = some (o9, a10, o11, a12, o13, a14, a15, o', a', ow', jw', jh', ald') ∧ cR (T 0) (aWt T was V) o' a' ow' jw' jh' ald' := by
  obtain ⟨o', a', e1, e2, e3⟩ := watch_21 (T := T) (a22 := a22) (T 0) (hT 4 (by decide)) tb.2.2.2.2.1.2 V o a was hw h1 h872 h873 hO hc
  have t0 := tb.1
  have e105 : b_X6_receive_16_105 n a22 o4 a6 a7 o9 a10 o11 a12 o13 a14 a15 o a ow jw jh ald (nI was) = some (o9, a10, o11, a12, o13, a14, a15, o', a', ow, jw, jh, ald) := by
    have ew : ∀ p, f_X6_watch_16 a22 o a p = f_X6_watch_21 o a22 a p := fun p => rfl
    unfold b_X6_receive_16_105 b_X6_receive_16_116
    by_cases c : was = 2
    · rw [if_pos c] at e1
      rw [if_pos (by rw [c]; rfl), ew, e1, Option.bind_some]
    · rw [if_neg c] at e1
      rw [if_neg (fun z => c ((nI_eq2 (by omega)).mp z)), ew, e1, Option.bind_some]
  refine ⟨_, _, _, _, _, _, e105, e2, e3, cV_cg hV (wt_05 (by decide)) (fr_wt _ _ _ 27 (by decide) (by decide)) (fr_wt _ _ _ 28 (by decide) (by decide)), ?_, cY_cg hY (wt_05 (by decide)) (wt_05 (by decide)) (fr_wt _ _ _ 31 (by decide) (by decide)) (fun i hi => fr_wt _ _ _ _ (by omega) (by omega)) (by omega)⟩
  rw [fr_wt _ _ _ 29 (by decide) (by decide), fr_wt _ _ _ 30 (by decide) (by decide)]
  exact hJ
theorem wt_c {T : Nat → Nat} {was : Nat} {S : Nat → Nat} {k : Nat} (hk : k < 14) (h : k ≠ 11) : aWt T was S (13 + k) = S (13 + k) := by
  have k1 : aW1 was S (13 + k) = S (13 + k) := su_n (by omega)
  unfold aWt
  by_cases c : T 4 ≤ aW1 was S 872
  · rw [if_pos c, su_n (by omega)]
    unfold aW2
    by_cases d : aW1 was S 1 ≠ 2 ∧ aW1 was S 873 = 0
    · rw [if_pos d]
      unfold aCt
      rw [su_n (by omega), k1]
    · rw [if_neg d, k1]
  · rw [if_neg c, k1]
theorem wt_log {T : Nat → Nat} {was : Nat} {S : Nat → Nat} {j : Nat} (h : 27 ≤ j ∧ j < 872) : aWt T was S j = S j := by
  have k1 : aW1 was S j = S j := su_n (by omega)
  unfold aWt
  by_cases c : T 4 ≤ aW1 was S 872
  · rw [if_pos c, su_n (by omega)]
    unfold aW2
    by_cases d : aW1 was S 1 ≠ 2 ∧ aW1 was S 873 = 0
    · rw [if_pos d]
      unfold aCt
      rw [su_n (by omega), k1]
    · rw [if_neg d, k1]
  · rw [if_neg c, k1]
theorem cG_wt {T : Nat → Nat} {T0 was : Nat} {V : Nat → Nat} {o9 a10 o11 a12 o13 a14 a15 : Nat → Int32} (hT : T0 ≤ 48) (h : cG T0 V o9 a10 o11 a12 o13 a14 a15) : cG T0 (aWt T was V) o9 a10 o11 a12 o13 a14 a15 :=
  ⟨gC_cg h.1 hT (wt_c (k := 3) (by decide) (by decide)) (fun j h1 h2 => wt_log (by omega)), gT_cg h.2.1 (wt_c (k := 7) (by decide) (by decide)) (fun j h1 h2 => wt_log (by omega)), gJ_cg h.2.2 (wt_c (k := 8) (by decide) (by decide)) (fun j h1 h2 => wt_log (by omega))⟩
theorem cG_p1 {T0 b : Nat} {S : Nat → Nat} {o9 a10 o11 a12 o13 a14 a15 : Nat → Int32} (hT : T0 ≤ 48) (h : cG T0 S o9 a10 o11 a12 o13 a14 a15) : cG T0 (aP1 b S) o9 a10 o11 a12 o13 a14 a15 := by
  have ek : aKd (S 1) = 6 ∨ aKd (S 1) = 12 ∨ aKd (S 1) = 13 := by
    unfold aKd
    by_cases c : S 1 = 0
    · rw [if_pos c]; decide
    · rw [if_neg c]
      by_cases d : S 1 = 1
      · rw [if_pos d]; decide
      · rw [if_neg d]; decide
  have e : ∀ k, k < 6 ∨ (7 ≤ k ∧ k < 12) → aP1 b S (13 + k) = S (13 + k) := fun k hk => by rw [aP1_c b S (by omega), if_neg (by omega)]
  have l : ∀ j, 80 ≤ j → aP1 b S j = S j := fun j hj => by rw [aP1_at b S (by omega), aPs_at b S (by omega)]
  exact ⟨gC_cg h.1 hT (e 3 (by decide)) (fun j h1 h2 => l j (by omega)), gT_cg h.2.1 (e 7 (by decide)) (fun j h1 h2 => l j (by omega)), gJ_cg h.2.2 (e 8 (by decide)) (fun j h1 h2 => l j (by omega))⟩
theorem hu_c {T : Nat → Nat} {S : Nat → Nat} {k : Nat} (hk : k = 3 ∨ k = 8) : aHu T S (13 + k) = S (13 + k) := by
  have hk14 : k < 14 := by omega
  have d0 : ∀ j, j ≠ 3 → j ≠ 8 → dl k j = 0 := fun j h1 h2 => if_neg (by omega)
  have t0 : ∀ to s, tnC to s k = 0 := by
    intro to s
    unfold tnC
    rw [d0 7 (by decide) (by decide), d0 4 (by decide) (by decide), d0 5 (by decide) (by decide)]
    by_cases c : to = 2 <;> by_cases d : s = 2 <;> simp [c, d]
  unfold aHu
  by_cases c : (S 874 + 1) % T 6 = 0 ∧ 40 ≤ S 5 ∧ aSyn S = 0
  · rw [if_pos c, su_n (by omega), aTn_c _ _ hk14, t0, su_n (by omega)]; rfl
  · rw [if_neg c, su_n (by omega)]
theorem hu_j {T : Nat → Nat} {S : Nat → Nat} {j : Nat} (h : 776 ≤ j ∧ j < 872) : aHu T S j = S j := by
  unfold aHu
  by_cases c : (S 874 + 1) % T 6 = 0 ∧ 40 ≤ S 5 ∧ aSyn S = 0
  · rw [if_pos c, su_n (by omega), aTn_fr _ _ (by omega) (by omega) (by omega), su_n (by omega)]
  · rw [if_neg c, su_n (by omega)]
theorem ld_c {T : Nat → Nat} {sc : Nat} {hd : Nat → Int32} {sy : Nat → Nat → Nat} {b : Nat} {S : Nat → Nat} {k : Nat} (hk : k = 7 ∨ k = 8) : aLd T sc hd sy b S (13 + k) = S (13 + k) := by
  have hk14 : k < 14 := by omega
  have e2 := aL2_c b S hk14
  have d0 : ∀ j, j ≠ 7 → j ≠ 8 → dl k j = 0 := fun j h1 h2 => if_neg (by omega)
  unfold aLd aL3
  by_cases g : 8 * T 0 ≤ aL2 b S 7
  · rw [if_pos g]
    by_cases q : aL2 b S 9 = 0
    · rw [if_pos q, su_n (by omega), su_n (by omega), e2]
    · rw [if_neg q]
      by_cases x : T 5 = 1 ∧ nI (aL2 b S 11) = 1
      · rw [if_pos x, aCt_c _ _ hk14, d0 10 (by decide) (by decide), su_n (by omega), su_n (by omega), e2]; rfl
      · rw [if_neg x]
        unfold aDl
        by_cases y : aFn (T 0) hd sy (nI (su (su (aL2 b S) 7 0) 6 1 11)) (fun i => su (su (aL2 b S) 7 0) 6 1 (32 + i)) sc 0 = -1
        · rw [if_pos y, aCt_c _ _ hk14, d0 9 (by decide) (by decide), aD1_c _ _ hk14, d0 3 (by decide) (by decide), su_n (by omega), su_n (by omega), e2]; rfl
        · rw [if_neg y, aD1_c _ _ hk14, d0 3 (by decide) (by decide), su_n (by omega), su_n (by omega), e2]; rfl
  · rw [if_neg g, e2]
theorem ld_log {T : Nat → Nat} {sc : Nat} {hd : Nat → Int32} {sy : Nat → Nat → Nat} {b : Nat} {S : Nat → Nat} (hT : T 0 ≤ 48) (h7 : S 7 < 8 * 48) {j : Nat} (h : 704 ≤ j) : aLd T sc hd sy b S j = S j := by
  have e2 : aL2 b S j = S j := aL2_0 b S (by omega) (by omega) h7
  unfold aLd aL3
  by_cases g : 8 * T 0 ≤ aL2 b S 7
  · rw [if_pos g]
    by_cases q : aL2 b S 9 = 0
    · rw [if_pos q, su_n (by omega), su_n (by omega), e2]
    · rw [if_neg q]
      by_cases x : T 5 = 1 ∧ nI (aL2 b S 11) = 1
      · rw [if_pos x]
        unfold aCt
        rw [su_n (by omega), su_n (by omega), su_n (by omega), e2]
      · rw [if_neg x, aDl_lo hT j (by omega) (by omega), su_n (by omega), su_n (by omega), e2]
  · rw [if_neg g, e2]
theorem hd_c {T : Nat → Nat} {S : Nat → Nat} (h8 : 40 ≤ S 8 + 1) : aHd T S 16 = S 16 := by
  rw [aHd_is T S h8, su_n (by omega), show (16 : Nat) = 13 + 3 from rfl, h4_c T _ _ (by decide)]
  exact (hU_3 S).1
theorem recv_16 {n sc hs : Nat} (hn : 80 ≤ n) {T : Nat → Nat} {a22 : Nat → Int32} (hT : ∀ k, k < 7 → a22 k = nI (T k)) (tb : tB T) {o4 o44 a6 a7 a49 : Nat → Int32} {j5 : Int64} {hd : Nat → Int32} {sy : Nat → Nat → Nat} (hS : iS (T 0) sc hs hd sy o4 j5 a6 a7 o44 a49) (S : Nat → Nat) (o9 a10 o11 a12 o13 a14 a15 o a ow : Nat → Int32) (jw jh : Int64) (ald : Nat → Int32) {b B : Nat} (hbit : b < 2) (hB : 8 * B + 100 < 2 ^ 31) (hW : aW (T 0) B S) (hR : cR (T 0) S o a ow jw jh ald) (hG : cG (T 0) S o9 a10 o11 a12 o13 a14 a15) : ∃ o9' a10' o11' a12' o13' a14' a15' o' a' ow' jw' jh' ald', f_X6_receive_16 n a22 o4 a6 a7 o9 a10 o11 a12 o13 a14 a15 o a ow jw jh ald (nI b) (nI (S 0 + 1)) = some (o9', a10', o11', a12', o13', a14', a15', o', a', ow', jw', jh', ald') ∧ cR (T 0) (aSt T sc hd sy b S) o' a' ow' jw' jh' ald' ∧ cG (T 0) (aSt T sc hd sy b S) o9' a10' o11' a12' o13' a14' a15' := by
  obtain ⟨hO, hc, hV, hJ, hY⟩ := hR
  obtain ⟨w1, w2, w3, w4⟩ := hW
  have t0 := tb.1
  have h7 := w1.2.2.2.2.2.1
  have q1 := w1.1.1
  have k1 := hO.1.1
  obtain ⟨ow', jw', p1, p2⟩ := push_is hbit w3.1.1 w3.1.2.1 hV
  have lowp : ∀ j, (j < 13 ∨ 27 ≤ j) → (j ≠ 0 ∧ j ≠ 27 ∧ j ≠ 28 ∧ j ≠ 5) → aP1 b S j = S j := fun j h1 h2 => by rw [aP1_at b S h1, aPs_at b S h2]
  have hOU : cO (T 0) (aP1 b S) o := cO_c2 hO (fun j h1 h2 h3 => lowp j (by omega) (by omega))
  have hcU : cC (fun k => aP1 b S (13 + k)) (upd a (aKd (S 1)) (a (aKd (S 1)) + 1)) := by
    refine cC_cg (cC_ct hc (aKd_lt (S 1))) (fun k hk => ?_)
    show aP1 b S (13 + k) = S (13 + k) + dl k (aKd (S 1))
    rw [aP1_c b S hk]
    unfold dl
    by_cases c : k = aKd (S 1)
    · rw [if_pos c, if_pos c]
    · rw [if_neg c, if_neg c]; rfl
  have hVU : cV (aP1 b S) ow' jw' := cV_cg p2 (aP1_at b S (by decide)) (aP1_at b S (by decide)) (aP1_at b S (by decide))
  have hJU : jh = lN (aP1 b S 29 * 2 ^ 32 + aP1 b S 30) := by rw [lowp 29 (by decide) (by decide), lowp 30 (by decide) (by decide)]; exact hJ
  have hYU : cY (aP1 b S) ald := cY_cg hY (lowp 6 (by decide) (by decide)) (lowp 7 (by decide) (by decide)) (lowp 31 (by decide) (by decide)) (fun i hi => lowp _ (by omega) (by omega)) (by omega)
  have lwp := lwp1 (b := b) w1
  have hbp := hb_p1 (b := b) w3
  have m1 := lw_mid (sc := sc) (hd := hd) (sy := sy) (b := b) t0.2 (by omega) w1
  have u0 : aP1 b S 0 = S 0 + 1 := by rw [aP1_at b S (by decide)]; rfl
  have hGU := cG_p1 (b := b) t0.2 hG
  have fin := fun (o9 a10 o11 a12 o13 a14 a15 o a ow : Nat → Int32) (jw jh : Int64) (ald : Nat → Int32) => fin_16 (n := n) hT tb o4 a6 a7 (aMid T sc hd sy b S) o9 a10 o11 a12 o13 a14 a15 o a ow jw jh ald (S 1) q1 m1.1.1 m1.2.2.2.2.2.1 (by have := m1.1.2.2.2.2.2.1; omega) m1.1.2.2.2.2.1
  have mV : ∀ j, j = 5 → aMid T sc hd sy b S j = aP1 b S j := fun j hj => by rw [mid_05 t0.2 h7 (by omega), aP1_at b S (by omega)]
  unfold f_X6_receive_16
  rw [show f_X10_push_18 ow jw (nI b) = f_X10_push_24 ow jw (nI b) from rfl, p1, Option.bind_some, k1]
  by_cases c : S 1 = 0
  · have ek : aKd (S 1) = 6 := by unfold aKd; rw [if_pos c]
    have eM : aMid T sc hd sy b S = aHu T (aP1 b S) := by unfold aMid; rw [if_pos c]
    obtain ⟨z1, z2, z3⟩ := w1.2.2.2.2.2.2.2.2 c
    rw [ek] at hcU
    obtain ⟨o11', a12', o', a', e1, e0, e2, e3⟩ := hunt_16 (T := T) (a22 := a22) (T 0) (hT 6 (by decide)) tb.2.2.2.2.2.2 (aP1 b S) o11 a12 o _ ow' jw' (nI (S 0 + 1)) (by rw [u0]) (by rw [lowp 1 (by decide) (by decide)]; exact c) (by rw [lowp 6 (by decide) (by decide), lowp 7 (by decide) (by decide), lowp 9 (by decide) (by decide)]; exact ⟨z1, z2, z3⟩) (by rw [aP1_at b S (by decide)]; show S 5 + 1 < 2 ^ 31; omega) (by rw [lowp 874 (by decide) (by decide)]; have := w1.1.2.2.2.2.2.2; omega) hbp.1.2.1 hOU hcU hVU hGU.2.1
    rw [if_pos (by rw [c]; rfl)]
    show ∃ o9' a10' o11' a12' o13' a14' a15' o' a' ow'' jw'' jh' ald', Option.bind (f_X6_hunt_16 a22 o11 a12 o (upd a 6 (a 6 + 1)) ow' jw' (nI (S 0 + 1))) _ = _ ∧ _
    rw [e1, Option.bind_some]
    have f := fin o9 a10 o11' a12' o13 a14 a15 o' a' ow' jw' jh ald
    unfold aSt
    rw [eM] at f ⊢
    obtain ⟨x1, x2, x3, x4, x5, x6, y1, y2⟩ := f e2 e3 (cV_cg hVU (by rw [← eM]; exact mV 5 rfl) (fr_hu _ _ 27 (by decide) (by decide)) (fr_hu _ _ 28 (by decide) (by decide))) (by rw [fr_hu _ _ 29 (by decide) (by decide), fr_hu _ _ 30 (by decide) (by decide)]; exact hJU) (cY_0 hYU (fun _ => hu_7 _ _ (by rw [lowp 7 (by decide) (by decide)]; exact z2)))
    exact ⟨_, _, _, _, _, _, _, x1, x2, x3, x4, x5, x6, y1, y2, cG_wt t0.2 ⟨gC_cg hGU.1 t0.2 (hu_c (k := 3) (by decide)) (fun j h1 h2 => fr_hu _ _ j (by omega) h2), e0, gJ_cg hGU.2.2 (hu_c (k := 8) (by decide)) (fun j h1 h2 => hu_j ⟨h1, h2⟩)⟩⟩
  · rw [if_neg (fun z => c ((nI_eq0 (by omega)).mp z))]
    have c12 : S 1 = 1 ∨ S 1 = 2 := by omega
    have r6 := w1.2.1
    have body : ∀ t : Int32, t = nI (aKd (S 1)) → ∃ o9' a10' o11' a12' o13' a14' a15' o' a' ow'' jw'' jh' ald', b_X6_receive_16_52 n a22 o4 a6 a7 o9 a10 o11 a12 o13 a14 a15 o a ow' jw' jh ald (nI b) (nI (S 0 + 1)) (nI (S 1)) t = some (o9', a10', o11', a12', o13', a14', a15', o', a', ow'', jw'', jh', ald') ∧ cR (T 0) (aSt T sc hd sy b S) o' a' ow'' jw'' jh' ald' ∧ cG (T 0) (aSt T sc hd sy b S) o9' a10' o11' a12' o13' a14' a15' := by
      intro t ht
      subst ht
      have hk := aKd_lt (S 1)
      unfold b_X6_receive_16_52 f_X6_loadBits_16
      rw [xin_t hk (by decide), cond_true, cond_true, nI_clamp (by omega), Option.bind_some, Option.bind_some, hT 0 (by decide), show (8 : Int32) * nI (T 0) = nI (8 * T 0) from pk_mul 8 _]
      by_cases d : S 6 = 1
      · have g := hO.2.2 d
        have s8 := w1.2.2.2.2.1
        have eM : aMid T sc hd sy b S = aHd T (aP1 b S) := by unfold aMid; rw [if_neg c, if_pos d]
        rw [g.1, nI_1, if_pos (nI_le (by omega) (by omega)), pk_sub (by omega)]
        by_cases x : S 8 + 1 = 40
        · have ex : nI (8 * T 0 + S 8 + 1 - 8 * T 0) = 40 := by rw [show 8 * T 0 + S 8 + 1 - 8 * T 0 = 40 by omega]; rfl
          rw [if_pos ex]
          have h8u : 40 ≤ aP1 b S 8 + 1 := by rw [lowp 8 (by decide) (by decide)]; omega
          have h7u : aP1 b S 7 = 0 := by rw [lowp 7 (by decide) (by decide)]; exact w1.2.2.2.2.2.2.1 d
          obtain ⟨o11', a12', o13', a14', o', a', e1, e0, e2, e3⟩ := judge_16 (n := n) (by omega) (T := T) (T 0) hT ⟨tb.2.1.2, tb.2.2.1.2, tb.2.2.2.1⟩ (aP1 b S) o11 a12 o13 a14 (upd o 15 (nI (8 * T 0 + S 8 + 1))) _ ow' jw' (by rw [lowp 1 (by decide) (by decide)]; exact c12) h7u h8u (by have := lwp.1.2.1; omega) (by have := lwp.1.2.2.1; omega) lwp.1.2.2.2.1 hbp.1.1 hbp.1.2.1 hOU.1 g.2 hcU hVU hGU.2.1 hGU.2.2
          rw [u0] at e1
          rw [e1, Option.bind_some]
          have f := fin o9 a10 o11' a12' o13' a14' a15 o' a' ow' jw' jh ald
          unfold aSt
          rw [eM] at f ⊢
          obtain ⟨x1, x2, x3, x4, x5, x6, y1, y2⟩ := f e2 e3 (cV_cg hVU (by rw [← eM]; exact mV 5 rfl) (fr_hd _ _ 27 (by decide) (by decide)) (fr_hd _ _ 28 (by decide) (by decide))) (by rw [fr_hd _ _ 29 (by decide) (by decide), fr_hd _ _ 30 (by decide) (by decide)]; exact hJU) (cY_0 hYU (fun _ => hd_7 _ _ h7u h8u))
          exact ⟨_, _, _, _, _, _, _, x1, x2, x3, x4, x5, x6, y1, y2, cG_wt t0.2 ⟨gC_cg hGU.1 t0.2 (hd_c h8u) (fun j h1 h2 => fr_hd _ _ j (by omega) h2), e0.1, e0.2⟩⟩
        · have ex : ¬ nI (8 * T 0 + S 8 + 1 - 8 * T 0) = 40 := by
            rw [show 8 * T 0 + S 8 + 1 - 8 * T 0 = S 8 + 1 by omega]
            exact fun z => x ((nI_eq (b := 40) (by omega) (by decide)).mp z)
          rw [if_neg ex]
          have eH : aHd T (aP1 b S) = su (aP1 b S) 8 (aP1 b S 8 + 1) := by unfold aHd; rw [if_neg (by rw [lowp 8 (by decide) (by decide)]; omega)]
          have f := fin o9 a10 o11 a12 o13 a14 a15 (upd o 15 (nI (8 * T 0 + S 8 + 1))) (upd a (aKd (S 1)) (a (aKd (S 1)) + 1)) ow' jw' jh ald
          unfold aSt
          rw [eM, eH] at f ⊢
          have f2 : cO (T 0) (su (aP1 b S) 8 (aP1 b S 8 + 1)) (upd o 15 (nI (8 * T 0 + S 8 + 1))) ∧ (su (aP1 b S) 8 (aP1 b S 8 + 1) 6 = 0 → su (aP1 b S) 8 (aP1 b S 8 + 1) 7 = 0) := by
            refine ⟨⟨hOU.1, fun q => ?_, fun q => ?_⟩, fun q => ?_⟩
            · have q' : aP1 b S 6 = 0 := q
              rw [lowp 6 (by decide) (by decide)] at q'
              omega
            · refine ⟨?_, g.2⟩
              show nI (8 * T 0 + S 8 + 1) = nI (8 * T 0 + (aP1 b S 8 + 1))
              rw [lowp 8 (by decide) (by decide), Nat.add_assoc]
            · have q' : aP1 b S 6 = 0 := q
              rw [lowp 6 (by decide) (by decide)] at q'
              omega
          obtain ⟨x1, x2, x3, x4, x5, x6, y1, y2⟩ := f f2.1 (cC_cg hcU (fun k hk => su_c _ _ _ (by decide) hk)) (cV_cg hVU rfl rfl rfl) hJU (cY_0 hYU f2.2)
          exact ⟨_, _, _, _, _, _, _, x1, x2, x3, x4, x5, x6, y1, y2, cG_wt t0.2 ⟨gC_cg hGU.1 t0.2 rfl (fun j h1 h2 => su_n (by omega)), gT_cg hGU.2.1 rfl (fun j h1 h2 => su_n (by omega)), gJ_cg hGU.2.2 rfl (fun j h1 h2 => su_n (by omega))⟩⟩
      · have d0 : S 6 = 0 := by omega
        have g := hO.2.1 d0
        have eM : aMid T sc hd sy b S = aLd T sc hd sy b (aP1 b S) := by unfold aMid; rw [if_neg c, if_neg d]
        rw [g.1, if_neg (nI_ge (by omega) (by omega))]
        obtain ⟨o9', a10', a15', o', a', jh', ald', e1, e0, e2, e3, e4, e5⟩ := carry_16 hn hT ⟨t0.2, tb.2.2.2.2.2.1⟩ hS (aP1 b S) o9 a10 a15 o _ ald jh b hbit lwp.2.2.1 lwp.2.2.2.2.2.2.2.1 (by rw [lowp 6 (by decide) (by decide)]; exact d0) lwp.2.2.2.2.2.1 hbp.1.2.2.1 hbp.1.2.2.2.1 hOU hcU hJU hYU hGU.1
        rw [e1, Option.bind_some]
        have f := fin o9' a10' o11 a12 o13 a14 a15' o' a' ow' jw' jh' ald'
        have e27 : ∀ j, j = 27 ∨ j = 28 → aLd T sc hd sy b (aP1 b S) j = aP1 b S j := by
          intro j hj
          have e2 : aL2 b (aP1 b S) j = aP1 b S j := aL2_0 b _ (by omega) (by omega) (by have := lwp.2.2.2.2.2.1; omega)
          unfold aLd aL3
          by_cases g : 8 * T 0 ≤ aL2 b (aP1 b S) 7
          · rw [if_pos g]
            by_cases q : aL2 b (aP1 b S) 9 = 0
            · rw [if_pos q, su_n (by omega), su_n (by omega), e2]
            · rw [if_neg q]
              by_cases x : T 5 = 1 ∧ nI (aL2 b (aP1 b S) 11) = 1
              · rw [if_pos x, fr_ct _ (by decide) _ (by omega) (by omega), su_n (by omega), su_n (by omega), e2]
              · rw [if_neg x, aDl_lo t0.2 j (by omega) (by omega), su_n (by omega), su_n (by omega), e2]
          · rw [if_neg g, e2]
        unfold aSt
        rw [eM] at f ⊢
        obtain ⟨x1, x2, x3, x4, x5, x6, y1, y2⟩ := f e2 e3 (cV_cg hVU (by rw [← eM]; exact mV 5 rfl) (e27 27 (by decide)) (e27 28 (by decide))) e4 e5
        have h7u : aP1 b S 7 < 8 * 48 := by have := lwp.2.2.2.2.2.1; omega
        exact ⟨_, _, _, _, _, _, _, x1, x2, x3, x4, x5, x6, y1, y2, cG_wt t0.2 ⟨e0, gT_cg hGU.2.1 (ld_c (k := 7) (by decide)) (fun j h1 h2 => ld_log t0.2 h7u (by omega)), gJ_cg hGU.2.2 (ld_c (k := 8) (by decide)) (fun j h1 h2 => ld_log t0.2 h7u (by omega))⟩⟩
    by_cases d : S 1 = 1
    · rw [if_pos (by rw [d]; rfl)]
      exact body 12 (by unfold aKd; rw [if_neg c, if_pos d]; rfl)
    · rw [if_neg (fun z => d ((nI_eq1 (by omega)).mp z))]
      exact body 13 (by unfold aKd; rw [if_neg c, if_neg d]; rfl)
