/-! the class's receiver on paper: LOAD bits -/
theorem alike_26 {n T0 s : Nat} (hT0 : T0 ≤ 48) {o4 a7 : Nat → Int32} {sy : Nat → Nat → Nat} (ald : Nat → Int32) (st0 : Nat) (hst : st0 + T0 ≤ 48) (ly : Nat → Nat) (hs : s < 64) (eb : ∀ i, i < T0 → sy s i < 256 ∧ a7 (48 * s + i) = sb (sy s i)) (hl : ∀ i, i < T0 → ly i < 256 ∧ ald (st0 + i) = sb (ly i)) :
    ∀ (m k i : Nat), i + m = T0 → m < k → lk (sy s) ly i = true → ∃ o, l_X8_isLoadLike_4_26_37 n o4 a7 ald (nI st0) (nI T0) (nI (48 * s)) k (nI i) = some o ∧ Sum.elim (fun z => some z) (fun _ => some (1 : Int32)) o = some (if lk (sy s) ly T0 = true then 1 else 0) := by
  intro m
  induction m with
  | zero =>
    intro k i hi hk hv
    obtain ⟨k, rfl⟩ : ∃ q, k = q + 1 := ⟨k - 1, by omega⟩
    rw [l_X8_isLoadLike_4_26_37, if_pos (nI_le (by omega) (by omega)), if_pos (show lk (sy s) ly T0 = true by rw [show T0 = i by omega]; exact hv)]
    exact ⟨_, rfl, rfl⟩
  | succ m ih =>
    intro k i hi hk hv
    obtain ⟨k, rfl⟩ : ∃ q, k = q + 1 := ⟨k - 1, by omega⟩
    rw [l_X8_isLoadLike_4_26_37, if_neg (nI_ge (by omega) (by omega)), show nI (48 * s) + nI i = nI (48 * s + i) from nI_add _ _, show nI st0 + nI i = nI (st0 + i) from nI_add _ _, xin_t (show 48 * s + i < 3072 by omega) (by decide), xin_t (show st0 + i < 48 by omega) (by decide), cond_true, cond_true, nI_clamp (by omega), nI_clamp (by omega), (eb i (by omega)).2, (hl i (by omega)).2, nI_1]
    by_cases c : sy s i = ly i
    · rw [if_pos (by rw [c])]
      exact ih k (i + 1) (by omega) (by omega) (by rw [lk, hv, c]; simp)
    · rw [if_neg (fun z => c (sb_inj (eb i (by omega)).1 (hl i (by omega)).1 z)), if_neg (fun z => c ((lk_iff _ _ _).mp z i (by omega)))]
      exact ⟨_, rfl, rfl⟩
theorem first_26 {n T0 sc hs : Nat} (hn : 80 ≤ n) (hT0 : T0 ≤ 48) {o4 o44 a6 a7 a49 : Nat → Int32} {j5 : Int64} {hd : Nat → Int32} {sy : Nat → Nat → Nat} (hS : iS T0 sc hs hd sy o4 j5 a6 a7 o44 a49) (ald : Nat → Int32) (x : Int32) (st0 : Nat) (hst : st0 + T0 ≤ 48) (ly : Nat → Nat) (hl : ∀ i, i < T0 → ly i < 256 ∧ ald (st0 + i) = sb (ly i)) (p3 p4 : Int32) (e3 : p3 = nI st0) (e4 : p4 = nI T0) : f_X8_firstLike_4_26 n o4 a6 a7 ald x p3 p4 = some (aFn T0 hd sy x ly sc 0) := by
  subst e3; subst e4
  obtain ⟨s1, s2, s3, s4, s5⟩ := hS
  have like : ∀ s, s < sc → f_X8_isLoadLike_4_26 n o4 a7 ald (nI s) (nI st0) (nI T0) = some (if lk (sy s) ly T0 = true then 1 else 0) := by
    intro s hs
    obtain ⟨w1, w2, w3, w4⟩ := s5 s hs
    unfold f_X8_isLoadLike_4_26
    rw [if_neg (nI_pos (by omega)), show (48 : Int32) - nI st0 = nI (48 - st0) from pk_sub (a := 48) (by omega), if_neg (nI_nlt (by omega) (by omega)), show nI s * 48 = nI (48 * s) by rw [show (48 : Int32) = nI 48 from rfl, pk_mul, Nat.mul_comm], show (3072 : Int32) - nI (48 * s) = nI (3072 - 48 * s) from pk_sub (a := 3072) (by omega), if_pos (nI_le (by omega) (by omega))]
    obtain ⟨o, q1, q2⟩ := alike_26 (n := n) hT0 (o4 := o4) ald st0 hst ly (by omega) (fun i hi => ⟨(w4 i hi).1, (w4 i hi).2.1⟩) hl T0 n 0 (by omega) (by omega) rfl
    have q1' : l_X8_isLoadLike_4_26_37 n o4 a7 ald (nI st0) (nI T0) (nI (48 * s)) n 0 = some o := q1
    rw [q1', Option.bind_some]
    exact q2
  have loop : ∀ (m k s : Nat), s + m = sc → m < k → ∃ o, l_X8_firstLike_4_26_3 n o4 a6 a7 ald x (nI st0) (nI T0) k (nI s) = some o ∧ Sum.elim (fun z => some z) (fun _ => some (-1)) o = some (aFn T0 hd sy x ly m s) := by
    intro m
    induction m with
    | zero =>
      intro k s hs hk
      obtain ⟨k, rfl⟩ : ∃ q, k = q + 1 := ⟨k - 1, by omega⟩
      rw [l_X8_firstLike_4_26_3, s1, if_pos (nI_le (by omega) (by omega))]
      exact ⟨_, rfl, rfl⟩
    | succ m ih =>
      intro k s hs hk
      obtain ⟨k, rfl⟩ : ∃ q, k = q + 1 := ⟨k - 1, by omega⟩
      obtain ⟨w1, w2, w3, w4⟩ := s5 s (by omega)
      rw [l_X8_firstLike_4_26_3, s1, if_neg (nI_ge (by omega) (by omega)), if_neg (show ¬ 64 ≤ nI s from nI_ge (b := 64) (by omega) (by decide)), xin_t (show s < 64 by omega) (by decide), cond_true, nI_clamp (by omega), w1, like s (by omega), Option.bind_some, nI_1, aFn]
      by_cases c : hd s = x
      · rw [if_pos c]
        by_cases d : lk (sy s) ly T0 = true
        · rw [if_pos d, if_neg one_ne, if_pos ⟨c, d⟩]
          exact ⟨_, rfl, rfl⟩
        · rw [if_neg d, if_pos rfl, if_neg (fun z => d z.2)]
          exact ih k (s + 1) (by omega) (by omega)
      · rw [if_neg c, if_neg (fun z => c z.1)]
        exact ih k (s + 1) (by omega) (by omega)
  unfold f_X8_firstLike_4_26
  obtain ⟨o, q1, q2⟩ := loop sc n 0 (by omega) (by omega)
  have q1' : l_X8_firstLike_4_26_3 n o4 a6 a7 ald x (nI st0) (nI T0) n 0 = some o := q1
  rw [q1', Option.bind_some]
  exact q2
theorem aD1_c (T0 : Nat) (S : Nat → Nat) {k : Nat} (hk : k < 14) : aD1 T0 S (13 + k) = S (13 + k) + dl k 3 := by
  unfold aD1
  rw [aCt_c _ _ hk]
  unfold aCp
  rw [if_neg (fun z => by omega), su_n (by omega), su_n (by omega), su_n (by omega), su_n (by omega)]
theorem aL2_c (b : Nat) (S : Nat → Nat) {k : Nat} (hk : k < 14) : aL2 b S (13 + k) = S (13 + k) := by
  have e1 : aL1 b S (13 + k) = S (13 + k) := aL1_0 _ _ (by omega)
  unfold aL2
  by_cases c : (S 7 + 1) % 8 = 0
  · rw [if_pos c, su_n (by omega), e1]
  · rw [if_neg c, e1]
theorem his_is {S : Nat → Nat} (h29 : S 29 < 2 ^ 11) (h30 : S 30 < 2 ^ 32) {j : Int64} (h : j = lN (S 29 * 2 ^ 32 + S 30)) {b : Nat} (hb : b < 2) : Int64.toInt32 (xul j 42) = nI (S 29 / 1024) ∧ (((j <<< (Int32.toInt64 1 &&& 63)) ||| Int32.toInt64 (nI b)) &&& 8796093022207) = lN (aL1 b S 29 * 2 ^ 32 + aL1 b S 30) := by
  subst h
  constructor
  · rw [show xul (lN (S 29 * 2 ^ 32 + S 30)) 42 = lN ((S 29 * 2 ^ 32 + S 30) / 2 ^ 42) from xul_is (k := 42) (by omega) (by decide), lN_i]
    congr 1
    omega
  · rw [his_j hb]
    congr 1
    show _ = (2 * S 29 + S 30 / 2 ^ 31) % 2048 * 2 ^ 32 + (2 * S 30 + b) % 2 ^ 32
    omega
/-- the load, a bit on -/
theorem ly_step {S : Nat → Nat} {ly : Nat → Nat} {pl : Nat} (h7 : S 7 < 384) (h1 : ∀ i, i < S 7 / 8 → ly i = S (32 + i)) (h2 : ly (S 7 / 8) % 2 ^ (S 7 % 8) = S 31 % 2 ^ (S 7 % 8)) {b : Nat} (hp : pl = aPn b S) :
    (∀ i, i < (S 7 + 1) / 8 → (if i = S 7 / 8 then (2 * ly i + pl) % 256 else ly i) = aL2 b S (32 + i)) ∧ (if (S 7 + 1) / 8 = S 7 / 8 then (2 * ly ((S 7 + 1) / 8) + pl) % 256 else ly ((S 7 + 1) / 8)) % 2 ^ ((S 7 + 1) % 8) = (2 * S 31 + pl) % 256 % 2 ^ ((S 7 + 1) % 8) := by
  have l1 : ∀ i, aL1 b S (32 + i) = S (32 + i) := fun i => aL1_0 _ _ (by omega)
  by_cases c : (S 7 + 1) % 8 = 0
  · have e8 : (S 7 + 1) / 8 = S 7 / 8 + 1 := by omega
    have e7 : S 7 % 8 = 7 := by omega
    rw [e7] at h2
    constructor
    · intro i hi
      unfold aL2
      rw [if_pos c]
      by_cases d : i = S 7 / 8
      · rw [if_pos d, show 32 + i = 31 + (S 7 + 1) / 8 by omega, su_s, ← hp, d]
        have e2 : (2 : Nat) ^ 7 = 128 := by decide
        rw [e2] at h2
        omega
      · rw [if_neg d, su_n (by omega), l1, h1 i (by omega)]
    · rw [c, Nat.pow_zero, Nat.mod_one, Nat.mod_one]
  · have e8 : (S 7 + 1) / 8 = S 7 / 8 := by omega
    have em : (S 7 + 1) % 8 = S 7 % 8 + 1 := by omega
    constructor
    · intro i hi
      unfold aL2
      rw [if_neg c, if_neg (by omega), l1, h1 i (by omega)]
    · rw [e8, if_pos rfl, em]
      have hm : S 7 % 8 = 0 ∨ S 7 % 8 = 1 ∨ S 7 % 8 = 2 ∨ S 7 % 8 = 3 ∨ S 7 % 8 = 4 ∨ S 7 % 8 = 5 ∨ S 7 % 8 = 6 := by omega
      rcases hm with q | q | q | q | q | q | q <;> rw [q] at h2 ⊢ <;> simp only [Nat.reducePow, Nat.reduceAdd] at h2 ⊢ <;> omega
theorem end_21 {n sc hs : Nat} (hn : 80 ≤ n) {T : Nat → Nat} {a22 : Nat → Int32} (hT : ∀ k, k < 7 → a22 k = nI (T k)) (tb : T 0 ≤ 48 ∧ T 5 ≤ 1) {o4 o44 a6 a7 a49 : Nat → Int32} {j5 : Int64} {hd : Nat → Int32} {sy : Nat → Nat → Nat} (hS : iS (T 0) sc hs hd sy o4 j5 a6 a7 o44 a49) (S : Nat → Nat) (o a ald : Nat → Int32) (ly : Nat → Nat) (h9 : S 9 ≤ 1) (h8 : S 8 = 0) (h6 : S 6 = 0) (h7 : S 7 = 8 * T 0) (hl : ∀ i, i < T 0 → ly i < 256 ∧ ald i = sb (ly i)) (hly : ∀ i, i < T 0 → ly i = S (32 + i)) (hO : cO (T 0) S o) (hc : cC (fun k => S (13 + k)) a) : ∃ o' a', f_X6_endLoad_21 n o4 a6 a7 o a22 a ald = some (o', a') ∧ cO (T 0) (aL3 T sc hd sy S) o' ∧ cC (fun k => aL3 T sc hd sy S (13 + k)) a' := by
  obtain ⟨⟨k1, k2, k3, k4, k5, k6, k7⟩, k8, k9⟩ := hO
  obtain ⟨g1, g2, g3⟩ := k8 h6
  have hU : ∀ o' : Nat → Int32, o' 7 = o 7 → o' 8 = o 8 → o' 9 = o 9 → o' 10 = o 10 → o' 12 = o 12 → o' 13 = o 13 → o' 14 = o 14 → o' 15 = o 15 → o' 11 = 0 → cO (T 0) (su (su S 7 0) 6 1) o' := by
    intro o' q1 q2 q3 q4 q5 q6 q7 q8 q9
    unfold cO
    rw [q1, q2, q3, q4, q5, q6, q7, q8, q9]
    refine ⟨⟨k1, k2, k3, k4, k5, k6, k7⟩, fun q => (by cases q), fun _ => ⟨?_, rfl⟩⟩
    rw [g1, h7, show su (su S 7 0) 6 1 8 = 0 from h8]
    rfl
  have hcU : cC (fun k => su (su S 7 0) 6 1 (13 + k)) a := cC_cg hc (fun k hk => by rw [su_c _ _ _ (by decide) hk, su_c _ _ _ (by decide) hk])
  unfold f_X6_endLoad_21
  rw [g2, hT 5 (by decide)]
  unfold aL3
  rw [if_pos (Nat.le_of_eq h7.symm)]
  by_cases c : S 9 = 0
  · rw [if_pos (by rw [c]; rfl), if_pos c]
    exact ⟨_, _, rfl, hU o rfl rfl rfl rfl rfl rfl rfl rfl (by rw [g2, c]; rfl), hcU⟩
  · have c1 : S 9 = 1 := by omega
    obtain ⟨m1, m2, m3⟩ := g3 c1
    rw [if_neg (fun z => c ((nI_eq0 (by omega)).mp z)), if_neg c, m1]
    have fin : ∃ o' a', b_X6_endLoad_21_43 n o4 a6 a7 (upd o 11 0) a22 a ald = some (o', a') ∧ cO (T 0) (aDl (T 0) sc hd sy (su (su S 7 0) 6 1)) o' ∧ cC (fun k => aDl (T 0) sc hd sy (su (su S 7 0) 6 1) (13 + k)) a' := by
      unfold b_X6_endLoad_21_43 b_X6_endLoad_21_90
      rw [show upd o 11 0 16 = o 16 from rfl, m1, first_26 hn tb.1 hS ald (nI (S 11)) 0 (by omega) ly (fun i hi => by rw [Nat.zero_add]; exact hl i hi) 0 (a22 0) rfl (hT 0 (by decide)), Option.bind_some]
      have ef : aFn (T 0) hd sy (nI (S 11)) ly sc 0 = aFn (T 0) hd sy (nI (su (su S 7 0) 6 1 11)) (fun i => su (su S 7 0) 6 1 (32 + i)) sc 0 := by
        show _ = aFn (T 0) hd sy (nI (S 11)) (fun i => su (su S 7 0) 6 1 (32 + i)) sc 0
        refine aFn_cg (fun i hi => ?_) sc 0
        show ly i = su (su S 7 0) 6 1 (32 + i)
        rw [su_n (by omega), su_n (by omega)]; exact hly i hi
      rw [ef]
      unfold aDl
      by_cases d : aFn (T 0) hd sy (nI (su (su S 7 0) 6 1 11)) (fun i => su (su S 7 0) 6 1 (32 + i)) sc 0 = -1
      · rw [if_pos d, if_pos d]
        refine ⟨_, _, rfl, cO_cg (hU (upd o 11 0) rfl rfl rfl rfl rfl rfl rfl rfl rfl) (fun j hj => ?_), ?_⟩
        · have h := aDl_lo (T0 := T 0) (sc := sc) (hd := hd) (sy := sy) (S := su (su S 7 0) 6 1) tb.1 j (by omega) (by omega)
          unfold aDl at h
          rw [if_pos d] at h
          exact h
        · refine cC_cg (cC_ct (cC_ct hcU (j := 3) (by decide)) (j := 9) (by decide)) (fun k hk => ?_)
          rw [aCt_c _ _ hk, aD1_c _ _ hk]
      · rw [if_neg d, if_neg d]
        refine ⟨_, _, rfl, cO_cg (hU (upd o 11 0) rfl rfl rfl rfl rfl rfl rfl rfl rfl) (fun j hj => ?_), ?_⟩
        · have h := aDl_lo (T0 := T 0) (sc := sc) (hd := hd) (sy := sy) (S := su (su S 7 0) 6 1) tb.1 j (by omega) (by omega)
          unfold aDl at h
          rw [if_neg d] at h
          exact h
        · refine cC_cg (cC_ct hcU (j := 3) (by decide)) (fun k hk => ?_)
          rw [aD1_c _ _ hk]
    by_cases d : T 5 = 1
    · rw [if_pos (by rw [d]; rfl)]
      by_cases g : nI (S 11) = 1
      · rw [if_pos g, if_pos ⟨d, g⟩]
        refine ⟨_, _, rfl, cO_cg (hU (upd o 11 0) rfl rfl rfl rfl rfl rfl rfl rfl rfl) (ct_lo _ (by decide)), ?_⟩
        exact cC_cg (cC_ct hcU (j := 10) (by decide)) (fun k hk => aCt_c _ _ hk)
      · rw [if_neg g, if_neg (fun z => g z.2)]
        exact fin
    · rw [if_neg (fun z => d ((nI_eq1 (by omega)).mp z)), if_neg (fun z => d z.1)]
      exact fin
theorem carry_21 {n sc hs : Nat} (hn : 80 ≤ n) {T : Nat → Nat} {a22 : Nat → Int32} (hT : ∀ k, k < 7 → a22 k = nI (T k)) (tb : T 0 ≤ 48 ∧ T 5 ≤ 1) {o4 o44 a6 a7 a49 : Nat → Int32} {j5 : Int64} {hd : Nat → Int32} {sy : Nat → Nat → Nat} (hS : iS (T 0) sc hs hd sy o4 j5 a6 a7 o44 a49) (S : Nat → Nat) (o a ald : Nat → Int32) (jh : Int64) (b : Nat) (hbit : b < 2) (h9 : S 9 ≤ 1) (h8 : S 6 = 0 → S 8 = 0) (h6 : S 6 = 0) (h7 : S 7 < 8 * T 0) (h29 : S 29 < 2 ^ 11) (h30 : S 30 < 2 ^ 32) (hO : cO (T 0) S o) (hc : cC (fun k => S (13 + k)) a) (hJ : jh = lN (S 29 * 2 ^ 32 + S 30)) (hY : cY S ald) : ∃ o' a' jh' ald', f_X6_carry_21 n o4 a6 a7 o a22 a jh ald (nI b) = some (o', a', jh', ald') ∧ cO (T 0) (aLd T sc hd sy b S) o' ∧ cC (fun k => aLd T sc hd sy b S (13 + k)) a' ∧ jh' = lN (aLd T sc hd sy b S 29 * 2 ^ 32 + aLd T sc hd sy b S 30) ∧ cY (aLd T sc hd sy b S) ald' := by
  obtain ⟨⟨k1, k2, k3, k4, k5, k6, k7⟩, k8, k9⟩ := id hO
  obtain ⟨g1, g2, g3⟩ := k8 h6
  obtain ⟨ly, y1, y2⟩ := hY
  obtain ⟨y3, y4⟩ := y2 h6
  obtain ⟨j1, j2⟩ := his_is h29 h30 hJ hbit
  have ep : nI b ^^^ nI (S 29 / 1024) = nI (aPn b S) := by
    rw [nI_xor]
    unfold aPn
    rw [Nat.mod_eq_of_lt (show S 29 / 1024 < 2 by omega)]
  have hp := aPn_lt hbit S
  have ex : xus (nI (S 7)) 3 = nI (S 7 / 8) := pk_ushrN (by omega) 3 3 (by decide)
  have e2 : ∀ j, (j ≠ 7 ∧ (j < 29 ∨ 80 ≤ j)) → aL2 b S j = S j := fun j hj => aL2_0 b S (by omega) (by omega) (by omega)
  have e27 := aL2_7 b S
  have e229 : aL2 b S 29 = aL1 b S 29 ∧ aL2 b S 30 = aL1 b S 30 ∧ aL2 b S 31 = (2 * S 31 + aPn b S) % 256 := by
    unfold aL2
    by_cases c : (S 7 + 1) % 8 = 0
    · rw [if_pos c, su_n (by omega), su_n (by omega), su_n (by omega)]; exact ⟨rfl, rfl, rfl⟩
    · rw [if_neg c]; exact ⟨rfl, rfl, rfl⟩
  obtain ⟨z1, z2⟩ := ly_step (S := S) (ly := ly) (b := b) (by omega) y3 y4 rfl
  let ly' : Nat → Nat := fun i => if i = S 7 / 8 then (2 * ly i + aPn b S) % 256 else ly i
  have hl' : ∀ i, i < 48 → ly' i < 256 ∧ upd ald (S 7 / 8) (sb ((2 * ly (S 7 / 8) + aPn b S) % 256)) i = sb (ly' i) := by
    intro i hi
    by_cases c : i = S 7 / 8
    · have e : ly' i = (2 * ly (S 7 / 8) + aPn b S) % 256 := by show (if i = S 7 / 8 then _ else _) = _; rw [if_pos c, c]
      rw [e, c, pk_us]
      exact ⟨Nat.mod_lt _ (by decide), rfl⟩
    · have e : ly' i = ly i := if_neg c
      rw [e, pk_un c]
      exact y1 i hi
  have hO2 : cO (T 0) (aL2 b S) (upd o 15 (nI (S 7 + 1))) := by
    unfold cO
    rw [e2 1 (by decide), e2 2 (by decide), e2 3 (by decide), e2 4 (by decide), e2 873 (by decide), e2 872 (by decide), e2 874 (by decide), e2 6 (by decide), e2 8 (by decide), e2 9 (by decide), e2 10 (by decide), e2 11 (by decide), e2 12 (by decide), e27]
    exact ⟨⟨k1, k2, k3, k4, k5, k6, k7⟩, fun _ => ⟨rfl, g2, g3⟩, fun q => absurd (h6.symm.trans q) (by decide)⟩
  have hc2 : cC (fun k => aL2 b S (13 + k)) a := cC_cg hc (fun k hk => aL2_c b S hk)
  unfold f_X6_carry_21 f_X2_oldest_25 f_X2_push_25
  rw [Option.bind_some, Option.bind_some, j1, j2, ep, g1, ex, if_neg (show ¬ 48 ≤ nI (S 7 / 8) from nI_ge (b := 48) (by omega) (by decide)), xin_t (show S 7 / 8 < 48 by omega) (by decide), cond_true, cond_true, nI_clamp (by omega), (y1 (S 7 / 8) (by omega)).2, pk_vb, sb_push _ (y1 (S 7 / 8) (by omega)).1 _ hp]
  unfold b_X6_carry_21_51 f_X6_loadBits_21
  rw [Option.bind_some, g1, nI_1, hT 0 (by decide), show (8 : Int32) * nI (T 0) = nI (8 * T 0) from pk_mul 8 _]
  by_cases c : S 7 + 1 = 8 * T 0
  · rw [if_pos (by rw [c])]
    obtain ⟨o', a', f1, f2, f3⟩ := end_21 hn hT tb hS (aL2 b S) (upd o 15 (nI (S 7 + 1))) a (upd ald (S 7 / 8) (sb ((2 * ly (S 7 / 8) + aPn b S) % 256))) ly' (by rw [e2 9 (by decide)]; exact h9) (by rw [e2 8 (by decide)]; exact h8 h6) (by rw [e2 6 (by decide)]; exact h6) (by rw [e27]; exact c) (fun i hi => hl' i (by omega)) (fun i hi => z1 i (by omega)) hO2 hc2
    rw [f1, Option.bind_some]
    have e6 : aLd T sc hd sy b S 6 = 1 ∧ aLd T sc hd sy b S 29 = aL1 b S 29 ∧ aLd T sc hd sy b S 30 = aL1 b S 30 := by
      unfold aLd aL3
      rw [if_pos (by rw [e27]; omega)]
      by_cases d : aL2 b S 9 = 0
      · rw [if_pos d]; exact ⟨rfl, e229.1, e229.2.1⟩
      · rw [if_neg d]
        by_cases g : T 5 = 1 ∧ nI (aL2 b S 11) = 1
        · rw [if_pos g]; exact ⟨rfl, e229.1, e229.2.1⟩
        · rw [if_neg g, aDl_lo tb.1 6 (by decide) (by decide), aDl_lo tb.1 29 (by decide) (by decide), aDl_lo tb.1 30 (by decide) (by decide)]; exact ⟨rfl, e229.1, e229.2.1⟩
    exact ⟨_, _, _, _, rfl, f2, f3, by rw [e6.2.1, e6.2.2], ly', hl', fun q => absurd (e6.1.symm.trans q) (by decide)⟩
  · rw [if_neg (fun z => c ((nI_eq (by omega) (by omega)).mp z))]
    have el : aLd T sc hd sy b S = aL2 b S := by unfold aLd aL3; rw [if_neg (by rw [e27]; omega)]
    rw [el]
    refine ⟨_, _, _, _, rfl, hO2, hc2, by rw [e229.1, e229.2.1], ly', hl', fun _ => ?_⟩
    rw [e27, e229.2.2]
    exact ⟨z1, z2⟩
theorem cV_cg {S S' : Nat → Nat} {ow : Nat → Int32} {jw : Int64} (h : cV S ow jw) (e5 : S' 5 = S 5) (e7 : S' 27 = S 27) (e8 : S' 28 = S 28) : cV S' ow jw := by
  unfold cV
  rw [e5, e7, e8]
  exact h
theorem cY_cg {S S' : Nat → Nat} {ald : Nat → Int32} (h : cY S ald) (e6 : S' 6 = S 6) (e7 : S' 7 = S 7) (e31 : S' 31 = S 31) (e32 : ∀ i, i < 48 → S' (32 + i) = S (32 + i)) (h7 : S 7 < 384) : cY S' ald := by
  obtain ⟨ly, h1, h2⟩ := h
  refine ⟨ly, h1, ?_⟩
  rw [e6, e7, e31]
  intro q
  obtain ⟨q1, q2⟩ := h2 q
  exact ⟨fun i hi => by rw [e32 i (by omega)]; exact q1 i hi, q2⟩
theorem cY_0 {S S' : Nat → Nat} {ald : Nat → Int32} (h : cY S ald) (e : S' 6 = 0 → S' 7 = 0) : cY S' ald := by
  obtain ⟨ly, h1, h2⟩ := h
  refine ⟨ly, h1, fun q => ?_⟩
  rw [e q]
  exact ⟨fun i hi => absurd hi (Nat.not_lt_zero i), by simp [Nat.mod_one]⟩
