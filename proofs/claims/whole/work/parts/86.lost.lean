/-! what was lost -/
def cnB (F : Nat → Bool) : Nat → Nat
  | 0 => 0
  | k + 1 => cnB F k + bn (F k)
theorem cnB_cg {F G : Nat → Bool} {k : Nat} (h : ∀ i, i < k → F i = G i) : cnB F k = cnB G k := by
  induction k with
  | zero => rfl
  | succ k ih => rw [cnB, cnB, ih (fun i hi => h i (by omega)), h k (by omega)]
theorem cnB_sh (F : Nat → Bool) (k : Nat) : cnB F (k + 1) = bn (F 0) + cnB (fun i => F (i + 1)) k := by
  induction k with
  | zero => show 0 + bn (F 0) = bn (F 0) + 0; omega
  | succ k ih => rw [cnB, ih, cnB]; omega
theorem pop_cnB (k : Nat) : ∀ x, pop k x = cnB (fun i => Nat.testBit x i) k := by
  induction k with
  | zero => intro x; rfl
  | succ k ih =>
    intro x
    rw [pop, ih, cnB_sh]
    congr 1
    · rw [Nat.testBit_zero]
      have h : x % 2 = 0 ∨ x % 2 = 1 := by omega
      rcases h with e | e <;> rw [e] <;> rfl
    · exact cnB_cg (fun i _ => (Nat.testBit_succ x i).symm)
theorem cnB_ins {F : Nat → Bool} {s : Nat} (h : F s = false) : ∀ k, cnB (fun i => F i || decide (s = i)) k = cnB F k + (if s < k then 1 else 0) := by
  intro k
  induction k with
  | zero => rw [if_neg (Nat.not_lt_zero s)]; rfl
  | succ k ih =>
    rw [cnB, cnB, ih]
    by_cases c : s = k
    · subst c
      rw [if_neg (Nat.lt_irrefl s), if_pos (Nat.lt_succ_self s), h]
      simp [bn]
    · by_cases d : s < k
      · rw [if_pos d, if_pos (by omega)]
        simp [bn, c]
        omega
      · rw [if_neg d, if_neg (by omega)]
        simp [bn, c]
theorem cnB_same {F : Nat → Bool} {s : Nat} (h : F s = true) (k : Nat) : cnB (fun i => F i || decide (s = i)) k = cnB F k := by
  refine cnB_cg (fun i _ => ?_)
  by_cases c : s = i
  · subst c; rw [h]; rfl
  · simp [c]
/-- found ones, from lo on, m of them; the other way round -/
def FuL (fd : Nat → Int32) (lo : Nat) : Nat → Nat → Bool
  | 0, _ => false
  | m + 1, s => FuL fd lo m s || decide (fd (lo + m) = nI s)
def FdL (fd : Nat → Int32) (hi : Nat) : Nat → Nat → Bool
  | 0, _ => false
  | m + 1, s => FdL fd hi m s || decide (fd (hi - 1 - m) = nI s)
theorem FuL_iff (fd : Nat → Int32) (lo : Nat) : ∀ m s, FuL fd lo m s = true ↔ ∃ j, j < m ∧ fd (lo + j) = nI s := by
  intro m
  induction m with
  | zero => intro s; exact ⟨fun h => (by cases h), fun ⟨j, h, _⟩ => absurd h (Nat.not_lt_zero j)⟩
  | succ m ih =>
    intro s
    rw [FuL, Bool.or_eq_true, ih, decide_eq_true_eq]
    constructor
    · rintro (⟨j, h1, h2⟩ | h)
      · exact ⟨j, by omega, h2⟩
      · exact ⟨m, by omega, h⟩
    · rintro ⟨j, h1, h2⟩
      by_cases c : j = m
      · subst c; exact Or.inr h2
      · exact Or.inl ⟨j, by omega, h2⟩
theorem FdL_iff (fd : Nat → Int32) (hi : Nat) : ∀ m s, FdL fd hi m s = true ↔ ∃ j, j < m ∧ fd (hi - 1 - j) = nI s := by
  intro m
  induction m with
  | zero => intro s; exact ⟨fun h => (by cases h), fun ⟨j, h, _⟩ => absurd h (Nat.not_lt_zero j)⟩
  | succ m ih =>
    intro s
    rw [FdL, Bool.or_eq_true, ih, decide_eq_true_eq]
    constructor
    · rintro (⟨j, h1, h2⟩ | h)
      · exact ⟨j, by omega, h2⟩
      · exact ⟨m, by omega, h⟩
    · rintro ⟨j, h1, h2⟩
      by_cases c : j = m
      · subst c; exact Or.inr h2
      · exact Or.inl ⟨j, by omega, h2⟩
theorem FuL_FdL (fd : Nat → Int32) (lo m : Nat) : ∀ s, FuL fd lo m s = FdL fd (lo + m) m s := by
  intro s
  apply Bool.eq_iff_iff.mpr
  rw [FuL_iff, FdL_iff]
  constructor
  · rintro ⟨j, h1, h2⟩
    exact ⟨m - 1 - j, by omega, by rw [show lo + m - 1 - (m - 1 - j) = lo + j by omega]; exact h2⟩
  · rintro ⟨j, h1, h2⟩
    exact ⟨m - 1 - j, by omega, by rw [show lo + (m - 1 - j) = lo + m - 1 - j by omega]; exact h2⟩
theorem shl_q : ∀ q, q < 64 → (1 <<< (Int32.toInt64 (nI q) &&& 63) : Int64) = lN (2 ^ q) := by decide +kernel
theorem nar_z (b : Bool) : vp_nar .boolean (b2i b) = b2i b := by cases b <;> rfl
theorem i32_sub1 (x y : Int32) : x - y + (-1) = x - (y + 1) := by
  rw [Int32.sub_eq_add_neg, Int32.sub_eq_add_neg, Int32.neg_add, Int32.add_assoc, Int32.sub_eq_add_neg]
theorem i32_sub2 (x y : Int32) : x - 1 - y = x - (y + 1) := by
  rw [Int32.sub_eq_add_neg, Int32.sub_eq_add_neg, Int32.sub_eq_add_neg, Int32.neg_add, Int32.add_assoc, Int32.sub_eq_add_neg, Int32.add_comm (-1) (-y)]
theorem cnB_z {F : Nat → Bool} (h : ∀ i, F i = false) (k : Nat) : cnB F k = 0 := by
  induction k with
  | zero => rfl
  | succ k ih => rw [cnB, ih, h k]; rfl
theorem k_lost {n sc hs : Nat} (hn : 100 ≤ n) {T : Nat → Nat} (tT : T 0 ≤ 48) {S : Nat → Nat} {a1 o4 o44 a6 a7 a49 o9 a10 a15 a55 : Nat → Int32} {j5 : Int64} {hd : Nat → Int32} {sy : Nat → Nat → Nat} (e1 : a1 0 = nI (T 0)) (hS : iS (T 0) sc hs hd sy o4 j5 a6 a7 o44 a49) (hb2 : hb S) (ht : S 16 < 2 ^ 29) (hg : gC (T 0) S o9 a10 a15) : ∃ x a55', f_X11_lost_0 n a1 o4 a6 a7 o9 a10 a15 = some x ∧ f_X12_lost_44 n o44 a49 (sn S) a55 = some (x, upd o44 0 0, a55') := by
  have hS0 : iS (T 0) sc hs hd sy o4 j5 a6 a7 (upd o44 0 0) a49 := hS
  have hsc := hS.2.2.1
  obtain ⟨⟨h0, h2, h3⟩, h4⟩ := id hg
  let fd : Nat → Int32 := fun k => aFn (T 0) hd sy (nI (S (80 + 52 * (k % 12)))) (fun i => S (80 + 52 * (k % 12) + 4 + i)) sc 0
  have fd_c : ∀ k, fd k = -1 ∨ ∃ q, q < sc ∧ fd k = nI q := by
    intro k
    rcases aFn_neg (T0 := T 0) (hd := hd) (sy := sy) (x := nI (S (80 + 52 * (k % 12)))) (y := fun i => S (80 + 52 * (k % 12) + 4 + i)) sc 0 with h | ⟨q, -, h, h'⟩
    · exact Or.inl h
    · exact Or.inr ⟨q, by omega, h'⟩
  have ne1 : ∀ s, s < 64 → ¬ ((-1 : Int32) = nI s) := by
    intro s hs z
    have h := nI_pos' (show s < 2 ^ 31 by omega)
    rw [← z] at h
    exact absurd h (by decide)
  -- the class
  have cl : ∀ (m k i x : Nat), i + m = S 16 → m < k → x < 2 ^ 64 → (∀ s, s < 64 → Nat.testBit x s = FuL fd (S 16 - 12) (i - (S 16 - 12)) s) → S 16 - 12 ≤ i → ∃ y l, l_X11_lost_0_13 n a1 o4 a6 a7 o9 a10 a15 k (lN x) (nI i) = some (lN y, l) ∧ y < 2 ^ 64 ∧ ∀ s, s < 64 → Nat.testBit y s = FuL fd (S 16 - 12) (S 16 - (S 16 - 12)) s := by
    intro m
    induction m with
    | zero =>
      intro k i x hi hk hx hb hl
      obtain ⟨k, rfl⟩ : ∃ q, k = q + 1 := ⟨k - 1, by omega⟩
      rw [l_X11_lost_0_13, h2, if_pos (nI_le (by omega) (by omega))]
      exact ⟨x, _, rfl, hx, by rw [show S 16 = i by omega] at hb ⊢; exact hb⟩
    | succ m ih =>
      intro k i x hi hk hx hb hl
      obtain ⟨k, rfl⟩ : ∃ q, k = q + 1 := ⟨k - 1, by omega⟩
      obtain ⟨f1, -⟩ := found_is (n := n) (by omega) tT e1 hS hb2 hg (k := i) (by omega) (by omega)
      rw [l_X11_lost_0_13, h2, if_neg (nI_ge (by omega) (by omega)), f1, Option.bind_some, nI_1]
      have eF : ∀ s, FuL fd (S 16 - 12) (i + 1 - (S 16 - 12)) s = (FuL fd (S 16 - 12) (i - (S 16 - 12)) s || decide (fd i = nI s)) := by
        intro s
        rw [show i + 1 - (S 16 - 12) = (i - (S 16 - 12)) + 1 by omega, FuL, show S 16 - 12 + (i - (S 16 - 12)) = i by omega]
      rcases fd_c i with h | ⟨q, hq, h⟩
      · have h' : aFn (T 0) hd sy (nI (S (80 + 52 * (i % 12)))) (fun j => S (80 + 52 * (i % 12) + 4 + j)) sc 0 = -1 := h
        rw [if_pos h']
        refine ih k (i + 1) x (by omega) (by omega) hx (fun s hs => ?_) (by omega)
        rw [eF, hb s hs, h, decide_eq_false (ne1 s hs), Bool.or_false]
      · have h' : aFn (T 0) hd sy (nI (S (80 + 52 * (i % 12)))) (fun j => S (80 + 52 * (i % 12) + 4 + j)) sc 0 = nI q := h
        rw [if_neg (by rw [h']; exact fun z => ne1 q (by omega) z.symm), h', shl_q q (by omega), lN_or]
        have hq2 : 2 ^ q < 2 ^ 64 := Nat.pow_lt_pow_right (by decide) (by omega)
        refine ih k (i + 1) _ (by omega) (by omega) (Nat.or_lt_two_pow hx hq2) (fun s hs => ?_) (by omega)
        rw [eF, Nat.testBit_or, hb s hs, Nat.testBit_two_pow, h]
        congr 1
        have e : (nI q = nI s) ↔ q = s := nI_eq (by omega) (by omega)
        simp only [e]
  -- the model
  have mz : ∀ (m k i : Nat) (a : Nat → Int32), i + m = 64 → m < k → (∀ j, j < i → a j = 0) → ∃ l a', l_X12_lost_44_7 n (upd o44 0 0) a49 (sn S) k (nI i) a = some (l, a') ∧ ∀ j, j < 64 → a' j = 0 := by
    intro m
    induction m with
    | zero =>
      intro k i a hi hk ha
      obtain ⟨k, rfl⟩ : ∃ q, k = q + 1 := ⟨k - 1, by omega⟩
      rw [l_X12_lost_44_7, if_pos (show 64 ≤ nI i from nI_le (a := 64) (by omega) (by omega))]
      exact ⟨_, _, rfl, fun j hj => ha j (by omega)⟩
    | succ m ih =>
      intro k i a hi hk ha
      obtain ⟨k, rfl⟩ : ∃ q, k = q + 1 := ⟨k - 1, by omega⟩
      rw [l_X12_lost_44_7, if_neg (show ¬ 64 ≤ nI i from nI_ge (b := 64) (by omega) (by decide)), xin_t (show i < 64 by omega) (by decide), cond_true, nI_clamp (by omega), nI_1]
      refine ih k (i + 1) _ (by omega) (by omega) (fun j hj => ?_)
      by_cases e : j = i
      · rw [e, pk_us]; exact nar_z false
      · rw [pk_un e]; exact ha j (by omega)
  have ml : ∀ (m k i : Nat) (a : Nat → Int32), i + m = 12 → m < k → (∀ s, s < 64 → a s = b2i (FdL fd (S 16) (min i (S 16)) s)) → ∃ l a', l_X12_lost_44_33 n (upd o44 0 0) a49 (sn S) k (nI sc - nI (cnB (FdL fd (S 16) (min i (S 16))) 64)) (nI i) a = some (nI sc - nI (cnB (FdL fd (S 16) (min 12 (S 16))) 64), l, a') := by
    intro m
    induction m with
    | zero =>
      intro k i a hi hk ha
      obtain ⟨k, rfl⟩ : ∃ q, k = q + 1 := ⟨k - 1, by omega⟩
      rw [l_X12_lost_44_33, if_pos (show 12 ≤ nI i from nI_le (a := 12) (by omega) (by omega)), show i = 12 by omega]
      exact ⟨_, _, rfl⟩
    | succ m ih =>
      intro k i a hi hk ha
      obtain ⟨k, rfl⟩ : ∃ q, k = q + 1 := ⟨k - 1, by omega⟩
      rw [l_X12_lost_44_33, if_neg (show ¬ 12 ≤ nI i from nI_ge (b := 12) (by omega) (by decide)), cellAt_is (by omega), sn_ap, nI_1, Option.bind_some]
      by_cases c : i < S 16
      · have ei : nI (S 16) - 1 - nI i = nI (S 16 - 1 - i) := by
          rw [show nI (S 16) - 1 = nI (S 16 - 1) from pk_sub (b := 1) (by omega), pk_sub (by omega)]
        have hk2 : nI (S 16 - 12) ≤ nI (S 16 - 1 - i) ∧ nI (S 16 - 1 - i) < nI (S 16) := ⟨nI_le (by omega) (by omega), nI_lt (by omega) (by omega)⟩
        obtain ⟨-, f2⟩ := found_is (n := n) (by omega) tT e1 hS0 hb2 hg (k := S 16 - 1 - i) (by omega) (by omega)
        rw [ei, if_pos hk2, at_is (by omega), if_neg at_ne, f2, Option.bind_some]
        have m1 : min i (S 16) = i := by omega
        have m2 : min (i + 1) (S 16) = i + 1 := by omega
        rw [m1] at ha ⊢
        have ih' := fun (a : Nat → Int32) (h : ∀ s, s < 64 → a s = b2i (FdL fd (S 16) (i + 1) s)) => ih k (i + 1) a (by omega) (by omega) (by rw [m2]; exact h)
        rw [m2] at ih'
        have eF : ∀ s, FdL fd (S 16) (i + 1) s = (FdL fd (S 16) i s || decide (fd (S 16 - 1 - i) = nI s)) := fun s => rfl
        rcases fd_c (S 16 - 1 - i) with h | ⟨q, hq, h⟩
        · have h' : aFn (T 0) hd sy (nI (S (80 + 52 * ((S 16 - 1 - i) % 12)))) (fun j => S (80 + 52 * ((S 16 - 1 - i) % 12) + 4 + j)) sc 0 = -1 := h
          rw [if_pos h']
          have es : ∀ s, s < 64 → FdL fd (S 16) (i + 1) s = FdL fd (S 16) i s := fun s hs => by rw [eF, h, decide_eq_false (ne1 s hs), Bool.or_false]
          have ec : cnB (FdL fd (S 16) (i + 1)) 64 = cnB (FdL fd (S 16) i) 64 := cnB_cg es
          rw [← ec]
          exact ih' a (fun s hs => by rw [ha s hs, es s hs])
        · have h' : aFn (T 0) hd sy (nI (S (80 + 52 * ((S 16 - 1 - i) % 12)))) (fun j => S (80 + 52 * ((S 16 - 1 - i) % 12) + 4 + j)) sc 0 = nI q := h
          rw [h', if_neg (fun z => ne1 q (by omega) z.symm), xin_t (show q < 64 by omega) (by decide), cond_true, cond_true, nI_clamp (by omega), ha q (by omega)]
          have eq2 : ∀ s, s < 64 → FdL fd (S 16) (i + 1) s = (FdL fd (S 16) i s || decide (q = s)) := by
            intro s hs
            rw [eF, h]
            congr 1
            have e : (nI q = nI s) ↔ q = s := nI_eq (by omega) (by omega)
            simp only [e]
          cases hF : FdL fd (S 16) i q with
          | false =>
            rw [if_pos (by rfl : b2i false = 0)]
            have ec : cnB (FdL fd (S 16) (i + 1)) 64 = cnB (FdL fd (S 16) i) 64 + 1 := by
              rw [cnB_cg eq2, cnB_ins hF, if_pos (by omega)]
            have el : nI sc - nI (cnB (FdL fd (S 16) i) 64) + (-1) = nI sc - nI (cnB (FdL fd (S 16) (i + 1)) 64) := by
              rw [ec, i32_sub1, nI_1]
            rw [el]
            refine ih' _ (fun s hs => ?_)
            rw [eq2 s hs]
            by_cases e : s = q
            · subst e
              rw [pk_us, hF]
              simp
              exact nar_z true
            · rw [pk_un e, ha s hs]
              have : ¬ q = s := fun z => e z.symm
              simp [this]
          | true =>
            rw [if_neg (by decide : ¬ b2i true = 0)]
            have ec : cnB (FdL fd (S 16) (i + 1)) 64 = cnB (FdL fd (S 16) i) 64 := by
              rw [cnB_cg eq2, cnB_same hF]
            rw [← ec]
            refine ih' _ (fun s hs => ?_)
            rw [eq2 s hs, ha s hs]
            by_cases e : q = s
            · subst e; rw [hF]; rfl
            · simp [e]
      · have hneg : nI (S 16) - 1 - nI i < 0 := by
          have e : nI (S 16) - 1 - nI i = nI (S 16) - nI (i + 1) := by
            rw [i32_sub2, nI_1]
          rw [e]
          exact pk_sneg (by omega) (by omega)
        rw [if_neg (show ¬ (nI (S 16 - 12) ≤ nI (S 16) - 1 - nI i ∧ nI (S 16) - 1 - nI i < nI (S 16)) from fun z => absurd hneg (Int32.not_lt.mpr (Int32.le_trans (nI_pos' (by omega)) z.1))), if_pos rfl]
        have m1 : min i (S 16) = S 16 := by omega
        have m2 : min (i + 1) (S 16) = S 16 := by omega
        rw [m1] at ha ⊢
        have ih' := ih k (i + 1) a (by omega) (by omega) (by rw [m2]; exact ha)
        rw [m2] at ih'
        exact ih'
  obtain ⟨y, l, c1, c2, c3⟩ := cl (S 16 - (S 16 - 12)) n (S 16 - 12) 0 (by omega) (by omega) (by decide) (fun s _ => by rw [Nat.sub_self]; simp [FuL]) (by omega)
  obtain ⟨l1, a', z1, z2⟩ := mz 64 n 0 a55 (by decide) (by omega) (fun j hj => absurd hj (Nat.not_lt_zero j))
  obtain ⟨l2, a'', z3⟩ := ml 12 n 0 a' (by decide) (by omega) (fun s hs => by rw [z2 s hs, show min 0 (S 16) = 0 by omega]; rfl)
  have e0 : cnB (FdL fd (S 16) (min 0 (S 16))) 64 = 0 := by rw [show min 0 (S 16) = 0 by omega]; exact cnB_z (fun _ => rfl) 64
  have es0 : nI sc - nI 0 = nI sc := pk_sub (Nat.zero_le _)
  rw [e0, es0] at z3
  have ef : f_X7_firstKept_9 o9 = some (nI (S 16 - 12)) := by
    unfold f_X7_firstKept_9
    rw [h0, h2]
    have e : (0 : Int32) < nI (S 16) - 12 ↔ 12 < S 16 := by
      rw [show (12 : Int32) = nI 12 from rfl, Int32.lt_iff_toInt_lt, pk_sub_toInt (by omega) (by decide)]
      show (0 : Int) < _ ↔ _
      omega
    by_cases c : 12 < S 16
    · rw [if_pos (e.mpr c), show nI (S 16) - 12 = nI (S 16 - 12) from pk_sub (b := 12) (by omega)]
    · rw [if_neg (fun z => c (e.mp z)), show S 16 - 12 = 0 by omega]; rfl
  unfold f_X11_lost_0 f_X12_lost_44
  have c1' : l_X11_lost_0_13 n a1 o4 a6 a7 o9 a10 a15 n 0 (nI (S 16 - 12)) = some (lN y, l) := c1
  have z1' : l_X12_lost_44_7 n (upd o44 0 0) a49 (sn S) n 0 a55 = some (l1, a') := z1
  have z3' : l_X12_lost_44_33 n (upd o44 0 0) a49 (sn S) n (nI sc) 0 a' = _ := z3
  rw [ef, Option.bind_some, c1', Option.bind_some, z1', Option.bind_some, hS.2.1, z3', Option.bind_some, bc_is c2, Option.bind_some, hS.1]
  have ep : pop 64 y = cnB (FdL fd (S 16) (min 12 (S 16))) 64 := by
    rw [pop_cnB]
    refine cnB_cg (fun s hs => ?_)
    rw [c3 s hs, FuL_FdL, show S 16 - 12 + (S 16 - (S 16 - 12)) = S 16 by omega, show S 16 - (S 16 - 12) = min 12 (S 16) by omega]
  rw [ep]
  exact ⟨_, _, rfl, rfl⟩
