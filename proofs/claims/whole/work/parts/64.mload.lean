/-! LOAD bits, by the model -/
def lk (a b : Nat → Nat) : Nat → Bool
  | 0 => true
  | m + 1 => lk a b m && (a m == b m)
theorem lk_iff (a b : Nat → Nat) (m : Nat) : lk a b m = true ↔ ∀ i, i < m → a i = b i := by
  induction m with
  | zero => exact ⟨fun _ i hi => absurd hi (Nat.not_lt_zero i), fun _ => rfl⟩
  | succ m ih =>
    rw [lk, Bool.and_eq_true, ih, beq_iff_eq]
    constructor
    · rintro ⟨h1, h2⟩ i hi
      rcases Nat.lt_or_ge i m with q | q
      · exact h1 i q
      · have : i = m := by omega
        rw [this]; exact h2
    · intro h
      exact ⟨fun i hi => h i (by omega), h m (by omega)⟩
/-- the first of those sent, from s on, m of them, that has HEADER x and LOAD y -/
def aFn (T0 : Nat) (hd : Nat → Int32) (sy : Nat → Nat → Nat) (x : Int32) (y : Nat → Nat) : Nat → Nat → Int32
  | 0, _ => -1
  | m + 1, s => if hd s = x ∧ lk (sy s) y T0 = true then nI s else aFn T0 hd sy x y m (s + 1)
theorem nI_lt256 {a b : Nat} (ha : a < 256) (hb : b < 256) : nI a = nI b ↔ a = b := nI_eq (by omega) (by omega)
theorem m_like43 {n T0 s : Nat} {a49 o44 : Nat → Int32} {sy : Nat → Nat → Nat} (R : Nat → Nat) (p : Nat) (hp : p + 4 + T0 ≤ 875) (hs : s < 64) (hT0 : T0 ≤ 48) (e1 : a49 (50 * s + 1) = nI T0) (eb : ∀ i, i < T0 → sy s i < 256 ∧ a49 (50 * s + 2 + i) = nI (sy s i)) (hb : ∀ i, i < T0 → R (p + 4 + i) < 256) :
    ∀ (m k i : Nat), i + m = T0 → m < k → ∀ (v : Bool), (v = lk (sy s) (fun i => R (p + 4 + i)) i) → ∃ q : Int32 × Int32, l_X12_isLike_44_43 n o44 a49 (sn R) (nI p) (nI (50 * s)) k (b2i v) (nI i) = some q ∧ q.1 = b2i (lk (sy s) (fun i => R (p + 4 + i)) T0) := by
  intro m
  induction m with
  | zero =>
    intro k i hi hk v hv
    obtain ⟨k, rfl⟩ : ∃ q, k = q + 1 := ⟨k - 1, by omega⟩
    rw [l_X12_isLike_44_43, show nI (50 * s) + 1 = nI (50 * s + 1) from nI_1 _, xin_t (show 50 * s + 1 < 3200 by omega) (by decide), cond_true, nI_clamp (by omega), e1, if_pos (nI_le (show T0 ≤ i by omega) (by omega))]
    refine ⟨_, rfl, ?_⟩
    show b2i v = _
    rw [hv, show i = T0 by omega]
  | succ m ih =>
    intro k i hi hk v hv
    obtain ⟨k, rfl⟩ : ∃ q, k = q + 1 := ⟨k - 1, by omega⟩
    rw [l_X12_isLike_44_43, show nI (50 * s) + 1 = nI (50 * s + 1) from nI_1 _, xin_t (show 50 * s + 1 < 3200 by omega) (by decide), cond_true, nI_clamp (by omega), e1, if_neg (nI_ge (show i < T0 by omega) (by omega))]
    cases v with
    | false =>
      rw [if_pos (by rfl : b2i false = 0)]
      refine ⟨_, rfl, ?_⟩
      show b2i false = _
      have : lk (sy s) (fun i => R (p + 4 + i)) T0 = false := by
        cases hh : lk (sy s) (fun i => R (p + 4 + i)) T0 with
        | false => rfl
        | true =>
          have h2 := (lk_iff _ _ _).mp hh
          have h3 := (lk_iff (sy s) (fun i => R (p + 4 + i)) i).mpr (fun j hj => h2 j (by omega))
          rw [← hv] at h3
          cases h3
      rw [this]
    | true =>
      rw [if_neg (by decide : ¬ b2i true = 0)]
      rw [show nI p + 4 = nI (p + 4) from nI_add p 4, show nI (p + 4) + nI i = nI (p + 4 + i) from nI_add _ _, show nI (50 * s) + 2 = nI (50 * s + 2) from nI_add _ 2, show nI (50 * s + 2) + nI i = nI (50 * s + 2 + i) from nI_add _ _, xin_t (show p + 4 + i < 875 by omega) (by decide), xin_t (show 50 * s + 2 + i < 3200 by omega) (by decide), cond_true, cond_true, nI_clamp (by omega), nI_clamp (by omega), sn_ap, (eb i (by omega)).2, nI_1]
      by_cases c : R (p + 4 + i) = sy s i
      · rw [if_pos (by rw [c])]
        exact ih k (i + 1) (by omega) (by omega) true (by rw [lk, ← hv, c]; simp)
      · rw [if_neg (fun z => c ((nI_lt256 (hb i (by omega)) (eb i (by omega)).1).mp z))]
        exact ih k (i + 1) (by omega) (by omega) false (by rw [lk]; simp; intro _ z; exact c z.symm)
theorem m_like {n T0 s : Nat} (hn : 60 ≤ n) {a49 o44 : Nat → Int32} {hd : Nat → Int32} {sy : Nat → Nat → Nat} (R : Nat → Nat) (p : Nat) (hp : p + 4 + T0 ≤ 875) (hs : s < 64) (hT0 : T0 ≤ 48) (e0 : a49 (50 * s) = hd s) (e1 : a49 (50 * s + 1) = nI T0) (eb : ∀ i, i < T0 → sy s i < 256 ∧ a49 (50 * s + 2 + i) = nI (sy s i)) (hb : ∀ i, i < T0 → R (p + 4 + i) < 256) (h3 : R (p + 3) = T0) :
    f_X12_isLike_44 n o44 a49 (sn R) (nI p) (nI (50 * s)) = some (if hd s = nI (R p) ∧ lk (sy s) (fun i => R (p + 4 + i)) T0 = true then 1 else 0) := by
  unfold f_X12_isLike_44
  rw [xin_t (show p < 875 by omega) (by decide), xin_t (show 50 * s < 3200 by omega) (by decide), cond_true, cond_true, nI_clamp (by omega), nI_clamp (by omega), sn_ap, e0]
  have xb2 : ∀ v, xb (b2i v) = true := by intro v; cases v <;> decide
  by_cases c : nI (R p) = hd s
  · rw [if_pos c, show nI p + 3 = nI (p + 3) from nI_add p 3, show nI (50 * s) + 1 = nI (50 * s + 1) from nI_1 _, xin_t (show p + 3 < 875 by omega) (by decide), xin_t (show 50 * s + 1 < 3200 by omega) (by decide), cond_true, cond_true, nI_clamp (by omega), nI_clamp (by omega), sn_ap, e1, h3, if_pos rfl]
    unfold b_X12_isLike_44_39
    obtain ⟨q, q1, q2⟩ := m_like43 (n := n) (o44 := o44) R p hp hs hT0 e1 eb hb T0 n 0 (by omega) (by omega) true rfl
    have q3 : l_X12_isLike_44_43 n o44 a49 (sn R) (nI p) (nI (50 * s)) n 1 0 = some q := q1
    rw [q3, Option.bind_some, q2, xb2, cond_true]
    cases hl : lk (sy s) (fun i => R (p + 4 + i)) T0 with
    | true => rw [if_pos ⟨c.symm, rfl⟩]; rfl
    | false => rw [if_neg (fun z => by cases z.2)]; rfl
  · rw [if_neg c, if_neg (fun z => c z.1.symm)]
    unfold b_X12_isLike_44_38 b_X12_isLike_44_39
    obtain ⟨k, rfl⟩ : ∃ q, n = q + 1 := ⟨n - 1, by omega⟩
    rw [l_X12_isLike_44_43, show nI (50 * s) + 1 = nI (50 * s + 1) from nI_1 _, xin_t (show 50 * s + 1 < 3200 by omega) (by decide), cond_true, nI_clamp (by omega), e1]
    by_cases d : nI T0 ≤ 0
    · rw [if_pos d]; rfl
    · rw [if_neg d, if_pos rfl]; rfl
theorem m_found2 {n T0 sc hs : Nat} (hn : 80 ≤ n) {o4 o44 a6 a7 a49 : Nat → Int32} {j5 : Int64} {hd : Nat → Int32} {sy : Nat → Nat → Nat} (hS : iS T0 sc hs hd sy o4 j5 a6 a7 o44 a49) (R : Nat → Nat) (p : Nat) (hp : p + 4 + T0 ≤ 875) (hT0 : T0 ≤ 48) (hb : ∀ i, i < T0 → R (p + 4 + i) < 256) (h3 : R (p + 3) = T0) :
    ∀ (m k s : Nat), s + m = sc → m < k → ∃ o, l_X12_foundOf_44_2 n o44 a49 (sn R) (nI p) k (nI s) = some o ∧ Sum.elim (fun z => some z) (fun _ => some (-1)) o = some (aFn T0 hd sy (nI (R p)) (fun i => R (p + 4 + i)) m s) := by
  obtain ⟨s1, s2, s3, s4, s5⟩ := hS
  intro m
  induction m with
  | zero =>
    intro k s hs hk
    obtain ⟨k, rfl⟩ : ∃ q, k = q + 1 := ⟨k - 1, by omega⟩
    rw [l_X12_foundOf_44_2, s2, if_pos (nI_le (by omega) (by omega))]
    exact ⟨_, rfl, rfl⟩
  | succ m ih =>
    intro k s hs hk
    obtain ⟨k, rfl⟩ : ∃ q, k = q + 1 := ⟨k - 1, by omega⟩
    obtain ⟨w1, w2, w3, w4⟩ := s5 s (by omega)
    rw [l_X12_foundOf_44_2, s2, if_neg (nI_ge (by omega) (by omega)), show (50 : Int32) * nI s = nI (50 * s) from pk_mul 50 s, m_like (by omega) (hd := hd) (sy := sy) R p hp (by omega) hT0 w2 w3 (fun i hi => ⟨(w4 i hi).1, (w4 i hi).2.2⟩) hb h3, Option.bind_some, aFn]
    by_cases c : hd s = nI (R p) ∧ lk (sy s) (fun i => R (p + 4 + i)) T0 = true
    · rw [if_pos c, if_pos c, if_neg one_ne]
      exact ⟨_, rfl, rfl⟩
    · rw [if_neg c, if_neg c, if_pos rfl, nI_1]
      exact ih k (s + 1) (by omega) (by omega)
theorem m_found {n T0 sc hs : Nat} (hn : 80 ≤ n) {o4 o44 a6 a7 a49 : Nat → Int32} {j5 : Int64} {hd : Nat → Int32} {sy : Nat → Nat → Nat} (hS : iS T0 sc hs hd sy o4 j5 a6 a7 o44 a49) (R : Nat → Nat) (p : Nat) (hp : p + 4 + T0 ≤ 875) (hT0 : T0 ≤ 48) (hb : ∀ i, i < T0 → R (p + 4 + i) < 256) (h3 : R (p + 3) = T0) :
    f_X12_foundOf_44 n o44 a49 (sn R) (nI p) = some (aFn T0 hd sy (nI (R p)) (fun i => R (p + 4 + i)) sc 0) := by
  unfold f_X12_foundOf_44
  obtain ⟨o, h1, h2⟩ := m_found2 hn hS R p hp hT0 hb h3 sc n 0 (by omega) (by have := hS.2.2.1; omega)
  have h1' : l_X12_foundOf_44_2 n o44 a49 (sn R) (nI p) n 0 = some o := h1
  rw [h1', Option.bind_some]
  exact h2
/-- LOAD copied behind a place -/
def aCp (m p : Nat) (S : Nat → Nat) : Nat → Nat := fun j => if p + 4 ≤ j ∧ j < p + 4 + m then S (32 + (j - (p + 4))) else S j
theorem aCp_s (m p : Nat) (S : Nat → Nat) (hp : 80 ≤ p) (hm : m < 48) : su (aCp m p S) (p + 4 + m) (S (32 + m)) = aCp (m + 1) p S := by
  funext j
  unfold su aCp
  by_cases c : j = p + 4 + m
  · rw [if_pos c, if_pos ⟨by omega, by omega⟩]
    congr 1
    omega
  · rw [if_neg c]
    by_cases d : p + 4 ≤ j ∧ j < p + 4 + m
    · rw [if_pos d, if_pos ⟨d.1, by omega⟩]
    · rw [if_neg d, if_neg (fun z => d ⟨z.1, by omega⟩)]
theorem m_copies2 {n T0 : Nat} (hT0 : T0 ≤ 48) (R : Nat → Nat) (p : Nat) (h80 : 80 ≤ p) (hp : p + 4 + T0 ≤ 875) : ∀ (m k i : Nat), i + m = T0 → m < k → l_X12_copies_51_51_3 n 32 (nI (p + 4)) (nI T0) k (nI i) (sn (aCp i p R)) = some (nI T0, sn (aCp T0 p R)) := by
  intro m
  induction m with
  | zero =>
    intro k i hi hk
    obtain ⟨k, rfl⟩ : ∃ q, k = q + 1 := ⟨k - 1, by omega⟩
    rw [l_X12_copies_51_51_3, if_pos (nI_le (by omega) (by omega)), show i = T0 by omega]
  | succ m ih =>
    intro k i hi hk
    obtain ⟨k, rfl⟩ : ∃ q, k = q + 1 := ⟨k - 1, by omega⟩
    rw [l_X12_copies_51_51_3, if_neg (nI_ge (by omega) (by omega)), show (32 : Int32) + nI i = nI (32 + i) from nI_add 32 i, show nI (p + 4) + nI i = nI (p + 4 + i) from nI_add _ _, xin_t (show 32 + i < 875 by omega) (by decide), xin_t (show p + 4 + i < 875 by omega) (by decide), cond_true, cond_true, nI_clamp (by omega), nI_clamp (by omega), sn_ap, sn_su, nI_1]
    have e : aCp i p R (32 + i) = R (32 + i) := if_neg (fun z => by omega)
    rw [e, aCp_s i p R h80 (by omega)]
    exact ih k (i + 1) (by omega) (by omega)
theorem m_copies {n T0 : Nat} (hn : 80 ≤ n) (hT0 : T0 ≤ 48) (R : Nat → Nat) (p : Nat) (h80 : 80 ≤ p) (hp : p + 4 + T0 ≤ 875) : f_X12_copies_51_51 n (sn R) 32 (nI (p + 4)) (nI T0) = some (sn (aCp T0 p R)) := by
  unfold f_X12_copies_51_51
  have e0 : aCp 0 p R = R := by
    funext j
    exact if_neg (fun z => by omega)
  have h := m_copies2 (n := n) hT0 R p h80 hp T0 n 0 (by omega) (by omega)
  rw [e0] at h
  have h' : l_X12_copies_51_51_3 n 32 (nI (p + 4)) (nI T0) n 0 (sn R) = some (nI T0, sn (aCp T0 p R)) := h
  rw [h', Option.bind_some]
/-- DELIVERED -/
def aD1 (T0 : Nat) (S : Nat → Nat) : Nat → Nat := aCt (aCp T0 (80 + 52 * (S 16 % 12)) (su (su (su (su S (80 + 52 * (S 16 % 12)) (S 11)) (80 + 52 * (S 16 % 12) + 1) (S 10)) (80 + 52 * (S 16 % 12) + 2) (S 12)) (80 + 52 * (S 16 % 12) + 3) T0)) 3
def aDl (T0 sc : Nat) (hd : Nat → Int32) (sy : Nat → Nat → Nat) (S : Nat → Nat) : Nat → Nat := if aFn T0 hd sy (nI (S 11)) (fun i => S (32 + i)) sc 0 = -1 then aCt (aD1 T0 S) 9 else aD1 T0 S
theorem aFn_cg {T0 : Nat} {hd : Nat → Int32} {sy : Nat → Nat → Nat} {x : Int32} {y y' : Nat → Nat} (h : ∀ i, i < T0 → y i = y' i) : ∀ m s, aFn T0 hd sy x y m s = aFn T0 hd sy x y' m s := by
  have e : ∀ s, lk (sy s) y T0 = lk (sy s) y' T0 := by
    intro s
    apply Bool.eq_iff_iff.mpr
    rw [lk_iff, lk_iff]
    exact ⟨fun q i hi => by rw [q i hi, h i hi], fun q i hi => by rw [q i hi, h i hi]⟩
  intro m
  induction m with
  | zero => intro s; rfl
  | succ m ih => intro s; rw [aFn, aFn, e, ih]
theorem aFn_neg {T0 : Nat} {hd : Nat → Int32} {sy : Nat → Nat → Nat} {x : Int32} {y : Nat → Nat} : ∀ m s, aFn T0 hd sy x y m s = -1 ∨ ∃ k, s ≤ k ∧ k < s + m ∧ aFn T0 hd sy x y m s = nI k := by
  intro m
  induction m with
  | zero => intro s; exact Or.inl rfl
  | succ m ih =>
    intro s
    rw [aFn]
    by_cases c : hd s = x ∧ lk (sy s) y T0 = true
    · rw [if_pos c]; exact Or.inr ⟨s, Nat.le_refl _, by omega, rfl⟩
    · rw [if_neg c]
      rcases ih (s + 1) with h | ⟨k, h1, h2, h3⟩
      · exact Or.inl h
      · exact Or.inr ⟨k, by omega, by omega, h3⟩
theorem m_delivers {n T0 sc hs : Nat} (hn : 80 ≤ n) {o4 o44 a6 a7 a45 a49 : Nat → Int32} {j5 : Int64} {hd : Nat → Int32} {sy : Nat → Nat → Nat} (hS : iS T0 sc hs hd sy o4 j5 a6 a7 o44 a49) (hT0 : T0 ≤ 48) (e0 : a45 0 = nI T0) (R : Nat → Nat) (h16 : R 16 < 2 ^ 31) (hb : ∀ i, i < 48 → R (32 + i) < 256) : f_X12_delivers_44 n o44 a45 a49 (sn R) = some (sn (aDl T0 sc hd sy R)) := by
  unfold f_X12_delivers_44
  have e : nI (R 16) - nI (R 16) / 12 * 12 = nI (R 16 % 12) := pk_rem (d := 12) h16 (by decide) (by decide)
  have hm : R 16 % 12 < 12 := Nat.mod_lt _ (by decide)
  have e2 : (80 : Int32) + 52 * nI (R 16 % 12) = nI (80 + 52 * (R 16 % 12)) := by
    rw [show (52 : Int32) * nI (R 16 % 12) = nI (52 * (R 16 % 12)) from pk_mul 52 _]
    exact nI_add 80 _
  have f2 : nI (80 + 52 * (R 16 % 12)) + 2 = nI (80 + 52 * (R 16 % 12) + 2) := nI_add _ 2
  have f3 : nI (80 + 52 * (R 16 % 12)) + 3 = nI (80 + 52 * (R 16 % 12) + 3) := nI_add _ 3
  have f4 : nI (80 + 52 * (R 16 % 12)) + 4 = nI (80 + 52 * (R 16 % 12) + 4) := nI_add _ 4
  simp only [sn_ap, e, e2, nI_1, f2, f3, f4, e0]
  generalize hp : 80 + 52 * (R 16 % 12) = p
  have hp1 : 80 ≤ p ∧ p + 52 ≤ 704 := by omega
  rw [xin_t (show p < 875 by omega) (by decide), xin_t (show p + 1 < 875 by omega) (by decide), xin_t (show p + 2 < 875 by omega) (by decide), xin_t (show p + 3 < 875 by omega) (by decide), nI_clamp (show p < 2 ^ 31 by omega), nI_clamp (show p + 1 < 2 ^ 31 by omega), nI_clamp (show p + 2 < 2 ^ 31 by omega), nI_clamp (show p + 3 < 2 ^ 31 by omega)]
  simp only [cond_true, sn_su, sn_ap]
  rw [su_n (show (10 : Nat) ≠ p by omega), su_n (show (12 : Nat) ≠ p + 1 by omega), su_n (show (12 : Nat) ≠ p by omega)]
  rw [m_copies hn hT0 _ p (by omega) (by omega), Option.bind_some, m_cnt o44 _ 3 3 rfl (by decide), Option.bind_some]
  have ed : aCt (aCp T0 p (su (su (su (su R p (R 11)) (p + 1) (R 10)) (p + 2) (R 12)) (p + 3) T0)) 3 = aD1 T0 R := by
    unfold aD1; rw [hp]
  have rd : ∀ j, j ≠ 16 → (j < p + 4 ∨ p + 4 + T0 ≤ j) → aD1 T0 R j = su (su (su (su R p (R 11)) (p + 1) (R 10)) (p + 2) (R 12)) (p + 3) T0 j := by
    intro j hj h2
    rw [← ed]
    unfold aCt
    rw [su_n (show j ≠ 13 + 3 from hj)]
    exact if_neg (fun z => by omega)
  have r0 : aD1 T0 R p = R 11 := by
    rw [rd p (by omega) (by omega), su_n (by omega), su_n (by omega), su_n (by omega), su_s]
  have r3 : aD1 T0 R (p + 3) = T0 := by
    rw [rd (p + 3) (by omega) (by omega), su_s]
  have r4 : ∀ i, i < T0 → aD1 T0 R (p + 4 + i) = R (32 + i) := by
    intro i hi
    rw [← ed]
    unfold aCt
    rw [su_n (by omega)]
    unfold aCp
    rw [if_pos ⟨by omega, by omega⟩, show 32 + (p + 4 + i - (p + 4)) = 32 + i by omega, su_n (by omega), su_n (by omega), su_n (by omega), su_n (by omega)]
  rw [ed, m_found hn hS (aD1 T0 R) p (by omega) hT0 (fun i hi => by rw [r4 i hi]; exact hb i (by omega)) r3, Option.bind_some, r0, aFn_cg r4]
  unfold aDl
  by_cases c : aFn T0 hd sy (nI (R 11)) (fun i => R (32 + i)) sc 0 = -1
  · rw [if_pos c, if_pos c, m_cnt o44 _ 9 9 rfl (by decide), Option.bind_some]
  · rw [if_neg c, if_neg c]
