/-! where checks look right; phases -/
/-- m bits from p on, as a number -/
def hN (g : Nat → Nat) (p : Nat) : Nat → Nat
  | 0 => 0
  | m + 1 => 2 * hN g p m + g (p + m)
theorem hN_lt {g : Nat → Nat} (hg : ∀ p, g p < 2) (p : Nat) : ∀ m, hN g p m < 2 ^ m := by
  intro m
  induction m with
  | zero => exact (by decide : 0 < 2 ^ 0)
  | succ m ih => rw [hN, Nat.pow_succ]; have := hg (p + m); omega
theorem hN_add (g : Nat → Nat) (p a : Nat) : ∀ b, hN g p (a + b) = hN g p a * 2 ^ b + hN g (p + a) b := by
  intro b
  induction b with
  | zero => rw [Nat.pow_zero, Nat.mul_one]; rfl
  | succ b ih =>
    rw [show a + (b + 1) = (a + b) + 1 by omega, hN, ih, hN, Nat.pow_succ, show p + (a + b) = p + a + b by omega, ← Nat.mul_assoc]
    omega
/-- whether 40 bits from p on look right -/
def rt (g : Nat → Nat) (p : Nat) : Prop := chk (hN g p 32) = hN g (p + 32) 8
/-- a window behind k bits from i on -/
def wV (g : Nat → Nat) (i k : Nat) (S : Nat → Nat) : Prop := S 27 < 2 ^ 32 ∧ S 28 < 256 ∧ S 27 * 256 + S 28 = hN g i k % 2 ^ 40 ∧ S 5 = k
theorem wV_0 (g : Nat → Nat) (i : Nat) : wV g i 0 (fun _ => 0) := ⟨by decide, by decide, rfl, rfl⟩
theorem wV_s {g : Nat → Nat} (hg : ∀ p, g p < 2) {i k : Nat} {S : Nat → Nat} (h : wV g i k S) : wV g i (k + 1) (aPs (g (i + k)) S) := by
  obtain ⟨h1, h2, h3, h4⟩ := h
  have hb := hg (i + k)
  refine ⟨Nat.mod_lt _ (by decide), Nat.mod_lt _ (by decide), ?_, ?_⟩
  · show (2 * S 27 + S 28 / 128) % 2 ^ 32 * 256 + (2 * S 28 + g (i + k)) % 256 = hN g i (k + 1) % 2 ^ 40
    rw [hN]
    generalize hN g i k = x at h3 ⊢
    generalize g (i + k) = y at hb ⊢
    generalize S 27 = s at h1 h3 ⊢
    generalize S 28 = r at h2 h3 ⊢
    have e1 : (2 * s + r / 128) % 2 ^ 32 * 256 + (2 * r + y) % 256 = (2 * (s * 256 + r) + y) % 2 ^ 40 := by
      clear h3
      omega
    rw [e1, h3]
    clear e1 h3
    omega
  · show S 5 + 1 = k + 1
    rw [h4]
theorem wV_rt {g : Nat → Nat} (hg : ∀ p, g p < 2) {i p : Nat} {S : Nat → Nat} (hp : i ≤ p) (h : wV g i (p + 40 - i) S) : aSyn S = 0 ↔ rt g p := by
  obtain ⟨h1, h2, h3, h4⟩ := h
  have e : hN g i (p + 40 - i) % 2 ^ 40 = hN g p 40 := by
    rw [show p + 40 - i = (p - i) + 40 by omega, hN_add, show i + (p - i) = p by omega, Nat.add_comm, Nat.add_mul_mod_self_right]
    exact Nat.mod_eq_of_lt (hN_lt hg p 40)
  have e2 : hN g p 40 = hN g p 32 * 256 + hN g (p + 32) 8 := hN_add g p 32 8
  have l1 := hN_lt hg p 32
  have l2 := hN_lt hg (p + 32) 8
  have c : (2 : Nat) ^ 8 = 256 := by decide
  rw [c] at l2
  rw [e, e2] at h3
  have f1 : S 27 = hN g p 32 := by omega
  have f2 : S 28 = hN g (p + 32) 8 := by omega
  unfold aSyn rt
  rw [f1, f2]
  constructor
  · intro z
    have h : chk (hN g p 32) ^^^ hN g (p + 32) 8 ^^^ hN g (p + 32) 8 = 0 ^^^ hN g (p + 32) 8 := by rw [z]
    rw [Nat.xor_assoc, Nat.xor_self, Nat.xor_zero, Nat.zero_xor] at h
    exact h
  · intro z
    rw [z, Nat.xor_self]
theorem looks_m {n : Nat} (hn : 100 ≤ n) {sz : Nat} {o44 a48 : Nat → Int32} {g : Nat → Nat} (hg : ∀ p, g p < 2) (hz : sz ≤ 9600) (h6 : o44 6 = nI sz) (ha : ∀ p, p < sz → a48 p = nI (g p)) {p : Nat} (hp : p < 9600) : f_X12_looksRight_44 n o44 a48 (nI p) = some 1 ∧ (p + 40 ≤ sz ∧ rt g p) ∨ f_X12_looksRight_44 n o44 a48 (nI p) = some 0 ∧ ¬ (p + 40 ≤ sz ∧ rt g p) := by
  unfold f_X12_looksRight_44
  rw [h6, show nI p + 40 = nI (p + 40) from nI_add p 40]
  by_cases c : p + 40 ≤ sz
  · rw [if_pos (nI_le c (by omega))]
    have lp1 : ∀ (q k j : Nat) (l3 : Int32), j + q = 32 → q < k → ∃ l, l_X12_looksRight_44_20 n o44 a48 (nI p) l3 k (nI (hN g p j)) (nI j) = some (nI (hN g p 32), l) := by
      intro q
      induction q with
      | zero =>
        intro k j l3 hj hk
        obtain ⟨k, rfl⟩ : ∃ q, k = q + 1 := ⟨k - 1, by omega⟩
        rw [l_X12_looksRight_44_20, if_pos (show 32 ≤ nI j from nI_le (a := 32) (by omega) (by omega)), show j = 32 by omega]
        exact ⟨_, rfl⟩
      | succ q ih =>
        intro k j l3 hj hk
        obtain ⟨k, rfl⟩ : ∃ q, k = q + 1 := ⟨k - 1, by omega⟩
        rw [l_X12_looksRight_44_20, if_neg (show ¬ 32 ≤ nI j from nI_ge (b := 32) (by omega) (by decide)), nI_add, xin_t (show p + j < 9600 by omega) (by decide), cond_true, nI_clamp (by omega), ha (p + j) (by omega), nI_shor (hg _), nI_1]
        exact ih k (j + 1) l3 (by omega) (by omega)
    have lp2 : ∀ (q k j : Nat) (l2 : Int32), j + q = 8 → q < k → ∃ l, l_X12_looksRight_44_51 n o44 a48 (nI p) l2 k (nI (hN g (p + 32) j)) (nI (32 + j)) = some (nI (hN g (p + 32) 8), l) := by
      intro q
      induction q with
      | zero =>
        intro k j l2 hj hk
        obtain ⟨k, rfl⟩ : ∃ q, k = q + 1 := ⟨k - 1, by omega⟩
        rw [l_X12_looksRight_44_51, if_pos (show 40 ≤ nI (32 + j) from nI_le (a := 40) (by omega) (by omega)), show j = 8 by omega]
        exact ⟨_, rfl⟩
      | succ q ih =>
        intro k j l2 hj hk
        obtain ⟨k, rfl⟩ : ∃ q, k = q + 1 := ⟨k - 1, by omega⟩
        rw [l_X12_looksRight_44_51, if_neg (show ¬ 40 ≤ nI (32 + j) from nI_ge (b := 40) (by omega) (by decide)), nI_add, xin_t (show p + (32 + j) < 9600 by omega) (by decide), cond_true, nI_clamp (by omega), ha (p + (32 + j)) (by omega), nI_shor (hg _), nI_1, show p + (32 + j) = p + 32 + j by omega]
        exact ih k (j + 1) l2 (by omega) (by omega)
    obtain ⟨l, e1⟩ := lp1 32 n 0 0 (by decide) (by omega)
    obtain ⟨l', e2⟩ := lp2 8 n 0 (nI (hN g p 32)) (by decide) (by omega)
    have e1' : l_X12_looksRight_44_20 n o44 a48 (nI p) 0 n 0 0 = some (nI (hN g p 32), l) := e1
    have e2' : l_X12_looksRight_44_51 n o44 a48 (nI p) (nI (hN g p 32)) n 0 32 = some (nI (hN g (p + 32) 8), l') := e2
    have l1 := hN_lt hg p 32
    have l2 := hN_lt hg (p + 32) 8
    have c8 : (2 : Nat) ^ 8 = 256 := by decide
    rw [c8] at l2
    rw [e1', Option.bind_some]
    simp only []
    rw [e2', Option.bind_some, checkOf_is (by omega), Option.bind_some, pk_tn l1]
    by_cases d : chk (hN g p 32) = hN g (p + 32) 8
    · rw [if_pos (by rw [d])]
      exact Or.inl ⟨rfl, c, d⟩
    · rw [if_neg (fun z => d ((nI_lt256 (chk_lt _) l2).mp z))]
      exact Or.inr ⟨rfl, fun z => d z.2⟩
  · rw [if_neg (nI_ge (by omega) (by omega))]
    exact Or.inr ⟨rfl, fun z => c z.1⟩
theorem push_33 {S : Nat → Nat} {o : Nat → Int32} {j : Int64} {b : Nat} (hb : b < 2) (h27 : S 27 < 2 ^ 32) (h28 : S 28 < 256) (h : cV S o j) : ∃ o' j', f_X10_push_33 o j (nI b) = some (o', j') ∧ cV (aPs b S) o' j' := push_is hb h27 h28 h
theorem looks_33 (S : Nat → Nat) (ow : Nat → Int32) (jw : Int64) (h5 : S 5 < 2 ^ 31) (h28 : S 28 < 256) (h : cV S ow jw) : f_X10_looksRight_33 ow jw = some (if 40 ≤ S 5 ∧ aSyn S = 0 then 1 else 0) := looks_is S ow jw h5 h28 h
theorem cV_z (o33 : Nat → Int32) : cV (fun _ => 0) (upd (upd o33 1 0) 2 0) 0 := ⟨(by decide +kernel : (0 : Int32) = nI (rmod 40 (0 * 256 + 0))), rfl, rfl⟩
theorem k_rights {n : Nat} (hn : 20000 ≤ n) {sz at_ : Nat} {bt : Nat → Bool} {o2 a3 o44 a48 a51 : Nat → Int32} (hL : iL sz at_ bt o2 a3 o44 a48 a51) (o33 : Nat → Int32) (j33 : Int64) (p1 p2 p3 : Int32) : ∃ x o33' j33', f_X11_rights_0 n o2 a3 o33 j33 p1 p2 p3 = some (x, o33', j33') ∧ f_X12_rights_44 n o44 a48 p1 p2 p3 = some (x, upd o44 0 0) := by
  obtain ⟨l1, l2, l3, l4, l5, l6, l7⟩ := id hL
  let g : Nat → Nat := fun p => bn (bt p)
  have hg : ∀ p, g p < 2 := fun p => bn_lt _
  have ha3 : ∀ p, p < sz → a3 p = nI (g p) := fun p hp => by rw [(l7 p hp).1, b2i_bn]
  have ha48 : ∀ p, p < sz → a48 p = nI (g p) := fun p hp => by rw [(l7 p hp).2, b2i_bn]
  have h6 : upd o44 0 0 6 = nI sz := l3
  unfold f_X11_rights_0 f_X12_rights_44
  rw [has_is l6 l1, isBit_is (o44 := upd o44 0 0) l6 l3, isW, isIn_w p2 1 2000 1 2000 rfl rfl]
  simp only [Option.bind_some]
  by_cases c : 0 ≤ p1 ∧ p1 < nI sz
  · rw [if_pos c, if_neg one_ne, if_neg one_ne]
    obtain ⟨i, hi, rfl⟩ := nI_of (Int32.not_lt.mpr c.1)
    have his : i < sz := (nI_ltI hi (by omega)).mp c.2
    by_cases d : 1 ≤ p2 ∧ p2 ≤ 2000
    · rw [if_pos d, if_neg one_ne, if_neg one_ne]
      obtain ⟨m, m1, m2, rfl⟩ := i32_in (a := 1) (b := 2000) (by decide) d (by decide)
      by_cases x : -1 ≤ p3
      · rw [if_pos x, if_pos x, l1]
        have ee : (if nI i + nI m + 40 - 1 < nI sz then nI i + nI m + 40 - 1 else nI sz) = nI (min sz (i + m + 39)) := by
          have e : nI i + nI m + 40 - 1 = nI (i + m + 39) := by
            rw [nI_add, show nI (i + m) + 40 = nI (i + m + 40) from nI_add _ 40, show i + m + 40 = (i + m + 39) + 1 by omega]
            exact nI_pred _
          rw [e]
          by_cases y : i + m + 39 < sz
          · rw [if_pos (nI_lt y (by omega)), show min sz (i + m + 39) = i + m + 39 by omega]
          · rw [if_neg (nI_nlt (by omega) (by omega)), show min sz (i + m + 39) = sz by omega]
        rw [ee]
        unfold f_X10_clear_33
        rw [Option.bind_some]
        -- the first bits of the window
        have pre : ∀ (q k j : Nat) (S : Nat → Nat) (o33 : Nat → Int32) (j33 : Int64), j + q = min (min sz (i + m + 39) - i) 39 → q + (min sz (i + m + 39) - i - min (min sz (i + m + 39) - i) 39) < k → wV g i j S → cV S o33 j33 → ∃ k' S' o33' j33', l_X11_rights_0_66 n o2 a3 p3 (nI (min sz (i + m + 39))) k 0 (nI (i + j)) o33 j33 = l_X11_rights_0_66 n o2 a3 p3 (nI (min sz (i + m + 39))) k' 0 (nI (i + min (min sz (i + m + 39) - i) 39)) o33' j33' ∧ min sz (i + m + 39) - i - min (min sz (i + m + 39) - i) 39 < k' ∧ wV g i (min (min sz (i + m + 39) - i) 39) S' ∧ cV S' o33' j33' := by
          intro q
          induction q with
          | zero =>
            intro k j S o33 j33 hj hk hw hv
            exact ⟨k, S, o33, j33, by rw [show j = min (min sz (i + m + 39) - i) 39 by omega], by omega, by rw [← show j = min (min sz (i + m + 39) - i) 39 by omega]; exact hw, hv⟩
          | succ q ih =>
            intro k j S o33 j33 hj hk hw hv
            obtain ⟨k, rfl⟩ : ∃ q, k = q + 1 := ⟨k - 1, by omega⟩
            obtain ⟨o', j', e1, e2⟩ := push_33 (b := g (i + j)) (hg _) hw.1 hw.2.1 hv
            have hw2 := wV_s hg hw
            have e5 : aPs (g (i + j)) S 5 = j + 1 := hw2.2.2.2
            rw [l_X11_rights_0_66, if_neg (nI_ge (by omega) (by omega)), bitAt_is o2 a3 (by omega), Option.bind_some, ha3 (i + j) (by omega), e1, Option.bind_some, looks_33 _ _ _ (by rw [e5]; omega) hw2.2.1 e2, Option.bind_some, if_neg (show ¬ (40 ≤ aPs (g (i + j)) S 5 ∧ aSyn (aPs (g (i + j)) S) = 0) from fun z => by have := z.1; rw [e5] at this; omega), if_pos rfl, nI_1]
            exact ih k (j + 1) _ o' j' (by omega) (by omega) hw2 e2
        have tail : ∀ (q k p : Nat) (cnt : Int32), p + q = i + m → sz < p + 40 → q < k → ∃ l, l_X12_rights_44_42 n (upd o44 0 0) a48 (nI i) (nI m) p3 k cnt (nI p) = some (Sum.inr (cnt, l)) := by
          intro q
          induction q with
          | zero =>
            intro k p cnt hp hs hk
            obtain ⟨k, rfl⟩ : ∃ q, k = q + 1 := ⟨k - 1, by omega⟩
            rw [l_X12_rights_44_42, nI_add, if_pos (nI_le (by omega) (by omega))]
            exact ⟨_, rfl⟩
          | succ q ih =>
            intro k p cnt hp hs hk
            obtain ⟨k, rfl⟩ : ∃ q, k = q + 1 := ⟨k - 1, by omega⟩
            rw [l_X12_rights_44_42, nI_add, if_neg (nI_ge (by omega) (by omega))]
            have e : f_X12_looksRight_44 n (upd o44 0 0) a48 (nI p) = some 0 := by
              unfold f_X12_looksRight_44
              rw [h6, show nI p + 40 = nI (p + 40) from nI_add p 40, if_neg (nI_ge (by omega) (by omega))]
            rw [e, Option.bind_some, if_pos rfl, nI_1]
            exact ih k (p + 1) cnt (by omega) (by omega) (by omega)
        have main : ∀ (q k k' p cnt : Nat) (S : Nat → Nat) (o33 : Nat → Int32) (j33 : Int64), p + q = i + m → i ≤ p → p + 39 ≤ min sz (i + m + 39) → min sz (i + m + 39) - (p + 39) < k → q < k' → wV g i (p + 39 - i) S → cV S o33 j33 → (∃ (x : Int32) (o33' : Nat → Int32) (j33' : Int64), l_X11_rights_0_66 n o2 a3 p3 (nI (min sz (i + m + 39))) k (nI cnt) (nI (p + 39)) o33 j33 = some (Sum.inl (x, o33', j33')) ∧ l_X12_rights_44_42 n (upd o44 0 0) a48 (nI i) (nI m) p3 k' (nI cnt) (nI p) = some (Sum.inl (x, upd o44 0 0))) ∨ (∃ (x l l' : Int32) (o33' : Nat → Int32) (j33' : Int64), l_X11_rights_0_66 n o2 a3 p3 (nI (min sz (i + m + 39))) k (nI cnt) (nI (p + 39)) o33 j33 = some (Sum.inr (x, l, o33', j33')) ∧ l_X12_rights_44_42 n (upd o44 0 0) a48 (nI i) (nI m) p3 k' (nI cnt) (nI p) = some (Sum.inr (x, l'))) := by
          intro q
          induction q with
          | zero =>
            intro k k' p cnt S o33 j33 hp hp2 hp3 hk hk' hw hv
            obtain ⟨k, rfl⟩ : ∃ q, k = q + 1 := ⟨k - 1, by omega⟩
            obtain ⟨k', rfl⟩ : ∃ q, k' = q + 1 := ⟨k' - 1, by omega⟩
            rw [l_X11_rights_0_66, l_X12_rights_44_42, nI_add i m, if_pos (nI_le (by omega) (by omega)), if_pos (nI_le (by omega) (by omega))]
            exact Or.inr ⟨_, _, _, _, _, rfl, rfl⟩
          | succ q ih =>
            intro k k' p cnt S o33 j33 hp hp2 hp3 hk hk' hw hv
            obtain ⟨k, rfl⟩ : ∃ q, k = q + 1 := ⟨k - 1, by omega⟩
            by_cases y : p + 39 < sz
            · obtain ⟨k', rfl⟩ : ∃ q, k' = q + 1 := ⟨k' - 1, by omega⟩
              have ei : i + (p + 39 - i) = p + 39 := by omega
              have hw2 := wV_s hg hw
              rw [ei] at hw2
              obtain ⟨o', j', e1, e2⟩ := push_33 (b := g (p + 39)) (hg _) hw.1 hw.2.1 hv
              have e5 : aPs (g (p + 39)) S 5 = p + 40 - i := by rw [hw2.2.2.2]; omega
              have hw3 : wV g i (p + 40 - i) (aPs (g (p + 39)) S) := by rw [show p + 40 - i = p + 39 - i + 1 by omega]; exact hw2
              have hr := wV_rt hg hp2 hw3
              rw [l_X11_rights_0_66, l_X12_rights_44_42, nI_add i m, if_neg (nI_ge (by omega) (by omega)), if_neg (nI_ge (by omega) (by omega)), bitAt_is o2 a3 (by omega), Option.bind_some, ha3 (p + 39) (by omega), e1, Option.bind_some, looks_33 _ _ _ (by rw [e5]; omega) hw2.2.1 e2, Option.bind_some]
              rcases looks_m (n := n) (by omega) hg l6 h6 ha48 (p := p) (by omega) with ⟨w1, w2⟩ | ⟨w1, w2⟩
              · rw [w1, Option.bind_some, if_pos (show 40 ≤ aPs (g (p + 39)) S 5 ∧ aSyn (aPs (g (p + 39)) S) = 0 from ⟨by rw [e5]; omega, hr.mpr w2.2⟩), if_neg one_ne, if_neg one_ne]
                by_cases v : nI cnt = p3
                · rw [if_pos v, if_pos v, nI_1, show nI (p + 39 + 1) - 40 = nI p from pk_sub (a := p + 39 + 1) (b := 40) (by omega)]
                  exact Or.inl ⟨_, _, _, rfl, rfl⟩
                · rw [if_neg v, if_neg v, nI_1, nI_1, nI_1, show p + 39 + 1 = p + 1 + 39 by omega]
                  exact ih k k' (p + 1) (cnt + 1) _ o' j' (by omega) (by omega) (by omega) (by omega) (by omega) (by rw [show p + 1 + 39 - i = p + 40 - i by omega]; exact hw3) e2
              · rw [w1, Option.bind_some, if_neg (show ¬ (40 ≤ aPs (g (p + 39)) S 5 ∧ aSyn (aPs (g (p + 39)) S) = 0) from fun z => w2 ⟨by omega, hr.mp z.2⟩), if_pos rfl, if_pos rfl, nI_1, nI_1, show p + 39 + 1 = p + 1 + 39 by omega]
                exact ih k k' (p + 1) cnt _ o' j' (by omega) (by omega) (by omega) (by omega) (by omega) (by rw [show p + 1 + 39 - i = p + 40 - i by omega]; exact hw3) e2
            · obtain ⟨l, e⟩ := tail (q + 1) k' p (nI cnt) hp (by omega) hk'
              rw [l_X11_rights_0_66, if_pos (nI_le (by omega) (by omega)), e]
              exact Or.inr ⟨_, _, _, _, _, rfl, rfl⟩
        have fin : (∃ (x : Int32) (o33' : Nat → Int32) (j33' : Int64), l_X11_rights_0_66 n o2 a3 p3 (nI (min sz (i + m + 39))) n 0 (nI i) (upd (upd o33 1 0) 2 0) 0 = some (Sum.inl (x, o33', j33')) ∧ l_X12_rights_44_42 n (upd o44 0 0) a48 (nI i) (nI m) p3 n 0 (nI i) = some (Sum.inl (x, upd o44 0 0))) ∨ (∃ (x l l' : Int32) (o33' : Nat → Int32) (j33' : Int64), l_X11_rights_0_66 n o2 a3 p3 (nI (min sz (i + m + 39))) n 0 (nI i) (upd (upd o33 1 0) 2 0) 0 = some (Sum.inr (x, l, o33', j33')) ∧ l_X12_rights_44_42 n (upd o44 0 0) a48 (nI i) (nI m) p3 n 0 (nI i) = some (Sum.inr (x, l'))) := by
          obtain ⟨k', S', o', j', e1, e2, e3, e4⟩ := pre (min (min sz (i + m + 39) - i) 39) n 0 (fun _ => 0) (upd (upd o33 1 0) 2 0) 0 (by omega) (by omega) (wV_0 g i) (cV_z o33)
          have e1' : l_X11_rights_0_66 n o2 a3 p3 (nI (min sz (i + m + 39))) n 0 (nI i) (upd (upd o33 1 0) 2 0) 0 = _ := e1
          rw [e1']
          by_cases y : i + 39 ≤ sz
          · have em : min (min sz (i + m + 39) - i) 39 = 39 := by omega
            rw [em] at e2 e3 ⊢
            exact main m k' n i 0 S' o' j' rfl (Nat.le_refl _) (by omega) (by omega) (by omega) (by rw [show i + 39 - i = 39 by omega]; exact e3) e4
          · obtain ⟨l, e⟩ := tail m n i 0 rfl (by omega) (by omega)
            obtain ⟨k', rfl⟩ : ∃ q, k' = q + 1 := ⟨k' - 1, by omega⟩
            rw [l_X11_rights_0_66, if_pos (nI_le (by omega) (by omega)), e]
            exact Or.inr ⟨_, _, _, _, _, rfl, rfl⟩
        simp only []
        rcases fin with ⟨x', o', j', f1, f2⟩ | ⟨x', l, l', o', j', f1, f2⟩
        · rw [f1, f2, Option.bind_some, Option.bind_some]
          exact ⟨_, _, _, rfl, rfl⟩
        · rw [f1, f2, Option.bind_some, Option.bind_some]
          simp only [Sum.elim_inr]
          by_cases v : p3 = -1
          · rw [if_pos v, if_pos v]; exact ⟨_, _, _, rfl, rfl⟩
          · rw [if_neg v, if_neg v]; exact ⟨_, _, _, rfl, rfl⟩
      · rw [if_neg x, if_neg x]
        exact ⟨_, _, _, rfl, rfl⟩
    · rw [if_neg d, if_pos rfl, if_pos rfl]
      exact ⟨_, _, _, rfl, rfl⟩
  · rw [if_neg c, if_pos rfl, if_pos rfl]
    exact ⟨_, _, _, rfl, rfl⟩
