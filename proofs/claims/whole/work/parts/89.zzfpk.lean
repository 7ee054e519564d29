/-! what is told as floating numbers -/
theorem wm_leq : ∀ (k w s : Nat), wm k w s ≤ 2 ^ k := by
  intro k
  induction k with
  | zero =>
    intro w s
    rw [wm]
    split <;> decide
  | succ k ih =>
    intro w s
    rw [wm, Nat.pow_succ]
    have h1 := ih w s
    have h2 := ih (w - 1) (s ^^^ pw (39 - k))
    split <;> omega
theorem k_unseen {n : Nat} (hn : 20000 ≤ n) {o38 : Nat → Int32} {a39 : Nat → Int64} {a41 : Nat → Int32} {a57 : Nat → Int64} (h : iU o38 a39 a41 a57) (o44 : Nat → Int32) (a40 a58 : Nat → Int64) (p1 p2 : Int32) : ∃ a o x y z b c, f_X11_unseen_0 n o38 a39 a40 a41 p1 p2 = some (a, o, x, y, z) ∧ f_X12_unseen_44 n o44 a57 a58 p1 p2 = some (a, upd o44 0 0, b, c) ∧ iU o x z b := by
  unfold f_X11_unseen_0 f_X12_unseen_44
  rw [isW, isW, isIn_w p1 0 40 0 40 rfl rfl, isIn_w p2 0 4 0 4 rfl rfl]
  simp only [Option.bind_some]
  by_cases c0 : 0 ≤ p2 ∧ p2 ≤ 4
  · rw [if_pos c0, if_neg one_ne, if_neg one_ne]
    by_cases c : 0 ≤ p1 ∧ p1 ≤ 40
    · rw [if_pos c, if_neg one_ne, if_neg one_ne]
      obtain ⟨p, -, hp, rfl⟩ := i32_in (a := 0) (b := 40) (by decide) c (by decide)
      obtain ⟨o, x, y, z, e1, e2⟩ := wo_p (n := n) (p := p) (by omega) a40 h.1 (by omega)
      obtain ⟨b, b2, e3, e4⟩ := lw_is hn (upd o44 0 0) a58 h.2
      have e5 : (256 : Int32) * nI p = nI (256 * p) := nI_mul 256 p
      have e6 := iM_at e4 (w := p) (s := 0) (by omega) (by decide)
      rw [Nat.add_zero] at e6
      have w1 := wm_leq 40 p 0
      have w2 := bnm_b p (by omega)
      obtain ⟨r, r1, r2⟩ := rat_is (n := n) (a := wm 40 p 0) (b := bnm p) (by omega) (by omega) w2.1 (by omega) p2
      rw [e1, e3]
      simp only [Option.bind_some]
      rw [e5, xin_t (show 256 * p < 10496 by omega) (by decide), cond_true, nI_clamp (by omega), e6, ro_is (by omega) hp, ch_is (by omega) hp]
      simp only [Option.bind_some]
      rw [r1, r2]
      exact ⟨_, _, _, _, _, _, _, rfl, rfl, e2, Or.inr e4⟩
    · rw [if_neg c, if_pos rfl, if_pos rfl]
      exact ⟨_, _, _, _, _, _, _, rfl, rfl, h⟩
  · rw [if_neg c0, if_pos rfl, if_pos rfl]
    exact ⟨_, _, _, _, _, _, _, rfl, rfl, h⟩
theorem rS_le (f : Nat → Nat) (m : Nat) : rS f m ≤ rS f (m + 1) := by
  rw [rS]
  omega
theorem rS_one (t0 : Nat) : ∀ m, rS (fun j => if j = t0 then 1 else 0) m ≤ if t0 < m then 1 else 0 := by
  intro m
  induction m with
  | zero => rw [rS]; omega
  | succ m ih =>
    rw [rS]
    by_cases c : m = t0
    · rw [if_neg (show ¬ t0 < m by omega)] at ih
      rw [if_pos (show t0 < m + 1 by omega)]
      show rS (fun j => if j = t0 then 1 else 0) m + (if m = t0 then 1 else 0) ≤ 1
      rw [if_pos c]
      omega
    · show rS (fun j => if j = t0 then 1 else 0) m + (if m = t0 then 1 else 0) ≤ _
      rw [if_neg c, Nat.add_zero]
      refine Nat.le_trans ih ?_
      split
      · rw [if_pos (by omega)]; exact Nat.le_refl 1
      · exact Nat.zero_le _
theorem rW_sum {R c t0 : Nat} (hR : 1 ≤ R) (hc : c ≤ 256) : ∀ i, rS (rW R c t0 i) R ≤ 256 ^ i := by
  intro i
  induction i with
  | zero =>
    have h := rS_one t0 R
    have e : rW R c t0 0 = fun j => if j = t0 then 1 else 0 := by
      funext j
      rw [rW]
    rw [e, Nat.pow_zero]
    refine Nat.le_trans h ?_
    split
    · exact Nat.le_refl 1
    · exact Nat.zero_le _
  | succ i ih =>
    obtain ⟨r, rfl⟩ : ∃ r, R = r + 1 := ⟨R - 1, by omega⟩
    rw [← rT_S, rT_S1]
    have e0 : rW (r + 1) c t0 (i + 1) 0 = rS (rW (r + 1) c t0 i) (r + 1) * (256 - c) := by rw [rW, if_pos rfl]
    have e1 : (fun j => rW (r + 1) c t0 (i + 1) (j + 1)) = fun j => rW (r + 1) c t0 i j * c := by
      funext j
      rw [rW, if_neg (Nat.succ_ne_zero j), Nat.add_sub_cancel]
    rw [e0, e1, rS_mul]
    have l := Nat.mul_le_mul_right c (rS_le (rW (r + 1) c t0 i) r)
    have m : rS (rW (r + 1) c t0 i) (r + 1) * (256 - c) + rS (rW (r + 1) c t0 i) (r + 1) * c = rS (rW (r + 1) c t0 i) (r + 1) * 256 := by rw [← Nat.mul_add, Nat.sub_add_cancel hc]
    have u := Nat.mul_le_mul_right 256 ih
    rw [Nat.pow_succ]
    omega
theorem rU_le {R c t0 : Nat} (hR : 1 ≤ R) (hc : c ≤ 256) : ∀ i, rU R c t0 i ≤ i * 256 ^ i := by
  intro i
  induction i with
  | zero => rw [rU]; omega
  | succ i ih =>
    rw [rU, Nat.pow_succ]
    have h1 := rW_sum (t0 := t0) hR hc i
    have h2 : rW R c t0 i (R - 1) ≤ rS (rW R c t0 i) R := by
      obtain ⟨r, rfl⟩ : ∃ r, R = r + 1 := ⟨R - 1, by omega⟩
      rw [rS, Nat.add_sub_cancel]
      omega
    have h3 : rW R c t0 i (R - 1) * c ≤ 256 ^ i * 256 := Nat.mul_le_mul (by omega) hc
    have h4 := Nat.mul_le_mul_right 256 ih
    rw [Nat.add_mul, Nat.one_mul, ← Nat.mul_assoc]
    exact Nat.add_le_add h4 h3
theorem rA_le {T : Nat → Nat} {a1 a45 : Nat → Int32} (hT : iT T a1 a45) {d p w : Nat} (hp : p ≤ 7) (hw : w ≤ 256) : rA T d p w < 2 ^ 63 := by
  have t1 := hT.2.2.1
  have hpp : p * 256 ^ p ≤ 7 * 256 ^ 7 := Nat.mul_le_mul hp (Nat.pow_le_pow_right (by decide) hp)
  unfold rA
  split
  · exact Nat.lt_of_le_of_lt (rU_le (t0 := 0) t1.1 (show 256 - w ≤ 256 by omega) p) (Nat.lt_of_le_of_lt hpp (by decide))
  · exact Nat.lt_of_le_of_lt (rU_le (t0 := 1) (show 1 ≤ T 2 + 1 by omega) hw p) (Nat.lt_of_le_of_lt hpp (by decide))
theorem k_odds {n : Nat} (hn : 20000 ≤ n) {T : Nat → Nat} {a1 a45 : Nat → Int32} (hT : iT T a1 a45) (o44 : Nat → Int32) (a43 a59 a60 : Nat → Int64) (p1 p2 p3 p4 : Int32) : ∃ a x y z, f_X11_odds_0 n a1 a43 p1 p2 p3 p4 = some (a, x) ∧ f_X12_odds_44 n o44 a45 a59 a60 p1 p2 p3 p4 = some (a, upd o44 0 0, y, z) := by
  unfold f_X11_odds_0 f_X12_odds_44 b_X11_odds_0_19 b_X11_odds_0_44 b_X12_odds_44_28 b_X12_odds_44_56
  rw [isW, isW, isW, isW, isIn_w p1 0 1 0 1 rfl rfl, isIn_w p4 0 4 0 4 rfl rfl, isIn_w p2 0 7 0 7 rfl rfl, isIn_w p3 0 256 0 256 rfl rfl]
  simp only [Option.bind_some]
  by_cases c1 : 0 ≤ p1 ∧ p1 ≤ 1
  · rw [if_pos c1, if_neg one_ne, if_neg one_ne]
    by_cases c4 : 0 ≤ p4 ∧ p4 ≤ 4
    · rw [if_pos c4, if_neg one_ne, if_neg one_ne]
      by_cases c2 : 0 ≤ p2 ∧ p2 ≤ 7
      · rw [if_pos c2, if_neg one_ne, if_neg one_ne]
        by_cases c3 : 0 ≤ p3 ∧ p3 ≤ 256
        · rw [if_pos c3, if_neg one_ne, if_neg one_ne]
          obtain ⟨d, -, hd, rfl⟩ := i32_in (a := 0) (b := 1) (by decide) c1 (by decide)
          obtain ⟨p, -, hp, rfl⟩ := i32_in (a := 0) (b := 7) (by decide) c2 (by decide)
          obtain ⟨w, -, hw, rfl⟩ := i32_in (a := 0) (b := 256) (by decide) c3 (by decide)
          obtain ⟨x, e1⟩ := oc_is (n := n) (by omega) hT a43 (d := d) (p := p) (w := w) (by omega) (by omega) hw
          obtain ⟨y, z, e2⟩ := om_is (n := n) (by omega) hT (upd o44 0 0) a59 a60 (d := d) (p := p) (w := w) (by omega) (by omega) hw
          have e3 : (1 <<< (Int32.toInt64 (8 * nI p) &&& 63) : Int64) = lN (2 ^ (8 * p)) := by
            rw [show (8 : Int32) * nI p = nI (8 * p) from nI_mul 8 p]
            exact shl_q _ (by omega)
          have e4 : 2 ^ (8 * p) < 2 ^ 63 := Nat.pow_lt_pow_right (by decide) (by omega)
          obtain ⟨r, r1, r2⟩ := rat_is (n := n) (a := rA T d p w) (b := 2 ^ (8 * p)) (by omega) (rA_le hT hp hw) (Nat.two_pow_pos _) e4 p4
          rw [e1, e2]
          unfold f_X12_all
          simp only [Option.bind_some]
          rw [e3, r1, r2]
          exact ⟨_, _, _, _, rfl, rfl⟩
        · rw [if_neg c3, if_pos rfl, if_pos rfl]
          exact ⟨_, _, _, _, rfl, rfl⟩
      · rw [if_neg c2, if_pos rfl, if_pos rfl]
        exact ⟨_, _, _, _, rfl, rfl⟩
    · rw [if_neg c4, if_pos rfl, if_pos rfl]
      exact ⟨_, _, _, _, rfl, rfl⟩
  · rw [if_neg c1, if_pos rfl, if_pos rfl]
    exact ⟨_, _, _, _, rfl, rfl⟩
theorem mn_l {n R c5 : Nat} {q5 : Int} {l5 : UInt64} (hl : nm l5 c5 q5) (h1 : -61 ≤ q5) (h2 : q5 ≤ -50) (o44 a45 : Nat → Int32) (l1 l3 : Int32) (hR : R ≤ 16) (hr : (if l1 = 0 then a45 1 else a45 2 + 1) = nI R) : ∀ (m k i : Nat) (x : UInt64), m < k → i + m = R → fine x i → ∃ w, fine w R ∧ l_X3_meanClimb_19 n (nI R) l5 k x (nI i) = some (w, nI R) ∧ l_X12_mean_44_84 n o44 a45 l1 l3 l5 k x (nI i) = some (w, nI R) := by
  intro m
  induction m with
  | zero =>
    intro k i x hk hi hx
    obtain ⟨k, rfl⟩ : ∃ q, k = q + 1 := ⟨k - 1, by omega⟩
    have : i = R := by omega
    subst this
    refine ⟨x, hx, ?_, ?_⟩
    · rw [l_X3_meanClimb_19, if_pos (Int32.le_refl _)]
    · rw [l_X12_mean_44_84]
      split
      · rename_i h
        rw [if_pos h] at hr
        rw [hr, if_pos (Int32.le_refl _)]
      · rename_i h
        rw [if_neg h] at hr
        rw [hr, if_pos (Int32.le_refl _)]
  | succ m ih =>
    intro k i x hk hi hx
    obtain ⟨k, rfl⟩ : ∃ q, k = q + 1 := ⟨k - 1, by omega⟩
    obtain ⟨s1, s2, s3⟩ := fine_s hx (by omega) hl h1 h2
    obtain ⟨w, e1, e2, e3⟩ := ih k (i + 1) _ (by omega) (by omega) s3
    have ni : nI i + 1 = nI (i + 1) := nI_add i 1
    have lt : ¬ nI R ≤ nI i := nI_ge (by omega) (by omega)
    refine ⟨w, e1, ?_, ?_⟩
    · rw [l_X3_meanClimb_19, if_neg lt, s1, s2, cond_true, cond_true, ni]
      exact e2
    · rw [l_X12_mean_44_84]
      split
      · rename_i h
        rw [if_pos h] at hr
        rw [hr, if_neg lt, s1, s2, cond_true, cond_true, ni]
        exact e3
      · rename_i h
        rw [if_neg h] at hr
        rw [hr, if_neg lt, s1, s2, cond_true, cond_true, ni]
        exact e3
theorem mn_is {n R t : Nat} (hn : 20000 ≤ n) (h0 : 0 < t) (ht : t ≤ 256) (o44 a45 : Nat → Int32) (l1 l3 : Int32) (hR : R ≤ 16) (hr : (if l1 = 0 then a45 1 else a45 2 + 1) = nI R) : ∃ z, Option.bind (f_X3_meanClimb n (nI R) (nI t)) (fun q => f_X0_ofDouble n q) = some z ∧ b_X12_mean_44_58 n o44 a45 l1 l3 (nI t) = (if l3 = 0 then some (Int32.toInt64 (Int64.toInt32 (xul z 32)), o44) else some (Int32.toInt64 (Int64.toInt32 z), o44)) := by
  obtain ⟨ct, qt, nt, t1, t2⟩ := nm_i2d h0 (by omega)
  obtain ⟨c5, q5, n5, u1, u2⟩ := nm_div nt nm_256 (by omega) (by omega)
  obtain ⟨w, e1, e2, e3⟩ := mn_l n5 (by omega) (by omega) o44 a45 l1 l3 hR hr R n 0 0 (n := n) (by omega) (by omega) (Or.inl rfl)
  rw [show nI 0 = (0 : Int32) from rfl] at e2 e3
  obtain ⟨z, z1, z2⟩ := fine_b (n := n) e1 (by omega) (by omega)
  refine ⟨z, ?_, ?_⟩
  · unfold f_X3_meanClimb b_X3_meanClimb_39
    rw [nm_x n5, cond_true, nm_c0 n5, if_neg (by decide), e2]
    simp only [Option.bind_some]
    exact z1
  · unfold b_X12_mean_44_58
    have hne : ¬ nI t = 0 := fun e => absurd ((nI_eq (a := t) (b := 0) (by omega) (by decide)).mp e) (by omega)
    rw [if_neg hne, nm_x n5, cond_true, e3]
    simp only [Option.bind_some]
    rw [z2]
    simp only [Option.bind_some]
