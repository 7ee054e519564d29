/-! a HEADER and CHECK, by the model -/
def aNr (T : Nat → Nat) (y : Nat) (S : Nat → Nat) : Nat → Nat := if y = 0 then (if T 2 ≤ S 2 + 1 then su (su (su (aTn 2 (su (su S 9 0) 2 (S 2 + 1))) 4 1) 3 0) 9 1 else su (su S 9 0) 2 (S 2 + 1)) else aTn 0 S
theorem m_near {T : Nat → Nat} {a1 a45 : Nat → Int32} (hT : iT T a1 a45) (o44 : Nat → Int32) (R : Nat → Nat) (y : Nat) (hy : y < 256) (h1 : R 1 ≤ 2) (h2 : R 2 + 1 < 2 ^ 31) (h20 : R 20 < 2 ^ 31) : f_X12_checksNear_44 o44 a45 (sn R) (nI y) = some (sn (aNr T y R)) := by
  unfold f_X12_checksNear_44 aNr
  have t2 := hT.2.2.2.1
  have e2 : a45 2 = nI (T 2) := (hT.1 2 (by decide)).2
  have z0 : ∀ (U : Nat → Nat) (k : Nat), upd (sn U) k 0 = sn (su U k 0) := fun U k => sn_su U k 0
  have z1 : ∀ (U : Nat → Nat) (k : Nat), upd (sn U) k 1 = sn (su U k 1) := fun U k => sn_su U k 1
  rw [e2]
  simp only [sn_ap, nI_1, z0, sn_su]
  by_cases c : y = 0
  · rw [if_pos (by rw [c]; rfl), if_pos c]
    by_cases d : T 2 ≤ R 2 + 1
    · rw [if_pos (nI_le d h2), if_pos d, m_turns o44 _ 2 2 rfl (by decide) (show su (su R 9 0) 2 (R 2 + 1) 1 ≤ 2 from h1) (show su (su R 9 0) 2 (R 2 + 1) 20 < 2 ^ 31 from h20), Option.bind_some, z1, z0, z1]
    · rw [if_neg (nI_ge (by omega) (by omega)), if_neg d]
  · rw [if_neg (fun z => c ((nI_eq0 (by omega)).mp z)), if_neg c, m_turns o44 R 0 0 rfl (by decide) h1 h20, Option.bind_some]
/-- a bit of 32 mended in HEADER -/
def aMd (b : Int32) (S : Nat → Nat) : Nat → Nat := if 0 ≤ b ∧ b ≤ 31 then su S 11 (nI (S 11) ^^^ (1 <<< ((31 - b) &&& 31))).toBitVec.toNat else S
/-- a wrong CHECK in SURE: mended or dropped -/
def aWr (b : Int32) (S : Nat → Nat) : Nat → Nat := if b = -1 then aCt (su (su (su S 4 0) 9 0) 10 0) 2 else aMd b (aCt (su (su (su S 4 0) 9 1) 10 1) 1)
theorem m_md {n : Nat} (o44 a45 : Nat → Int32) (R : Nat → Nat) (b : Int32) (k : Nat) (t : Int32) (ht : t = nI k) (hk : k < 14) : b_X12_checksSure_44_136 n o44 a45 (sn R) b t = some (sn (aMd b (aCt R k))) := by
  unfold b_X12_checksSure_44_136 aMd
  rw [m_cnt o44 R k t ht hk, Option.bind_some, isIn_w b 0 31 0 31 rfl rfl, Option.bind_some]
  by_cases c : 0 ≤ b ∧ b ≤ 31
  · rw [if_pos c, if_neg one_ne, if_pos c, sn_ap]
    rw [← nI_nat (nI (aCt R k 11) ^^^ (1 <<< ((31 - b) &&& 31))), sn_su, nI_nat]
  · rw [if_neg c, if_pos rfl, if_neg c]
theorem m_wr {n : Nat} (o44 a45 : Nat → Int32) (R : Nat → Nat) (b : Int32) (hb : b = -1 ∨ 0 ≤ b) : b_X12_checksSure_44_86 n o44 a45 (sn R) b = some (sn (aWr b R)) := by
  unfold b_X12_checksSure_44_86 aWr
  have z0 : ∀ (U : Nat → Nat) (k : Nat), upd (sn U) k 0 = sn (su U k 0) := fun U k => sn_su U k 0
  have z1 : ∀ (U : Nat → Nat) (k : Nat), upd (sn U) k 1 = sn (su U k 1) := fun U k => sn_su U k 1
  have x9 : xin 9 875 = true := xin_t (k := 9) (by decide) (by decide)
  have c9 : Int32.toNatClampNeg 9 = 9 := nI_clamp (n := 9) (by decide)
  by_cases c : b = -1
  · rw [if_pos c, if_pos c]
    unfold b_X12_checksSure_44_110
    rw [x9, cond_true, if_pos c, c9, z0, z0, sn_ap, su_s, sn_su, m_md o44 a45 _ b 2 2 rfl (by decide)]
    unfold aMd
    rw [if_neg (by rw [c]; decide)]
  · rw [if_neg c, if_neg c]
    unfold b_X12_checksSure_44_110
    rw [x9, cond_true, if_neg c, c9, z0, z1, sn_ap, su_s, sn_su, m_md o44 a45 _ b 1 1 rfl (by decide)]
/-- behind a CHECK in SURE -/
def aSu (T : Nat → Nat) (y : Nat) (S : Nat → Nat) : Nat → Nat := if y = 0 then su (su (su S 3 0) 4 1) 9 1 else if S 3 + 1 < T 1 then aWr (if S 4 = 1 ∧ T 3 = 1 then fnd 40 y else -1) (su S 3 (S 3 + 1)) else aTn 0 (su S 3 (S 3 + 1))
theorem fnd_ok {y : Nat} (hy : y < 256) : fnd 40 y = -1 ∨ 0 ≤ fnd 40 y := by
  rcases fnd_cases y hy with h | ⟨m, hm, h⟩
  · exact Or.inl h
  · exact Or.inr (by rw [h]; exact nI_pos' (by omega))
theorem m_sure {n : Nat} (hn : 50 ≤ n) {T : Nat → Nat} {a1 a45 : Nat → Int32} (hT : iT T a1 a45) (o44 : Nat → Int32) (R : Nat → Nat) (y : Nat) (hy : y < 256) (h1 : R 1 ≤ 2) (h4 : R 4 ≤ 1) (h3 : R 3 + 1 < 2 ^ 31) (h20 : R 20 < 2 ^ 31) : f_X12_checksSure_44 n o44 a45 (sn R) (nI y) = some (sn (aSu T y R)) := by
  unfold f_X12_checksSure_44 aSu
  have t1 := hT.2.2.1
  have t3 := hT.2.2.2.2.1
  have e1 : a45 1 = nI (T 1) := (hT.1 1 (by decide)).2
  have e3 : a45 3 = nI (T 3) := (hT.1 3 (by decide)).2
  have z0 : ∀ (U : Nat → Nat) (k : Nat), upd (sn U) k 0 = sn (su U k 0) := fun U k => sn_su U k 0
  have z1 : ∀ (U : Nat → Nat) (k : Nat), upd (sn U) k 1 = sn (su U k 1) := fun U k => sn_su U k 1
  rw [e1, e3]
  simp only [sn_ap, nI_1, z0, z1, sn_su]
  by_cases c : y = 0
  · rw [if_pos (by rw [c]; rfl), if_pos c]
  · rw [if_neg (fun z => c ((nI_eq0 (by omega)).mp z)), if_neg c]
    by_cases d : R 3 + 1 < T 1
    · rw [if_pos (nI_lt d (by omega)), if_pos d]
      by_cases g : R 4 = 1
      · rw [if_pos (by rw [g]; rfl)]
        by_cases g2 : T 3 = 1
        · rw [if_pos (by rw [g2]; rfl), if_pos ⟨g, g2⟩, singleOf_is hn hy, Option.bind_some, m_wr _ _ _ _ (fnd_ok hy)]
        · rw [if_neg (fun z => g2 ((nI_eq1 (by omega)).mp z)), if_neg (fun z => g2 z.2)]
          unfold b_X12_checksSure_44_85
          rw [m_wr _ _ _ _ (Or.inl rfl)]
      · rw [if_neg (fun z => g ((nI_eq1 (by omega)).mp z)), if_neg (fun z => g z.1)]
        unfold b_X12_checksSure_44_85
        rw [m_wr _ _ _ _ (Or.inl rfl)]
    · rw [if_neg (nI_nlt (by omega) h3), if_neg d, m_turns o44 _ 0 0 rfl (by decide) (show su R 3 (R 3 + 1) 1 ≤ 2 from h1) (show su R 3 (R 3 + 1) 20 < 2 ^ 31 from h20), Option.bind_some]
/-- the 40th bit of HEADER and CHECK -/
def aH1 (S : Nat → Nat) : Nat → Nat := su (su (su (su (su (su S 8 (S 8 + 1)) 8 0) 6 0) 12 (S 0 + 4294967256)) 11 (S 27)) 10 0
def aH2 (y : Nat) (S : Nat → Nat) : Nat → Nat := if y = 0 then aCt S 0 else S
def aH3 (y : Nat) (S : Nat → Nat) : Nat → Nat := aCt (su (su S (776 + 3 * (S 21 % 32)) (S 12)) (776 + 3 * (S 21 % 32) + 1) y) 8
def aH4 (T : Nat → Nat) (y : Nat) (S : Nat → Nat) : Nat → Nat := if S 1 = 1 then aNr T y S else aSu T y S
def aV (y : Nat) (S : Nat → Nat) : Nat := if y = 0 then 0 else if S 1 = 0 then 3 else if S 10 = 1 then 1 else 2
def aHd (T : Nat → Nat) (S : Nat → Nat) : Nat → Nat := if 40 ≤ S 8 + 1 then
    su (aH4 T (aSyn S) (aH3 (aSyn S) (aH2 (aSyn S) (aH1 S)))) (776 + 3 * (S 21 % 32) + 2) (aV (aSyn S) (aH4 T (aSyn S) (aH3 (aSyn S) (aH2 (aSyn S) (aH1 S)))))
  else su S 8 (S 8 + 1)
theorem m_head160 {n : Nat} (o44 a45 : Nat → Int32) (R : Nat → Nat) (y p : Nat) (hy : y < 256) (h1 : R 1 ≤ 2) (h10 : R 10 ≤ 1) (hp : p + 2 < 875) : b_X12_takesHead_44_160 n o44 a45 (sn R) (nI y) (nI p) = some (sn (su R (p + 2) (aV y R))) := by
  unfold b_X12_takesHead_44_160 aV
  have e2 : nI p + 2 = nI (p + 2) := nI_add p 2
  have q : ∀ (t : Int32) (v : Nat), t = nI v → b_X12_takesHead_44_204 n o44 a45 (sn R) (nI (p + 2)) t = some (sn (su R (p + 2) v)) := by
    intro t v ht
    unfold b_X12_takesHead_44_204
    rw [xin_t hp (by decide), cond_true, nI_clamp (by omega), ht, sn_su]
  rw [e2, sn_ap, sn_ap]
  by_cases c : y = 0
  · rw [if_pos (by rw [c]; rfl), if_pos c, q 0 0 rfl]
  · rw [if_neg (fun z => c ((nI_eq0 (by omega)).mp z)), if_neg c]
    by_cases d : R 1 = 0
    · rw [if_pos (by rw [d]; rfl), if_pos d, q 3 3 rfl]
    · rw [if_neg (fun z => d ((nI_eq0 (by omega)).mp z)), if_neg d]
      by_cases g : R 10 = 1
      · rw [if_pos (by rw [g]; rfl), if_pos g, q 1 1 rfl]
      · rw [if_neg (fun z => g ((nI_eq1 (by omega)).mp z)), if_neg g, q 2 2 rfl]
/-- what of a row behind a turn is told -/
theorem aTn_1 (to : Nat) (S : Nat → Nat) : aTn to S 1 = to := rfl
theorem aT5_lo (S : Nat → Nat) {j : Nat} (h : j < 13) : aT5 S j = S j := by
  unfold aT5
  by_cases c : S 1 = 2
  · rw [if_pos c, aCt_lo _ _ h]
  · rw [if_neg c]
theorem aTe_at (to : Nat) (S : Nat → Nat) {j : Nat} (h : j ≠ 1 ∧ j ≠ 6 ∧ j ≠ 7 ∧ j ≠ 8 ∧ j ≠ 9 ∧ j ≠ 874) : aTe to S j = S j := by
  unfold aTe
  rw [su_n h.2.2.2.2.2, su_n h.2.2.2.2.1, su_n h.2.2.2.1, su_n h.2.2.1, su_n h.2.1, su_n h.1]
theorem aTn_lo (to : Nat) (S : Nat → Nat) {j : Nat} (h : j < 13) (h2 : j ≠ 1 ∧ j ≠ 6 ∧ j ≠ 7 ∧ j ≠ 8 ∧ j ≠ 9) : aTn to S j = S j := by
  unfold aTn
  rw [aTe_at _ _ ⟨h2.1, h2.2.1, h2.2.2.1, h2.2.2.2.1, h2.2.2.2.2, by omega⟩, aT5_lo _ h, aT4_lo _ _ h, aCt_lo _ _ h, aTl_lo _ _ (by omega)]
theorem aNr_1 (T : Nat → Nat) (y : Nat) (S : Nat → Nat) (h : S 1 ≤ 2) : aNr T y S 1 ≤ 2 := by
  unfold aNr
  by_cases c : y = 0
  · rw [if_pos c]
    by_cases d : T 2 ≤ S 2 + 1
    · rw [if_pos d]; exact Nat.le_refl 2
    · rw [if_neg d]; exact h
  · rw [if_neg c]; exact Nat.zero_le 2
theorem aMd_lo (b : Int32) (S : Nat → Nat) {j : Nat} (h : j ≠ 11) : aMd b S j = S j := by
  unfold aMd
  by_cases c : 0 ≤ b ∧ b ≤ 31
  · rw [if_pos c, su_n h]
  · rw [if_neg c]
theorem aWr_1 (b : Int32) (S : Nat → Nat) : aWr b S 1 = S 1 := by
  unfold aWr
  by_cases c : b = -1
  · rw [if_pos c]; rfl
  · rw [if_neg c, aMd_lo _ _ (by decide)]; rfl
theorem aSu_1 (T : Nat → Nat) (y : Nat) (S : Nat → Nat) (h : S 1 ≤ 2) : aSu T y S 1 ≤ 2 := by
  unfold aSu
  by_cases c : y = 0
  · rw [if_pos c]; exact h
  · rw [if_neg c]
    by_cases d : S 3 + 1 < T 1
    · rw [if_pos d, aWr_1]; exact h
    · rw [if_neg d]; exact Nat.zero_le 2
theorem aNr_10 (T : Nat → Nat) (y : Nat) (S : Nat → Nat) : aNr T y S 10 = S 10 := by
  unfold aNr
  by_cases c : y = 0
  · rw [if_pos c]
    by_cases d : T 2 ≤ S 2 + 1
    · rw [if_pos d, su_n (by decide), su_n (by decide), su_n (by decide), aTn_lo _ _ (by decide) (by decide)]; rfl
    · rw [if_neg d]; rfl
  · rw [if_neg c, aTn_lo _ _ (by decide) (by decide)]
theorem aWr_10 (b : Int32) (S : Nat → Nat) : aWr b S 10 = if b = -1 then 0 else 1 := by
  unfold aWr
  by_cases c : b = -1
  · rw [if_pos c, if_pos c]; rfl
  · rw [if_neg c, if_neg c, aMd_lo _ _ (by decide)]; rfl
theorem aSu_10 (T : Nat → Nat) (y : Nat) (S : Nat → Nat) (h : S 10 ≤ 1) : aSu T y S 10 ≤ 1 := by
  unfold aSu
  by_cases c : y = 0
  · rw [if_pos c]; exact h
  · rw [if_neg c]
    by_cases d : S 3 + 1 < T 1
    · rw [if_pos d, aWr_10]
      by_cases g : (if S 4 = 1 ∧ T 3 = 1 then fnd 40 y else -1) = -1
      · rw [if_pos g]; decide
      · rw [if_neg g]; decide
    · rw [if_neg d, aTn_lo _ _ (by decide) (by decide)]; exact h
theorem m_head92 {n : Nat} (hn : 50 ≤ n) {T : Nat → Nat} {a1 a45 : Nat → Int32} (hT : iT T a1 a45) (o44 : Nat → Int32) (R : Nat → Nat) (y : Nat) (hy : y < 256) (h1 : R 1 ≤ 2) (h4 : R 4 ≤ 1) (h10 : R 10 ≤ 1) (h2 : R 2 + 1 < 2 ^ 31) (h3 : R 3 + 1 < 2 ^ 31) (h20 : R 20 < 2 ^ 31) (h21 : R 21 < 2 ^ 31) : b_X12_takesHead_44_92 n o44 a45 (sn R) (nI y) = some (sn (su (aH4 T y (aH3 y R)) (776 + 3 * (R 21 % 32) + 2) (aV y (aH4 T y (aH3 y R))))) := by
  unfold b_X12_takesHead_44_92
  have e : nI (R 21) - nI (R 21) / 32 * 32 = nI (R 21 % 32) := pk_rem (d := 32) h21 (by decide) (by decide)
  have hm : R 21 % 32 < 32 := Nat.mod_lt _ (by decide)
  have e2 : (776 : Int32) + 3 * nI (R 21 % 32) = nI (776 + 3 * (R 21 % 32)) := by
    rw [show (3 : Int32) * nI (R 21 % 32) = nI (3 * (R 21 % 32)) from pk_mul 3 _]
    exact nI_add 776 _
  simp only [sn_ap, e, e2, nI_1]
  rw [xin_t (show 776 + 3 * (R 21 % 32) < 875 by omega) (by decide), xin_t (show 776 + 3 * (R 21 % 32) + 1 < 875 by omega) (by decide), nI_clamp (by omega), nI_clamp (by omega)]
  simp only [cond_true, sn_su]
  have l3 : ∀ j, j < 13 → aH3 y R j = R j := by
    intro j hj
    unfold aH3
    rw [aCt_lo _ _ hj, su_n (by omega), su_n (by omega)]
  have g20 : aH3 y R 20 = R 20 := by
    unfold aH3 aCt
    rw [su_n (by decide), su_n (by omega), su_n (by omega)]
  rw [m_cnt o44 _ 8 8 rfl (by decide), Option.bind_some]
  have e3 : aCt (su (su R (776 + 3 * (R 21 % 32)) (R 12)) (776 + 3 * (R 21 % 32) + 1) y) 8 = aH3 y R := rfl
  rw [e3, sn_ap, l3 1 (by decide)]
  unfold aH4
  rw [l3 1 (by decide)]
  by_cases c : R 1 = 1
  · rw [if_pos (by rw [c]; rfl), if_pos c, m_near hT o44 _ y hy (by rw [l3 1 (by decide)]; exact h1) (by rw [l3 2 (by decide)]; exact h2) (by rw [g20]; exact h20), Option.bind_some, m_head160 o44 a45 _ y _ hy (aNr_1 T y _ (by rw [l3 1 (by decide)]; exact h1)) (by rw [aNr_10, l3 10 (by decide)]; exact h10) (by omega)]
  · rw [if_neg (fun z => c ((nI_eq1 (by omega)).mp z)), if_neg c, m_sure hn hT o44 _ y hy (by rw [l3 1 (by decide)]; exact h1) (by rw [l3 4 (by decide)]; exact h4) (by rw [l3 3 (by decide)]; exact h3) (by rw [g20]; exact h20), Option.bind_some, m_head160 o44 a45 _ y _ hy (aSu_1 T y _ (by rw [l3 1 (by decide)]; exact h1)) (aSu_10 T y _ (by rw [l3 10 (by decide)]; exact h10)) (by omega)]
theorem nI_m40 (a : Nat) : nI a - 40 = nI (a + 4294967256) := by
  rw [← nI_add, show nI 4294967256 = -40 by decide, Int32.sub_eq_add_neg]
theorem m_head {n : Nat} (hn : 50 ≤ n) {T : Nat → Nat} {a1 a45 : Nat → Int32} (hT : iT T a1 a45) (o44 : Nat → Int32) (R : Nat → Nat) (h1 : R 1 ≤ 2) (h4 : R 4 ≤ 1) (h2 : R 2 + 1 < 2 ^ 31) (h3 : R 3 + 1 < 2 ^ 31) (h8 : R 8 < 40) (h20 : R 20 < 2 ^ 31) (h21 : R 21 < 2 ^ 31) (h27 : R 27 < 2 ^ 32) (h28 : R 28 < 256) : f_X12_takesHead_44 n o44 a45 (sn R) = some (sn (aHd T R)) := by
  unfold f_X12_takesHead_44 aHd
  have z0 : ∀ (U : Nat → Nat) (k : Nat), upd (sn U) k 0 = sn (su U k 0) := fun U k => sn_su U k 0
  simp only [sn_ap, nI_1, nI_m40, z0, sn_su]
  by_cases c : 40 ≤ R 8 + 1
  · rw [if_pos (show 40 ≤ nI (R 8 + 1) from nI_le (a := 40) c (by omega)), if_pos c]
    have e1 : su (su (su (su (su (su R 8 (R 8 + 1)) 8 0) 6 0) 12 (R 0 + 4294967256)) 11 (R 27)) 10 0 = aH1 R := rfl
    rw [e1, m_syn (by omega) _ _ (show aH1 R 27 < 2 ^ 32 from h27), Option.bind_some]
    have es : aSyn (aH1 R) = aSyn R := rfl
    rw [es]
    have hy := aSyn_lt h28
    by_cases d : aSyn R = 0
    · rw [if_pos (by rw [d]; rfl), m_cnt o44 _ 0 0 rfl (by decide), Option.bind_some]
      have e2 : aCt (aH1 R) 0 = aH2 (aSyn R) (aH1 R) := by unfold aH2; rw [if_pos d]
      have q : aCt (aH1 R) 0 21 = R 21 := rfl
      rw [m_head92 hn hT o44 _ _ hy (show aCt (aH1 R) 0 1 ≤ 2 from h1) (show aCt (aH1 R) 0 4 ≤ 1 from h4) (show aCt (aH1 R) 0 10 ≤ 1 from Nat.zero_le 1) (show aCt (aH1 R) 0 2 + 1 < 2 ^ 31 from h2) (show aCt (aH1 R) 0 3 + 1 < 2 ^ 31 from h3) (show aCt (aH1 R) 0 20 < 2 ^ 31 from h20) (show aCt (aH1 R) 0 21 < 2 ^ 31 from h21), q, e2]
    · rw [if_neg (fun z => d ((nI_eq0 (by omega)).mp z))]
      have e2 : aH1 R = aH2 (aSyn R) (aH1 R) := by unfold aH2; rw [if_neg d]
      have q : aH1 R 21 = R 21 := rfl
      rw [m_head92 hn hT o44 _ _ hy (show aH1 R 1 ≤ 2 from h1) (show aH1 R 4 ≤ 1 from h4) (show aH1 R 10 ≤ 1 from Nat.zero_le 1) (show aH1 R 2 + 1 < 2 ^ 31 from h2) (show aH1 R 3 + 1 < 2 ^ 31 from h3) (show aH1 R 20 < 2 ^ 31 from h20) (show aH1 R 21 < 2 ^ 31 from h21), q, ← e2]
  · rw [if_neg (show ¬ 40 ≤ nI (R 8 + 1) from nI_ge (b := 40) (by omega) (by decide)), if_neg c]
