/-! on paper: worst, regained, latest -/
theorem k_worst {n sc hs : Nat} (hn : 10000 ≤ n) {T : Nat → Nat} {a1 a45 : Nat → Int32} (hT : iT T a1 a45) {o2 a3 o4 o44 a6 a7 a48 a49 a52 a53 a54 : Nat → Int32} {j5 : Int64} {hd : Nat → Int32} {sy : Nat → Nat → Nat} (hS : iS (T 0) sc hs hd sy o4 j5 a6 a7 o44 a49) {sz B : Nat} {bt : Nat → Bool} {S : Nat → Nat} {o a ow : Nat → Int32} {jw jh : Int64} {ald : Nat → Int32} (h15 : o44 15 = 0) (hB : 8 * (B + 9600) + 100 < 2 ^ 31) (hL : iL sz (S 0) bt o2 a3 o44 a48 (sn S)) (hW : aW (T 0) B S) (hR : cR (T 0) S o a ow jw jh ald) (o21 a22 a23 o24 : Nat → Int32) (j24 j25 : Int64) (a26 : Nat → Int32) : ∃ x o21' a22' a23' o24' j24' j25' a26' a52', f_X11_worst_0 n a1 o2 a3 o4 a6 a7 o a ow jw jh ald o21 a22 a23 o24 j24 j25 a26 = some (x, o21', a22', a23', o24', j24', j25', a26') ∧ f_X12_worst_44 n o44 a45 a48 a49 (sn S) a52 a53 a54 = some (x, upd o44 0 0, a48, sn S, a52', a53, a54) := by
  obtain ⟨l1, l2, l3, l4, l5, l6, l7⟩ := id hL
  have hS0 : iS (T 0) sc hs hd sy o4 j5 a6 a7 (upd o44 0 0) a49 := hS
  have n1 : upd o44 0 0 15 ≠ 1 := by show o44 15 ≠ 1; rw [h15]; decide
  have n2 : upd o44 0 0 15 ≠ 2 := by show o44 15 ≠ 2; rw [h15]; decide
  have h6 : upd o44 0 0 6 = nI sz := l3
  have loop : ∀ (q k k' i : Nat) (w f : Int32) (o21 a22 a23 o24 : Nat → Int32) (j24 j25 : Int64) (a26 a52 : Nat → Int32), i + q = S 0 + min 48 (sz - S 0) → S 0 ≤ i → q < k → q < k' → ∃ w' f' l l' o21' a22' a23' o24' j24' j25' a26' a52', l_X11_worst_0_29 n a1 o2 a3 o4 a6 a7 o a ow jw jh ald (nI (S 0 + min 4800 (sz - S 0))) (nI (S 0 + min 48 (sz - S 0))) k w f (nI i) o21 a22 a23 o24 j24 j25 a26 = some (w', f', l, o21', a22', a23', o24', j24', j25', a26') ∧ l_X12_worst_44_19 n (upd o44 0 0) a45 a49 (nI (S 0)) k' w f (nI i) a48 (sn S) a52 a53 a54 = some (w', f', l', a48, sn S, a52', a53, a54) := by
    intro q
    induction q with
    | zero =>
      intro k k' i w f o21 a22 a23 o24 j24 j25 a26 a52 hi hi2 hk hk'
      obtain ⟨k, rfl⟩ : ∃ q, k = q + 1 := ⟨k - 1, by omega⟩
      obtain ⟨k', rfl⟩ : ∃ q, k' = q + 1 := ⟨k' - 1, by omega⟩
      rw [l_X11_worst_0_29, l_X12_worst_44_19, if_pos (nI_le (by omega) (by omega)), h6, show nI (S 0) + 48 = nI (S 0 + 48) from nI_add _ 48]
      by_cases c : S 0 + 48 ≤ i
      · rw [if_pos (nI_le c (by omega))]
        exact ⟨_, _, _, _, _, _, _, _, _, _, _, _, rfl, rfl⟩
      · rw [if_neg (nI_ge (by omega) (by omega)), if_pos (nI_le (by omega) (by omega))]
        exact ⟨_, _, _, _, _, _, _, _, _, _, _, _, rfl, rfl⟩
    | succ q ih =>
      intro k k' i w f o21 a22 a23 o24 j24 j25 a26 a52 hi hi2 hk hk'
      obtain ⟨k, rfl⟩ : ∃ q, k = q + 1 := ⟨k - 1, by omega⟩
      obtain ⟨k', rfl⟩ : ∃ q, k' = q + 1 := ⟨k' - 1, by omega⟩
      have his : i < sz := by omega
      obtain ⟨q1, q2, q3, q4, q5, q6, q7, e1, e2, e3⟩ := mirror_is (T := T) (fun k hk => (hT.1 k hk).1) hW hR o21 a22 a23 o24 j24 j25 a26
      obtain ⟨r1, r2, r3, r4, r5, r6, f1, f2⟩ := advf_21 hn e2 hT.2 hS l6 (fun p hp => (l7 p hp).1) (nI i) (min 4800 (sz - S 0)) (by omega) _ rfl l2 (by omega) hW e3
      obtain ⟨g1, g2⟩ := flip_m hL his
      have tk := m_takes hn hT hS0 l6 h6 (gF_lt bt (nI i)) g1 4800 (by decide) 4800 rfl a53 a54 l5 hB hW
      have k3 : r2 3 = nI (aRun T sc hd sy (gF bt (nI i)) (min 4800 (sz - S 0)) S 16) := f2.2.1 3 (by decide)
      have k3' : sn (aRun T sc hd sy (gF bt (nI i)) (min 4800 (sz - S 0)) S) 16 = r2 3 := by rw [sn_ap, k3]
      rw [l_X11_worst_0_29, l_X12_worst_44_19, if_neg (nI_ge (by omega) (by omega)), h6, show nI (S 0) + 48 = nI (S 0 + 48) from nI_add _ 48, if_neg (nI_ge (by omega) (by omega)), if_neg (nI_ge (by omega) (by omega)), e1, Option.bind_some]
      simp only []
      rw [f1, Option.bind_some, m_open (by omega), Option.bind_some, xin_t (show i < 9600 by omega) (by decide), cond_true, cond_true, nI_clamp (by omega), tk, Option.bind_some, cond_true, cond_true, aRs_no _ _ _ _ _ n1, aRs_no _ _ _ _ _ n2]
      simp only []
      rw [m_close (by omega) _ _ (run_hi hT.2 (gF_lt bt (nI i)) _ B S hW), Option.bind_some, g2, k3', nI_1]
      have ih' := fun w f => ih k k' (i + 1) w f r1 q2 r2 r3 r4 r5 r6 (wr a52 0 875 (sn S)) (by omega) (by omega) (by omega) (by omega)
      by_cases c : w = -1
      · rw [if_pos c, if_pos c]
        exact ih' _ _
      · rw [if_neg c, if_neg c]
        by_cases d : f ≤ r2 3
        · rw [if_pos d, if_neg (Int32.not_lt.mpr d)]
          exact ih' _ _
        · rw [if_neg d, if_pos (Int32.not_le.mp d)]
          exact ih' _ _
  unfold f_X11_worst_0 f_X12_worst_44
  obtain ⟨w', f', l, l', y1, y2, y3, y4, y5, y6, y7, y8, e1, e2⟩ := loop (min 48 (sz - S 0)) n n (S 0) (-1) 0 o21 a22 a23 o24 j24 j25 a26 a52 rfl (Nat.le_refl _) (by omega) (by omega)
  rw [endOf_is l1 l2 l5 l6 (show 4800 ≤ 9600 by decide) 4800 rfl, Option.bind_some, endOf_is l1 l2 l5 l6 (show 48 ≤ 9600 by decide) 48 rfl, Option.bind_some, l2, e1, Option.bind_some, sn_ap, e2, Option.bind_some]
  exact ⟨_, _, _, _, _, _, _, _, _, rfl, rfl⟩
theorem reg_l {n sc hs : Nat} (hn : 80 ≤ n) {T : Nat → Nat} {a1 a45 a22 : Nat → Int32} (hT : iT T a1 a45) (hT2 : ∀ k, k < 7 → a22 k = nI (T k)) {o2 a3 o4 o44 a6 a7 a48 a49 a52 a53 a54 : Nat → Int32} {j5 : Int64} {hd : Nat → Int32} {sy : Nat → Nat → Nat} (hS : iS (T 0) sc hs hd sy o4 j5 a6 a7 o44 a49) {sz : Nat} {bt : Nat → Bool} (h1 : o44 15 ≠ 1) (h2 : o44 15 ≠ 2) (l1 : o2 1 = nI sz) (l3 : o44 6 = nI sz) (l6 : sz ≤ 9600) (l7 : ∀ j, j < sz → a3 j = b2i (bt j) ∧ a48 j = b2i (bt j)) (fr bf : Nat) : ∀ (m k k' B : Nat) (S : Nat → Nat) (o a ow : Nat → Int32) (jw jh : Int64) (ald : Nat → Int32), S 0 + m = sz → m < k → m + 1 < k' → 8 * (B + m) + 100 < 2 ^ 31 → aW (T 0) B S → cR (T 0) S o a ow jw jh ald → S 17 = bf → fr ≤ S 0 → ∃ (q : ((Int32) × (Nat → Int32) × (Nat → Int32) × (Nat → Int32) × (Int64) × (Int64) × (Nat → Int32)) ⊕ ((Int32) × (Nat → Int32) × (Nat → Int32) × (Nat → Int32) × (Int64) × (Int64) × (Nat → Int32))) (x l l' : Int32) (R : Nat → Nat) (o' a' ow' : Nat → Int32) (jw' jh' : Int64) (ald' : Nat → Int32), l_X11_bitsTillSure_0_12 n o2 a3 o4 a6 a7 a22 (nI fr) (nI bf) k (nI (S 0)) o a ow jw jh ald = some q ∧ Sum.elim (fun z6 => some z6) (fun z6 => some ((-1 : Int32), z6.2.1, z6.2.2.1, z6.2.2.2.1, z6.2.2.2.2.1, z6.2.2.2.2.2.1, z6.2.2.2.2.2.2)) q = some (x, o', a', ow', jw', jh', ald') ∧ l_X12_regainedBy_44_18 n o44 a45 a48 a49 a52 k' (nI (S 0 - fr)) 0 (sn S) a53 a54 = some (l, l', sn R, a53, a54) ∧ (∀ j, 875 ≤ j → R j = S j) ∧ x = (if l' = 0 then -1 else l) := by
  have t0 := hT.2.1
  intro m
  induction m with
  | zero =>
    intro k k' B S o a ow jw jh ald hm hk hk' hB hW hR hb ha
    obtain ⟨k, rfl⟩ : ∃ q, k = q + 1 := ⟨k - 1, by omega⟩
    obtain ⟨k', rfl⟩ : ∃ q, k' = q + 1 := ⟨k' - 1, by omega⟩
    rw [l_X11_bitsTillSure_0_12, l_X12_regainedBy_44_18, l1, l3, sn_ap, if_pos (nI_le (by omega) (by omega)), if_pos rfl, if_pos (nI_le (by omega) (by omega))]
    exact ⟨_, _, _, _, S, _, _, _, _, _, _, rfl, rfl, rfl, fun _ _ => rfl, by rw [if_pos rfl]⟩
  | succ m ih =>
    intro k k' B S o a ow jw jh ald hm hk hk' hB hW hR hb ha
    obtain ⟨k, rfl⟩ : ∃ q, k = q + 1 := ⟨k - 1, by omega⟩
    obtain ⟨k', rfl⟩ : ∃ q, k' = q + 1 := ⟨k' - 1, by omega⟩
    have h7 := hW.1.2.2.2.2.2.1
    have q1 := hW.1.1.1
    have s0 := aSt_0 (sc := sc) (hd := hd) (sy := sy) (b := bn (bt (S 0))) t0.2 h7
    have hx := (st_x (sc := sc) (hd := hd) (sy := sy) (b := bn (bt (S 0))) t0.2 q1 h7).1
    have hWs := aW_st (sc := sc) (hd := hd) (sy := sy) (b := bn (bt (S 0))) (by omega) t0.2 (bn_lt _) hW
    have b17 : aSt T sc hd sy (bn (bt (S 0))) S 17 ≤ 8 * (B + 1) := Nat.le_trans (hWs.2.2.2 4 (by decide)) (by have := hWs.2.1; omega)
    have b1 := hWs.1.1.1
    obtain ⟨o', a', ow', jw', jh', ald', e1, e2⟩ := recv_21 hn hT2 hT.2 hS S o a ow jw jh ald (b := bn (bt (S 0))) (bn_lt _) (by omega) hW hR
    have frm := fun j (hj : 875 ≤ j) => st_hi (sc := sc) (hd := hd) (sy := sy) (b := bn (bt (S 0))) t0.2 h7 hj
    rw [l_X11_bitsTillSure_0_12, l_X12_regainedBy_44_18, l1, l3, sn_ap, if_neg (nI_ge (by omega) (by omega)), if_pos rfl, if_neg (nI_ge (by omega) (by omega)), bitAt_is o2 a3 (by omega), Option.bind_some, (l7 (S 0) (by omega)).1, b2i_bn, nI_1, e1, Option.bind_some, m_one hn hT hS S a53 a54 (b := bn (bt (S 0))) (bn_lt _) (by omega) hW (by omega) (by rw [(l7 (S 0) (by omega)).2, b2i_bn]), Option.bind_some, aSe_no h1, aSe_no h2, nI_1, show S 0 - fr + 1 = S 0 + 1 - fr by omega]
    simp only []
    have k4 : a' 4 = nI (aSt T sc hd sy (bn (bt (S 0))) S 17) := e2.2.1 4 (by decide)
    rw [k4, sn_ap, sn_ap]
    by_cases c : aSt T sc hd sy (bn (bt (S 0))) S 1 = 2 ∧ S 1 ≠ 2
    · rw [if_pos c] at hx
      obtain ⟨k', rfl⟩ : ∃ q, k' = q + 1 := ⟨k' - 1, by omega⟩
      rw [if_neg (nI_ge (by omega) (by omega)), if_pos (by rw [c.1]; rfl), if_neg (fun z => c.2 ((nI_eq2 (by omega)).mp z)), l_X12_regainedBy_44_18, if_neg one_ne, pk_sub (by omega)]
      exact ⟨_, _, _, _, aSt T sc hd sy (bn (bt (S 0))) S, _, _, _, _, _, _, rfl, rfl, rfl, frm, by rw [if_neg one_ne]⟩
    · rw [if_neg c] at hx
      rw [if_pos (nI_le (by omega) (by omega))]
      have h := ih k k' (B + 1) (aSt T sc hd sy (bn (bt (S 0))) S) o' a' ow' jw' jh' ald' (by rw [s0]; omega) (by omega) (by omega) (by omega) hWs e2 (by rw [hx, hb]; rfl) (by rw [s0]; omega)
      rw [s0] at h
      obtain ⟨q, x, l, l', R, y1, y2, y3, y4, y5, y6, f1, f2, f3, f4, f5⟩ := h
      refine ⟨q, x, l, l', R, y1, y2, y3, y4, y5, y6, f1, f2, ?_, fun j hj => (f4 j hj).trans (frm j hj), f5⟩
      by_cases d : aSt T sc hd sy (bn (bt (S 0))) S 1 = 2
      · have d2 : S 1 = 2 := by
          rcases Nat.decEq (S 1) 2 with h | h
          · exact absurd ⟨d, h⟩ c
          · exact h
        rw [if_pos (by rw [d]; rfl), if_pos (by rw [d2]; rfl)]
        exact f3
      · rw [if_neg (fun z => d ((nI_eq2 (by omega)).mp z))]
        exact f3
/-- so many bits lost: how long till it is SURE, on both sides -/
theorem k_regBy {n sc hs : Nat} (hn : 10000 ≤ n) {T : Nat → Nat} {a1 a45 : Nat → Int32} (hT : iT T a1 a45) {o2 a3 o4 o44 a6 a7 a48 a49 a52 a53 a54 : Nat → Int32} {j5 : Int64} {hd : Nat → Int32} {sy : Nat → Nat → Nat} (hS : iS (T 0) sc hs hd sy o4 j5 a6 a7 o44 a49) {sz B : Nat} {bt : Nat → Bool} {S : Nat → Nat} {o a ow : Nat → Int32} {jw jh : Int64} {ald : Nat → Int32} (h15 : o44 15 = 0) (hB : 8 * (B + 9600) + 100 < 2 ^ 31) (hL : iL sz (S 0) bt o2 a3 o44 a48 (sn S)) (hW : aW (T 0) B S) (hR : cR (T 0) S o a ow jw jh ald) (o21 a22 a23 o24 : Nat → Int32) (j24 j25 : Int64) (a26 : Nat → Int32) (d : Nat) (hd0 : S 0 + d ≤ sz) : ∃ x m1 m2 m3 m4 m5 m6 m7 o' a' ow' jw' jh' ald' a52', f_X6_mirror_21_16 a1 o a ow jw jh ald o21 a22 a23 o24 j24 j25 a26 = some (m1, m2, m3, m4, m5, m6, m7) ∧ f_X11_bitsTillSure_0 n o2 a3 o4 a6 a7 m1 m2 m3 m4 m5 m6 m7 (nI (S 0 + d)) = some (x, o', a', ow', jw', jh', ald') ∧ f_X12_regainedBy_44 n (upd o44 0 0) a45 a48 a49 (sn S) a52 a53 a54 (nI d) = some (x, sn S, a52', a53, a54) := by
  obtain ⟨l1, l2, l3, l4, l5, l6, l7⟩ := id hL
  have hS0 : iS (T 0) sc hs hd sy o4 j5 a6 a7 (upd o44 0 0) a49 := hS
  have n1 : upd o44 0 0 15 ≠ 1 := by show o44 15 ≠ 1; rw [h15]; decide
  have n2 : upd o44 0 0 15 ≠ 2 := by show o44 15 ≠ 2; rw [h15]; decide
  have h6 : upd o44 0 0 6 = nI sz := l3
  have h7 : S 7 < 384 := by have := hW.1.2.2.2.2.2.1; have := hT.2.1; omega
  obtain ⟨m1, m2, m3, m4, m5, m6, m7, e1, e2, e3⟩ := mirror_is (T := T) (fun k hk => (hT.1 k hk).1) hW hR o21 a22 a23 o24 j24 j25 a26
  obtain ⟨q, x, l, l', R, y1, y2, y3, y4, y5, y6, f1, f2, f3, f4, f5⟩ := reg_l (n := n) (a52 := wr a52 0 875 (sn S)) (a53 := a53) (a54 := a54) (by omega) hT e2 hS0 n1 n2 l1 h6 l6 l7 (S 0 + d) (S 17) (sz - (S 0 + d)) n n B (su S 0 (S 0 + d)) m1 m3 m4 m5 m6 m7 (by rw [su_s]; omega) (by omega) (by omega) (by omega) (aW_0 hW) (cR_0 h7 e3) rfl (by rw [su_s]; exact Nat.le_refl _)
  rw [su_s] at f1 f3
  rw [Nat.sub_self] at f3
  have f3' : l_X12_regainedBy_44_18 n (upd o44 0 0) a45 a48 a49 (wr a52 0 875 (sn S)) n 0 0 (sn (su S 0 (S 0 + d))) a53 a54 = some (l, l', sn R, a53, a54) := f3
  have b4 : m3 4 = nI (S 17) := e3.2.1 4 (by decide)
  refine ⟨x, m1, m2, m3, m4, m5, m6, m7, y1, y2, y3, y4, y5, y6, wr a52 0 875 (sn S), e1, ?_, ?_⟩
  · unfold f_X11_bitsTillSure_0
    rw [b4, f1, Option.bind_some, f2]
  · unfold f_X12_regainedBy_44
    rw [m_open (by omega), Option.bind_some, sn_ap, nI_add, sn_su, f3', Option.bind_some]
    unfold b_X12_regainedBy_44_75
    simp only []
    rw [m_close (by omega) _ _ (fun j hj => (f4 j hj).trans (su_n (by omega))), Option.bind_some, f5]
    by_cases c : l' = 0
    · rw [if_pos c, if_pos c]
    · rw [if_neg c, if_neg c]
theorem k_regained {n sc hs : Nat} (hn : 10000 ≤ n) {T : Nat → Nat} {a1 a45 : Nat → Int32} (hT : iT T a1 a45) {o2 a3 o4 o44 a6 a7 a48 a49 a52 a53 a54 : Nat → Int32} {j5 : Int64} {hd : Nat → Int32} {sy : Nat → Nat → Nat} (hS : iS (T 0) sc hs hd sy o4 j5 a6 a7 o44 a49) {sz B : Nat} {bt : Nat → Bool} {S : Nat → Nat} {o a ow : Nat → Int32} {jw jh : Int64} {ald : Nat → Int32} (h15 : o44 15 = 0) (hB : 8 * (B + 9600) + 100 < 2 ^ 31) (hL : iL sz (S 0) bt o2 a3 o44 a48 (sn S)) (hW : aW (T 0) B S) (hR : cR (T 0) S o a ow jw jh ald) (o21 a22 a23 o24 : Nat → Int32) (j24 j25 : Int64) (a26 : Nat → Int32) (p1 : Int32) : ∃ x o21' a22' a23' o24' j24' j25' a26' a52', f_X11_regained_0 n a1 o2 a3 o4 a6 a7 o a ow jw jh ald o21 a22 a23 o24 j24 j25 a26 p1 = some (x, o21', a22', a23', o24', j24', j25', a26') ∧ f_X12_regained_44 n o44 a45 a48 a49 (sn S) a52 a53 a54 p1 = some (x, upd o44 0 0, sn S, a52', a53, a54) := by
  obtain ⟨l1, l2, l3, l4, l5, l6, l7⟩ := id hL
  have hS0 : iS (T 0) sc hs hd sy o4 j5 a6 a7 (upd o44 0 0) a49 := hS
  have n1 : upd o44 0 0 15 ≠ 1 := by show o44 15 ≠ 1; rw [h15]; decide
  have n2 : upd o44 0 0 15 ≠ 2 := by show o44 15 ≠ 2; rw [h15]; decide
  have h6 : upd o44 0 0 6 = nI sz := l3
  unfold f_X11_regained_0 f_X12_regained_44 f_X4_left_2
  rw [isW, isIn_w p1 1 400 1 400 rfl rfl, l1, l2, l3, sn_ap, pk_sub l5]
  simp only [Option.bind_some]
  by_cases c : 1 ≤ p1 ∧ p1 ≤ 400
  · rw [if_pos c, if_neg one_ne, if_neg one_ne]
    obtain ⟨d, d1, d2, rfl⟩ := i32_in (a := 1) (b := 400) (by decide) c (by decide)
    by_cases g : d ≤ sz - S 0
    · obtain ⟨x, m1, m2, m3, m4, m5, m6, m7, y1, y2, y3, y4, y5, y6, y7, e1, e2, e3⟩ := k_regBy hn hT (a52 := a52) (a53 := a53) (a54 := a54) hS h15 hB hL hW hR o21 a22 a23 o24 j24 j25 a26 d (by omega)
      rw [if_pos (nI_le g (by omega)), if_pos (nI_le g (by omega)), e1, Option.bind_some, nI_add]
      simp only []
      rw [e2, Option.bind_some, e3, Option.bind_some]
      exact ⟨_, _, _, _, _, _, _, _, _, rfl, rfl⟩
    · rw [if_neg (nI_ge (by omega) (by omega)), if_neg (nI_ge (by omega) (by omega))]
      exact ⟨_, _, _, _, _, _, _, _, _, rfl, rfl⟩
  · rw [if_neg c, if_pos rfl, if_pos rfl]
    exact ⟨_, _, _, _, _, _, _, _, _, rfl, rfl⟩
theorem k_latest {n sc hs : Nat} (hn : 10000 ≤ n) {T : Nat → Nat} {a1 a45 : Nat → Int32} (hT : iT T a1 a45) {o2 a3 o4 o44 a6 a7 a48 a49 a52 a53 a54 : Nat → Int32} {j5 : Int64} {hd : Nat → Int32} {sy : Nat → Nat → Nat} (hS : iS (T 0) sc hs hd sy o4 j5 a6 a7 o44 a49) {sz B : Nat} {bt : Nat → Bool} {S : Nat → Nat} {o a ow : Nat → Int32} {jw jh : Int64} {ald : Nat → Int32} (h15 : o44 15 = 0) (hB : 8 * (B + 9600) + 100 < 2 ^ 31) (hL : iL sz (S 0) bt o2 a3 o44 a48 (sn S)) (hW : aW (T 0) B S) (hR : cR (T 0) S o a ow jw jh ald) (o21 a22 a23 o24 : Nat → Int32) (j24 j25 : Int64) (a26 : Nat → Int32) (p1 : Int32) : ∃ x o21' a22' a23' o24' j24' j25' a26' a52', f_X11_latest_0 n a1 o2 a3 o4 a6 a7 o a ow jw jh ald o21 a22 a23 o24 j24 j25 a26 p1 = some (x, o21', a22', a23', o24', j24', j25', a26') ∧ f_X12_latest_44 n o44 a45 a48 a49 (sn S) a52 a53 a54 p1 = some (x, upd o44 0 0, sn S, a52', a53, a54) := by
  obtain ⟨l1, l2, l3, l4, l5, l6, l7⟩ := id hL
  have hS0 : iS (T 0) sc hs hd sy o4 j5 a6 a7 (upd o44 0 0) a49 := hS
  have n1 : upd o44 0 0 15 ≠ 1 := by show o44 15 ≠ 1; rw [h15]; decide
  have n2 : upd o44 0 0 15 ≠ 2 := by show o44 15 ≠ 2; rw [h15]; decide
  have h6 : upd o44 0 0 6 = nI sz := l3
  have loop : ∀ (q k k' i : Nat) (w f g : Int32) (o21 a22 a23 o24 : Nat → Int32) (j24 j25 : Int64) (a26 a52 : Nat → Int32), i + q = min 64 (sz - S 0) + 1 → 1 ≤ i → q < k → q < k' → ∃ w' f' g' l l' o21' a22' a23' o24' j24' j25' a26' a52', l_X11_latest_0_36 n a1 o2 a3 o4 a6 a7 o a ow jw jh ald p1 (nI (min 64 (sz - S 0))) k w f g (nI i) o21 a22 a23 o24 j24 j25 a26 = some (w', f', g', l, o21', a22', a23', o24', j24', j25', a26') ∧ l_X12_latest_44_30 n (upd o44 0 0) a45 a48 a49 p1 k' w f g (nI i) (sn S) a52 a53 a54 = some (w', f', g', l', sn S, a52', a53, a54) := by
    intro q
    induction q with
    | zero =>
      intro k k' i w f g o21 a22 a23 o24 j24 j25 a26 a52 hi hi2 hk hk'
      obtain ⟨k, rfl⟩ : ∃ q, k = q + 1 := ⟨k - 1, by omega⟩
      obtain ⟨k', rfl⟩ : ∃ q, k' = q + 1 := ⟨k' - 1, by omega⟩
      rw [l_X11_latest_0_36, l_X12_latest_44_30, if_pos (nI_lt (by omega) (by omega)), h6, sn_ap, pk_sub l5]
      by_cases c : 64 < i
      · rw [if_pos (show 64 < nI i from nI_lt (a := 64) c (by omega))]
        exact ⟨_, _, _, _, _, _, _, _, _, _, _, _, _, rfl, rfl⟩
      · rw [if_neg (show ¬ 64 < nI i from nI_nlt (a := 64) (by omega) (by decide)), if_pos (nI_lt (by omega) (by omega))]
        exact ⟨_, _, _, _, _, _, _, _, _, _, _, _, _, rfl, rfl⟩
    | succ q ih =>
      intro k k' i w f g o21 a22 a23 o24 j24 j25 a26 a52 hi hi2 hk hk'
      obtain ⟨k, rfl⟩ : ∃ q, k = q + 1 := ⟨k - 1, by omega⟩
      obtain ⟨k', rfl⟩ : ∃ q, k' = q + 1 := ⟨k' - 1, by omega⟩
      obtain ⟨x, m1, m2, m3, m4, m5, m6, m7, y1, y2, y3, y4, y5, y6, y7, e1, e2, e3⟩ := k_regBy hn hT (a52 := a52) (a53 := a53) (a54 := a54) hS h15 hB hL hW hR o21 a22 a23 o24 j24 j25 a26 i (by omega)
      rw [l_X11_latest_0_36, l_X12_latest_44_30, if_neg (nI_nlt (by omega) (by omega)), h6, sn_ap, pk_sub l5, if_neg (show ¬ 64 < nI i from nI_nlt (a := 64) (by omega) (by decide)), if_neg (nI_nlt (by omega) (by omega)), e1, Option.bind_some, l2, nI_add]
      simp only []
      rw [e2, Option.bind_some, e3, Option.bind_some, nI_1, show g + 0 = g from Int32.add_zero g]
      have ih' := fun w f g => ih k k' (i + 1) w f g y1 m2 y2 y3 y4 y5 y6 y7 (by omega) (by omega) (by omega) (by omega)
      simp only []
      by_cases c : x = -1
      · rw [if_pos c, if_pos c]
        by_cases d : x ≤ w
        · rw [if_pos d, if_neg (Int32.not_lt.mpr d)]; exact ih' _ _ _
        · rw [if_neg d, if_pos (Int32.not_le.mp d)]; exact ih' _ _ _
      · rw [if_neg c, if_neg c]
        by_cases d : x ≤ w
        · rw [if_pos d, if_neg (Int32.not_lt.mpr d)]; exact ih' _ _ _
        · rw [if_neg d, if_pos (Int32.not_le.mp d)]; exact ih' _ _ _
  unfold f_X11_latest_0 f_X12_latest_44 f_X4_left_2
  rw [isW, isIn_w p1 0 2 0 2 rfl rfl, l1, l2, pk_sub l5]
  simp only [Option.bind_some]
  have em : (if nI (sz - S 0) < 64 then nI (sz - S 0) else 64) = nI (min 64 (sz - S 0)) := by
    by_cases c : sz - S 0 < 64
    · rw [if_pos (show nI (sz - S 0) < 64 from nI_lt (b := 64) c (by decide)), show min 64 (sz - S 0) = sz - S 0 by omega]
    · rw [if_neg (show ¬ nI (sz - S 0) < 64 from nI_nlt (b := 64) (by omega) (by omega)), show min 64 (sz - S 0) = 64 by omega]; rfl
  rw [em]
  by_cases c : 0 ≤ p1 ∧ p1 ≤ 2
  · rw [if_pos c, if_neg one_ne, if_neg one_ne]
    obtain ⟨w', f', g', l, l', y1, y2, y3, y4, y5, y6, y7, y8, e1, e2⟩ := loop (min 64 (sz - S 0)) n n 1 (-1) (-1) 0 o21 a22 a23 o24 j24 j25 a26 a52 (by omega) (by decide) (by omega) (by omega)
    have e1' : l_X11_latest_0_36 n a1 o2 a3 o4 a6 a7 o a ow jw jh ald p1 (nI (min 64 (sz - S 0))) n (-1) (-1) 0 1 o21 a22 a23 o24 j24 j25 a26 = some (w', f', g', l, y1, y2, y3, y4, y5, y6, y7) := e1
    have e2' : l_X12_latest_44_30 n (upd o44 0 0) a45 a48 a49 p1 n (-1) (-1) 0 1 (sn S) a52 a53 a54 = some (w', f', g', l', sn S, y8, a53, a54) := e2
    rw [e1', e2', Option.bind_some, Option.bind_some]
    unfold b_X12_latest_44_98
    obtain ⟨v, -, hv, rfl⟩ := i32_in (a := 0) (b := 2) (by decide) c (by decide)
    have hv3 : v = 0 ∨ v = 1 ∨ v = 2 := by omega
    rcases hv3 with rfl | rfl | rfl
    · rw [if_neg (by decide), if_pos (by decide), if_pos (by decide)]; exact ⟨_, _, _, _, _, _, _, _, _, rfl, rfl⟩
    · rw [if_neg (by decide), if_neg (by decide), if_neg (by decide), if_pos (by decide)]; exact ⟨_, _, _, _, _, _, _, _, _, rfl, rfl⟩
    · rw [if_pos (by decide), if_neg (by decide), if_neg (by decide)]; exact ⟨_, _, _, _, _, _, _, _, _, rfl, rfl⟩
  · rw [if_neg c, if_pos rfl, if_pos rfl]
    exact ⟨_, _, _, _, _, _, _, _, _, rfl, rfl⟩
