/-! on paper: until, worst, regained, latest -/
theorem ld_c2 {T : Nat → Nat} {sc : Nat} {hd : Nat → Int32} {sy : Nat → Nat → Nat} {b : Nat} {S : Nat → Nat} {k : Nat} (hk : k = 0 ∨ k = 4 ∨ k = 8) : aLd T sc hd sy b S (13 + k) = S (13 + k) := by
  have hk14 : k < 14 := by omega
  have e2 := aL2_c b S hk14
  have d0 : ∀ j, j = 3 ∨ j = 9 ∨ j = 10 → dl k j = 0 := fun j h => if_neg (by omega)
  unfold aLd aL3
  by_cases g : 8 * T 0 ≤ aL2 b S 7
  · rw [if_pos g]
    by_cases q : aL2 b S 9 = 0
    · rw [if_pos q, su_n (by omega), su_n (by omega), e2]
    · rw [if_neg q]
      by_cases x : T 5 = 1 ∧ nI (aL2 b S 11) = 1
      · rw [if_pos x, aCt_c _ _ hk14, d0 10 (by decide), su_n (by omega), su_n (by omega), e2]; rfl
      · rw [if_neg x]
        unfold aDl
        by_cases y : aFn (T 0) hd sy (nI (su (su (aL2 b S) 7 0) 6 1 11)) (fun i => su (su (aL2 b S) 7 0) 6 1 (32 + i)) sc 0 = -1
        · rw [if_pos y, aCt_c _ _ hk14, d0 9 (by decide), aD1_c _ _ hk14, d0 3 (by decide), su_n (by omega), su_n (by omega), e2]; rfl
        · rw [if_neg y, aD1_c _ _ hk14, d0 3 (by decide), su_n (by omega), su_n (by omega), e2]; rfl
  · rw [if_neg g, e2]
theorem ld_1 {T : Nat → Nat} {sc : Nat} {hd : Nat → Int32} {sy : Nat → Nat → Nat} {b : Nat} {S : Nat → Nat} (hT : T 0 ≤ 48) (h7 : S 7 < 8 * 48) : aLd T sc hd sy b S 1 = S 1 := by
  have e2 : aL2 b S 1 = S 1 := aL2_0 b S (by decide) (by decide) h7
  unfold aLd aL3
  by_cases g : 8 * T 0 ≤ aL2 b S 7
  · rw [if_pos g]
    by_cases q : aL2 b S 9 = 0
    · rw [if_pos q]; exact e2
    · rw [if_neg q]
      by_cases x : T 5 = 1 ∧ nI (aL2 b S 11) = 1
      · rw [if_pos x]; exact e2
      · rw [if_neg x, aDl_lo hT 1 (by decide) (by decide)]; exact e2
  · rw [if_neg g, e2]
/-- what a bit does to STATE, and to the counts of SURE, of JUDGED, of right ones -/
def sX (S V : Nat → Nat) : Prop := V 17 = S 17 + (if V 1 = 2 ∧ S 1 ≠ 2 then 1 else 0) ∧ (S 1 ≠ 2 → (S 1 = 1 ∧ V 1 = 0 → V 21 = S 21 + 1 ∧ V 13 = S 13) ∧ (¬ (S 1 = 1 ∧ V 1 = 0) → ∃ e, V 21 = S 21 + e ∧ V 13 = S 13 + e))
theorem sX_same {S V : Nat → Nat} (h1 : V 1 = S 1) (h17 : V 17 = S 17) (h21 : V 21 = S 21) (h13 : V 13 = S 13) : sX S V := by
  refine ⟨?_, fun h => ⟨fun z => by omega, fun _ => ⟨0, by omega, by omega⟩⟩⟩
  rw [h1, h17, if_neg (fun z => z.2 z.1)]; rfl
theorem mid_x {T : Nat → Nat} {sc : Nat} {hd : Nat → Int32} {sy : Nat → Nat → Nat} {b : Nat} {S : Nat → Nat} (hT : T 0 ≤ 48) (h1 : S 1 ≤ 2) (h7 : S 7 < 8 * T 0) : sX S (aMid T sc hd sy b S) := by
  have ek : aKd (S 1) = 6 ∨ aKd (S 1) = 12 ∨ aKd (S 1) = 13 := by
    unfold aKd
    by_cases c : S 1 = 0
    · rw [if_pos c]; decide
    · rw [if_neg c]
      by_cases d : S 1 = 1
      · rw [if_pos d]; decide
      · rw [if_neg d]; decide
  have uc : ∀ k, k = 0 ∨ k = 4 ∨ k = 8 → aP1 b S (13 + k) = S (13 + k) := fun k hk => by rw [aP1_c b S (by omega), if_neg (by omega)]
  have u13 : aP1 b S 13 = S 13 := uc 0 (by decide)
  have u17 : aP1 b S 17 = S 17 := uc 4 (by decide)
  have u21 : aP1 b S 21 = S 21 := uc 8 (by decide)
  have u1 : aP1 b S 1 = S 1 := by rw [aP1_at b S (by decide), aPs_at b S (by decide)]
  have u7 : aP1 b S 7 = S 7 := by rw [aP1_at b S (by decide), aPs_at b S (by decide)]
  generalize hU : aP1 b S = U at u13 u17 u21 u1 u7
  have tc : ∀ (to : Nat) (W : Nat → Nat), aTn to W 13 = W 13 ∧ aTn to W 17 = W 17 + (if to = 2 then 1 else 0) ∧ aTn to W 21 = W 21 := by
    intro to W
    have z : ∀ k, k < 14 → aTn to W (13 + k) = W (13 + k) + tnC to (W 1) k := fun k hk => aTn_c to W hk
    have t0 : ∀ s, tnC to s 0 = 0 := by intro s; unfold tnC dl; simp
    have t4 : ∀ s, tnC to s 4 = (if to = 2 then 1 else 0) := by intro s; unfold tnC dl; simp
    have t8 : ∀ s, tnC to s 8 = 0 := by intro s; unfold tnC dl; simp
    have z0 := z 0 (by decide)
    have z4 := z 4 (by decide)
    have z8 := z 8 (by decide)
    rw [t0] at z0
    rw [t4] at z4
    rw [t8] at z8
    exact ⟨z0, z4, z8⟩
  unfold aMid
  rw [hU]
  by_cases c : S 1 = 0
  · rw [if_pos c]
    unfold aHu
    by_cases d : (U 874 + 1) % T 6 = 0 ∧ 40 ≤ U 5 ∧ aSyn U = 0
    · rw [if_pos d]
      obtain ⟨t1, t2, t3⟩ := tc 1 (su U 874 (U 874 + 1))
      have v1 : su (aTn 1 (su U 874 (U 874 + 1))) 2 0 1 = 1 := rfl
      refine ⟨?_, fun _ => ⟨fun z => by omega, fun _ => ⟨0, ?_, ?_⟩⟩⟩
      · rw [v1, if_neg (fun z => by have := z.1; omega), su_n (by decide), t2, if_neg (by decide), su_n (by decide), u17]
      · rw [su_n (by decide), t3, su_n (by decide), u21]; rfl
      · rw [su_n (by decide), t1, su_n (by decide), u13]; rfl
    · rw [if_neg d]
      exact sX_same (by rw [su_n (by decide), u1]) (by rw [su_n (by decide), u17]) (by rw [su_n (by decide), u21]) (by rw [su_n (by decide), u13])
  · rw [if_neg c]
    by_cases d : S 6 = 1
    · rw [if_pos d]
      by_cases g : 40 ≤ U 8 + 1
      · rw [aHd_is T U g]
        have s1 : aHU U 1 = S 1 := by rw [aHU_lo U (by decide)]; exact u1
        have s13 : aHU U 13 = S 13 + (if aSyn U = 0 then 1 else 0) := by
          have h := aHU_c U (k := 0) (by decide)
          rw [show dl 0 0 = 1 from rfl, show dl 0 8 = 0 from rfl] at h
          rw [show (13 : Nat) = 13 + 0 from rfl, h, Nat.add_zero, Nat.add_zero, u13]
        have s17 : aHU U 17 = S 17 := by
          have h := aHU_c U (k := 4) (by decide)
          rw [show dl 4 0 = 0 from rfl, show dl 4 8 = 0 from rfl] at h
          rw [show (17 : Nat) = 13 + 4 from rfl, h]
          show U 17 + (if aSyn U = 0 then 0 else 0) + 0 = S 17
          rw [u17]
          by_cases e : aSyn U = 0
          · rw [if_pos e]; rfl
          · rw [if_neg e]; rfl
        have s21 : aHU U 21 = S 21 + 1 := by rw [(hU_3 U).2.2, u21]
        generalize hW : aHU U = W at s1 s13 s17 s21
        have hp : ∀ j, j < 22 → su (aH4 T (aSyn U) W) (776 + 3 * (U 21 % 32) + 2) (aV (aSyn U) (aH4 T (aSyn U) W)) j = aH4 T (aSyn U) W j := fun j hj => su_n (by omega)
        unfold sX
        rw [hp 17 (by decide), hp 1 (by decide), hp 21 (by decide), hp 13 (by decide)]
        unfold aH4
        rw [s1]
        by_cases x : S 1 = 1
        · rw [if_pos x]
          unfold aNr
          by_cases y : aSyn U = 0
          · rw [if_pos y] at s13 ⊢
            by_cases w : T 2 ≤ W 2 + 1
            · rw [if_pos w]
              obtain ⟨t1, t2, t3⟩ := tc 2 (su (su W 9 0) 2 (W 2 + 1))
              have v1 : su (su (su (aTn 2 (su (su W 9 0) 2 (W 2 + 1))) 4 1) 3 0) 9 1 1 = 2 := rfl
              rw [v1, su_n (by decide), su_n (by decide), su_n (by decide), t2, if_pos rfl, su_n (by decide), su_n (by decide), s17, if_pos ⟨rfl, by omega⟩]
              refine ⟨rfl, fun _ => ⟨fun z => by omega, fun _ => ⟨1, ?_, ?_⟩⟩⟩
              · rw [su_n (by decide), su_n (by decide), su_n (by decide), t3, su_n (by decide), su_n (by decide), s21]
              · rw [su_n (by decide), su_n (by decide), su_n (by decide), t1, su_n (by decide), su_n (by decide), s13]
            · rw [if_neg w, su_n (by decide), su_n (by decide), su_n (by decide), su_n (by decide), su_n (by decide), su_n (by decide), su_n (by decide), su_n (by decide), s1, s17, s21, s13, if_neg (fun z => by have := z.1; omega)]
              exact ⟨rfl, fun _ => ⟨fun z => by omega, fun _ => ⟨1, rfl, rfl⟩⟩⟩
          · rw [if_neg y] at s13 ⊢
            obtain ⟨t1, t2, t3⟩ := tc 0 W
            rw [aTn_1, t2, t3, t1, s17, s21, s13, if_neg (show ¬ (0 : Nat) = 2 by decide), if_neg (show ¬ ((0 : Nat) = 2 ∧ S 1 ≠ 2) from fun z => absurd z.1 (by decide))]
            exact ⟨rfl, fun _ => ⟨fun _ => ⟨rfl, rfl⟩, fun z => absurd ⟨x, rfl⟩ z⟩⟩
        · have x2 : S 1 = 2 := by omega
          rw [if_neg x]
          refine ⟨?_, fun z => absurd x2 z⟩
          rw [if_neg (fun z => z.2 x2)]
          unfold aSu
          by_cases y : aSyn U = 0
          · rw [if_pos y, su_n (by decide), su_n (by decide), su_n (by decide), s17]; rfl
          · rw [if_neg y]
            by_cases w : W 3 + 1 < T 1
            · rw [if_pos w]
              have e : ∀ bb, aWr bb (su W 3 (W 3 + 1)) 17 = W 17 := by
                intro bb
                unfold aWr
                by_cases q : bb = -1
                · rw [if_pos q]; rfl
                · rw [if_neg q, aMd_lo _ _ (by decide)]; rfl
              rw [e, s17]; rfl
            · rw [if_neg w, (tc 0 _).2.1, su_n (by decide), s17]; rfl
      · have e : aHd T U = su U 8 (U 8 + 1) := by unfold aHd; rw [if_neg g]
        rw [e]
        exact sX_same (by rw [su_n (by decide), u1]) (by rw [su_n (by decide), u17]) (by rw [su_n (by decide), u21]) (by rw [su_n (by decide), u13])
    · rw [if_neg d]
      exact sX_same (by rw [ld_1 hT (by omega), u1]) ((ld_c2 (k := 4) (by decide)).trans u17) ((ld_c2 (k := 8) (by decide)).trans u21) ((ld_c2 (k := 0) (by decide)).trans u13)
theorem st_x {T : Nat → Nat} {sc : Nat} {hd : Nat → Int32} {sy : Nat → Nat → Nat} {b : Nat} {S : Nat → Nat} (hT : T 0 ≤ 48) (h1 : S 1 ≤ 2) (h7 : S 7 < 8 * T 0) : sX S (aSt T sc hd sy b S) := by
  have h := mid_x (sc := sc) (hd := hd) (sy := sy) (b := b) hT h1 h7
  have w1 : aSt T sc hd sy b S 1 = aMid T sc hd sy b S 1 := wt_05 (by decide)
  have w13 : aSt T sc hd sy b S 13 = aMid T sc hd sy b S 13 := wt_c (k := 0) (by decide) (by decide)
  have w17 : aSt T sc hd sy b S 17 = aMid T sc hd sy b S 17 := wt_c (k := 4) (by decide) (by decide)
  have w21 : aSt T sc hd sy b S 21 = aMid T sc hd sy b S 21 := wt_c (k := 8) (by decide) (by decide)
  unfold sX
  rw [w1, w13, w17, w21]
  exact h
theorem aSe_no {v w : Int32} (h : v ≠ w) (b : Nat) (S : Nat → Nat) (a : Nat → Int32) : aSe v w b S a = a := if_neg (fun z => h z.1)
theorem until_l {n sc hs : Nat} (hn : 80 ≤ n) {T : Nat → Nat} {a1 a45 a22 : Nat → Int32} (hT : iT T a1 a45) (hT2 : ∀ k, k < 7 → a22 k = nI (T k)) {o2 a3 o4 o44 a6 a7 a48 a49 a52 a53 a54 : Nat → Int32} {j5 : Int64} {hd : Nat → Int32} {sy : Nat → Nat → Nat} (hS : iS (T 0) sc hs hd sy o4 j5 a6 a7 o44 a49) {sz at0 : Nat} {bt : Nat → Bool} (h1 : o44 15 ≠ 1) (h2 : o44 15 ≠ 2) (l1 : o2 1 = nI sz) (l2 : o2 2 = nI at0) (l3 : o44 6 = nI sz) (l6 : sz ≤ 9600) (l7 : ∀ j, j < sz → a3 j = b2i (bt j) ∧ a48 j = b2i (bt j)) (x1 x2 x3 x4 : Nat → Int32) (x5 x6 : Int64) (x7 : Nat → Int32) (p : Int32) : ∀ (m k k' B : Nat) (S : Nat → Nat) (o a ow : Nat → Int32) (jw jh : Int64) (ald : Nat → Int32), S 0 + m = sz → m < k → m + 1 < k' → 8 * (B + m) + 100 < 2 ^ 31 → aW (T 0) B S → cR (T 0) S o a ow jw jh ald → ¬ nI (S 1) = p → at0 ≤ S 0 → ∃ (q : ((Int32) × (Nat → Int32) × (Nat → Int32) × (Nat → Int32) × (Nat → Int32) × (Int64) × (Int64) × (Nat → Int32)) ⊕ ((Int32) × (Nat → Int32) × (Nat → Int32) × (Nat → Int32) × (Int64) × (Int64) × (Nat → Int32))) (x l : Int32) (R : Nat → Nat) (o' a' ow' : Nat → Int32) (jw' jh' : Int64) (ald' : Nat → Int32), l_X11_until_0_44 n x1 o2 a3 o4 a6 a7 x2 x3 x4 x5 x6 x7 a22 p k (nI (S 0)) o a ow jw jh ald = some q ∧ Sum.elim (fun z10 => some z10) (fun z10 => some ((-1 : Int32), z10.2.1, a22, z10.2.2.1, z10.2.2.2.1, z10.2.2.2.2.1, z10.2.2.2.2.2.1, z10.2.2.2.2.2.2)) q = some (x, o', a22, a', ow', jw', jh', ald') ∧ l_X12_until_44_26 n o44 a45 a48 a49 a52 p k' (nI (S 0 - at0)) (sn S) a53 a54 = some (l, sn R, a53, a54) ∧ (∀ j, 875 ≤ j → R j = S j) ∧ ((nI (R 1) = p ∧ x = l) ∨ (¬ nI (R 1) = p ∧ x = -1)) := by
  have t0 := hT.2.1
  intro m
  induction m with
  | zero =>
    intro k k' B S o a ow jw jh ald hm hk hk' hB hW hR hp ha
    obtain ⟨k, rfl⟩ : ∃ q, k = q + 1 := ⟨k - 1, by omega⟩
    obtain ⟨k', rfl⟩ : ∃ q, k' = q + 1 := ⟨k' - 1, by omega⟩
    rw [l_X11_until_0_44, l_X12_until_44_26, l1, l3, sn_ap, sn_ap, if_pos (nI_le (by omega) (by omega)), if_neg hp, if_pos (nI_le (by omega) (by omega))]
    exact ⟨_, _, _, S, _, _, _, _, _, _, rfl, rfl, rfl, fun _ _ => rfl, Or.inr ⟨hp, rfl⟩⟩
  | succ m ih =>
    intro k k' B S o a ow jw jh ald hm hk hk' hB hW hR hp ha
    obtain ⟨k, rfl⟩ : ∃ q, k = q + 1 := ⟨k - 1, by omega⟩
    obtain ⟨k', rfl⟩ : ∃ q, k' = q + 1 := ⟨k' - 1, by omega⟩
    have h7 := hW.1.2.2.2.2.2.1
    have s0 := aSt_0 (sc := sc) (hd := hd) (sy := sy) (b := bn (bt (S 0))) t0.2 h7
    obtain ⟨o', a', ow', jw', jh', ald', e1, e2⟩ := recv_21 hn hT2 hT.2 hS S o a ow jw jh ald (b := bn (bt (S 0))) (bn_lt _) (by omega) hW hR
    rw [l_X11_until_0_44, l_X12_until_44_26, l1, l3, sn_ap, sn_ap, if_neg (nI_ge (by omega) (by omega)), if_neg hp, if_neg (nI_ge (by omega) (by omega)), bitAt_is o2 a3 (by omega), Option.bind_some, (l7 (S 0) (by omega)).1, b2i_bn, nI_1, e1, Option.bind_some, m_one hn hT hS S a53 a54 (b := bn (bt (S 0))) (bn_lt _) (by omega) hW (by omega) (by rw [(l7 (S 0) (by omega)).2, b2i_bn]), Option.bind_some, aSe_no h1, aSe_no h2, nI_1, show S 0 - at0 + 1 = S 0 + 1 - at0 by omega]
    have fr := fun j (hj : 875 ≤ j) => st_hi (sc := sc) (hd := hd) (sy := sy) (b := bn (bt (S 0))) t0.2 h7 hj
    simp only []
    by_cases c : nI (aSt T sc hd sy (bn (bt (S 0))) S 1) = p
    · have c' : o' 7 = p := by rw [e2.1.1.1]; exact c
      obtain ⟨k', rfl⟩ : ∃ q, k' = q + 1 := ⟨k' - 1, by omega⟩
      rw [if_pos c', l_X12_until_44_26, sn_ap, if_pos c, l2, pk_sub (by omega)]
      exact ⟨_, _, _, aSt T sc hd sy (bn (bt (S 0))) S, _, _, _, _, _, _, rfl, rfl, rfl, fr, Or.inl ⟨c, rfl⟩⟩
    · have c' : ¬ o' 7 = p := by rw [e2.1.1.1]; exact c
      rw [if_neg c']
      have h := ih k k' (B + 1) (aSt T sc hd sy (bn (bt (S 0))) S) o' a' ow' jw' jh' ald' (by rw [s0]; omega) (by omega) (by omega) (by omega) (aW_st (by omega) t0.2 (bn_lt _) hW) e2 c (by rw [s0]; omega)
      rw [s0] at h
      obtain ⟨q, x, l, R, y1, y2, y3, y4, y5, y6, f1, f2, f3, f4, f5⟩ := h
      exact ⟨q, x, l, R, y1, y2, y3, y4, y5, y6, f1, f2, f3, fun j hj => (f4 j hj).trans (fr j hj), f5⟩
theorem k_until {n sc hs : Nat} (hn : 10000 ≤ n) {T : Nat → Nat} {a1 a45 : Nat → Int32} (hT : iT T a1 a45) {o2 a3 o4 o44 a6 a7 a48 a49 a52 a53 a54 : Nat → Int32} {j5 : Int64} {hd : Nat → Int32} {sy : Nat → Nat → Nat} (hS : iS (T 0) sc hs hd sy o4 j5 a6 a7 o44 a49) {sz B : Nat} {bt : Nat → Bool} {S : Nat → Nat} {o a ow : Nat → Int32} {jw jh : Int64} {ald : Nat → Int32} (h15 : o44 15 = 0) (hB : 8 * (B + 9600) + 100 < 2 ^ 31) (hL : iL sz (S 0) bt o2 a3 o44 a48 (sn S)) (hW : aW (T 0) B S) (hR : cR (T 0) S o a ow jw jh ald) (o21 a22 a23 o24 : Nat → Int32) (j24 j25 : Int64) (a26 : Nat → Int32) (p1 : Int32) : ∃ x o21' a22' a23' o24' j24' j25' a26' a52', f_X11_until_0 n a1 o2 a3 o4 a6 a7 o a ow jw jh ald o21 a22 a23 o24 j24 j25 a26 p1 = some (x, o21', a22', a23', o24', j24', j25', a26') ∧ f_X12_until_44 n o44 a45 a48 a49 (sn S) a52 a53 a54 p1 = some (x, upd o44 0 0, sn S, a52', a53, a54) := by
  obtain ⟨l1, l2, l3, l4, l5, l6, l7⟩ := id hL
  have hS0 : iS (T 0) sc hs hd sy o4 j5 a6 a7 (upd o44 0 0) a49 := hS
  have n1 : upd o44 0 0 15 ≠ 1 := by show o44 15 ≠ 1; rw [h15]; decide
  have n2 : upd o44 0 0 15 ≠ 2 := by show o44 15 ≠ 2; rw [h15]; decide
  have h6 : upd o44 0 0 6 = nI sz := l3
  unfold f_X11_until_0 f_X12_until_44
  rw [isW, isIn_w p1 0 2 0 2 rfl rfl, m_open (by omega)]
  simp only [Option.bind_some]
  by_cases c : 0 ≤ p1 ∧ p1 ≤ 2
  · rw [if_pos c, if_neg one_ne, if_neg one_ne, hR.1.1.1]
    by_cases d : nI (S 1) = p1
    · obtain ⟨k, rfl⟩ : ∃ q, n = q + 1 := ⟨n - 1, by omega⟩
      rw [if_pos d, l_X12_until_44_26, sn_ap, if_pos d, Option.bind_some]
      unfold b_X12_until_44_59 b_X12_until_44_74
      simp only []
      rw [sn_ap, if_pos d, m_close (by omega) _ _ (fun _ _ => rfl), Option.bind_some, if_neg one_ne]
      exact ⟨_, _, _, _, _, _, _, _, _, rfl, rfl⟩
    · obtain ⟨q1, q2, q3, q4, q5, q6, q7, e1, e2, e3⟩ := mirror_is (T := T) (fun k hk => (hT.1 k hk).1) hW hR o21 a22 a23 o24 j24 j25 a26
      obtain ⟨q, x, l, R, y1, y2, y3, y4, y5, y6, f1, f2, f3, f4, f5⟩ := until_l (n := n) (a52 := wr a52 0 875 (sn S)) (a53 := a53) (a54 := a54) (by omega) hT e2 hS0 n1 n2 l1 l2 h6 l6 l7 a1 o a ow jw jh ald p1 (sz - S 0) n n B S q1 q3 q4 q5 q6 q7 (by omega) (by omega) (by omega) (by omega) hW e3 d (Nat.le_refl _)
      rw [Nat.sub_self] at f3
      have f3' : l_X12_until_44_26 n (upd o44 0 0) a45 a48 a49 (wr a52 0 875 (sn S)) p1 n 0 (sn S) a53 a54 = some (l, sn R, a53, a54) := f3
      rw [if_neg d, e1, Option.bind_some, l2]
      simp only []
      rw [f1, Option.bind_some, f2, f3', Option.bind_some]
      unfold b_X12_until_44_59 b_X12_until_44_74
      simp only []
      rw [sn_ap, m_close (by omega) _ _ f4, Option.bind_some, Option.bind_some, if_neg one_ne, if_pos trivial]
      rcases f5 with ⟨g1, g2⟩ | ⟨g1, g2⟩
      · rw [if_pos g1, g2]
        exact ⟨_, _, _, _, _, _, _, _, _, rfl, rfl⟩
      · rw [if_neg g1, g2]
        exact ⟨_, _, _, _, _, _, _, _, _, rfl, rfl⟩
  · rw [if_neg c, if_pos rfl, if_pos rfl]
    exact ⟨_, _, _, _, _, _, _, _, a52, rfl, rfl⟩
