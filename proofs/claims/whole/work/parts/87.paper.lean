/-! on paper: put aside, mirrored, taken on -/
theorem mid_hi {T : Nat → Nat} {sc : Nat} {hd : Nat → Int32} {sy : Nat → Nat → Nat} {b : Nat} {S : Nat → Nat} (hT : T 0 ≤ 48) (h7 : S 7 < 8 * T 0) {j : Nat} (hj : 875 ≤ j) : aMid T sc hd sy b S j = aPs b S j := by
  have e : aP1 b S j = aPs b S j := aP1_at b S (by omega)
  have e7 : aP1 b S 7 = S 7 := by rw [aP1_at b S (by decide), aPs_at b S (by decide)]
  have ct : ∀ (U : Nat → Nat) (k : Nat), k < 14 → aCt U k j = U j := fun U k hk => su_n (by omega)
  have tn : ∀ (to : Nat) (U : Nat → Nat), aTn to U j = U j := fun to U => aTn_fr to U (by omega) (by omega) (by omega)
  rw [← e]
  generalize hU : aP1 b S = U
  rw [hU] at e7
  unfold aMid
  rw [hU]
  by_cases c : S 1 = 0
  · rw [if_pos c]
    unfold aHu
    by_cases d : (U 874 + 1) % T 6 = 0 ∧ 40 ≤ U 5 ∧ aSyn U = 0
    · rw [if_pos d, su_n (by omega), tn, su_n (by omega)]
    · rw [if_neg d, su_n (by omega)]
  · rw [if_neg c]
    by_cases d : S 6 = 1
    · rw [if_pos d]
      unfold aHd
      by_cases g : 40 ≤ U 8 + 1
      · rw [if_pos g, su_n (by omega)]
        have k1 : aH1 U j = U j := by
          unfold aH1
          rw [su_n (by omega), su_n (by omega), su_n (by omega), su_n (by omega), su_n (by omega), su_n (by omega)]
        have k2 : aH2 (aSyn U) (aH1 U) j = U j := by
          unfold aH2
          by_cases d : aSyn U = 0
          · rw [if_pos d, ct _ _ (by decide), k1]
          · rw [if_neg d, k1]
        have k3 : aH3 (aSyn U) (aH2 (aSyn U) (aH1 U)) j = U j := by
          unfold aH3
          rw [ct _ _ (by decide), su_n (by omega), su_n (by omega), k2]
        unfold aH4
        by_cases q : aH3 (aSyn U) (aH2 (aSyn U) (aH1 U)) 1 = 1
        · rw [if_pos q]
          unfold aNr
          by_cases c : aSyn U = 0
          · rw [if_pos c]
            by_cases d : T 2 ≤ aH3 (aSyn U) (aH2 (aSyn U) (aH1 U)) 2 + 1
            · rw [if_pos d, su_n (by omega), su_n (by omega), su_n (by omega), tn, su_n (by omega), su_n (by omega), k3]
            · rw [if_neg d, su_n (by omega), su_n (by omega), k3]
          · rw [if_neg c, tn, k3]
        · rw [if_neg q]
          unfold aSu
          by_cases c : aSyn U = 0
          · rw [if_pos c, su_n (by omega), su_n (by omega), su_n (by omega), k3]
          · rw [if_neg c]
            by_cases d : aH3 (aSyn U) (aH2 (aSyn U) (aH1 U)) 3 + 1 < T 1
            · rw [if_pos d]
              unfold aWr
              by_cases x : (if aH3 (aSyn U) (aH2 (aSyn U) (aH1 U)) 4 = 1 ∧ T 3 = 1 then fnd 40 (aSyn U) else -1) = -1
              · rw [if_pos x, ct _ _ (by decide), su_n (by omega), su_n (by omega), su_n (by omega), su_n (by omega), k3]
              · rw [if_neg x, aMd_lo _ _ (by omega), ct _ _ (by decide), su_n (by omega), su_n (by omega), su_n (by omega), su_n (by omega), k3]
            · rw [if_neg d, tn, su_n (by omega), k3]
      · rw [if_neg g, su_n (by omega)]
    · rw [if_neg d]
      have e2 : aL2 b U j = U j := aL2_0 b U (by omega) (by omega) (by omega)
      unfold aLd aL3
      by_cases g : 8 * T 0 ≤ aL2 b U 7
      · rw [if_pos g]
        by_cases q : aL2 b U 9 = 0
        · rw [if_pos q, su_n (by omega), su_n (by omega), e2]
        · rw [if_neg q]
          by_cases x : T 5 = 1 ∧ nI (aL2 b U 11) = 1
          · rw [if_pos x, ct _ _ (by decide), su_n (by omega), su_n (by omega), e2]
          · rw [if_neg x, aDl_lo hT j (by omega) (by omega), su_n (by omega), su_n (by omega), e2]
      · rw [if_neg g, e2]
theorem st_hi {T : Nat → Nat} {sc : Nat} {hd : Nat → Int32} {sy : Nat → Nat → Nat} {b : Nat} {S : Nat → Nat} (hT : T 0 ≤ 48) (h7 : S 7 < 8 * T 0) {j : Nat} (hj : 875 ≤ j) : aSt T sc hd sy b S j = S j := by
  have k0 : aPs b S j = S j := aPs_at b S (by omega)
  have k1 : ∀ U : Nat → Nat, aW1 (S 1) U j = U j := fun U => su_n (by omega)
  unfold aSt aWt
  by_cases c : T 4 ≤ aW1 (S 1) (aMid T sc hd sy b S) 872
  · rw [if_pos c, su_n (by omega)]
    unfold aW2
    by_cases d : aW1 (S 1) (aMid T sc hd sy b S) 1 ≠ 2 ∧ aW1 (S 1) (aMid T sc hd sy b S) 873 = 0
    · rw [if_pos d]
      unfold aCt
      rw [su_n (by omega), k1, mid_hi hT h7 hj, k0]
    · rw [if_neg d, k1, mid_hi hT h7 hj, k0]
  · rw [if_neg c, k1, mid_hi hT h7 hj, k0]
theorem run_hi {T : Nat → Nat} {sc : Nat} {hd : Nat → Int32} {sy : Nat → Nat → Nat} {g : Nat → Nat} (tb : tB T) (hg : ∀ p, g p < 2) : ∀ (m B : Nat) (S : Nat → Nat), aW (T 0) B S → ∀ j, 875 ≤ j → aRun T sc hd sy g m S j = S j := by
  intro m
  induction m with
  | zero => intro B S h j hj; rfl
  | succ m ih =>
    intro B S h j hj
    have t0 := tb.1
    rw [aRun, ih (B + 1) _ (aW_st (by omega) t0.2 (hg _) h) j hj, st_hi t0.2 h.1.2.2.2.2.2.1 hj]
theorem m_open {n : Nat} (hn : 1000 ≤ n) (o44 : Nat → Int32) (F a52 : Nat → Int32) : f_X12_opens_44 n o44 F a52 = some (wr a52 0 875 F) := by
  have loop : ∀ (q k i : Nat), i + q = 875 → q < k → ∃ l, l_X12_copies_51_52_3 n F 0 0 875 k (nI i) (wr a52 0 i F) = some (l, wr a52 0 875 F) := by
    intro q
    induction q with
    | zero =>
      intro k i hi hk
      obtain ⟨k, rfl⟩ : ∃ q, k = q + 1 := ⟨k - 1, by omega⟩
      rw [l_X12_copies_51_52_3, if_pos (show 875 ≤ nI i from nI_le (a := 875) (by omega) (by omega)), show i = 875 by omega]
      exact ⟨_, rfl⟩
    | succ q ih =>
      intro k i hi hk
      obtain ⟨k, rfl⟩ : ∃ q, k = q + 1 := ⟨k - 1, by omega⟩
      rw [l_X12_copies_51_52_3, if_neg (show ¬ 875 ≤ nI i from nI_ge (b := 875) (by omega) (by decide)), show (0 : Int32) + nI i = nI (0 + i) from nI_add 0 i, xin_t (show 0 + i < 875 by omega) (by decide), cond_true, cond_true, nI_clamp (by omega), nI_1]
      have e := wr_s a52 0 i F
      rw [Nat.zero_add] at e ⊢
      rw [e]
      exact ih k (i + 1) (by omega) (by omega)
  unfold f_X12_opens_44 f_X12_copies_51_52
  obtain ⟨l, h⟩ := loop 875 n 0 (by decide) (by omega)
  rw [wr_0] at h
  have h' : l_X12_copies_51_52_3 n F 0 0 875 n 0 a52 = some (l, wr a52 0 875 F) := h
  rw [h', Option.bind_some, Option.bind_some]
theorem m_close0 {n : Nat} (hn : 1000 ≤ n) (o44 : Nat → Int32) (F G : Nat → Int32) : f_X12_closes_44 n o44 F G = some (wr F 0 875 G) := by
  have loop : ∀ (q k i : Nat), i + q = 875 → q < k → ∃ l, l_X12_copies_52_51_3 n G 0 0 875 k (nI i) (wr F 0 i G) = some (l, wr F 0 875 G) := by
    intro q
    induction q with
    | zero =>
      intro k i hi hk
      obtain ⟨k, rfl⟩ : ∃ q, k = q + 1 := ⟨k - 1, by omega⟩
      rw [l_X12_copies_52_51_3, if_pos (show 875 ≤ nI i from nI_le (a := 875) (by omega) (by omega)), show i = 875 by omega]
      exact ⟨_, rfl⟩
    | succ q ih =>
      intro k i hi hk
      obtain ⟨k, rfl⟩ : ∃ q, k = q + 1 := ⟨k - 1, by omega⟩
      rw [l_X12_copies_52_51_3, if_neg (show ¬ 875 ≤ nI i from nI_ge (b := 875) (by omega) (by decide)), show (0 : Int32) + nI i = nI (0 + i) from nI_add 0 i, xin_t (show 0 + i < 875 by omega) (by decide), cond_true, cond_true, nI_clamp (by omega), nI_1]
      have e := wr_s F 0 i G
      rw [Nat.zero_add] at e ⊢
      rw [e]
      exact ih k (i + 1) (by omega) (by omega)
  unfold f_X12_closes_44 f_X12_copies_52_51
  obtain ⟨l, h⟩ := loop 875 n 0 (by decide) (by omega)
  rw [wr_0] at h
  have h' : l_X12_copies_52_51_3 n G 0 0 875 n 0 F = some (l, wr F 0 875 G) := h
  rw [h', Option.bind_some, Option.bind_some]
theorem m_close {n : Nat} (hn : 1000 ≤ n) (o44 : Nat → Int32) {R S : Nat → Nat} (a52 : Nat → Int32) (h : ∀ j, 875 ≤ j → R j = S j) : f_X12_closes_44 n o44 (sn R) (wr a52 0 875 (sn S)) = some (sn S) := by
  rw [m_close0 hn]
  congr 1
  funext j
  unfold wr
  by_cases c : 0 ≤ j ∧ j < 0 + 875
  · rw [if_pos c, if_pos ⟨by omega, by omega⟩]
    show sn S (j - 0 - 0) = sn S j
    rw [Nat.sub_zero, Nat.sub_zero]
  · rw [if_neg c, sn_ap, h j (by omega), sn_ap]
/-- the receiver on paper made like the real one -/
theorem mirror_is {T : Nat → Nat} {B : Nat} {S : Nat → Nat} {a1 o a ow : Nat → Int32} {jw jh : Int64} {ald : Nat → Int32} (hT : ∀ k, k < 7 → a1 k = nI (T k)) (hW : aW (T 0) B S) (hR : cR (T 0) S o a ow jw jh ald) (o21 a22 a23 o24 : Nat → Int32) (j24 j25 : Int64) (a26 : Nat → Int32) : ∃ o' a22' a' ow' jw' jh' ald', f_X6_mirror_21_16 a1 o a ow jw jh ald o21 a22 a23 o24 j24 j25 a26 = some (o', a22', a', ow', jw', jh', ald') ∧ (∀ k, k < 7 → a22' k = nI (T k)) ∧ cR (T 0) S o' a' ow' jw' jh' ald' := by
  obtain ⟨⟨⟨k1, k2, k3, k4, k5, k6, k7⟩, k8, k9⟩, h2, ⟨v1, v2, v3⟩, h4, ⟨ly, y1, y2⟩⟩ := hR
  obtain ⟨⟨⟨w1, w2, w3, w4, w5, w6, w7⟩, g1, g2, -⟩, -⟩ := hW
  have c0 : Int32.toNatClampNeg 0 = 0 := nI_clamp (n := 0) (by decide)
  have c7 : Int32.toNatClampNeg 7 = 7 := nI_clamp (n := 7) (by decide)
  have c14 : Int32.toNatClampNeg 14 = 14 := nI_clamp (n := 14) (by decide)
  have c48 : Int32.toNatClampNeg 48 = 48 := nI_clamp (n := 48) (by decide)
  have x7 : xcp 0 0 7 7 7 = true := by decide
  have x14 : xcp 0 0 14 14 14 = true := by decide
  have x48 : xcp 0 0 48 48 48 = true := by decide
  have xf : xfb ald 0 48 = true := by
    unfold xfb
    rw [c0, c48]
    refine List.all_eq_true.mpr (fun q hq => ?_)
    have := List.mem_range.mp hq
    rw [Nat.zero_add, (y1 q this).2]
    exact pk_fb _
  have b01 : ∀ x, x ≤ 1 → xb (nI x) = true := by
    intro x hx
    have : x = 0 ∨ x = 1 := by omega
    rcases this with e | e <;> rw [e] <;> decide
  have s6 : S 6 = 0 ∨ S 6 = 1 := by omega
  have x11 : xb (o 11) = true := by
    rcases s6 with h | h
    · rw [(k8 h).2.1]; exact b01 _ g2
    · rw [(k9 h).2]; decide
  have x12 : xb (o 12) = true := by rw [k5]; exact b01 _ w5
  unfold f_X6_mirror_21_16 f_X10_mirror_24_18 f_X2_mirror_25_19
  rw [x7, x14, x48, xf, x11, x12, c0, c7, c14, c48]
  simp only [cond_true, Option.bind_some]
  refine ⟨_, _, _, _, _, _, _, rfl, fun k hk => ?_, ⟨⟨k1, k2, k3, k4, k5, k6, k7⟩, k8, k9⟩, fun k hk => ?_, ⟨v1, v2, v3⟩, h4, ly, fun i hi => ⟨(y1 i hi).1, ?_⟩, y2⟩
  · rw [pk_cpy_in (Nat.zero_le _) (by omega), Nat.zero_add, Nat.sub_zero]; exact hT k hk
  · rw [pk_cpy_in (Nat.zero_le _) (by omega), Nat.zero_add, Nat.sub_zero]; exact h2 k hk
  · rw [pk_cpy_in (Nat.zero_le _) (by omega), Nat.zero_add, Nat.sub_zero]; exact (y1 i hi).2
theorem adv_21 {n sc hs : Nat} (hn : 80 ≤ n) {T : Nat → Nat} {a22 : Nat → Int32} (hT : ∀ k, k < 7 → a22 k = nI (T k)) (tb : tB T) {o2 a3 o4 o44 a6 a7 a49 : Nat → Int32} {j5 : Int64} {hd : Nat → Int32} {sy : Nat → Nat → Nat} (hS : iS (T 0) sc hs hd sy o4 j5 a6 a7 o44 a49) {sz : Nat} (hz : sz ≤ 9600) {bt : Nat → Bool} (ha : ∀ p, p < sz → a3 p = b2i (bt p)) (f : Int32) (e : Nat) (he : e ≤ sz) : ∀ (m k B : Nat) (S : Nat → Nat) (o a ow : Nat → Int32) (jw jh : Int64) (ald : Nat → Int32), S 0 + m = e → m < k → 8 * (B + m) + 100 < 2 ^ 31 → aW (T 0) B S → cR (T 0) S o a ow jw jh ald → ∃ l o' a' ow' jw' jh' ald', l_X11_advance_0_21_9 n o2 a3 o4 a6 a7 a22 (nI e) f k (nI (S 0)) o a ow jw jh ald = some (l, o', a', ow', jw', jh', ald') ∧ cR (T 0) (aRun T sc hd sy (gF bt f) m S) o' a' ow' jw' jh' ald' := by
  intro m
  induction m with
  | zero =>
    intro k B S o a ow jw jh ald h0 hk hB hW hR
    obtain ⟨k, rfl⟩ : ∃ q, k = q + 1 := ⟨k - 1, by omega⟩
    rw [l_X11_advance_0_21_9, if_pos (nI_le (by omega) (by omega))]
    exact ⟨_, _, _, _, _, _, _, rfl, hR⟩
  | succ m ih =>
    intro k B S o a ow jw jh ald h0 hk hB hW hR
    obtain ⟨k, rfl⟩ : ∃ q, k = q + 1 := ⟨k - 1, by omega⟩
    have t0 := tb.1
    obtain ⟨o', a', ow', jw', jh', ald', e1, e2⟩ := recv_21 hn hT tb hS S o a ow jw jh ald (b := gF bt f (S 0)) (gF_lt bt f _) (by omega) hW hR
    have s0 := aSt_0 (sc := sc) (hd := hd) (sy := sy) (b := gF bt f (S 0)) t0.2 hW.1.2.2.2.2.2.1
    obtain ⟨l, x1, x2, x3, x4, x5, x6, f1, f2⟩ := ih k (B + 1) _ o' a' ow' jw' jh' ald' (by rw [s0]; omega) (by omega) (by omega) (aW_st (by omega) t0.2 (gF_lt bt f _) hW) e2
    rw [s0] at f1
    refine ⟨l, x1, x2, x3, x4, x5, x6, ?_, f2⟩
    rw [l_X11_advance_0_21_9, if_neg (nI_ge (by omega) (by omega)), bitAt_is o2 a3 (by omega), Option.bind_some, ha _ (by omega), b2i_bn, bn_neg, nI_1]
    by_cases c : nI (S 0) = f
    · have eg : gF bt f (S 0) = bn (!bt (S 0)) := if_pos c
      rw [eg] at e1
      rw [if_pos c, e1, Option.bind_some]
      exact f1
    · have eg : gF bt f (S 0) = bn (bt (S 0)) := if_neg c
      rw [eg] at e1
      rw [if_neg c, e1, Option.bind_some]
      exact f1
theorem advf_21 {n sc hs : Nat} (hn : 10000 ≤ n) {T : Nat → Nat} {a22 : Nat → Int32} (hT : ∀ k, k < 7 → a22 k = nI (T k)) (tb : tB T) {o2 a3 o4 o44 a6 a7 a49 : Nat → Int32} {j5 : Int64} {hd : Nat → Int32} {sy : Nat → Nat → Nat} (hS : iS (T 0) sc hs hd sy o4 j5 a6 a7 o44 a49) {sz : Nat} (hz : sz ≤ 9600) {bt : Nat → Bool} (ha : ∀ p, p < sz → a3 p = b2i (bt p)) (f : Int32) (m : Nat) {B : Nat} {S : Nat → Nat} (he : S 0 + m ≤ sz) (q : Int32) (hq : q = nI (S 0 + m)) (h2 : o2 2 = nI (S 0)) (hB : 8 * (B + m) + 100 < 2 ^ 31) (hW : aW (T 0) B S) {o a ow : Nat → Int32} {jw jh : Int64} {ald : Nat → Int32} (hR : cR (T 0) S o a ow jw jh ald) : ∃ o' a' ow' jw' jh' ald', f_X11_advance_0_21 n o2 a3 o4 a6 a7 o a22 a ow jw jh ald q f = some (o', a', ow', jw', jh', ald') ∧ cR (T 0) (aRun T sc hd sy (gF bt f) m S) o' a' ow' jw' jh' ald' := by
  subst hq
  obtain ⟨l, o', a', ow', jw', jh', ald', e1, e2⟩ := adv_21 (n := n) (by omega) hT tb hS hz ha f (S 0 + m) he m n B S o a ow jw jh ald rfl (by omega) hB hW hR
  unfold f_X11_advance_0_21
  rw [h2, e1, Option.bind_some]
  exact ⟨_, _, _, _, _, _, rfl, e2⟩
theorem k_look {n sc hs : Nat} (hn : 10000 ≤ n) {T : Nat → Nat} {a1 a45 : Nat → Int32} (hT : iT T a1 a45) {o2 a3 o4 o44 a6 a7 a48 a49 a52 a53 a54 : Nat → Int32} {j5 : Int64} {hd : Nat → Int32} {sy : Nat → Nat → Nat} (hS : iS (T 0) sc hs hd sy o4 j5 a6 a7 o44 a49) {sz B : Nat} {bt : Nat → Bool} {S : Nat → Nat} {o a ow : Nat → Int32} {jw jh : Int64} {ald : Nat → Int32} (h15 : o44 15 = 0) (hB : 8 * (B + 9600) + 100 < 2 ^ 31) (hL : iL sz (S 0) bt o2 a3 o44 a48 (sn S)) (hW : aW (T 0) B S) (hR : cR (T 0) S o a ow jw jh ald) (o21 a22 a23 o24 : Nat → Int32) (j24 j25 : Int64) (a26 : Nat → Int32) (p1 : Int32) : ∃ x o21' a22' a23' o24' j24' j25' a26' a52', f_X11_look_0 n a1 o2 a3 o4 a6 a7 o a ow jw jh ald o21 a22 a23 o24 j24 j25 a26 p1 = some (x, o21', a22', a23', o24', j24', j25', a26') ∧ f_X12_look_44 n o44 a45 a48 a49 (sn S) a52 a53 a54 p1 = some (x, upd o44 0 0, sn S, a52', a53, a54) := by
  obtain ⟨l1, l2, l3, l4, l5, l6, l7⟩ := id hL
  have hS0 : iS (T 0) sc hs hd sy o4 j5 a6 a7 (upd o44 0 0) a49 := hS
  have n1 : upd o44 0 0 15 ≠ 1 := by show o44 15 ≠ 1; rw [h15]; decide
  have n2 : upd o44 0 0 15 ≠ 2 := by show o44 15 ≠ 2; rw [h15]; decide
  have h6 : upd o44 0 0 6 = nI sz := l3
  unfold f_X11_look_0 f_X12_look_44
  rw [isW, isIn_w p1 0 9600 0 9600 rfl rfl]
  simp only [Option.bind_some]
  by_cases c : 0 ≤ p1 ∧ p1 ≤ 9600
  · rw [if_pos c, if_neg one_ne, if_neg one_ne]
    obtain ⟨L, -, h2, rfl⟩ := i32_in (a := 0) (b := 9600) (by decide) c (by decide)
    have hm : ∀ p, p < sz → a48 p = nI (gF bt (-1) p) := fun p hp => by rw [gF_no bt (by omega), ← b2i_bn]; exact (l7 p hp).2
    obtain ⟨q1, q2, q3, q4, q5, q6, q7, e1, e2, e3⟩ := mirror_is (T := T) (fun k hk => (hT.1 k hk).1) hW hR o21 a22 a23 o24 j24 j25 a26
    rw [e1, Option.bind_some, endOf_is l1 l2 l5 l6 h2 _ rfl, Option.bind_some]
    obtain ⟨r1, r2, r3, r4, r5, r6, f1, f2⟩ := advf_21 hn e2 hT.2 hS l6 (fun p hp => (l7 p hp).1) (-1) (min L (sz - S 0)) (by omega) _ rfl l2 (by omega) hW e3
    simp only []
    rw [f1, Option.bind_some, m_open (by omega), Option.bind_some, m_takes hn hT hS0 l6 h6 (gF_lt bt (-1)) hm L h2 _ rfl a53 a54 l5 hB hW, Option.bind_some, aRs_no _ _ _ _ _ n1, aRs_no _ _ _ _ _ n2, m_close (by omega) _ _ (run_hi hT.2 (gF_lt bt (-1)) _ B S hW), Option.bind_some]
    refine ⟨_, _, _, _, _, _, _, _, wr a52 0 875 (sn S), rfl, ?_⟩
    show some (sn (aRun T sc hd sy (gF bt (-1)) (min L (sz - S 0)) S) 1, _, _, _, _, _) = some (r1 7, _, _, _, _, _)
    rw [sn_ap, f2.1.1.1]
  · rw [if_neg c, if_pos rfl, if_pos rfl]
    exact ⟨_, _, _, _, _, _, _, _, _, rfl, rfl⟩
/-- a bit of the model's line flipped, and back -/
theorem flip_m {sz at_ : Nat} {bt : Nat → Bool} {o2 a3 o44 a48 a51 : Nat → Int32} (hL : iL sz at_ bt o2 a3 o44 a48 a51) {i : Nat} (hi : i < sz) : (∀ p, p < sz → upd a48 i (1 - a48 i) p = nI (gF bt (nI i) p)) ∧ upd (upd a48 i (1 - a48 i)) i (1 - upd a48 i (1 - a48 i) i) = a48 := by
  obtain ⟨l1, l2, l3, l4, l5, l6, l7⟩ := hL
  constructor
  · intro p hp
    unfold gF
    by_cases c : p = i
    · rw [c, pk_us, if_pos rfl, (l7 i hi).2, b2i_bn, bn_neg]
    · rw [pk_un c, if_neg (fun z => c ((nI_eq (by omega) (by omega)).mp z)), (l7 p hp).2, b2i_bn]
  · rw [upd_upd, pk_us, upd_id]
    rw [(l7 i hi).2, b2i_bn, bn_neg, bn_neg, Bool.not_not]
theorem k_would {n sc hs : Nat} (hn : 10000 ≤ n) {T : Nat → Nat} {a1 a45 : Nat → Int32} (hT : iT T a1 a45) {o2 a3 o4 o44 a6 a7 a48 a49 a52 a53 a54 : Nat → Int32} {j5 : Int64} {hd : Nat → Int32} {sy : Nat → Nat → Nat} (hS : iS (T 0) sc hs hd sy o4 j5 a6 a7 o44 a49) {sz B : Nat} {bt : Nat → Bool} {S : Nat → Nat} {o a ow : Nat → Int32} {jw jh : Int64} {ald : Nat → Int32} (h15 : o44 15 = 0) (hB : 8 * (B + 9600) + 100 < 2 ^ 31) (hL : iL sz (S 0) bt o2 a3 o44 a48 (sn S)) (hW : aW (T 0) B S) (hR : cR (T 0) S o a ow jw jh ald) (o21 a22 a23 o24 : Nat → Int32) (j24 j25 : Int64) (a26 : Nat → Int32) (p1 p2 : Int32) : ∃ x o21' a22' a23' o24' j24' j25' a26' a52', f_X11_would_0 n a1 o2 a3 o4 a6 a7 o a ow jw jh ald o21 a22 a23 o24 j24 j25 a26 p1 p2 = some (x, o21', a22', a23', o24', j24', j25', a26') ∧ f_X12_would_44 n o44 a45 a48 a49 (sn S) a52 a53 a54 p1 p2 = some (x, upd o44 0 0, a48, sn S, a52', a53, a54) := by
  obtain ⟨l1, l2, l3, l4, l5, l6, l7⟩ := id hL
  have hS0 : iS (T 0) sc hs hd sy o4 j5 a6 a7 (upd o44 0 0) a49 := hS
  have n1 : upd o44 0 0 15 ≠ 1 := by show o44 15 ≠ 1; rw [h15]; decide
  have n2 : upd o44 0 0 15 ≠ 2 := by show o44 15 ≠ 2; rw [h15]; decide
  have h6 : upd o44 0 0 6 = nI sz := l3
  unfold f_X11_would_0 f_X12_would_44
  rw [has_is l6 l1, isBit_is (o44 := upd o44 0 0) l6 l3, isW, isIn_w p2 0 5 0 5 rfl rfl]
  simp only [Option.bind_some]
  by_cases c : 0 ≤ p1 ∧ p1 < nI sz
  · rw [if_pos c, if_neg one_ne, if_neg one_ne]
    obtain ⟨i, hi, rfl⟩ := nI_of (Int32.not_lt.mpr c.1)
    have his : i < sz := (nI_ltI hi (by omega)).mp c.2
    by_cases c2 : 0 ≤ p2 ∧ p2 ≤ 5
    · rw [if_pos c2, if_neg one_ne, if_neg one_ne, l2, l4]
      by_cases d : nI (S 0) ≤ nI i
      · rw [if_pos d, if_pos d]
        obtain ⟨q1, q2, q3, q4, q5, q6, q7, e1, e2, e3⟩ := mirror_is (T := T) (fun k hk => (hT.1 k hk).1) hW hR o21 a22 a23 o24 j24 j25 a26
        obtain ⟨r1, r2, r3, r4, r5, r6, f1, f2⟩ := advf_21 hn e2 hT.2 hS l6 (fun p hp => (l7 p hp).1) (nI i) (sz - S 0) (by omega) (o2 1) (by rw [l1]; congr 1; omega) l2 (by omega) hW e3
        obtain ⟨g1, g2⟩ := flip_m hL his
        have hmin : min 9600 (sz - S 0) = sz - S 0 := by omega
        have tk := m_takes hn hT hS0 l6 h6 (gF_lt bt (nI i)) g1 9600 (by decide) 9600 rfl a53 a54 l5 hB hW
        rw [hmin] at tk
        rw [e1, Option.bind_some]
        simp only []
        rw [f1, Option.bind_some, m_open (by omega), Option.bind_some, xin_t (show i < 9600 by omega) (by decide), cond_true, cond_true, nI_clamp (by omega), tk, Option.bind_some, cond_true, cond_true, aRs_no _ _ _ _ _ n1, aRs_no _ _ _ _ _ n2, g2]
        unfold b_X12_would_44_160
        simp only []
        rw [m_close (by omega) _ _ (run_hi hT.2 (gF_lt bt (nI i)) _ B S hW)]
        simp only [Option.bind_some, sn_ap]
        have k := f2.2.1
        have k3 : r2 3 = nI (aRun T sc hd sy (gF bt (nI i)) (sz - S 0) S 16) := k 3 (by decide)
        have k1 : r2 1 = nI (aRun T sc hd sy (gF bt (nI i)) (sz - S 0) S 14) := k 1 (by decide)
        have k2 : r2 2 = nI (aRun T sc hd sy (gF bt (nI i)) (sz - S 0) S 15) := k 2 (by decide)
        have k5 : r2 5 = nI (aRun T sc hd sy (gF bt (nI i)) (sz - S 0) S 18) := k 5 (by decide)
        have k9 : r2 9 = nI (aRun T sc hd sy (gF bt (nI i)) (sz - S 0) S 22) := k 9 (by decide)
        rw [k3, k1, k2, k5, k9, f2.1.1.1]
        by_cases y0 : p2 = 0
        · rw [if_pos y0, if_pos y0]; exact ⟨_, _, _, _, _, _, _, _, _, rfl, rfl⟩
        rw [if_neg y0, if_neg y0]
        by_cases y1 : p2 = 1
        · rw [if_pos y1, if_pos y1]; exact ⟨_, _, _, _, _, _, _, _, _, rfl, rfl⟩
        rw [if_neg y1, if_neg y1]
        by_cases y2 : p2 = 2
        · rw [if_pos y2, if_pos y2]; exact ⟨_, _, _, _, _, _, _, _, _, rfl, rfl⟩
        rw [if_neg y2, if_neg y2]
        by_cases y3 : p2 = 3
        · rw [if_pos y3, if_pos y3]; exact ⟨_, _, _, _, _, _, _, _, _, rfl, rfl⟩
        rw [if_neg y3, if_neg y3]
        by_cases y4 : p2 = 4
        · rw [if_pos y4, if_pos y4]; exact ⟨_, _, _, _, _, _, _, _, _, rfl, rfl⟩
        · rw [if_neg y4, if_neg y4]; exact ⟨_, _, _, _, _, _, _, _, _, rfl, rfl⟩
      · rw [if_neg d, if_neg d]
        exact ⟨_, _, _, _, _, _, _, _, _, rfl, rfl⟩
    · rw [if_neg c2, if_pos rfl, if_pos rfl]
      exact ⟨_, _, _, _, _, _, _, _, _, rfl, rfl⟩
  · rw [if_neg c, if_pos rfl, if_pos rfl]
    exact ⟨_, _, _, _, _, _, _, _, _, rfl, rfl⟩
