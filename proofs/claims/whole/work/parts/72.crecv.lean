/-! the class's receiver on paper takes a bit -/
def tB (T : Nat → Nat) : Prop := (4 ≤ T 0 ∧ T 0 ≤ 48) ∧ (1 ≤ T 1 ∧ T 1 ≤ 15) ∧ (1 ≤ T 2 ∧ T 2 ≤ 15) ∧ T 3 ≤ 1 ∧ (40 ≤ T 4 ∧ T 4 ≤ 4000) ∧ T 5 ≤ 1 ∧ (1 ≤ T 6 ∧ T 6 ≤ 8)
theorem cO_c2 {T0 : Nat} {S S' : Nat → Nat} {o : Nat → Int32} (h : cO T0 S o) (e : ∀ j, j < 13 ∨ 872 ≤ j → j ≠ 0 → j ≠ 5 → S' j = S j) : cO T0 S' o := by
  unfold cO
  rw [e 1 (by decide) (by decide) (by decide), e 2 (by decide) (by decide) (by decide), e 3 (by decide) (by decide) (by decide), e 4 (by decide) (by decide) (by decide), e 873 (by decide) (by decide) (by decide), e 872 (by decide) (by decide) (by decide), e 874 (by decide) (by decide) (by decide), e 6 (by decide) (by decide) (by decide), e 7 (by decide) (by decide) (by decide), e 8 (by decide) (by decide) (by decide), e 9 (by decide) (by decide) (by decide), e 10 (by decide) (by decide) (by decide), e 11 (by decide) (by decide) (by decide), e 12 (by decide) (by decide) (by decide)]
  exact h
theorem hu_7 (T S : Nat → Nat) (h : S 7 = 0) : aHu T S 7 = 0 := by
  unfold aHu
  by_cases c : (S 874 + 1) % T 6 = 0 ∧ 40 ≤ S 5 ∧ aSyn S = 0
  · rw [if_pos c]; rfl
  · rw [if_neg c]; exact h
theorem wr_7 (b : Int32) (S : Nat → Nat) : aWr b S 7 = S 7 := by
  unfold aWr
  by_cases c : b = -1
  · rw [if_pos c]; rfl
  · rw [if_neg c, aMd_lo _ _ (by decide)]; rfl
theorem hd_7 (T S : Nat → Nat) (h : S 7 = 0) (h8 : 40 ≤ S 8 + 1) : aHd T S 7 = 0 := by
  rw [aHd_is T S h8, su_n (by omega)]
  have e : aHU S 7 = 0 := by rw [aHU_lo S (by decide)]; exact h
  generalize hU : aHU S = U
  rw [hU] at e
  unfold aH4 aNr aSu
  by_cases c : U 1 = 1
  · rw [if_pos c]
    by_cases d : aSyn S = 0
    · rw [if_pos d]
      by_cases g : T 2 ≤ U 2 + 1
      · rw [if_pos g]; rfl
      · rw [if_neg g]; exact e
    · rw [if_neg d]; rfl
  · rw [if_neg c]
    by_cases d : aSyn S = 0
    · rw [if_pos d]; exact e
    · rw [if_neg d]
      by_cases g : U 3 + 1 < T 1
      · rw [if_pos g, wr_7]; exact e
      · rw [if_neg g]; rfl
theorem fin_21 {n : Nat} {T : Nat → Nat} {a22 : Nat → Int32} (hT : ∀ k, k < 7 → a22 k = nI (T k)) (tb : tB T) (o4 a6 a7 : Nat → Int32) (V : Nat → Nat) (o a ow : Nat → Int32) (jw jh : Int64) (ald : Nat → Int32) (was : Nat) (hw : was ≤ 2) (h1 : V 1 ≤ 2) (h7 : V 7 < 8 * T 0) (h872 : V 872 + 1 < 2 ^ 31) (h873 : V 873 ≤ 1) (hO : cO (T 0) V o) (hc : cC (fun k => V (13 + k)) a) (hV : cV V ow jw) (hJ : jh = lN (V 29 * 2 ^ 32 + V 30)) (hY : cY V ald) : ∃ o' a' ow' jw' jh' ald', b_X6_receive_21_105 n o4 a6 a7 o a22 a ow jw jh ald (nI was) = some (o', a', ow', jw', jh', ald') ∧ cR (T 0) (aWt T was V) o' a' ow' jw' jh' ald' := by
  obtain ⟨o', a', e1, e2, e3⟩ := watch_21 (T := T) (a22 := a22) (T 0) (hT 4 (by decide)) tb.2.2.2.2.1.2 V o a was hw h1 h872 h873 hO hc
  have t0 := tb.1
  have e105 : b_X6_receive_21_105 n o4 a6 a7 o a22 a ow jw jh ald (nI was) = some (o', a', ow, jw, jh, ald) := by
    unfold b_X6_receive_21_105 b_X6_receive_21_116
    by_cases c : was = 2
    · rw [if_pos c] at e1
      rw [if_pos (by rw [c]; rfl), e1, Option.bind_some]
    · rw [if_neg c] at e1
      rw [if_neg (fun z => c ((nI_eq2 (by omega)).mp z)), e1, Option.bind_some]
  refine ⟨_, _, _, _, _, _, e105, e2, e3, cV_cg hV (wt_05 (by decide)) (fr_wt _ _ _ 27 (by decide) (by decide)) (fr_wt _ _ _ 28 (by decide) (by decide)), ?_, cY_cg hY (wt_05 (by decide)) (wt_05 (by decide)) (fr_wt _ _ _ 31 (by decide) (by decide)) (fun i hi => fr_wt _ _ _ _ (by omega) (by omega)) (by omega)⟩
  rw [fr_wt _ _ _ 29 (by decide) (by decide), fr_wt _ _ _ 30 (by decide) (by decide)]
  exact hJ
theorem recv_21 {n sc hs : Nat} (hn : 80 ≤ n) {T : Nat → Nat} {a22 : Nat → Int32} (hT : ∀ k, k < 7 → a22 k = nI (T k)) (tb : tB T) {o4 o44 a6 a7 a49 : Nat → Int32} {j5 : Int64} {hd : Nat → Int32} {sy : Nat → Nat → Nat} (hS : iS (T 0) sc hs hd sy o4 j5 a6 a7 o44 a49) (S : Nat → Nat) (o a ow : Nat → Int32) (jw jh : Int64) (ald : Nat → Int32) {b B : Nat} (hbit : b < 2) (hB : 8 * B + 100 < 2 ^ 31) (hW : aW (T 0) B S) (hR : cR (T 0) S o a ow jw jh ald) : ∃ o' a' ow' jw' jh' ald', f_X6_receive_21 n o4 a6 a7 o a22 a ow jw jh ald (nI b) (nI (S 0 + 1)) = some (o', a', ow', jw', jh', ald') ∧ cR (T 0) (aSt T sc hd sy b S) o' a' ow' jw' jh' ald' := by
  obtain ⟨hO, hc, hV, hJ, hY⟩ := hR
  obtain ⟨w1, w2, w3, w4⟩ := hW
  have t0 := tb.1
  have h7 := w1.2.2.2.2.2.1
  have q1 := w1.1.1
  have k1 := hO.1.1
  obtain ⟨ow', jw', p1, p2⟩ := push_is hbit w3.1.1 w3.1.2.1 hV
  have lowp : ∀ j, (j < 13 ∨ 27 ≤ j) → (j ≠ 0 ∧ j ≠ 27 ∧ j ≠ 28 ∧ j ≠ 5) → aP1 b S j = S j := fun j h1 h2 => by rw [aP1_at b S h1, aPs_at b S h2]
  have hOU : cO (T 0) (aP1 b S) o := cO_c2 hO (fun j h1 h2 h3 => lowp j (by omega) (by omega))
  have hcU : cC (fun k => aP1 b S (13 + k)) (upd a (aKd (S 1)) (a (aKd (S 1)) + 1)) := by
    refine cC_cg (cC_ct hc (aKd_lt (S 1))) (fun k hk => ?_)
    show aP1 b S (13 + k) = S (13 + k) + dl k (aKd (S 1))
    rw [aP1_c b S hk]
    unfold dl
    by_cases c : k = aKd (S 1)
    · rw [if_pos c, if_pos c]
    · rw [if_neg c, if_neg c]; rfl
  have hVU : cV (aP1 b S) ow' jw' := cV_cg p2 (aP1_at b S (by decide)) (aP1_at b S (by decide)) (aP1_at b S (by decide))
  have hJU : jh = lN (aP1 b S 29 * 2 ^ 32 + aP1 b S 30) := by rw [lowp 29 (by decide) (by decide), lowp 30 (by decide) (by decide)]; exact hJ
  have hYU : cY (aP1 b S) ald := cY_cg hY (lowp 6 (by decide) (by decide)) (lowp 7 (by decide) (by decide)) (lowp 31 (by decide) (by decide)) (fun i hi => lowp _ (by omega) (by omega)) (by omega)
  have lwp := lwp1 (b := b) w1
  have hbp := hb_p1 (b := b) w3
  have m1 := lw_mid (sc := sc) (hd := hd) (sy := sy) (b := b) t0.2 (by omega) w1
  have u0 : aP1 b S 0 = S 0 + 1 := by rw [aP1_at b S (by decide)]; rfl
  have fin := fun (o a ow : Nat → Int32) (jw jh : Int64) (ald : Nat → Int32) => fin_21 (n := n) hT tb o4 a6 a7 (aMid T sc hd sy b S) o a ow jw jh ald (S 1) q1 m1.1.1 m1.2.2.2.2.2.1 (by have := m1.1.2.2.2.2.2.1; omega) m1.1.2.2.2.2.1
  have mV : ∀ j, j = 5 → aMid T sc hd sy b S j = aP1 b S j := fun j hj => by rw [mid_05 t0.2 h7 (by omega), aP1_at b S (by omega)]
  unfold f_X6_receive_21
  rw [p1, Option.bind_some, k1]
  by_cases c : S 1 = 0
  · have ek : aKd (S 1) = 6 := by unfold aKd; rw [if_pos c]
    have eM : aMid T sc hd sy b S = aHu T (aP1 b S) := by unfold aMid; rw [if_pos c]
    obtain ⟨z1, z2, z3⟩ := w1.2.2.2.2.2.2.2.2 c
    rw [ek] at hcU
    obtain ⟨o', a', e1, e2, e3⟩ := hunt_21 (T := T) (a22 := a22) (T 0) (hT 6 (by decide)) tb.2.2.2.2.2.2 (aP1 b S) o _ ow' jw' (nI (S 0 + 1)) (by rw [lowp 1 (by decide) (by decide)]; exact c) (by rw [lowp 6 (by decide) (by decide), lowp 7 (by decide) (by decide), lowp 9 (by decide) (by decide)]; exact ⟨z1, z2, z3⟩) (by rw [aP1_at b S (by decide)]; show S 5 + 1 < 2 ^ 31; omega) (by rw [lowp 874 (by decide) (by decide)]; have := w1.1.2.2.2.2.2.2; omega) hbp.1.2.1 hOU hcU hVU
    rw [if_pos (by rw [c]; rfl)]
    show ∃ o' a' ow'' jw'' jh' ald', Option.bind (f_X6_hunt_21 o a22 (upd a 6 (a 6 + 1)) ow' jw' (nI (S 0 + 1))) _ = _ ∧ _
    rw [e1, Option.bind_some]
    have f := fin o' a' ow' jw' jh ald
    unfold aSt
    rw [eM] at f ⊢
    refine f e2 e3 (cV_cg hVU (by rw [← eM]; exact mV 5 rfl) (fr_hu _ _ 27 (by decide) (by decide)) (fr_hu _ _ 28 (by decide) (by decide))) (by rw [fr_hu _ _ 29 (by decide) (by decide), fr_hu _ _ 30 (by decide) (by decide)]; exact hJU) (cY_0 hYU (fun _ => hu_7 _ _ (by rw [lowp 7 (by decide) (by decide)]; exact z2)))
  · rw [if_neg (fun z => c ((nI_eq0 (by omega)).mp z))]
    have c12 : S 1 = 1 ∨ S 1 = 2 := by omega
    have r6 := w1.2.1
    have body : ∀ t : Int32, t = nI (aKd (S 1)) → ∃ o' a' ow'' jw'' jh' ald', b_X6_receive_21_52 n o4 a6 a7 o a22 a ow' jw' jh ald (nI b) (nI (S 0 + 1)) (nI (S 1)) t = some (o', a', ow'', jw'', jh', ald') ∧ cR (T 0) (aSt T sc hd sy b S) o' a' ow'' jw'' jh' ald' := by
      intro t ht
      subst ht
      have hk := aKd_lt (S 1)
      unfold b_X6_receive_21_52 f_X6_loadBits_21
      rw [xin_t hk (by decide), cond_true, cond_true, nI_clamp (by omega), Option.bind_some, Option.bind_some, hT 0 (by decide), show (8 : Int32) * nI (T 0) = nI (8 * T 0) from pk_mul 8 _]
      by_cases d : S 6 = 1
      · have g := hO.2.2 d
        have s8 := w1.2.2.2.2.1
        have eM : aMid T sc hd sy b S = aHd T (aP1 b S) := by unfold aMid; rw [if_neg c, if_pos d]
        rw [g.1, nI_1, if_pos (nI_le (by omega) (by omega)), pk_sub (by omega)]
        by_cases x : S 8 + 1 = 40
        · have ex : nI (8 * T 0 + S 8 + 1 - 8 * T 0) = 40 := by rw [show 8 * T 0 + S 8 + 1 - 8 * T 0 = 40 by omega]; rfl
          rw [if_pos ex]
          have h8u : 40 ≤ aP1 b S 8 + 1 := by rw [lowp 8 (by decide) (by decide)]; omega
          have h7u : aP1 b S 7 = 0 := by rw [lowp 7 (by decide) (by decide)]; exact w1.2.2.2.2.2.2.1 d
          obtain ⟨o', a', e1, e2, e3⟩ := judge_21 (n := n) (by omega) (T := T) (T 0) hT ⟨tb.2.1.2, tb.2.2.1.2, tb.2.2.2.1⟩ (aP1 b S) (upd o 15 (nI (8 * T 0 + S 8 + 1))) _ ow' jw' (by rw [lowp 1 (by decide) (by decide)]; exact c12) h7u h8u (by have := lwp.1.2.1; omega) (by have := lwp.1.2.2.1; omega) lwp.1.2.2.2.1 hbp.1.1 hbp.1.2.1 hOU.1 g.2 hcU hVU
          rw [u0] at e1
          rw [e1, Option.bind_some]
          have f := fin o' a' ow' jw' jh ald
          unfold aSt
          rw [eM] at f ⊢
          exact f e2 e3 (cV_cg hVU (by rw [← eM]; exact mV 5 rfl) (fr_hd _ _ 27 (by decide) (by decide)) (fr_hd _ _ 28 (by decide) (by decide))) (by rw [fr_hd _ _ 29 (by decide) (by decide), fr_hd _ _ 30 (by decide) (by decide)]; exact hJU) (cY_0 hYU (fun _ => hd_7 _ _ h7u h8u))
        · have ex : ¬ nI (8 * T 0 + S 8 + 1 - 8 * T 0) = 40 := by
            rw [show 8 * T 0 + S 8 + 1 - 8 * T 0 = S 8 + 1 by omega]
            exact fun z => x ((nI_eq (b := 40) (by omega) (by decide)).mp z)
          rw [if_neg ex]
          have eH : aHd T (aP1 b S) = su (aP1 b S) 8 (aP1 b S 8 + 1) := by unfold aHd; rw [if_neg (by rw [lowp 8 (by decide) (by decide)]; omega)]
          have f := fin (upd o 15 (nI (8 * T 0 + S 8 + 1))) (upd a (aKd (S 1)) (a (aKd (S 1)) + 1)) ow' jw' jh ald
          unfold aSt
          rw [eM, eH] at f ⊢
          refine f ⟨hOU.1, fun q => ?_, fun q => ?_⟩ (cC_cg hcU (fun k hk => su_c _ _ _ (by decide) hk)) (cV_cg hVU rfl rfl rfl) hJU (cY_0 hYU (fun q => ?_))
          · have q' : aP1 b S 6 = 0 := q
            rw [lowp 6 (by decide) (by decide)] at q'
            omega
          · refine ⟨?_, g.2⟩
            show nI (8 * T 0 + S 8 + 1) = nI (8 * T 0 + (aP1 b S 8 + 1))
            rw [lowp 8 (by decide) (by decide), Nat.add_assoc]
          · have q' : aP1 b S 6 = 0 := q
            rw [lowp 6 (by decide) (by decide)] at q'
            omega
      · have d0 : S 6 = 0 := by omega
        have g := hO.2.1 d0
        have eM : aMid T sc hd sy b S = aLd T sc hd sy b (aP1 b S) := by unfold aMid; rw [if_neg c, if_neg d]
        rw [g.1, if_neg (nI_ge (by omega) (by omega))]
        obtain ⟨o', a', jh', ald', e1, e2, e3, e4, e5⟩ := carry_21 hn hT ⟨t0.2, tb.2.2.2.2.2.1⟩ hS (aP1 b S) o _ ald jh b hbit lwp.2.2.1 lwp.2.2.2.2.2.2.2.1 (by rw [lowp 6 (by decide) (by decide)]; exact d0) lwp.2.2.2.2.2.1 hbp.1.2.2.1 hbp.1.2.2.2.1 hOU hcU hJU hYU
        rw [e1, Option.bind_some]
        have f := fin o' a' ow' jw' jh' ald'
        have e27 : ∀ j, j = 27 ∨ j = 28 → aLd T sc hd sy b (aP1 b S) j = aP1 b S j := by
          intro j hj
          have e2 : aL2 b (aP1 b S) j = aP1 b S j := aL2_0 b _ (by omega) (by omega) (by have := lwp.2.2.2.2.2.1; omega)
          unfold aLd aL3
          by_cases g : 8 * T 0 ≤ aL2 b (aP1 b S) 7
          · rw [if_pos g]
            by_cases q : aL2 b (aP1 b S) 9 = 0
            · rw [if_pos q, su_n (by omega), su_n (by omega), e2]
            · rw [if_neg q]
              by_cases x : T 5 = 1 ∧ nI (aL2 b (aP1 b S) 11) = 1
              · rw [if_pos x, fr_ct _ (by decide) _ (by omega) (by omega), su_n (by omega), su_n (by omega), e2]
              · rw [if_neg x, aDl_lo t0.2 j (by omega) (by omega), su_n (by omega), su_n (by omega), e2]
          · rw [if_neg g, e2]
        unfold aSt
        rw [eM] at f ⊢
        exact f e2 e3 (cV_cg hVU (by rw [← eM]; exact mV 5 rfl) (e27 27 (by decide)) (e27 28 (by decide))) e4 e5
    by_cases d : S 1 = 1
    · rw [if_pos (by rw [d]; rfl)]
      exact body 12 (by unfold aKd; rw [if_neg c, if_pos d]; rfl)
    · rw [if_neg (fun z => d ((nI_eq1 (by omega)).mp z))]
      exact body 13 (by unfold aKd; rw [if_neg c, if_neg d]; rfl)
