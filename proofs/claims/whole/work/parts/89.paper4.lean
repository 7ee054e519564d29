/-! on paper: tuned, starts -/
theorem k_tuned {n sc hs : Nat} (hn : 10000 ≤ n) {T : Nat → Nat} {a1 a45 : Nat → Int32} (hT : iT T a1 a45) {o2 a3 o4 o44 a6 a7 a48 a49 a52 a53 a54 : Nat → Int32} {j5 : Int64} {hd : Nat → Int32} {sy : Nat → Nat → Nat} (hS : iS (T 0) sc hs hd sy o4 j5 a6 a7 o44 a49) {sz B : Nat} {bt : Nat → Bool} {S : Nat → Nat} {o a ow : Nat → Int32} {jw jh : Int64} {ald : Nat → Int32} (h15 : o44 15 = 0) (hB : 8 * (B + 9600) + 100 < 2 ^ 31) (hL : iL sz (S 0) bt o2 a3 o44 a48 (sn S)) (hW : aW (T 0) B S) (hR : cR (T 0) S o a ow jw jh ald) {a36 a46 a47 : Nat → Int32} (hC : iC o44 a36 a46 a47) (o21 a22 a23 o24 : Nat → Int32) (j24 j25 : Int64) (a26 : Nat → Int32) (p1 : Int32) : ∃ x o21' a22' a23' o24' j24' j25' a26' a52', f_X11_tuned_0 n a1 o2 a3 o4 a6 a7 o a ow jw jh ald o21 a22 a23 o24 j24 j25 a26 p1 = some (x, o21', a22', a23', o24', j24', j25', a26') ∧ f_X12_tuned_44 n o44 a45 a46 a47 a48 a49 (sn S) a52 a53 a54 p1 = some (x, upd o44 0 0, a45, sn S, a52', a53, a54) := by
  obtain ⟨l1, l2, l3, l4, l5, l6, l7⟩ := id hL
  have hS0 : iS (T 0) sc hs hd sy o4 j5 a6 a7 (upd o44 0 0) a49 := hS
  have n1 : upd o44 0 0 15 ≠ 1 := by show o44 15 ≠ 1; rw [h15]; decide
  have n2 : upd o44 0 0 15 ≠ 2 := by show o44 15 ≠ 2; rw [h15]; decide
  have h6 : upd o44 0 0 6 = nI sz := l3
  unfold f_X11_tuned_0 f_X12_tuned_44
  rw [isW, isIn_w p1 1 3 1 3 rfl rfl]
  simp only [Option.bind_some]
  by_cases c : 1 ≤ p1 ∧ p1 ≤ 3
  · rw [if_pos c, if_neg one_ne, if_neg one_ne]
    obtain ⟨w, w1, w2, rfl⟩ := i32_in (a := 1) (b := 3) (by decide) c (by decide)
    have hw7 : w < 7 := by omega
    obtain ⟨lo, hi, x1, x2, x3, x4⟩ := xsf_lim w hw7
    have hm : ∀ p, p < sz → a48 p = nI (gF bt (-1) p) := fun p hp => by rw [gF_no bt (by omega), ← b2i_bn]; exact (l7 p hp).2
    have loop : ∀ (q k k' v : Nat) (b f z : Int32) (o21 a22 a23 o24 : Nat → Int32) (j24 j25 : Int64) (a26 a52 : Nat → Int32), v + q = hi + 1 → lo ≤ v → q < k → q < k' → ∃ b' f' l l' z' o21' a22' a23' o24' j24' j25' a26' a52', l_X11_tuned_0_23 n a1 o2 a3 o4 a6 a7 o a ow jw jh ald (nI w) k b f (nI v) o21 a22 a23 o24 j24 j25 a26 = some (b', f', l, o21', a22', a23', o24', j24', j25', a26') ∧ l_X12_tuned_44_40 n (upd o44 0 0) a46 a47 a48 a49 (nI w) (a45 w) k' b f (nI v) (upd a45 w z) (sn S) a52 a53 a54 = some (b', f', l', upd a45 w z', sn S, a52', a53, a54) := by
      intro q
      induction q with
      | zero =>
        intro k k' v b f z o21 a22 a23 o24 j24 j25 a26 a52 hv hv2 hk hk'
        obtain ⟨k, rfl⟩ : ∃ q, k = q + 1 := ⟨k - 1, by omega⟩
        obtain ⟨k', rfl⟩ : ∃ q, k' = q + 1 := ⟨k' - 1, by omega⟩
        rw [l_X11_tuned_0_23, l_X12_tuned_44_40, xin_t hw7 (by decide), cond_true, cond_true, nI_clamp (by omega), (hC.2.1 w hw7).2, x2, if_pos (nI_lt (by omega) (by omega)), if_pos (nI_lt (by omega) (by omega))]
        exact ⟨_, _, _, _, _, _, _, _, _, _, _, _, _, rfl, rfl⟩
      | succ q ih =>
        intro k k' v b f z o21 a22 a23 o24 j24 j25 a26 a52 hv hv2 hk hk'
        obtain ⟨k, rfl⟩ : ∃ q, k = q + 1 := ⟨k - 1, by omega⟩
        obtain ⟨k', rfl⟩ : ∃ q, k' = q + 1 := ⟨k' - 1, by omega⟩
        have hT2 := iT_set hT hw7 (v := v) (by rw [x1]; exact nI_le hv2 (by omega)) (by rw [x2]; exact nI_le (by omega) (by omega)) (by omega)
        have e0 : (fun j => if j = w then v else T j) 0 = T 0 := if_neg (by omega)
        obtain ⟨q1, q2, q3, q4, q5, q6, q7, e1, e2, e3⟩ := mirror_is (T := T) (fun k hk => (hT.1 k hk).1) hW hR o21 a22 a23 o24 j24 j25 a26
        have e2' : ∀ k, k < 7 → upd q2 w (nI v) k = nI ((fun j => if j = w then v else T j) k) := by
          intro k hk
          by_cases e : k = w
          · subst e
            rw [pk_us]
            show nI v = nI (if k = k then v else T k)
            rw [if_pos rfl]
          · rw [pk_un e, e2 k hk]
            show nI (T k) = nI (if k = w then v else T k)
            rw [if_neg e]
        have hS2 : iS ((fun j => if j = w then v else T j) 0) sc hs hd sy o4 j5 a6 a7 (upd o44 0 0) a49 := by rw [e0]; exact hS0
        have hW2 : aW ((fun j => if j = w then v else T j) 0) B S := by rw [e0]; exact hW
        have e3' : cR ((fun j => if j = w then v else T j) 0) S q1 q3 q4 q5 q6 q7 := by rw [e0]; exact e3
        obtain ⟨r1, r2, r3, r4, r5, r6, f1, f2⟩ := advf_21 hn e2' hT2.2 hS2 l6 (fun p hp => (l7 p hp).1) (-1) (sz - S 0) (by omega) (o2 1) (by rw [l1]; congr 1; omega) l2 (by omega) hW2 e3'
        have tk := m_takes hn hT2 hS2 l6 h6 (gF_lt bt (-1)) hm 9600 (by decide) 9600 rfl a53 a54 l5 hB hW2
        rw [show min 9600 (sz - S 0) = sz - S 0 by omega] at tk
        have k3 := f2.2.1 3 (by decide)
        have k9 := f2.2.1 9 (by decide)
        rw [l_X11_tuned_0_23, l_X12_tuned_44_40, xin_t hw7 (by decide), cond_true, cond_true, nI_clamp (by omega), (hC.2.1 w hw7).2, x2, if_neg (nI_nlt (by omega) (by omega)), if_neg (nI_nlt (by omega) (by omega)), e1, Option.bind_some, cond_true, cond_true, upd_upd]
        simp only []
        rw [f1, Option.bind_some, m_open (by omega), Option.bind_some, tk, Option.bind_some, aRs_no _ _ _ _ _ n1, aRs_no _ _ _ _ _ n2]
        simp only []
        rw [m_close (n := n) (by omega) _ _ (run_hi (T := fun j => if j = w then v else T j) hT2.2 (gF_lt bt (-1)) _ B S hW2), Option.bind_some, sn_ap, sn_ap, nI_1]
        have k3' : nI (aRun (fun j => if j = w then v else T j) sc hd sy (gF bt (-1)) (sz - S 0) S 16) = r2 3 := k3.symm
        have k9' : nI (aRun (fun j => if j = w then v else T j) sc hd sy (gF bt (-1)) (sz - S 0) S 22) = r2 9 := k9.symm
        rw [k3', k9']
        have ih' := fun b f => ih k k' (v + 1) b f (nI v) r1 (upd q2 w (nI v)) r2 r3 r4 r5 r6 (wr a52 0 875 (sn S)) (by omega) (by omega) (by omega) (by omega)
        by_cases y : b = -1
        · rw [if_pos y, if_pos y]; exact ih' _ _
        · rw [if_neg y, if_neg y]
          by_cases y2 : r2 3 - 2 * r2 9 ≤ f
          · rw [if_pos y2, if_neg (Int32.not_lt.mpr y2)]; exact ih' _ _
          · rw [if_neg y2, if_pos (Int32.not_le.mp y2)]; exact ih' _ _
    obtain ⟨b', f', l, l', z', y1, y2, y3, y4, y5, y6, y7, y8, e1, e2⟩ := loop (hi + 1 - lo) n n lo (-1) 0 (a45 w) o21 a22 a23 o24 j24 j25 a26 a52 (by omega) (Nat.le_refl _) (by omega) (by omega)
    rw [upd_id a45 w _ rfl] at e2
    rw [xin_t hw7 (by decide), cond_true, cond_true, cond_true, nI_clamp (by omega), (hC.2.1 w hw7).1, x1, e1, Option.bind_some, e2, Option.bind_some, cond_true]
    simp only []
    rw [upd_upd, upd_id a45 w _ rfl]
    exact ⟨_, _, _, _, _, _, _, _, _, rfl, rfl⟩
  · rw [if_neg c, if_pos rfl, if_pos rfl]
    exact ⟨_, _, _, _, _, _, _, _, _, rfl, rfl⟩
theorem fill_23 {n : Nat} (hn : 100 ≤ n) (a : Nat → Int32) : ∃ a', f_J7_fill_53178_23 n a 0 = some a' ∧ ∀ k, k < 14 → a' k = 0 := by
  have loop : ∀ (q k i : Nat) (a : Nat → Int32), i + q = 14 → q < k → (∀ j, j < i → a j = 0) → ∃ l a', l_J7_fill_53178_23_5 n 0 14 k (nI i) a = some (l, a') ∧ ∀ j, j < 14 → a' j = 0 := by
    intro q
    induction q with
    | zero =>
      intro k i a hi hk ha
      obtain ⟨k, rfl⟩ : ∃ q, k = q + 1 := ⟨k - 1, by omega⟩
      rw [l_J7_fill_53178_23_5, if_pos (show 14 ≤ nI i from nI_le (a := 14) (by omega) (by omega))]
      exact ⟨_, _, rfl, fun j hj => ha j (by omega)⟩
    | succ q ih =>
      intro k i a hi hk ha
      obtain ⟨k, rfl⟩ : ∃ q, k = q + 1 := ⟨k - 1, by omega⟩
      rw [l_J7_fill_53178_23_5, if_neg (show ¬ 14 ≤ nI i from nI_ge (b := 14) (by omega) (by decide)), xin_t (show i < 14 by omega) (by decide), cond_true, nI_clamp (by omega), nI_1]
      refine ih k (i + 1) _ (by omega) (by omega) (fun j hj => ?_)
      by_cases e : j = i
      · rw [e, pk_us]
      · rw [pk_un e]; exact ha j (by omega)
  obtain ⟨l, a', h, h2⟩ := loop 14 n 0 a (by decide) (by omega) (fun j hj => absurd hj (Nat.not_lt_zero j))
  unfold f_J7_fill_53178_23
  have h' : l_J7_fill_53178_23_5 n 0 14 n 0 a = some (l, a') := h
  rw [h', Option.bind_some]
  exact ⟨_, rfl, h2⟩
theorem restart_21 {n : Nat} (hn : 100 ≤ n) {T0 : Nat} {S : Nat → Nat} {o a ow : Nat → Int32} {jw jh : Int64} {ald : Nat → Int32} (hR : cR T0 S o a ow jw jh ald) : ∃ o' a' ow' jw' jh', f_X6_restart_21 n o a ow jw jh = some (o', a', ow', jw', jh') ∧ cR T0 (aFr S) o' a' ow' jw' jh' ald := by
  obtain ⟨a', f1, f2⟩ := fill_23 hn a
  unfold f_X6_restart_21 f_X10_clear_24 f_X2_clear_25
  rw [f1]
  simp only [Option.bind_some]
  refine ⟨_, _, _, _, _, rfl, cR_fr hR.2.2.2.2 (fun k h1 h2 => ?_) f2 rfl rfl rfl rfl⟩
  have hk : k = 7 ∨ k = 8 ∨ k = 9 ∨ k = 10 ∨ k = 11 ∨ k = 12 ∨ k = 13 ∨ k = 14 ∨ k = 15 := by omega
  rcases hk with rfl | rfl | rfl | rfl | rfl | rfl | rfl | rfl | rfl <;> rfl
theorem sta_l {n sc hs : Nat} (hn : 80 ≤ n) {T : Nat → Nat} {a1 a45 a22 : Nat → Int32} (hT : iT T a1 a45) (hT2 : ∀ k, k < 7 → a22 k = nI (T k)) {o2 a3 o4 o44 a6 a7 a48 a49 a52 a53 a54 : Nat → Int32} {j5 : Int64} {hd : Nat → Int32} {sy : Nat → Nat → Nat} (hS : iS (T 0) sc hs hd sy o4 j5 a6 a7 o44 a49) {sz : Nat} {bt : Nat → Bool} (h1 : o44 15 ≠ 1) (h2 : o44 15 ≠ 2) (l1 : o2 1 = nI sz) (l3 : o44 6 = nI sz) (l6 : sz ≤ 9600) (l7 : ∀ j, j < sz → a3 j = b2i (bt j) ∧ a48 j = b2i (bt j)) (fr : Nat) (z1 z2 z3 z4 z5 z6 : Int32) : ∀ (m k k' B : Nat) (S : Nat → Nat) (o a ow : Nat → Int32) (jw jh : Int64) (ald : Nat → Int32), S 0 + m = sz → m < k → m + 1 < k' → 8 * (B + m) + 100 < 2 ^ 31 → aW (T 0) B S → cR (T 0) S o a ow jw jh ald → S 17 = 0 → fr ≤ S 0 → S 1 ≠ 2 → S 13 ≤ S 21 → S 5 = S 0 - fr → ∃ (q : ((Int32) × (Nat → Int32) × (Nat → Int32) × (Nat → Int32) × (Int64) × (Int64) × (Nat → Int32)) ⊕ ((Int32) × (Nat → Int32) × (Nat → Int32) × (Nat → Int32) × (Int64) × (Int64) × (Nat → Int32))) (x : Int32) (R : Nat → Nat) (o' a' ow' : Nat → Int32) (jw' jh' : Int64) (ald' : Nat → Int32), l_X11_bitsTillSure_0_12 n o2 a3 o4 a6 a7 a22 (nI fr) 0 k (nI (S 0)) o a ow jw jh ald = some q ∧ Sum.elim (fun z6 => some z6) (fun z6 => some ((-1 : Int32), z6.2.1, z6.2.2.1, z6.2.2.2.1, z6.2.2.2.2.1, z6.2.2.2.2.2.1, z6.2.2.2.2.2.2)) q = some (x, o', a', ow', jw', jh', ald') ∧ l_X12_starts_44_78 n o44 a45 a48 a49 a52 z1 z2 z3 z4 z5 z6 k' (if S 13 < S 21 then 1 else 0) (sn S) a53 a54 = some (if R 13 < R 21 then 1 else 0, sn R, a53, a54) ∧ (∀ j, 875 ≤ j → R j = S j) ∧ x = (if R 1 = 2 then nI (R 5) else -1) ∧ a' 8 = nI (R 21) ∧ a' 0 = nI (R 13) ∧ R 1 ≤ 2 ∧ R 5 < 2 ^ 31 ∧ R 13 < 2 ^ 31 ∧ R 21 < 2 ^ 31 := by
  have t0 := hT.2.1
  intro m
  induction m with
  | zero =>
    intro k k' B S o a ow jw jh ald hm hk hk' hB hW hR hb ha s2 sj s5
    obtain ⟨k, rfl⟩ : ∃ q, k = q + 1 := ⟨k - 1, by omega⟩
    obtain ⟨k', rfl⟩ : ∃ q, k' = q + 1 := ⟨k' - 1, by omega⟩
    have c13 : S 13 ≤ 8 * S 5 := hW.2.2.2 0 (by decide)
    have c21 : S 21 ≤ 8 * S 5 := hW.2.2.2 8 (by decide)
    have c5 := hW.2.1
    have q1 := hW.1.1.1
    rw [l_X11_bitsTillSure_0_12, l_X12_starts_44_78, l1, l3, sn_ap, sn_ap, if_pos (nI_le (by omega) (by omega)), if_neg (fun z => s2 ((nI_eq2 (by omega)).mp z)), if_pos (nI_le (by omega) (by omega))]
    exact ⟨_, _, S, _, _, _, _, _, _, rfl, rfl, rfl, fun _ _ => rfl, by rw [if_neg s2], hR.2.1 8 (by decide), hR.2.1 0 (by decide), q1, by omega, by omega, by omega⟩
  | succ m ih =>
    intro k k' B S o a ow jw jh ald hm hk hk' hB hW hR hb ha s2 sj s5
    obtain ⟨k, rfl⟩ : ∃ q, k = q + 1 := ⟨k - 1, by omega⟩
    obtain ⟨k', rfl⟩ : ∃ q, k' = q + 1 := ⟨k' - 1, by omega⟩
    have h7 := hW.1.2.2.2.2.2.1
    have q1 := hW.1.1.1
    have s0 := aSt_0 (sc := sc) (hd := hd) (sy := sy) (b := bn (bt (S 0))) t0.2 h7
    have v5 := aSt_5 (sc := sc) (hd := hd) (sy := sy) (b := bn (bt (S 0))) t0.2 h7
    obtain ⟨hx, hj⟩ := st_x (sc := sc) (hd := hd) (sy := sy) (b := bn (bt (S 0))) t0.2 q1 h7
    obtain ⟨hj1, hj2⟩ := hj s2
    have hWs := aW_st (sc := sc) (hd := hd) (sy := sy) (b := bn (bt (S 0))) (by omega) t0.2 (bn_lt _) hW
    have bb := hWs.2.1
    have b13 := hWs.2.2.2 0 (by decide)
    have b17 := hWs.2.2.2 4 (by decide)
    have b21 := hWs.2.2.2 8 (by decide)
    have b1 := hWs.1.1.1
    obtain ⟨o', a', ow', jw', jh', ald', e1, e2⟩ := recv_21 hn hT2 hT.2 hS S o a ow jw jh ald (b := bn (bt (S 0))) (bn_lt _) (by omega) hW hR
    have frm := fun j (hj : 875 ≤ j) => st_hi (sc := sc) (hd := hd) (sy := sy) (b := bn (bt (S 0))) t0.2 h7 hj
    rw [l_X11_bitsTillSure_0_12, l_X12_starts_44_78, l1, l3, sn_ap, sn_ap, if_neg (nI_ge (by omega) (by omega)), if_neg (fun z => s2 ((nI_eq2 (by omega)).mp z)), if_neg (nI_ge (by omega) (by omega)), bitAt_is o2 a3 (by omega), Option.bind_some, (l7 (S 0) (by omega)).1, b2i_bn, nI_1, e1, Option.bind_some, m_one hn hT hS S a53 a54 (b := bn (bt (S 0))) (bn_lt _) (by omega) hW (by omega) (by rw [(l7 (S 0) (by omega)).2, b2i_bn]), Option.bind_some, aSe_no h1, aSe_no h2]
    simp only []
    have k4 : a' 4 = nI (aSt T sc hd sy (bn (bt (S 0))) S 17) := e2.2.1 4 (by decide)
    rw [k4, sn_ap]
    generalize hV : aSt T sc hd sy (bn (bt (S 0))) S = V at *
    have b13' : V 13 ≤ 8 * V 5 := b13
    have b17' : V 17 ≤ 8 * V 5 := b17
    have b21' : V 21 ≤ 8 * V 5 := b21
    have fl : ∀ (F : Int32 → Option ((Int32) × (Nat → Int32) × (Nat → Int32) × (Nat → Int32))), (if (if S 13 < S 21 then (1 : Int32) else 0) = 0 then (if nI (S 1) = 1 then (if nI (V 1) = 0 then F 1 else F 0) else F 0) else F 1) = F (if V 13 < V 21 then 1 else 0) := by
      intro F
      by_cases c : S 1 = 1 ∧ V 1 = 0
      · obtain ⟨g1, g2⟩ := hj1 c
        rw [if_pos (show V 13 < V 21 by omega)]
        by_cases d : S 13 < S 21
        · rw [if_pos d, if_neg one_ne]
        · rw [if_neg d, if_pos rfl, if_pos (by rw [c.1]; rfl), if_pos (by rw [c.2]; rfl)]
      · obtain ⟨e, g1, g2⟩ := hj2 c
        by_cases d : S 13 < S 21
        · rw [if_pos d, if_neg one_ne, if_pos (show V 13 < V 21 by omega)]
        · rw [if_neg d, if_pos rfl, if_neg (show ¬ V 13 < V 21 by omega)]
          by_cases w : S 1 = 1
          · rw [if_pos (by rw [w]; rfl), if_neg (fun z => c ⟨w, (nI_eq0 (by omega)).mp z⟩)]
          · rw [if_neg (fun z => w ((nI_eq1 (by omega)).mp z))]
    have hfl := fl (fun f => l_X12_starts_44_78 n o44 a45 a48 a49 a52 z1 z2 z3 z4 z5 z6 k' f (sn V) a53 a54)
    rw [hfl]
    have vj : V 13 ≤ V 21 := by
      by_cases c : S 1 = 1 ∧ V 1 = 0
      · obtain ⟨g1, g2⟩ := hj1 c; omega
      · obtain ⟨e, g1, g2⟩ := hj2 c; omega
    clear hfl fl hj hj1 hj2
    by_cases c : V 1 = 2
    · rw [if_pos ⟨c, s2⟩] at hx
      obtain ⟨k', rfl⟩ : ∃ q, k' = q + 1 := ⟨k' - 1, by omega⟩
      have hge : ¬ nI (V 17) ≤ 0 := nI_ge (a := 0) (by omega) (by omega)
      rw [if_neg hge, l_X12_starts_44_78, sn_ap, if_pos (by rw [c]; rfl), pk_sub (by omega)]
      refine ⟨_, _, V, _, _, _, _, _, _, rfl, rfl, rfl, frm, ?_, e2.2.1 8 (by decide), e2.2.1 0 (by decide), b1, by omega, by omega, by omega⟩
      rw [if_pos c, v5, s5]
      congr 1
      omega
    · rw [if_neg (fun z => c z.1)] at hx
      have hle : nI (V 17) ≤ 0 := nI_le (b := 0) (by omega) (by decide)
      rw [if_pos hle]
      have h := ih k k' (B + 1) V o' a' ow' jw' jh' ald' (by rw [s0]; omega) (by omega) (by omega) (by omega) hWs e2 (by omega) (by rw [s0]; omega) c vj (by rw [s0, v5]; omega)
      rw [s0] at h
      obtain ⟨q, x, R, y1, y2, y3, y4, y5, y6, f1, f2, f3, f4, f5⟩ := h
      exact ⟨q, x, R, y1, y2, y3, y4, y5, y6, f1, f2, f3, fun j hj => (f4 j hj).trans (frm j hj), f5⟩
theorem max_is {x l : Nat} (hx : x < 2 ^ 31) (hl : l < 2 ^ 31) : (if nI l < nI x then nI x else nI l) = nI (max l x) := by
  by_cases c : l < x
  · rw [if_pos (nI_lt c hx), show max l x = x by omega]
  · rw [if_neg (nI_nlt (by omega) hl), show max l x = l by omega]
theorem k_starts {n sc hs : Nat} (hn : 10000 ≤ n) {T : Nat → Nat} {a1 a45 : Nat → Int32} (hT : iT T a1 a45) {o2 a3 o4 o44 a6 a7 a48 a49 a52 a53 a54 : Nat → Int32} {j5 : Int64} {hd : Nat → Int32} {sy : Nat → Nat → Nat} (hS : iS (T 0) sc hs hd sy o4 j5 a6 a7 o44 a49) {sz B : Nat} {bt : Nat → Bool} {S : Nat → Nat} {o a ow : Nat → Int32} {jw jh : Int64} {ald : Nat → Int32} (h15 : o44 15 = 0) (hB : 8 * (B + 9600) + 100 < 2 ^ 31) (hL : iL sz (S 0) bt o2 a3 o44 a48 (sn S)) (hW : aW (T 0) B S) (hR : cR (T 0) S o a ow jw jh ald) (o21 a22 a23 o24 : Nat → Int32) (j24 j25 : Int64) (a26 : Nat → Int32) (p1 : Int32) : ∃ x o21' a22' a23' o24' j24' j25' a26' a52', f_X11_starts_0 n a1 o2 a3 o4 a6 a7 o a ow jw jh ald o21 a22 a23 o24 j24 j25 a26 p1 = some (x, o21', a22', a23', o24', j24', j25', a26') ∧ f_X12_starts_44 n o44 a45 a48 a49 (sn S) a52 a53 a54 p1 = some (x, upd o44 0 0, sn S, a52', a53, a54) := by
  obtain ⟨l1, l2, l3, l4, l5, l6, l7⟩ := id hL
  have hS0 : iS (T 0) sc hs hd sy o4 j5 a6 a7 (upd o44 0 0) a49 := hS
  have n1 : upd o44 0 0 15 ≠ 1 := by show o44 15 ≠ 1; rw [h15]; decide
  have n2 : upd o44 0 0 15 ≠ 2 := by show o44 15 ≠ 2; rw [h15]; decide
  have h6 : upd o44 0 0 6 = nI sz := l3
  have h7 : S 7 < 384 := by have := hW.1.2.2.2.2.2.1; have := hT.2.1; omega
  have t0 := hT.2.1
  have zf : ∀ j, 1 ≤ j → j < 875 → aFr S j = 0 := fun j h1 h2 => aFr_z S ⟨h1, h2⟩
  -- the class alone, behind the end of the line
  have tail : ∀ (q k i : Nat) (x1 x2 x3 x4 : Int32) (o21 a22 a23 o24 : Nat → Int32) (j24 j25 : Int64) (a26 : Nat → Int32), i + q = 64 → sz ≤ S 0 + i → q < k → ∃ l o21' a22' a23' o24' j24' j25' a26', l_X11_starts_0_25 n a1 o2 a3 o4 a6 a7 o a ow jw jh ald p1 k x1 x2 x3 x4 (nI i) o21 a22 a23 o24 j24 j25 a26 = some (x1, x2, x3, x4, l, o21', a22', a23', o24', j24', j25', a26') := by
    intro q
    induction q with
    | zero =>
      intro k i x1 x2 x3 x4 o21 a22 a23 o24 j24 j25 a26 hi hz hk
      obtain ⟨k, rfl⟩ : ∃ q, k = q + 1 := ⟨k - 1, by omega⟩
      rw [l_X11_starts_0_25, if_pos (show 64 ≤ nI i from nI_le (a := 64) (by omega) (by omega))]
      exact ⟨_, _, _, _, _, _, _, _, rfl⟩
    | succ q ih =>
      intro k i x1 x2 x3 x4 o21 a22 a23 o24 j24 j25 a26 hi hz hk
      obtain ⟨k, rfl⟩ : ∃ q, k = q + 1 := ⟨k - 1, by omega⟩
      obtain ⟨q1, q2, q3, q4, q5, q6, q7, e1, e2, e3⟩ := mirror_is (T := T) (fun k hk => (hT.1 k hk).1) hW hR o21 a22 a23 o24 j24 j25 a26
      obtain ⟨r1, r2, r3, r4, r5, f1, f2⟩ := restart_21 (n := n) (by omega) e3
      have b8 : r2 8 = 0 := by rw [f2.2.1 8 (by decide)]; show nI (aFr S 21) = 0; rw [zf 21 (by decide) (by decide)]; rfl
      have b0 : r2 0 = 0 := by rw [f2.2.1 0 (by decide)]; show nI (aFr S 13) = 0; rw [zf 13 (by decide) (by decide)]; rfl
      have es : f_X11_bitsTillSure_0 n o2 a3 o4 a6 a7 r1 q2 r2 r3 r4 r5 q7 (nI (S 0 + i)) = some (-1, r1, r2, r3, r4, r5, q7) := by
        obtain ⟨kk, rfl⟩ : ∃ q, n = q + 1 := ⟨n - 1, by omega⟩
        unfold f_X11_bitsTillSure_0
        rw [l_X11_bitsTillSure_0_12, l1, if_pos (nI_le hz (by omega)), Option.bind_some]
        rfl
      rw [l_X11_starts_0_25, if_neg (show ¬ 64 ≤ nI i from nI_ge (b := 64) (by omega) (by decide)), e1, Option.bind_some]
      simp only []
      rw [f1, Option.bind_some, l2, nI_add]
      simp only []
      rw [es, Option.bind_some, if_pos rfl]
      simp only []
      rw [b8, b0, if_pos (Int32.le_refl 0), nI_1]
      exact ih k (i + 1) x1 x2 x3 x4 r1 q2 r2 r3 r4 r5 q7 (by omega) (by omega) (by omega)
  have loop : ∀ (q k k' i x1 x2 x3 x4 : Nat) (o21 a22 a23 o24 : Nat → Int32) (j24 j25 : Int64) (a26 a52 : Nat → Int32), i + q = min 64 (sz - S 0) → q + (64 - min 64 (sz - S 0)) < k → q < k' → x3 < 2 ^ 31 → ∃ y1 y2 y3 y4 l l' o21' a22' a23' o24' j24' j25' a26' a52', l_X11_starts_0_25 n a1 o2 a3 o4 a6 a7 o a ow jw jh ald p1 k (nI x1) (nI x2) (nI x3) (nI x4) (nI i) o21 a22 a23 o24 j24 j25 a26 = some (y1, y2, y3, y4, l, o21', a22', a23', o24', j24', j25', a26') ∧ l_X12_starts_44_33 n (upd o44 0 0) a45 a48 a49 p1 k' (nI x1) (nI x2) (nI x3) (nI x4) (nI i) (sn S) a52 a53 a54 = some (y1, y2, y3, y4, l', sn S, a52', a53, a54) := by
    intro q
    induction q with
    | zero =>
      intro k k' i x1 x2 x3 x4 o21 a22 a23 o24 j24 j25 a26 a52 hi hk hk' hx
      obtain ⟨k', rfl⟩ : ∃ q, k' = q + 1 := ⟨k' - 1, by omega⟩
      rw [l_X12_starts_44_33, h6, sn_ap, nI_add]
      by_cases c : 64 ≤ i
      · obtain ⟨k, rfl⟩ : ∃ q, k = q + 1 := ⟨k - 1, by omega⟩
        rw [l_X11_starts_0_25, if_pos (show 64 ≤ nI i from nI_le (a := 64) c (by omega)), if_pos (show 64 ≤ nI i from nI_le (a := 64) c (by omega))]
        exact ⟨_, _, _, _, _, _, _, _, _, _, _, _, _, _, rfl, rfl⟩
      · obtain ⟨l, y1, y2, y3, y4, y5, y6, y7, e⟩ := tail (64 - i) k i (nI x1) (nI x2) (nI x3) (nI x4) o21 a22 a23 o24 j24 j25 a26 (by omega) (by omega) (by omega)
        rw [e, if_neg (show ¬ 64 ≤ nI i from nI_ge (b := 64) (by omega) (by decide)), if_pos (nI_le (by omega) (by omega))]
        exact ⟨_, _, _, _, _, _, _, _, _, _, _, _, _, _, rfl, rfl⟩
    | succ q ih =>
      intro k k' i x1 x2 x3 x4 o21 a22 a23 o24 j24 j25 a26 a52 hi hk hk' hx
      obtain ⟨k, rfl⟩ : ∃ q, k = q + 1 := ⟨k - 1, by omega⟩
      obtain ⟨k', rfl⟩ : ∃ q, k' = q + 1 := ⟨k' - 1, by omega⟩
      obtain ⟨q1, q2, q3, q4, q5, q6, q7, e1, e2, e3⟩ := mirror_is (T := T) (fun k hk => (hT.1 k hk).1) hW hR o21 a22 a23 o24 j24 j25 a26
      obtain ⟨r1, r2, r3, r4, r5, f1, f2⟩ := restart_21 (n := n) (by omega) e3
      have b4 : r2 4 = 0 := by rw [f2.2.1 4 (by decide)]; show nI (aFr S 17) = 0; rw [zf 17 (by decide) (by decide)]; rfl
      have f7 : aFr S 7 < 384 := by rw [zf 7 (by decide) (by decide)]; decide
      have F0 : aFr S 0 = S 0 := if_neg (by omega)
      obtain ⟨qq, x, R, y1, y2, y3, y4, y5, y6, g1, g2, g3, g4, g5, g6, g7, g8, g9, g10, g11⟩ := sta_l (n := n) (a52 := wr a52 0 875 (sn S)) (a53 := a53) (a54 := a54) (by omega) hT e2 hS0 n1 n2 l1 h6 l6 l7 (S 0 + i) p1 (nI x1) (nI x2) (nI x3) (nI x4) (nI i) (sz - (S 0 + i)) n n 0 (su (aFr S) 0 (S 0 + i)) r1 r2 r3 r4 r5 q7 (by rw [su_s]; omega) (by omega) (by omega) (by omega) (aW_0 (aW_fr (T 0) 0 S (by omega))) (cR_0 f7 f2) (by rw [su_n (by decide)]; exact zf 17 (by decide) (by decide)) (by rw [su_s]; exact Nat.le_refl _) (by rw [su_n (by decide), zf 1 (by decide) (by decide)]; decide) (by rw [su_n (by decide), su_n (by decide), zf 13 (by decide) (by decide)]; omega) (by rw [su_n (by decide), su_s, zf 5 (by decide) (by decide)]; omega)
      rw [su_s] at g1
      have c13 : su (aFr S) 0 (S 0 + i) 13 = 0 := by rw [su_n (by decide)]; exact zf 13 (by decide) (by decide)
      have c21 : su (aFr S) 0 (S 0 + i) 21 = 0 := by rw [su_n (by decide)]; exact zf 21 (by decide) (by decide)
      rw [c13, c21, if_neg (Nat.lt_irrefl 0)] at g3
      have es : f_X11_bitsTillSure_0 n o2 a3 o4 a6 a7 r1 q2 r2 r3 r4 r5 q7 (nI (S 0 + i)) = some (x, y1, y2, y3, y4, y5, y6) := by
        unfold f_X11_bitsTillSure_0
        rw [b4, g1, Option.bind_some, g2]
      have hfr : ∀ j, 875 ≤ j → R j = S j := fun j hj => by rw [g4 j hj, su_n (by omega)]; exact if_neg (by omega)
      have c64 : ¬ 64 ≤ nI i := nI_ge (b := 64) (by omega) (by decide)
      rw [l_X11_starts_0_25, l_X12_starts_44_33, if_neg c64, if_neg c64, e1, Option.bind_some]
      simp only []
      rw [f1, Option.bind_some, l2, nI_add, h6, sn_ap, nI_add, if_neg (nI_ge (by omega) (by omega)), m_open (by omega), Option.bind_some, m_fresh (by omega), Option.bind_some, sn_ap, F0, nI_add, sn_su, g3, Option.bind_some]
      simp only []
      rw [es, Option.bind_some]
      simp only []
      rw [g6, g7, sn_ap, sn_ap, m_close (by omega) _ _ hfr]
      simp only [Option.bind_some, nI_1]
      have ih' := fun x1 x2 x3 x4 h => ih k k' (i + 1) x1 x2 x3 x4 y1 q2 y2 y3 y4 y5 y6 (wr a52 0 875 (sn S)) (by omega) (by omega) (by omega) h
      have z0 : nI x4 + 0 = nI x4 := Int32.add_zero _
      by_cases c : R 1 = 2
      · have hx2 : x = nI (R 5) := by rw [g5, if_pos c]
        have hne : ¬ x = -1 := by
          intro z
          have h := nI_pos' g9
          rw [← hx2, z] at h
          exact absurd h (by decide)
        rw [if_neg hne, if_pos (show nI (R 1) = 2 by rw [c]; rfl), hx2, nI_add, max_is g9 hx]
        by_cases d : R 13 < R 21
        · rw [if_neg (nI_ge d g11), if_pos d, if_neg one_ne]
          by_cases w : R 5 ≤ x3
          · rw [if_pos (nI_le w hx), show max x3 (R 5) = x3 by omega]
            exact ih' _ _ _ _ hx
          · rw [if_neg (nI_ge (by omega) g9), show max x3 (R 5) = R 5 by omega]
            exact ih' _ _ _ _ g9
        · rw [if_pos (nI_le (by omega) g10), if_neg d, if_pos rfl, z0]
          by_cases w : R 5 ≤ x3
          · rw [if_pos (nI_le w hx), show max x3 (R 5) = x3 by omega]
            exact ih' _ _ _ _ hx
          · rw [if_neg (nI_ge (by omega) g9), show max x3 (R 5) = R 5 by omega]
            exact ih' _ _ _ _ g9
      · have hx2 : x = -1 := by rw [g5, if_neg c]
        rw [if_pos hx2, if_neg (fun z => c ((nI_eq2 (by omega)).mp z))]
        by_cases d : R 13 < R 21
        · rw [if_neg (nI_ge d g11), if_pos d, if_neg one_ne]
          exact ih' _ _ _ _ hx
        · rw [if_pos (nI_le (by omega) g10), if_neg d, if_pos rfl, z0]
          exact ih' _ _ _ _ hx
  unfold f_X11_starts_0 f_X12_starts_44
  rw [isW, isIn_w p1 0 3 0 3 rfl rfl]
  simp only [Option.bind_some]
  by_cases c : 0 ≤ p1 ∧ p1 ≤ 3
  · rw [if_pos c, if_neg one_ne, if_neg one_ne]
    obtain ⟨w1, w2, w3, w4, l, l', y1, y2, y3, y4, y5, y6, y7, y8, e1, e2⟩ := loop (min 64 (sz - S 0)) n n 0 0 0 0 0 o21 a22 a23 o24 j24 j25 a26 a52 (by omega) (by omega) (by omega) (by decide)
    have e1' : l_X11_starts_0_25 n a1 o2 a3 o4 a6 a7 o a ow jw jh ald p1 n 0 0 0 0 0 o21 a22 a23 o24 j24 j25 a26 = some (w1, w2, w3, w4, l, y1, y2, y3, y4, y5, y6, y7) := e1
    have e2' : l_X12_starts_44_33 n (upd o44 0 0) a45 a48 a49 p1 n 0 0 0 0 0 (sn S) a52 a53 a54 = some (w1, w2, w3, w4, l', sn S, y8, a53, a54) := e2
    rw [e1', e2', Option.bind_some, Option.bind_some]
    unfold b_X12_starts_44_214
    by_cases v0 : p1 = 0
    · rw [if_pos v0, if_pos v0]; exact ⟨_, _, _, _, _, _, _, _, _, rfl, rfl⟩
    rw [if_neg v0, if_neg v0]
    by_cases v1 : p1 = 1
    · rw [if_pos v1, if_pos v1]; exact ⟨_, _, _, _, _, _, _, _, _, rfl, rfl⟩
    rw [if_neg v1, if_neg v1]
    by_cases v2 : p1 = 2
    · rw [if_pos v2, if_pos v2]; exact ⟨_, _, _, _, _, _, _, _, _, rfl, rfl⟩
    · rw [if_neg v2, if_neg v2]; exact ⟨_, _, _, _, _, _, _, _, _, rfl, rfl⟩
  · rw [if_neg c, if_pos rfl, if_pos rfl]
    exact ⟨_, _, _, _, _, _, _, _, _, rfl, rfl⟩
