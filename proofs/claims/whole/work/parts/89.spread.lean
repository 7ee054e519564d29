/-! on paper: spread -/
theorem al_32 : ∀ (n : Nat) (o4 a7 ald : Nat → Int32) (l3 l4 l5 : Int32) (k : Nat) (l6 : Int32), l_X8_isLoadLike_4_32_37 n o4 a7 ald l3 l4 l5 k l6 = l_X8_isLoadLike_4_26_37 n o4 a7 ald l3 l4 l5 k l6 := by
  intro n o4 a7 ald l3 l4 l5 k
  induction k with
  | zero => intro l6; rfl
  | succ k ih => intro l6; rw [l_X8_isLoadLike_4_32_37, l_X8_isLoadLike_4_26_37, ih]
theorem fl_32 (n : Nat) (o4 a6 a7 ald : Nat → Int32) (x p3 p4 : Int32) : f_X8_firstLike_4_32 n o4 a6 a7 ald x p3 p4 = f_X8_firstLike_4_26 n o4 a6 a7 ald x p3 p4 := by
  have e1 : ∀ (p1 p3 p4 : Int32), f_X8_isLoadLike_4_32 n o4 a7 ald p1 p3 p4 = f_X8_isLoadLike_4_26 n o4 a7 ald p1 p3 p4 := by
    intro p1 p3 p4
    unfold f_X8_isLoadLike_4_32 f_X8_isLoadLike_4_26
    rw [al_32]
  have e2 : ∀ (k : Nat) (l5 : Int32), l_X8_firstLike_4_32_3 n o4 a6 a7 ald x p3 p4 k l5 = l_X8_firstLike_4_26_3 n o4 a6 a7 ald x p3 p4 k l5 := by
    intro k
    induction k with
    | zero => intro l5; rfl
    | succ k ih => intro l5; rw [l_X8_firstLike_4_32_3, l_X8_firstLike_4_26_3, ih, e1]
  unfold f_X8_firstLike_4_32 f_X8_firstLike_4_26
  rw [e2]
theorem end_27 (n : Nat) (o4 a6 a7 o a22 a ald : Nat → Int32) : f_X6_endLoad_27 n o4 a6 a7 o a22 a ald = f_X6_endLoad_21 n o4 a6 a7 o a22 a ald := by
  unfold f_X6_endLoad_27 f_X6_endLoad_21 b_X6_endLoad_27_43 b_X6_endLoad_21_43
  rw [fl_32]
  rfl
theorem carry_27 (n : Nat) (o4 a6 a7 o a22 a : Nat → Int32) (j : Int64) (ald : Nat → Int32) (p : Int32) : f_X6_carry_27 n o4 a6 a7 o a22 a j ald p = f_X6_carry_21 n o4 a6 a7 o a22 a j ald p := by
  have e : ∀ (j : Int64) (ald : Nat → Int32), b_X6_carry_27_51 n o4 a6 a7 o a22 a j ald = b_X6_carry_21_51 n o4 a6 a7 o a22 a j ald := by
    intro j ald
    unfold b_X6_carry_27_51 b_X6_carry_21_51
    rw [end_27]
    rfl
  unfold f_X6_carry_27 f_X6_carry_21
  simp only [e]
  rfl
theorem rc_27 (n : Nat) (o4 a6 a7 o a22 a ow : Nat → Int32) (jw jh : Int64) (ald : Nat → Int32) (p q : Int32) : f_X6_receive_27 n o4 a6 a7 o a22 a ow jw jh ald p q = f_X6_receive_21 n o4 a6 a7 o a22 a ow jw jh ald p q := by
  have e : ∀ (ow : Nat → Int32) (jw : Int64) (l3 t : Int32), b_X6_receive_27_52 n o4 a6 a7 o a22 a ow jw jh ald p q l3 t = b_X6_receive_21_52 n o4 a6 a7 o a22 a ow jw jh ald p q l3 t := by
    intro ow jw l3 t
    unfold b_X6_receive_27_52 b_X6_receive_21_52
    simp only [carry_27]
    rfl
  unfold f_X6_receive_27 f_X6_receive_21
  simp only [e]
  rfl
theorem plain_is {T : Nat → Nat} {a22 : Nat → Int32} (t0 : a22 0 = nI (T 0)) (tT : T 0 ≤ 48) {B b : Nat} (hb : b < 2) {S : Nat → Nat} (hW : aW (T 0) B S) {o a ow : Nat → Int32} {jw jh : Int64} {ald : Nat → Int32} (hR : cR (T 0) S o a ow jw jh ald) : f_X6_plainOf_21 o a22 jh (nI b) = some (if aPl b S = 0 then -1 else nI (aPl b S - 1)) := by
  obtain ⟨⟨⟨k1, -⟩, k8, k9⟩, -, -, h4, -⟩ := hR
  obtain ⟨⟨⟨w1, -⟩, g1, g2, g3, g4, g5, -⟩, -, w3, -⟩ := hW
  unfold f_X6_plainOf_21 f_X6_loadBits_21 f_X2_oldest_25
  rw [k1, Option.bind_some, Option.bind_some, t0, show (8 : Int32) * nI (T 0) = nI (8 * T 0) from pk_mul 8 _]
  by_cases c : S 1 = 0
  · have e : aPl b S = 0 := if_neg (fun z => z.1 c)
    rw [if_pos (by rw [c]; rfl), if_pos e]
  · rw [if_neg (fun z => c ((nI_eq0 (by omega)).mp z))]
    have s6 : S 6 = 0 ∨ S 6 = 1 := by omega
    rcases s6 with h | h
    · have e : aPl b S = aPn b S + 1 := if_pos ⟨c, h⟩
      have h29 := w3.1.2.2.1
      rw [(k8 h).1, if_neg (nI_ge (by omega) (by omega)), e, if_neg (by omega), (his_is w3.1.2.2.1 w3.1.2.2.2.1 h4 hb).1, nI_xor, Nat.add_sub_cancel]
      unfold aPn
      rw [Nat.mod_eq_of_lt (show S 29 / 1024 < 2 by omega)]
    · have e : aPl b S = 0 := if_neg (fun z => by have := z.2; omega)
      rw [(k9 h).1, if_pos (nI_le (by omega) (by omega)), if_pos e]
theorem aPl_le {b : Nat} (hb : b < 2) (S : Nat → Nat) : aPl b S ≤ 2 := by
  unfold aPl
  have := aPn_lt hb S
  by_cases c : S 1 ≠ 0 ∧ S 6 = 0
  · rw [if_pos c]; omega
  · rw [if_neg c]; omega
theorem aRs_at {T : Nat → Nat} {sc : Nat} {hd : Nat → Int32} {sy : Nat → Nat → Nat} {g : Nat → Nat} (tb : tB T) (hg : ∀ p, g p < 2) (v : Int32) : ∀ (m B : Nat) (S : Nat → Nat) (a : Nat → Int32) (p : Nat), aW (T 0) B S → aRs T sc hd sy g v v m S a p = if S 0 ≤ p ∧ p < S 0 + m ∧ aPl (g p) (aRun T sc hd sy g (p - S 0) S) ≠ 0 then nI (aPl (g p) (aRun T sc hd sy g (p - S 0) S)) else a p := by
  intro m
  induction m with
  | zero => intro B S a p hW; rw [if_neg (fun z => by omega)]; rfl
  | succ m ih =>
    intro B S a p hW
    have t0 := tb.1
    have s0 := aSt_0 (sc := sc) (hd := hd) (sy := sy) (b := g (S 0)) t0.2 hW.1.2.2.2.2.2.1
    rw [aRs, ih (B + 1) _ _ p (aW_st (by omega) t0.2 (hg _) hW), s0]
    by_cases c : S 0 + 1 ≤ p
    · have er : aRun T sc hd sy g (p - S 0) S = aRun T sc hd sy g (p - (S 0 + 1)) (aSt T sc hd sy (g (S 0)) S) := by
        rw [show p - S 0 = (p - (S 0 + 1)) + 1 by omega, aRun]
      have es : aSe v v (g (S 0)) S a p = a p := by
        unfold aSe
        by_cases d : v = v ∧ S 1 ≠ 0 ∧ S 6 = 0
        · rw [if_pos d, pk_un (by omega)]
        · rw [if_neg d]
      rw [er, es]
      by_cases d : p < S 0 + 1 + m ∧ aPl (g p) (aRun T sc hd sy g (p - (S 0 + 1)) (aSt T sc hd sy (g (S 0)) S)) ≠ 0
      · rw [if_pos ⟨c, d⟩, if_pos ⟨by omega, by omega, d.2⟩]
      · rw [if_neg (fun z => d z.2), if_neg (fun z => d ⟨by omega, z.2.2⟩)]
    · rw [if_neg (fun z => c z.1)]
      by_cases d : p = S 0
      · subst d
        rw [Nat.sub_self, show aRun T sc hd sy g 0 S = S from rfl]
        unfold aSe
        by_cases e : S 1 ≠ 0 ∧ S 6 = 0
        · have e2 : aPl (g (S 0)) S ≠ 0 := by unfold aPl; rw [if_pos e]; omega
          rw [if_pos ⟨rfl, e⟩, pk_us, if_pos ⟨Nat.le_refl _, by omega, e2⟩]
        · have e2 : aPl (g (S 0)) S = 0 := by unfold aPl; rw [if_neg e]
          rw [if_neg (fun z => e z.2), if_neg (fun z => z.2.2 e2)]
      · rw [if_neg (fun z => by omega)]
        unfold aSe
        by_cases e : v = v ∧ S 1 ≠ 0 ∧ S 6 = 0
        · rw [if_pos e, pk_un d]
        · rw [if_neg e]
theorem run_s (T : Nat → Nat) (sc : Nat) (hd : Nat → Int32) (sy : Nat → Nat → Nat) (g : Nat → Nat) : ∀ (m : Nat) (S : Nat → Nat), aRun T sc hd sy g (m + 1) S = aSt T sc hd sy (g (aRun T sc hd sy g m S 0)) (aRun T sc hd sy g m S) := by
  intro m
  induction m with
  | zero => intro S; rfl
  | succ m ih =>
    intro S
    rw [aRun, ih, aRun]
theorem k_spread {n sc hs : Nat} (hn : 10000 ≤ n) {T : Nat → Nat} {a1 a45 : Nat → Int32} (hT : iT T a1 a45) {o2 a3 o4 o44 a6 a7 a48 a49 a52 a53 a54 : Nat → Int32} {j5 : Int64} {hd : Nat → Int32} {sy : Nat → Nat → Nat} (hS : iS (T 0) sc hs hd sy o4 j5 a6 a7 o44 a49) {sz B : Nat} {bt : Nat → Bool} {S : Nat → Nat} {o a ow : Nat → Int32} {jw jh : Int64} {ald : Nat → Int32} (h15 : o44 15 = 0) (hB : 8 * (B + 9600) + 100 < 2 ^ 31) (hL : iL sz (S 0) bt o2 a3 o44 a48 (sn S)) (hW : aW (T 0) B S) (hR : cR (T 0) S o a ow jw jh ald) (o21 a22 a23 o24 : Nat → Int32) (j24 j25 : Int64) (a26 : Nat → Int32) (o27 a28 a29 o30 : Nat → Int32) (j30 j31 : Int64) (a32 : Nat → Int32) (p1 p2 : Int32) : ∃ x x1 x2 x3 x4 x5 x6 x7 y1 y2 y3 y4 y5 y6 y7 a52' a53' a54', f_X11_spread_0 n a1 o2 a3 o4 a6 a7 o a ow jw jh ald o21 a22 a23 o24 j24 j25 a26 o27 a28 a29 o30 j30 j31 a32 p1 p2 = some (x, x1, x2, x3, x4, x5, x6, x7, y1, y2, y3, y4, y5, y6, y7) ∧ f_X12_spread_44 n o44 a45 a48 a49 (sn S) a52 a53 a54 p1 p2 = some (x, upd o44 0 0, a48, sn S, a52', a53', a54') := by
  obtain ⟨l1, l2, l3, l4, l5, l6, l7⟩ := id hL
  have hS0 : iS (T 0) sc hs hd sy o4 j5 a6 a7 (upd o44 0 0) a49 := hS
  have n1 : upd o44 0 0 15 ≠ 1 := by show o44 15 ≠ 1; rw [h15]; decide
  have n2 : upd o44 0 0 15 ≠ 2 := by show o44 15 ≠ 2; rw [h15]; decide
  have h6 : upd o44 0 0 6 = nI sz := l3
  have t0 := hT.2.1
  unfold f_X11_spread_0 f_X12_spread_44
  rw [has_is l6 l1, isBit_is (o44 := upd o44 0 0) l6 l3]
  simp only [Option.bind_some]
  by_cases c : 0 ≤ p1 ∧ p1 < nI sz
  · rw [if_pos c, if_neg one_ne, if_neg one_ne]
    obtain ⟨i, hi, rfl⟩ := nI_of (Int32.not_lt.mpr c.1)
    have his : i < sz := (nI_ltI hi (by omega)).mp c.2
    by_cases c2 : -1 ≤ p2
    · rw [if_pos c2, if_pos c2, l2, l4]
      by_cases d : nI (S 0) ≤ nI i
      · rw [if_pos d, if_pos d]
        have d' : S 0 ≤ i := (nI_leI (by omega) (by omega)).mp d
        -- the model
        have mz : ∀ (q k p : Nat) (b c : Nat → Int32), p + q = sz → q < k → (∀ j, j < p → b j = 0 ∧ c j = 0) → ∃ l b' c', l_X12_spread_44_39 n (upd o44 0 0) a45 a48 a49 (sn S) a52 (nI i) p2 k (nI p) b c = some (l, b', c') ∧ ∀ j, j < sz → b' j = 0 ∧ c' j = 0 := by
          intro q
          induction q with
          | zero =>
            intro k p b c hp hk hz
            obtain ⟨k, rfl⟩ : ∃ q, k = q + 1 := ⟨k - 1, by omega⟩
            rw [l_X12_spread_44_39, h6, if_pos (nI_le (by omega) (by omega))]
            exact ⟨_, _, _, rfl, fun j hj => hz j (by omega)⟩
          | succ q ih =>
            intro k p b c hp hk hz
            obtain ⟨k, rfl⟩ : ∃ q, k = q + 1 := ⟨k - 1, by omega⟩
            rw [l_X12_spread_44_39, h6, if_neg (nI_ge (by omega) (by omega)), xin_t (show p < 9600 by omega) (by decide), cond_true, cond_true, nI_clamp (by omega), nI_1]
            refine ih k (p + 1) _ _ (by omega) (by omega) (fun j hj => ?_)
            by_cases e : j = p
            · rw [e, pk_us, pk_us]; exact ⟨rfl, rfl⟩
            · rw [pk_un e, pk_un e]; exact hz j (by omega)
        obtain ⟨lz, b53, b54, z1, z2⟩ := mz sz n 0 a53 a54 (by omega) (by omega) (fun j hj => absurd hj (Nat.not_lt_zero j))
        have z1' : l_X12_spread_44_39 n (upd o44 0 0) a45 a48 a49 (sn S) a52 (nI i) p2 n 0 a53 a54 = some (lz, b53, b54) := z1
        have hm1 : ∀ p, p < sz → a48 p = nI (gF bt (-1) p) := fun p hp => by rw [gF_no bt (by omega), ← b2i_bn]; exact (l7 p hp).2
        obtain ⟨hm2, hback⟩ := flip_m hL his
        have hS1 : iS (T 0) sc hs hd sy o4 j5 a6 a7 (upd (upd o44 0 0) 15 1) a49 := hS
        have hS2 : iS (T 0) sc hs hd sy o4 j5 a6 a7 (upd (upd o44 0 0) 15 2) a49 := hS
        have emin : min 9600 (sz - S 0) = sz - S 0 := by omega
        have tk1 := fun a53 a54 => m_takes hn hT hS1 l6 (show upd (upd o44 0 0) 15 1 6 = nI sz from l3) (gF_lt bt (-1)) hm1 9600 (by decide) 9600 rfl a53 a54 l5 hB hW
        have tk2 := fun a53 a54 => m_takes hn hT hS2 l6 (show upd (upd o44 0 0) 15 2 6 = nI sz from l3) (gF_lt bt (nI i)) hm2 9600 (by decide) 9600 rfl a53 a54 l5 hB hW
        rw [emin] at tk1 tk2
        generalize hs53 : aRs T sc hd sy (gF bt (-1)) 1 1 (sz - S 0) S b53 = s53
        generalize hs54 : aRs T sc hd sy (gF bt (nI i)) 2 2 (sz - S 0) S b54 = s54
        have lp : l_X12_spread_44_72 n a45 a49 (nI i) p2 n (upd (upd o44 0 0) 15 1) a48 (sn S) a52 b53 b54 = some (upd (upd o44 0 0) 15 3, a48, sn S, wr (wr a52 0 875 (sn S)) 0 875 (sn S), s53, s54) := by
          have q1 : upd (upd o44 0 0) 15 1 15 = 1 := rfl
          have q2 : upd (upd o44 0 0) 15 2 15 = 2 := rfl
          have q3 : upd (upd o44 0 0) 15 3 15 = 3 := rfl
          have u2 : upd (upd (upd o44 0 0) 15 1) 15 (1 + 1) = upd (upd o44 0 0) 15 2 := by rw [upd_upd]; rfl
          have u3 : upd (upd (upd o44 0 0) 15 2) 15 (2 + 1) = upd (upd o44 0 0) 15 3 := by rw [upd_upd]; rfl
          obtain ⟨k1, e1⟩ : ∃ q, n = q + 1 := ⟨n - 1, by omega⟩
          obtain ⟨k2, e2⟩ : ∃ q, k1 = q + 1 := ⟨k1 - 1, by omega⟩
          obtain ⟨k3, e3⟩ : ∃ q, k2 = q + 1 := ⟨k2 - 1, by omega⟩
          have hfuel : ∀ f, f = k3 + 3 → l_X12_spread_44_72 n a45 a49 (nI i) p2 f (upd (upd o44 0 0) 15 1) a48 (sn S) a52 b53 b54 = some (upd (upd o44 0 0) 15 3, a48, sn S, wr (wr a52 0 875 (sn S)) 0 875 (sn S), s53, s54) := by
            intro f hf
            subst hf
            rw [show k3 + 3 = (k3 + 2) + 1 by omega, l_X12_spread_44_72, q1, if_neg (by decide), m_open (by omega), Option.bind_some, tk1, Option.bind_some]
            simp only []
            rw [m_close (n := n) (by omega) _ _ (run_hi hT.2 (gF_lt bt (-1)) _ B S hW), Option.bind_some, xin_t (show i < 9600 by omega) (by decide), cond_true, cond_true, nI_clamp (by omega), q1, aRs_no _ _ _ _ _ (show (1 : Int32) ≠ 2 by decide), hs53, u2]
            rw [show k3 + 2 = (k3 + 1) + 1 by omega, l_X12_spread_44_72, q2, if_neg (by decide), m_open (by omega), Option.bind_some, tk2, Option.bind_some]
            simp only []
            rw [m_close (n := n) (by omega) _ _ (run_hi hT.2 (gF_lt bt (nI i)) _ B S hW), Option.bind_some, xin_t (show i < 9600 by omega) (by decide), cond_true, cond_true, nI_clamp (by omega), q2, aRs_no _ _ _ _ _ (show (2 : Int32) ≠ 1 by decide), hs54, u3, hback]
            rw [l_X12_spread_44_72, q3, if_pos (by decide)]
          exact hfuel n (by omega)
        have uend : upd (upd (upd o44 0 0) 15 3) 15 0 = upd o44 0 0 := by rw [upd_upd, upd_id]; exact h15
        have r53 : ∀ p, p < sz → s53 p = if S 0 ≤ p then nI (aPl (gF bt (-1) p) (aRun T sc hd sy (gF bt (-1)) (p - S 0) S)) else 0 := by
          intro p hp
          rw [← hs53, aRs_at hT.2 (gF_lt bt (-1)) 1 (sz - S 0) B S b53 p hW, (z2 p hp).1]
          by_cases e : S 0 ≤ p
          · rw [if_pos e]
            by_cases f : aPl (gF bt (-1) p) (aRun T sc hd sy (gF bt (-1)) (p - S 0) S) = 0
            · rw [if_neg (fun z => z.2.2 f), f]; rfl
            · rw [if_pos ⟨e, by omega, f⟩]
          · rw [if_neg e, if_neg (fun z => e z.1)]
        have r54 : ∀ p, p < sz → s54 p = if S 0 ≤ p then nI (aPl (gF bt (nI i) p) (aRun T sc hd sy (gF bt (nI i)) (p - S 0) S)) else 0 := by
          intro p hp
          rw [← hs54, aRs_at hT.2 (gF_lt bt (nI i)) 2 (sz - S 0) B S b54 p hW, (z2 p hp).2]
          by_cases e : S 0 ≤ p
          · rw [if_pos e]
            by_cases f : aPl (gF bt (nI i) p) (aRun T sc hd sy (gF bt (nI i)) (p - S 0) S) = 0
            · rw [if_neg (fun z => z.2.2 f), f]; rfl
            · rw [if_pos ⟨e, by omega, f⟩]
          · rw [if_neg e, if_neg (fun z => e z.1)]
        -- the model's first places
        have mp : ∀ (q k p : Nat) (A B : Nat → Int32), p + q = S 0 → q < k → ∃ k', k - q ≤ k' ∧ l_X12_spread_44_132 n (upd o44 0 0) a45 a48 a49 (sn S) (wr (wr a52 0 875 (sn S)) 0 875 (sn S)) s53 s54 p2 k 0 (nI p) = l_X12_spread_44_132 n (upd o44 0 0) a45 a48 a49 (sn S) (wr (wr a52 0 875 (sn S)) 0 875 (sn S)) s53 s54 p2 k' 0 (nI (S 0)) := by
          intro q
          induction q with
          | zero => intro k p _ _ hp hk; exact ⟨k, by omega, by rw [show p = S 0 by omega]⟩
          | succ q ih =>
            intro k p A B' hp hk
            obtain ⟨k, rfl⟩ : ∃ q, k = q + 1 := ⟨k - 1, by omega⟩
            obtain ⟨k', h1, h2⟩ := ih k (p + 1) A B' (by omega) (by omega)
            refine ⟨k', by omega, ?_⟩
            rw [l_X12_spread_44_132, h6, if_neg (nI_ge (by omega) (by omega)), xin_t (show p < 9600 by omega) (by decide), cond_true, nI_clamp (by omega), r53 p (by omega), if_neg (show ¬ S 0 ≤ p by omega), if_pos rfl, nI_1]
            exact h2
        obtain ⟨q1, q2, q3, q4, q5, q6, q7, e1, e2, e3⟩ := mirror_is (T := T) (fun k hk => (hT.1 k hk).1) hW hR o21 a22 a23 o24 j24 j25 a26
        obtain ⟨w1, w2, w3, w4, w5, w6, w7, f1, f2, f3⟩ := mirror_is (T := T) (fun k hk => (hT.1 k hk).1) hW hR o27 a28 a29 o30 j30 j31 a32
        have f1' : f_X6_mirror_27_16 a1 o a ow jw jh ald o27 a28 a29 o30 j30 j31 a32 = some (w1, w2, w3, w4, w5, w6, w7) := f1
        have main : ∀ (q k k' p cnt : Nat) (u1 u3 u4 : Nat → Int32) (u5 u6 : Int64) (u7 v1 v3 v4 : Nat → Int32) (v5 v6 : Int64) (v7 : Nat → Int32), p + q = sz → S 0 ≤ p → q < k → q < k' → cR (T 0) (aRun T sc hd sy (gF bt (-1)) (p - S 0) S) u1 u3 u4 u5 u6 u7 → cR (T 0) (aRun T sc hd sy (gF bt (nI i)) (p - S 0) S) v1 v3 v4 v5 v6 v7 →
            (∃ (x : Int32) (x1 x3 x4 : Nat → Int32) (x5 x6 : Int64) (x7 y1 y3 y4 : Nat → Int32) (y5 y6 : Int64) (y7 : Nat → Int32), l_X11_spread_0_69 n a1 o2 a3 o4 a6 a7 o a ow jw jh ald q2 w2 (nI i) p2 k (nI cnt) (nI p) u1 u3 u4 u5 u6 u7 v1 v3 v4 v5 v6 v7 = some (Sum.inl (x, x1, q2, x3, x4, x5, x6, x7, y1, w2, y3, y4, y5, y6, y7)) ∧ l_X12_spread_44_132 n (upd o44 0 0) a45 a48 a49 (sn S) (wr (wr a52 0 875 (sn S)) 0 875 (sn S)) s53 s54 p2 k' (nI cnt) (nI p) = some (Sum.inl (x, upd o44 0 0, a48, sn S, wr (wr a52 0 875 (sn S)) 0 875 (sn S), s53, s54))) ∨
            (∃ (x l l' : Int32) (x1 x3 x4 : Nat → Int32) (x5 x6 : Int64) (x7 y1 y3 y4 : Nat → Int32) (y5 y6 : Int64) (y7 : Nat → Int32), l_X11_spread_0_69 n a1 o2 a3 o4 a6 a7 o a ow jw jh ald q2 w2 (nI i) p2 k (nI cnt) (nI p) u1 u3 u4 u5 u6 u7 v1 v3 v4 v5 v6 v7 = some (Sum.inr (x, l, x1, x3, x4, x5, x6, x7, y1, y3, y4, y5, y6, y7)) ∧ l_X12_spread_44_132 n (upd o44 0 0) a45 a48 a49 (sn S) (wr (wr a52 0 875 (sn S)) 0 875 (sn S)) s53 s54 p2 k' (nI cnt) (nI p) = some (Sum.inr (x, l'))) := by
          intro q
          induction q with
          | zero =>
            intro k k' p cnt u1 u3 u4 u5 u6 u7 v1 v3 v4 v5 v6 v7 hp hp2 hk hk' hu hv
            obtain ⟨k, rfl⟩ : ∃ q, k = q + 1 := ⟨k - 1, by omega⟩
            obtain ⟨k', rfl⟩ : ∃ q, k' = q + 1 := ⟨k' - 1, by omega⟩
            rw [l_X11_spread_0_69, l_X12_spread_44_132, l1, h6, if_pos (nI_le (by omega) (by omega)), if_pos (nI_le (by omega) (by omega))]
            exact Or.inr ⟨_, _, _, _, _, _, _, _, _, _, _, _, _, _, _, rfl, rfl⟩
          | succ q ih =>
            intro k k' p cnt u1 u3 u4 u5 u6 u7 v1 v3 v4 v5 v6 v7 hp hp2 hk hk' hu hv
            obtain ⟨k, rfl⟩ : ∃ q, k = q + 1 := ⟨k - 1, by omega⟩
            obtain ⟨k', rfl⟩ : ∃ q, k' = q + 1 := ⟨k' - 1, by omega⟩
            obtain ⟨W1, Z1⟩ := aRun_W (sc := sc) (hd := hd) (sy := sy) (g := gF bt (-1)) hT.2 (gF_lt bt (-1)) (p - S 0) B S hW
            obtain ⟨W2, Z2⟩ := aRun_W (sc := sc) (hd := hd) (sy := sy) (g := gF bt (nI i)) hT.2 (gF_lt bt (nI i)) (p - S 0) B S hW
            have Z1' : aRun T sc hd sy (gF bt (-1)) (p - S 0) S 0 = p := by rw [Z1]; omega
            have Z2' : aRun T sc hd sy (gF bt (nI i)) (p - S 0) S 0 = p := by rw [Z2]; omega
            have n1s : aRun T sc hd sy (gF bt (-1)) (p + 1 - S 0) S = aSt T sc hd sy (gF bt (-1) p) (aRun T sc hd sy (gF bt (-1)) (p - S 0) S) := by
              rw [show p + 1 - S 0 = (p - S 0) + 1 by omega, run_s, Z1']
            have n2s : aRun T sc hd sy (gF bt (nI i)) (p + 1 - S 0) S = aSt T sc hd sy (gF bt (nI i) p) (aRun T sc hd sy (gF bt (nI i)) (p - S 0) S) := by
              rw [show p + 1 - S 0 = (p - S 0) + 1 by omega, run_s, Z2']
            have P1 := plain_is (e2 0 (by decide)) t0.2 (gF_lt bt (-1) p) W1 hu
            have P2 : f_X6_plainOf_27 v1 w2 v6 (nI (gF bt (nI i) p)) = _ := plain_is (f2 0 (by decide)) t0.2 (gF_lt bt (nI i) p) W2 hv
            have R1 := recv_21 (n := n) (by omega) e2 hT.2 hS _ u1 u3 u4 u5 u6 u7 (b := gF bt (-1) p) (B := B + (p - S 0)) (gF_lt bt (-1) p) (by omega) W1 hu
            have R2 := recv_21 (n := n) (by omega) f2 hT.2 hS _ v1 v3 v4 v5 v6 v7 (b := gF bt (nI i) p) (B := B + (p - S 0)) (gF_lt bt (nI i) p) (by omega) W2 hv
            rw [Z1', ← n1s] at R1
            rw [Z2', ← n2s] at R2
            obtain ⟨g1, g3, g4, g5, g6, g7, E1, E2⟩ := R1
            obtain ⟨h1', h3', h4', h5', h6', h7', F1, F2⟩ := R2
            have F1' : f_X6_receive_27 n o4 a6 a7 v1 w2 v3 v4 v5 v6 v7 (nI (gF bt (nI i) p)) (nI (p + 1)) = _ := (rc_27 _ _ _ _ _ _ _ _ _ _ _ _ _).trans F1
            have L1 := aPl_le (gF_lt bt (-1) p) (aRun T sc hd sy (gF bt (-1)) (p - S 0) S)
            have L2 := aPl_le (gF_lt bt (nI i) p) (aRun T sc hd sy (gF bt (nI i)) (p - S 0) S)
            have m53 := r53 p (by omega)
            have m54 := r54 p (by omega)
            rw [if_pos hp2] at m53 m54
            have ih' := fun cnt => ih k k' (p + 1) cnt g1 g3 g4 g5 g6 g7 h1' h3' h4' h5' h6' h7' (by omega) (by omega) (by omega) (by omega) E2 F2
            clear ih hu hv E2 F2 n1s n2s W1 W2 Z1 Z2 Z1' Z2'
            have gb : a3 p = nI (gF bt (-1) p) := by rw [gF_no bt (by omega), ← b2i_bn]; exact (l7 p (by omega)).1
            have gc : (nI p = nI i → 1 - a3 p = nI (gF bt (nI i) p)) ∧ (¬ nI p = nI i → a3 p = nI (gF bt (nI i) p)) := by
              unfold gF
              refine ⟨fun z => ?_, fun z => ?_⟩
              · rw [if_pos z, (l7 p (by omega)).1, b2i_bn, bn_neg]
              · rw [if_neg z, (l7 p (by omega)).1, b2i_bn]
            generalize aPl (gF bt (-1) p) (aRun T sc hd sy (gF bt (-1)) (p - S 0) S) = A1 at *
            generalize aPl (gF bt (nI i) p) (aRun T sc hd sy (gF bt (nI i)) (p - S 0) S) = A2 at *
            have ne1 : ∀ x, x ≤ 2 → ¬ nI x = -1 := by
              intro x hx z
              have h := nI_pos' (show x < 2 ^ 31 by omega)
              rw [z] at h
              exact absurd h (by decide)
            rw [l_X11_spread_0_69, l_X12_spread_44_132, l1, h6, if_neg (nI_ge (by omega) (by omega)), if_neg (nI_ge (by omega) (by omega)), bitAt_is o2 a3 (by omega), Option.bind_some, xin_t (show p < 9600 by omega) (by decide), nI_clamp (by omega), m53, m54]
            simp only [cond_true]
            have body : ∀ b2 : Int32, b2 = nI (gF bt (nI i) p) → f_X6_plainOf_27 v1 w2 v6 b2 = some (if A2 = 0 then -1 else nI (A2 - 1)) ∧ f_X6_receive_27 n o4 a6 a7 v1 w2 v3 v4 v5 v6 v7 b2 (nI (p + 1)) = some (h1', h3', h4', h5', h6', h7') := fun b2 h => by rw [h]; exact ⟨P2, F1'⟩
            rw [gb] at gc ⊢
            rw [nI_1 p, P1, E1]
            simp only [Option.bind_some]
            by_cases x : nI p = nI i
            · obtain ⟨b1, b2⟩ := body _ (gc.1 x)
              rw [if_pos x, b1, b2]
              simp only [Option.bind_some]
              by_cases y1 : A1 = 0
              · rw [if_pos y1, if_pos rfl, if_pos (by rw [y1]; rfl)]; exact ih' cnt
              · rw [if_neg y1, if_neg (ne1 _ (by omega)), if_neg (fun z => y1 ((nI_eq0 (by omega)).mp z))]
                by_cases y2 : A2 = 0
                · rw [if_pos y2, if_pos rfl, if_pos (by rw [y2]; rfl)]; exact ih' cnt
                · rw [if_neg y2, if_neg (ne1 _ (by omega)), if_neg (fun z => y2 ((nI_eq0 (by omega)).mp z))]
                  by_cases y3 : A1 = A2
                  · rw [if_pos (by rw [y3]), if_pos (by rw [y3])]; exact ih' cnt
                  · rw [if_neg (fun z => y3 (by have := (nI_eq (a := A1 - 1) (b := A2 - 1) (by omega) (by omega)).mp z; omega)), if_neg (fun z => y3 ((nI_eq (by omega) (by omega)).mp z))]
                    by_cases y4 : nI cnt = p2
                    · rw [if_pos y4, if_pos y4]
                      exact Or.inl ⟨_, _, _, _, _, _, _, _, _, _, _, _, _, rfl, rfl⟩
                    · rw [if_neg y4, if_neg y4, nI_1]; exact ih' (cnt + 1)
            · obtain ⟨b1, b2⟩ := body _ (gc.2 x)
              rw [if_neg x, b1, b2]
              simp only [Option.bind_some]
              by_cases y1 : A1 = 0
              · rw [if_pos y1, if_pos rfl, if_pos (by rw [y1]; rfl)]; exact ih' cnt
              · rw [if_neg y1, if_neg (ne1 _ (by omega)), if_neg (fun z => y1 ((nI_eq0 (by omega)).mp z))]
                by_cases y2 : A2 = 0
                · rw [if_pos y2, if_pos rfl, if_pos (by rw [y2]; rfl)]; exact ih' cnt
                · rw [if_neg y2, if_neg (ne1 _ (by omega)), if_neg (fun z => y2 ((nI_eq0 (by omega)).mp z))]
                  by_cases y3 : A1 = A2
                  · rw [if_pos (by rw [y3]), if_pos (by rw [y3])]; exact ih' cnt
                  · rw [if_neg (fun z => y3 (by have := (nI_eq (a := A1 - 1) (b := A2 - 1) (by omega) (by omega)).mp z; omega)), if_neg (fun z => y3 ((nI_eq (by omega) (by omega)).mp z))]
                    by_cases y4 : nI cnt = p2
                    · rw [if_pos y4, if_pos y4]
                      exact Or.inl ⟨_, _, _, _, _, _, _, _, _, _, _, _, _, rfl, rfl⟩
                    · rw [if_neg y4, if_neg y4, nI_1]; exact ih' (cnt + 1)
        obtain ⟨k', hk1, hk2⟩ := mp (S 0) n 0 a1 a1 (by omega) (by omega)
        have hk2' : l_X12_spread_44_132 n (upd o44 0 0) a45 a48 a49 (sn S) (wr (wr a52 0 875 (sn S)) 0 875 (sn S)) s53 s54 p2 n 0 0 = _ := hk2
        have fin := main (sz - S 0) n k' (S 0) 0 q1 q3 q4 q5 q6 q7 w1 w3 w4 w5 w6 w7 (by omega) (Nat.le_refl _) (by omega) (by omega) (by rw [Nat.sub_self]; exact e3) (by rw [Nat.sub_self]; exact f3)
        rw [e1, Option.bind_some, f1', Option.bind_some, z1', Option.bind_some]
        simp only []
        rw [lp, Option.bind_some]
        simp only []
        rw [uend, hk2']
        rcases fin with ⟨x, x1, x3, x4, x5, x6, x7, y1, y3, y4, y5, y6, y7, g1, g2⟩ | ⟨x, l, l', x1, x3, x4, x5, x6, x7, y1, y3, y4, y5, y6, y7, g1, g2⟩
        · have g1' : l_X11_spread_0_69 n a1 o2 a3 o4 a6 a7 o a ow jw jh ald q2 w2 (nI i) p2 n 0 (nI (S 0)) q1 q3 q4 q5 q6 q7 w1 w3 w4 w5 w6 w7 = _ := g1
          have g2' : l_X12_spread_44_132 n (upd o44 0 0) a45 a48 a49 (sn S) (wr (wr a52 0 875 (sn S)) 0 875 (sn S)) s53 s54 p2 k' 0 (nI (S 0)) = _ := g2
          rw [g1', g2', Option.bind_some, Option.bind_some]
          exact ⟨_, _, _, _, _, _, _, _, _, _, _, _, _, _, _, _, _, _, rfl, rfl⟩
        · have g1' : l_X11_spread_0_69 n a1 o2 a3 o4 a6 a7 o a ow jw jh ald q2 w2 (nI i) p2 n 0 (nI (S 0)) q1 q3 q4 q5 q6 q7 w1 w3 w4 w5 w6 w7 = _ := g1
          have g2' : l_X12_spread_44_132 n (upd o44 0 0) a45 a48 a49 (sn S) (wr (wr a52 0 875 (sn S)) 0 875 (sn S)) s53 s54 p2 k' 0 (nI (S 0)) = _ := g2
          rw [g1', g2', Option.bind_some, Option.bind_some]
          simp only [Sum.elim_inr]
          by_cases v : p2 = -1
          · rw [if_pos v, if_pos v]; exact ⟨_, _, _, _, _, _, _, _, _, _, _, _, _, _, _, _, _, _, rfl, rfl⟩
          · rw [if_neg v, if_neg v]; exact ⟨_, _, _, _, _, _, _, _, _, _, _, _, _, _, _, _, _, _, rfl, rfl⟩
      · rw [if_neg d, if_neg d]
        exact ⟨_, _, _, _, _, _, _, _, _, _, _, _, _, _, _, _, _, _, rfl, rfl⟩
    · rw [if_neg c2, if_neg c2]
      exact ⟨_, _, _, _, _, _, _, _, _, _, _, _, _, _, _, _, _, _, rfl, rfl⟩
  · rw [if_neg c, if_pos rfl, if_pos rfl]
    exact ⟨_, _, _, _, _, _, _, _, _, _, _, _, _, _, _, _, _, _, rfl, rfl⟩
