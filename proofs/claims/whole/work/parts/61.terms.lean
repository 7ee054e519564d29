/-! terms, and a line emptied -/
theorem xsf_lim : ∀ k, k < 7 → ∃ lo hi : Nat, xsf 0 k = nI lo ∧ xsf 1 k = nI hi ∧ lo ≤ hi ∧ hi ≤ 4000 := by
  intro k hk
  match k, hk with
  | 0, _ => exact ⟨4, 48, rfl, rfl, by decide, by decide⟩
  | 1, _ => exact ⟨1, 15, rfl, rfl, by decide, by decide⟩
  | 2, _ => exact ⟨1, 15, rfl, rfl, by decide, by decide⟩
  | 3, _ => exact ⟨0, 1, rfl, rfl, by decide, by decide⟩
  | 4, _ => exact ⟨40, 4000, rfl, rfl, by decide, by decide⟩
  | 5, _ => exact ⟨0, 1, rfl, rfl, by decide, by decide⟩
  | 6, _ => exact ⟨1, 8, rfl, rfl, by decide, by decide⟩
theorem iT_set {T : Nat → Nat} {a1 a45 : Nat → Int32} (hT : iT T a1 a45) {k v : Nat} (hk : k < 7) (h1 : xsf 0 k ≤ nI v) (h2 : nI v ≤ xsf 1 k) (hv : v < 2 ^ 31) : iT (fun j => if j = k then v else T j) (upd a1 k (nI v)) (upd a45 k (nI v)) := by
  obtain ⟨t1, t2, t3, t4, t5, t6, t7, t8⟩ := hT
  have hu : ∀ j, j < 7 → upd a1 k (nI v) j = nI (if j = k then v else T j) ∧ upd a45 k (nI v) j = nI (if j = k then v else T j) := by
    intro j hj
    by_cases e : j = k
    · subst e; simp [upd]
    · simp [upd, e, t1 j hj]
  have q : ∀ lo hi : Nat, lo ≤ 4000 → hi ≤ 4000 → xsf 0 k = nI lo → xsf 1 k = nI hi → lo ≤ v ∧ v ≤ hi := by
    intro lo hi g1 g2 g3 g4
    rw [g3] at h1
    rw [g4] at h2
    exact ⟨(nI_leI (by omega) hv).mp h1, (nI_leI hv (by omega)).mp h2⟩
  match k, hk with
  | 0, _ => exact ⟨hu, q 4 48 (by decide) (by decide) rfl rfl, t3, t4, t5, t6, t7, t8⟩
  | 1, _ => exact ⟨hu, t2, q 1 15 (by decide) (by decide) rfl rfl, t4, t5, t6, t7, t8⟩
  | 2, _ => exact ⟨hu, t2, t3, q 1 15 (by decide) (by decide) rfl rfl, t5, t6, t7, t8⟩
  | 3, _ => exact ⟨hu, t2, t3, t4, (q 0 1 (by decide) (by decide) rfl rfl).2, t6, t7, t8⟩
  | 4, _ => exact ⟨hu, t2, t3, t4, t5, q 40 4000 (by decide) (by decide) rfl rfl, t7, t8⟩
  | 5, _ => exact ⟨hu, t2, t3, t4, t5, t6, (q 0 1 (by decide) (by decide) rfl rfl).2, t8⟩
  | 6, _ => exact ⟨hu, t2, t3, t4, t5, t6, t7, q 1 8 (by decide) (by decide) rfl rfl⟩
/-- all that speaks of terms -/
def iTS (T : Nat → Nat) (B sc hs : Nat) (hd : Nat → Int32) (sy : Nat → Nat → Nat) (st rg wg md gd am sl hu sp tk w h : Nat) (cn lb : Nat → Nat) (pb : Nat) (gy : Nat → Nat → Nat) (a1 a45 o4 : Nat → Int32) (j5 : Int64) (a6 a7 o44 a49 o16 a17 o18 : Nat → Int32) (j18 j19 : Int64) (a20 a51 o9 a10 o11 a12 o13 a14 a15 : Nat → Int32) : Prop :=
  iT T a1 a45 ∧ iS (T 0) sc hs hd sy o4 j5 a6 a7 o44 a49 ∧ iR (T 0) B st rg wg md gd am sl hu sp tk w h cn lb pb o16 a17 o18 j18 j19 a20 a51 ∧ iG (T 0) cn gy o9 a10 o11 a12 o13 a14 a15 a51
theorem k_terms {T : Nat → Nat} {B sc hs : Nat} {hd : Nat → Int32} {sy : Nat → Nat → Nat} {st rg wg md gd am sl hu sp tk w h : Nat} {cn lb : Nat → Nat} {pb : Nat} {gy : Nat → Nat → Nat} {a1 a45 o4 : Nat → Int32} {j5 : Int64} {a6 a7 o44 a49 o16 a17 o18 : Nat → Int32} {j18 j19 : Int64} {a20 a51 o9 a10 o11 a12 o13 a14 a15 a36 a46 a47 : Nat → Int32} (hB : B < 2 ^ 31)
    (hX : iTS T B sc hs hd sy st rg wg md gd am sl hu sp tk w h cn lb pb gy a1 a45 o4 j5 a6 a7 o44 a49 o16 a17 o18 j18 j19 a20 a51 o9 a10 o11 a12 o13 a14 a15) (hC : iC o44 a36 a46 a47) (p1 p2 : Int32) :
    ∃ a a1' a45' T', f_X11_terms_0 a1 o4 o16 a17 p1 p2 = some (a, a1') ∧ f_X12_terms_44 o44 a45 a46 a47 a51 p1 p2 = some (a, upd o44 0 0, a45') ∧ iTS T' B sc hs hd sy st rg wg md gd am sl hu sp tk w h cn lb pb gy a1' a45' o4 j5 a6 a7 o44 a49 o16 a17 o18 j18 j19 a20 a51 o9 a10 o11 a12 o13 a14 a15 := by
  obtain ⟨hT, hS, hR, hG⟩ := id hX
  unfold f_X11_terms_0 f_X12_terms_44
  rw [isW, isIn_w p1 0 6 0 6 rfl rfl]
  simp only [Option.bind_some]
  by_cases c : 0 ≤ p1 ∧ p1 ≤ 6
  · rw [if_pos c, if_neg one_ne, if_neg one_ne]
    obtain ⟨k, -, hk, rfl⟩ := i32_in (a := 0) (b := 6) (by decide) c (by decide)
    have hk7 : k < 7 := by omega
    rw [xin_nI (by omega), nI_clamp (by omega), (hC.2.1 k hk7).1, (hC.2.1 k hk7).2, isW, isIn_w p2 (xsf 0 k) (xsf 1 k) _ _ rfl rfl]
    simp only [hk7, decide_true, cond_true, Option.bind_some]
    by_cases c3 : xsf 0 k ≤ p2 ∧ p2 ≤ xsf 1 k
    · rw [if_pos c3, if_neg one_ne, if_neg one_ne]
      obtain ⟨lo, hi, e1, e2, e3, e4⟩ := xsf_lim k hk7
      obtain ⟨v, v1, v2, rfl⟩ := i32_in (a := lo) (b := hi) (x := p2) (by omega) ⟨e1 ▸ c3.1, e2 ▸ c3.2⟩ e3
      have hT2 := iT_set hT hk7 c3.1 c3.2 (by omega)
      have j1 : b_X11_terms_0_47 a1 o4 o16 a17 (nI k) (nI v) = some (a1 k, upd a1 k (nI v)) := by
        unfold b_X11_terms_0_47
        rw [xin_nI (by omega), nI_clamp (by omega)]
        simp only [hk7, decide_true, cond_true]
      have j2 : b_X12_terms_44_78 (upd o44 0 0) a45 a46 a47 a51 (nI k) (nI v) = some (a1 k, upd o44 0 0, upd a45 k (nI v)) := by
        unfold b_X12_terms_44_78
        rw [xin_nI (by omega), nI_clamp (by omega)]
        simp only [hk7, decide_true, cond_true]
        rw [(hT.1 k hk7).1, (hT.1 k hk7).2]
      rw [j1, j2]
      by_cases c5 : k = 0
      · subst c5
        have z0 : nI 0 = 0 := nI_0
        rw [if_pos z0, if_pos z0]
        unfold f_X11_isLoadHeld_0
        obtain ⟨s1, s2, s3, s4, s5⟩ := id hS
        rw [s1, s2, hR.1.1, hR.1.2.1]
        have r3 := hR.2.2.2.2.2.2.2.2.2.2.2.2.2.2.2.1 3 (by decide)
        rw [r3.1, show a51 16 = a51 (13 + 3) from rfl, r3.2.1]
        have htk : tk ≤ B := hR.2.2.2.2.2.2.2.2.2.2.2.2.1.2.2
        by_cases d1 : 0 < nI sc
        · rw [if_pos d1, if_pos d1]
          simp only [Option.bind_some, if_neg one_ne]
          exact ⟨_, _, _, T, rfl, rfl, hX⟩
        · rw [if_neg d1, if_neg d1]
          by_cases d2 : nI st = 0
          · rw [if_pos d2, if_pos d2]
            by_cases d3 : nI (cn 3) ≤ 0
            · rw [if_pos d3, if_pos d3]
              simp only [Option.bind_some, if_true]
              refine ⟨_, _, _, fun j => if j = 0 then v else T j, rfl, rfl, hT2, ?_⟩
              have q1 : sc = 0 := by
                rcases Nat.eq_zero_or_pos sc with q | q
                · exact q
                · exact absurd (nI_lt (a := 0) q (by omega)) d1
              have q2 : st = 0 := by
                have := hR.1.2.2
                exact (nI_eq (b := 0) (by omega) (by decide)).mp d2
              have q3 : cn 3 = 0 := by
                have := (nI_leI (a := cn 3) (b := 0) (by omega) (by decide)).mp d3
                omega
              have hv0 : (if (0 : Nat) = 0 then v else T 0) = v := rfl
              show iS (if (0 : Nat) = 0 then v else T 0) _ _ _ _ _ _ _ _ _ _ ∧ iR (if (0 : Nat) = 0 then v else T 0) _ _ _ _ _ _ _ _ _ _ _ _ _ _ _ _ _ _ _ _ _ _ _ ∧ iG (if (0 : Nat) = 0 then v else T 0) _ _ _ _ _ _ _ _ _ _
              rw [hv0]
              have hv4 : 4 ≤ v := hT2.2.1.1
              have hT4 : 4 ≤ T 0 := hT.2.1.1
              obtain ⟨r1, r2, r3, r4, r5, r6, r7, r8, ⟨r9, r9b, r9c⟩, r10, r11, r12, r13, r14, r15, r16, r17, r18, r19⟩ := hR
              have hsp := r9c q2
              refine ⟨⟨s1, s2, s3, s4, fun s hs => by omega⟩, ⟨r1, r2, r3, r4, r5, r6, r7, r8, ⟨r9, by omega, r9c⟩, fun _ => r10 (by omega), fun _ => by omega, r12, r13, r14, r15, r16, r17, r18, fun _ => r19 (by omega)⟩, hG.1, hG.2.1, hG.2.2.1, fun s _ hs => by omega, hG.2.2.2.2⟩
            · rw [if_neg d3, if_neg d3]
              simp only [Option.bind_some, if_neg one_ne]
              exact ⟨_, _, _, T, rfl, rfl, hX⟩
          · rw [if_neg d2, if_neg d2]
            simp only [Option.bind_some, if_neg one_ne]
            exact ⟨_, _, _, T, rfl, rfl, hX⟩
      · have z0 : ¬ nI k = 0 := nI_ne0 (by omega) (by omega)
        rw [if_neg z0, if_neg z0]
        have hv0 : (if (0 : Nat) = k then v else T 0) = T 0 := if_neg (fun e => c5 e.symm)
        refine ⟨_, _, _, fun j => if j = k then v else T j, rfl, rfl, hT2, ?_⟩
        show iS (if (0 : Nat) = k then v else T 0) _ _ _ _ _ _ _ _ _ _ ∧ iR (if (0 : Nat) = k then v else T 0) _ _ _ _ _ _ _ _ _ _ _ _ _ _ _ _ _ _ _ _ _ _ _ ∧ iG (if (0 : Nat) = k then v else T 0) _ _ _ _ _ _ _ _ _ _
        rw [hv0]
        exact ⟨hS, hR, hG⟩
    · rw [if_neg c3, if_pos rfl, if_pos rfl]
      exact ⟨_, _, _, T, rfl, rfl, hX⟩
  · rw [if_neg c, if_pos rfl, if_pos rfl]
    exact ⟨_, _, _, T, rfl, rfl, hX⟩
theorem iR_a51 {T0 B st rg wg md gd am sl hu sp tk w h : Nat} {cn lb : Nat → Nat} {pb : Nat} {o a ow : Nat → Int32} {jw jh : Int64} {ald r : Nat → Int32} (x : Int32) (hR : iR T0 B st rg wg md gd am sl hu sp tk w h cn lb pb o a ow jw jh ald r) : iR T0 B st rg wg md gd am sl hu sp tk w h cn lb pb o a ow jw jh ald (upd r 0 x) := by
  have e : ∀ k, 0 < k → upd r 0 x k = r k := fun k hk => if_neg (by omega)
  unfold iR at hR ⊢
  simp only [e _ (Nat.succ_pos _), fun k => e (13 + k) (by omega), fun k => e (32 + k) (by omega)]
  exact hR
theorem iG_a51 {T0 : Nat} {cn : Nat → Nat} {gy : Nat → Nat → Nat} {o9 a10 o11 a12 o13 a14 a15 r : Nat → Int32} (x : Int32) (hG : iG T0 cn gy o9 a10 o11 a12 o13 a14 a15 r) : iG T0 cn gy o9 a10 o11 a12 o13 a14 a15 (upd r 0 x) := by
  have e : ∀ k, 0 < k → upd r 0 x k = r k := fun k hk => if_neg (by omega)
  unfold iG at hG ⊢
  simp only [fun s => e (80 + 52 * s) (by omega), fun s => e (80 + 52 * s + 1) (by omega), fun s => e (80 + 52 * s + 2) (by omega), fun s => e (80 + 52 * s + 3) (by omega), fun s i => e (80 + 52 * s + 4 + i) (by omega), fun s c => e (704 + 3 * s + c) (by omega), fun s c => e (776 + 3 * s + c) (by omega)]
  exact hG
