/-! terms, and a line emptied -/
theorem xsf_lim : ∀ k, k < 7 → ∃ lo hi : Nat, xsf 0 k = nI lo ∧ xsf 1 k = nI hi ∧ lo ≤ hi ∧ hi ≤ 4000 := by
  intro k hk
  match k, hk with
  | 0, _ => exact ⟨4, 48, rfl, rfl, by decide, by decide⟩
  | 1, _ => exact ⟨1, 15, rfl, rfl, by decide, by decide⟩
  | 2, _ => exact ⟨1, 15, rfl, rfl, by decide, by decide⟩
  | 3, _ => exact ⟨0, 1, rfl, rfl, by decide, by decide⟩
  | 4, _ => exact ⟨40, 4000, rfl, rfl, by decide, by decide⟩
  | 5, _ => exact ⟨0, 1, rfl, rfl, by decide, by decide⟩
  | 6, _ => exact ⟨1, 8, rfl, rfl, by decide, by decide⟩
theorem iT_set {T : Nat → Nat} {a1 a45 : Nat → Int32} (hT : iT T a1 a45) {k v : Nat} (hk : k < 7) (h1 : xsf 0 k ≤ nI v) (h2 : nI v ≤ xsf 1 k) (hv : v < 2 ^ 31) : iT (fun j => if j = k then v else T j) (upd a1 k (nI v)) (upd a45 k (nI v)) := by
  obtain ⟨t1, t2, t3, t4, t5, t6, t7, t8⟩ := hT
  have hu : ∀ j, j < 7 → upd a1 k (nI v) j = nI (if j = k then v else T j) ∧ upd a45 k (nI v) j = nI (if j = k then v else T j) := by
    intro j hj
    by_cases e : j = k
    · subst e; simp [upd]
    · simp [upd, e, t1 j hj]
  have q : ∀ lo hi : Nat, lo ≤ 4000 → hi ≤ 4000 → xsf 0 k = nI lo → xsf 1 k = nI hi → lo ≤ v ∧ v ≤ hi := by
    intro lo hi g1 g2 g3 g4
    rw [g3] at h1
    rw [g4] at h2
    exact ⟨(nI_leI (by omega) hv).mp h1, (nI_leI hv (by omega)).mp h2⟩
  match k, hk with
  | 0, _ => exact ⟨hu, q 4 48 (by decide) (by decide) rfl rfl, t3, t4, t5, t6, t7, t8⟩
  | 1, _ => exact ⟨hu, t2, q 1 15 (by decide) (by decide) rfl rfl, t4, t5, t6, t7, t8⟩
  | 2, _ => exact ⟨hu, t2, t3, q 1 15 (by decide) (by decide) rfl rfl, t5, t6, t7, t8⟩
  | 3, _ => exact ⟨hu, t2, t3, t4, (q 0 1 (by decide) (by decide) rfl rfl).2, t6, t7, t8⟩
  | 4, _ => exact ⟨hu, t2, t3, t4, t5, q 40 4000 (by decide) (by decide) rfl rfl, t7, t8⟩
  | 5, _ => exact ⟨hu, t2, t3, t4, t5, t6, (q 0 1 (by decide) (by decide) rfl rfl).2, t8⟩
  | 6, _ => exact ⟨hu, t2, t3, t4, t5, t6, t7, q 1 8 (by decide) (by decide) rfl rfl⟩
/-- all that speaks of terms -/
def iTS (T : Nat → Nat) (B sc hs : Nat) (hd : Nat → Int32) (sy : Nat → Nat → Nat) (S : Nat → Nat) (a1 a45 o4 : Nat → Int32) (j5 : Int64) (a6 a7 o44 a49 o16 a17 o18 : Nat → Int32) (j18 j19 : Int64) (a20 o9 a10 o11 a12 o13 a14 a15 : Nat → Int32) : Prop :=
  iT T a1 a45 ∧ iS (T 0) sc hs hd sy o4 j5 a6 a7 o44 a49 ∧ aW (T 0) B S ∧ cR (T 0) S o16 a17 o18 j18 j19 a20 ∧ cG (T 0) S o9 a10 o11 a12 o13 a14 a15
theorem k_terms {T : Nat → Nat} {B sc hs : Nat} {hd : Nat → Int32} {sy : Nat → Nat → Nat} {S : Nat → Nat} {a1 a45 o4 : Nat → Int32} {j5 : Int64} {a6 a7 o44 a49 o16 a17 o18 : Nat → Int32} {j18 j19 : Int64} {a20 o9 a10 o11 a12 o13 a14 a15 a36 a46 a47 : Nat → Int32} (hB : 8 * B < 2 ^ 31)
    (hX : iTS T B sc hs hd sy S a1 a45 o4 j5 a6 a7 o44 a49 o16 a17 o18 j18 j19 a20 o9 a10 o11 a12 o13 a14 a15) (hC : iC o44 a36 a46 a47) (p1 p2 : Int32) :
    ∃ a a1' a45' T', f_X11_terms_0 a1 o4 o16 a17 p1 p2 = some (a, a1') ∧ f_X12_terms_44 o44 a45 a46 a47 (sn S) p1 p2 = some (a, upd o44 0 0, a45') ∧ iTS T' B sc hs hd sy S a1' a45' o4 j5 a6 a7 o44 a49 o16 a17 o18 j18 j19 a20 o9 a10 o11 a12 o13 a14 a15 := by
  obtain ⟨hT, hS, hW, hR, hG⟩ := id hX
  unfold f_X11_terms_0 f_X12_terms_44
  rw [isW, isIn_w p1 0 6 0 6 rfl rfl]
  simp only [Option.bind_some]
  by_cases c : 0 ≤ p1 ∧ p1 ≤ 6
  · rw [if_pos c, if_neg one_ne, if_neg one_ne]
    obtain ⟨k, -, hk, rfl⟩ := i32_in (a := 0) (b := 6) (by decide) c (by decide)
    have hk7 : k < 7 := by omega
    rw [xin_nI (by omega), nI_clamp (by omega), (hC.2.1 k hk7).1, (hC.2.1 k hk7).2, isW, isIn_w p2 (xsf 0 k) (xsf 1 k) _ _ rfl rfl]
    simp only [hk7, decide_true, cond_true, Option.bind_some]
    by_cases c3 : xsf 0 k ≤ p2 ∧ p2 ≤ xsf 1 k
    · rw [if_pos c3, if_neg one_ne, if_neg one_ne]
      obtain ⟨lo, hi, e1, e2, e3, e4⟩ := xsf_lim k hk7
      obtain ⟨v, v1, v2, rfl⟩ := i32_in (a := lo) (b := hi) (x := p2) (by omega) ⟨e1 ▸ c3.1, e2 ▸ c3.2⟩ e3
      have hT2 := iT_set hT hk7 c3.1 c3.2 (by omega)
      have j1 : b_X11_terms_0_47 a1 o4 o16 a17 (nI k) (nI v) = some (a1 k, upd a1 k (nI v)) := by
        unfold b_X11_terms_0_47
        rw [xin_nI (by omega), nI_clamp (by omega)]
        simp only [hk7, decide_true, cond_true]
      have j2 : b_X12_terms_44_78 (upd o44 0 0) a45 a46 a47 (sn S) (nI k) (nI v) = some (a1 k, upd o44 0 0, upd a45 k (nI v)) := by
        unfold b_X12_terms_44_78
        rw [xin_nI (by omega), nI_clamp (by omega)]
        simp only [hk7, decide_true, cond_true]
        rw [(hT.1 k hk7).1, (hT.1 k hk7).2]
      rw [j1, j2]
      by_cases c5 : k = 0
      · subst c5
        have z0 : nI 0 = 0 := nI_0
        rw [if_pos z0, if_pos z0]
        unfold f_X11_isLoadHeld_0
        obtain ⟨s1, s2, s3, s4, s5⟩ := id hS
        have h16 : a17 3 = nI (S 16) := hR.2.1 3 (by decide)
        have c16 : S 16 ≤ 8 * S 5 := hW.2.2.2 3 (by decide)
        have c5 : S 5 ≤ B := hW.2.1
        have q1 : S 1 ≤ 2 := hW.1.1.1
        rw [s1, s2, hR.1.1.1, sn_ap, sn_ap, h16]
        by_cases d1 : 0 < nI sc
        · rw [if_pos d1, if_pos d1]
          simp only [Option.bind_some, if_neg one_ne]
          exact ⟨_, _, _, T, rfl, rfl, hX⟩
        · rw [if_neg d1, if_neg d1]
          by_cases d2 : nI (S 1) = 0
          · rw [if_pos d2, if_pos d2]
            by_cases d3 : nI (S 16) ≤ 0
            · rw [if_pos d3, if_pos d3]
              simp only [Option.bind_some, if_true]
              refine ⟨_, _, _, fun j => if j = 0 then v else T j, rfl, rfl, hT2, ?_⟩
              have q1 : sc = 0 := by
                rcases Nat.eq_zero_or_pos sc with q | q
                · exact q
                · exact absurd (nI_lt (a := 0) q (by omega)) d1
              have q2 : S 1 = 0 := (nI_eq (b := 0) (by omega) (by decide)).mp d2
              have q3 : S 16 = 0 := by
                have := (nI_leI (a := S 16) (b := 0) (by omega) (by decide)).mp d3
                omega
              have hv0 : (if (0 : Nat) = 0 then v else T 0) = v := rfl
              show iS (if (0 : Nat) = 0 then v else T 0) _ _ _ _ _ _ _ _ _ _ ∧ aW (if (0 : Nat) = 0 then v else T 0) _ _ ∧ cR (if (0 : Nat) = 0 then v else T 0) _ _ _ _ _ _ _ ∧ cG (if (0 : Nat) = 0 then v else T 0) _ _ _ _ _ _ _ _
              rw [hv0]
              have hv4 : 4 ≤ v := hT2.2.1.1
              obtain ⟨⟨w1, g1, g2, g3, g4, g5, g6, g7, g8⟩, w2⟩ := hW
              obtain ⟨z1, z2, z3⟩ := g8 q2
              refine ⟨⟨s1, s2, s3, s4, fun s hs => by omega⟩, ⟨⟨w1, g1, g2, g3, g4, by omega, g6, g7, g8⟩, w2⟩, ⟨⟨hR.1.1, hR.1.2.1, fun q => by omega⟩, hR.2⟩, ⟨⟨hG.1.1, fun s _ hs => by omega⟩, hG.2⟩⟩
            · rw [if_neg d3, if_neg d3]
              simp only [Option.bind_some, if_neg one_ne]
              exact ⟨_, _, _, T, rfl, rfl, hX⟩
          · rw [if_neg d2, if_neg d2]
            simp only [Option.bind_some, if_neg one_ne]
            exact ⟨_, _, _, T, rfl, rfl, hX⟩
      · have z0 : ¬ nI k = 0 := nI_ne0 (by omega) (by omega)
        rw [if_neg z0, if_neg z0]
        have hv0 : (if (0 : Nat) = k then v else T 0) = T 0 := if_neg (fun e => c5 e.symm)
        refine ⟨_, _, _, fun j => if j = k then v else T j, rfl, rfl, hT2, ?_⟩
        show iS (if (0 : Nat) = k then v else T 0) _ _ _ _ _ _ _ _ _ _ ∧ aW (if (0 : Nat) = k then v else T 0) _ _ ∧ cR (if (0 : Nat) = k then v else T 0) _ _ _ _ _ _ _ ∧ cG (if (0 : Nat) = k then v else T 0) _ _ _ _ _ _ _ _
        rw [hv0]
        exact ⟨hS, hW, hR, hG⟩
    · rw [if_neg c3, if_pos rfl, if_pos rfl]
      exact ⟨_, _, _, T, rfl, rfl, hX⟩
  · rw [if_neg c, if_pos rfl, if_pos rfl]
    exact ⟨_, _, _, T, rfl, rfl, hX⟩
theorem sn_0 (S : Nat → Nat) (v : Nat) : upd (sn S) 0 (nI v) = sn (su S 0 v) := sn_su S 0 v
/-- AT doesn't matter to the receiver -/
theorem aW_0 {T0 B v : Nat} {S : Nat → Nat} (h : aW T0 B S) : aW T0 B (su S 0 v) := by
  obtain ⟨h1, h2, h3, h4⟩ := h
  exact ⟨h1, h2, hb_cg h3 (fun j g1 g2 => su_n (by omega)), fun k hk => by rw [su_n (by omega)]; exact h4 k hk⟩
theorem cR_0 {T0 v : Nat} {S : Nat → Nat} {o a ow : Nat → Int32} {jw jh : Int64} {ald : Nat → Int32} (h7 : S 7 < 384) (h : cR T0 S o a ow jw jh ald) : cR T0 (su S 0 v) o a ow jw jh ald := by
  obtain ⟨h1, h2, h3, h4, h5⟩ := h
  exact ⟨h1, cC_cg h2 (fun k hk => su_n (by omega)), h3, h4, cY_cg h5 rfl rfl rfl (fun i hi => su_n (by omega)) h7⟩
theorem cG_0 {T0 v : Nat} {S : Nat → Nat} {o9 a10 o11 a12 o13 a14 a15 : Nat → Int32} (hT : T0 ≤ 48) (h : cG T0 S o9 a10 o11 a12 o13 a14 a15) : cG T0 (su S 0 v) o9 a10 o11 a12 o13 a14 a15 := ⟨gC_cg h.1 hT rfl (fun j h1 h2 => su_n (by omega)), gT_cg h.2.1 rfl (fun j h1 h2 => su_n (by omega)), gJ_cg h.2.2 rfl (fun j h1 h2 => su_n (by omega))⟩
