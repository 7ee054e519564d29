/-! the class's receiver with its log: STATE, HUNT, CHECKS -/
theorem add_9 (o a : Nat → Int32) (p1 p2 p3 : Int32) (tot : Nat) (h0 : o 0 = 12) (h2 : o 2 = nI tot) (h3 : o 3 = nI (tot % 12)) : f_X7_add_9 o a p1 p2 p3 = some (upd (upd o 2 (nI (tot + 1))) 3 (nI ((tot + 1) % 12)), upd (upd (upd a (3 * (tot % 12)) p1) (3 * (tot % 12) + 1) p2) (3 * (tot % 12) + 2) p3) := by
  have hm : tot % 12 < 12 := Nat.mod_lt _ (by decide)
  have fin : ∀ a : Nat → Int32, b_X7_add_9_53 o a = some (upd (upd o 2 (nI (tot + 1))) 3 (nI ((tot + 1) % 12)), a) := by
    intro a
    unfold b_X7_add_9_53 b_X7_add_9_77
    rw [h0, h2, h3, nI_1, nI_1]
    by_cases c : 12 ≤ tot % 12 + 1
    · rw [if_pos (show (12 : Int32) ≤ nI (tot % 12 + 1) from nI_le (a := 12) c (by omega)), show (tot + 1) % 12 = 0 by omega]; rfl
    · rw [if_neg (show ¬ (12 : Int32) ≤ nI (tot % 12 + 1) from nI_ge (b := 12) (by omega) (by decide)), show (tot + 1) % 12 = tot % 12 + 1 by omega]
  unfold f_X7_add_9
  have e3 : (3 : Int32) * nI (tot % 12) = nI (3 * (tot % 12)) := pk_mul 3 _
  have e2 : nI (3 * (tot % 12)) + 2 = nI (3 * (tot % 12) + 2) := nI_add _ 2
  rw [h3, e3, nI_1, e2, if_neg (nI_pos (by omega)), if_neg (show ¬ (36 : Int32) ≤ nI (3 * (tot % 12) + 2) from nI_ge (b := 36) (by omega) (by decide)), xin_t (show 3 * (tot % 12) < 36 by omega) (by decide), xin_t (show 3 * (tot % 12) + 1 < 36 by omega) (by decide), xin_t (show 3 * (tot % 12) + 2 < 36 by omega) (by decide), cond_true, cond_true, cond_true, nI_clamp (by omega), nI_clamp (by omega), nI_clamp (by omega), fin]
theorem add_11 (o a : Nat → Int32) (p1 p2 p3 : Int32) (tot : Nat) (h0 : o 0 = 24) (h2 : o 2 = nI tot) (h3 : o 3 = nI (tot % 24)) : f_X7_add_11 o a p1 p2 p3 = some (upd (upd o 2 (nI (tot + 1))) 3 (nI ((tot + 1) % 24)), upd (upd (upd a (3 * (tot % 24)) p1) (3 * (tot % 24) + 1) p2) (3 * (tot % 24) + 2) p3) := by
  have hm : tot % 24 < 24 := Nat.mod_lt _ (by decide)
  have fin : ∀ a : Nat → Int32, b_X7_add_11_53 o a = some (upd (upd o 2 (nI (tot + 1))) 3 (nI ((tot + 1) % 24)), a) := by
    intro a
    unfold b_X7_add_11_53 b_X7_add_11_77
    rw [h0, h2, h3, nI_1, nI_1]
    by_cases c : 24 ≤ tot % 24 + 1
    · rw [if_pos (show (24 : Int32) ≤ nI (tot % 24 + 1) from nI_le (a := 24) c (by omega)), show (tot + 1) % 24 = 0 by omega]; rfl
    · rw [if_neg (show ¬ (24 : Int32) ≤ nI (tot % 24 + 1) from nI_ge (b := 24) (by omega) (by decide)), show (tot + 1) % 24 = tot % 24 + 1 by omega]
  unfold f_X7_add_11
  have e3 : (3 : Int32) * nI (tot % 24) = nI (3 * (tot % 24)) := pk_mul 3 _
  have e2 : nI (3 * (tot % 24)) + 2 = nI (3 * (tot % 24) + 2) := nI_add _ 2
  rw [h3, e3, nI_1, e2, if_neg (nI_pos (by omega)), if_neg (show ¬ (72 : Int32) ≤ nI (3 * (tot % 24) + 2) from nI_ge (b := 72) (by omega) (by decide)), xin_t (show 3 * (tot % 24) < 72 by omega) (by decide), xin_t (show 3 * (tot % 24) + 1 < 72 by omega) (by decide), xin_t (show 3 * (tot % 24) + 2 < 72 by omega) (by decide), cond_true, cond_true, cond_true, nI_clamp (by omega), nI_clamp (by omega), nI_clamp (by omega), fin]
theorem add_13 (o a : Nat → Int32) (p1 p2 p3 : Int32) (tot : Nat) (h0 : o 0 = 32) (h2 : o 2 = nI tot) (h3 : o 3 = nI (tot % 32)) : f_X7_add_13 o a p1 p2 p3 = some (upd (upd o 2 (nI (tot + 1))) 3 (nI ((tot + 1) % 32)), upd (upd (upd a (3 * (tot % 32)) p1) (3 * (tot % 32) + 1) p2) (3 * (tot % 32) + 2) p3) := by
  have hm : tot % 32 < 32 := Nat.mod_lt _ (by decide)
  have fin : ∀ a : Nat → Int32, b_X7_add_13_53 o a = some (upd (upd o 2 (nI (tot + 1))) 3 (nI ((tot + 1) % 32)), a) := by
    intro a
    unfold b_X7_add_13_53 b_X7_add_13_77
    rw [h0, h2, h3, nI_1, nI_1]
    by_cases c : 32 ≤ tot % 32 + 1
    · rw [if_pos (show (32 : Int32) ≤ nI (tot % 32 + 1) from nI_le (a := 32) c (by omega)), show (tot + 1) % 32 = 0 by omega]; rfl
    · rw [if_neg (show ¬ (32 : Int32) ≤ nI (tot % 32 + 1) from nI_ge (b := 32) (by omega) (by decide)), show (tot + 1) % 32 = tot % 32 + 1 by omega]
  unfold f_X7_add_13
  have e3 : (3 : Int32) * nI (tot % 32) = nI (3 * (tot % 32)) := pk_mul 3 _
  have e2 : nI (3 * (tot % 32)) + 2 = nI (3 * (tot % 32) + 2) := nI_add _ 2
  rw [h3, e3, nI_1, e2, if_neg (nI_pos (by omega)), if_neg (show ¬ (96 : Int32) ≤ nI (3 * (tot % 32) + 2) from nI_ge (b := 96) (by omega) (by decide)), xin_t (show 3 * (tot % 32) < 96 by omega) (by decide), xin_t (show 3 * (tot % 32) + 1 < 96 by omega) (by decide), xin_t (show 3 * (tot % 32) + 2 < 96 by omega) (by decide), cond_true, cond_true, cond_true, nI_clamp (by omega), nI_clamp (by omega), nI_clamp (by omega), fin]
theorem gT_add {S S' : Nat → Nat} {o a : Nat → Int32} (h : gT S o a) (v1 v2 v3 : Nat) (q1 q2 q3 : Int32) (f1 : q1 = nI v1) (f2 : q2 = nI v2) (f3 : q3 = nI v3) (e0 : S' 20 = S 20 + 1) (e1 : S' (704 + 3 * (S 20 % 24)) = v1) (e2 : S' (704 + 3 * (S 20 % 24) + 1) = v2) (e3 : S' (704 + 3 * (S 20 % 24) + 2) = v3) (eo : ∀ j, 704 ≤ j → j < 776 → j ≠ 704 + 3 * (S 20 % 24) → j ≠ 704 + 3 * (S 20 % 24) + 1 → j ≠ 704 + 3 * (S 20 % 24) + 2 → S' j = S j) : ∃ o' a', f_X7_add_11 o a q1 q2 q3 = some (o', a') ∧ gT S' o' a' := by
  subst f1; subst f2; subst f3
  obtain ⟨⟨h1, h2, h3⟩, h4⟩ := h
  refine ⟨_, _, add_11 o a _ _ _ (S 20) h1 h2 h3, ⟨h1, ?_, ?_⟩, ?_⟩
  · rw [e0]; rfl
  · rw [e0]; rfl
  · intro s c hs hs2 hc
    rw [e0] at hs2
    have hc3 : c = 0 ∨ c = 1 ∨ c = 2 := by omega
    by_cases d : s = S 20 % 24
    · rcases hc3 with rfl | rfl | rfl
      · simp only [Nat.add_zero]; rw [d, e1, pk_un (by omega), pk_un (by omega), pk_us]
      · rw [d, e2, pk_un (by omega), pk_us]
      · rw [d, e3, pk_us]
    · rw [eo _ (by omega) (by omega) (by omega) (by omega) (by omega), pk_un (by omega), pk_un (by omega), pk_un (by omega)]
      exact h4 s c hs (by omega) hc
theorem gT_cg {S S' : Nat → Nat} {o a : Nat → Int32} (h : gT S o a) (e0 : S' 20 = S 20) (eo : ∀ j, 704 ≤ j → j < 776 → S' j = S j) : gT S' o a := by
  obtain ⟨⟨h1, h2, h3⟩, h4⟩ := h
  unfold gT
  rw [e0]
  exact ⟨⟨h1, h2, h3⟩, fun s c hs hs2 hc => by rw [eo _ (by omega) (by omega)]; exact h4 s c hs hs2 hc⟩
theorem gJ_add {S S' : Nat → Nat} {o a : Nat → Int32} (h : gJ S o a) (v1 v2 v3 : Nat) (q1 q2 q3 : Int32) (f1 : q1 = nI v1) (f2 : q2 = nI v2) (f3 : q3 = nI v3) (e0 : S' 21 = S 21 + 1) (e1 : S' (776 + 3 * (S 21 % 32)) = v1) (e2 : S' (776 + 3 * (S 21 % 32) + 1) = v2) (e3 : S' (776 + 3 * (S 21 % 32) + 2) = v3) (eo : ∀ j, 776 ≤ j → j < 872 → j ≠ 776 + 3 * (S 21 % 32) → j ≠ 776 + 3 * (S 21 % 32) + 1 → j ≠ 776 + 3 * (S 21 % 32) + 2 → S' j = S j) : ∃ o' a', f_X7_add_13 o a q1 q2 q3 = some (o', a') ∧ gJ S' o' a' := by
  subst f1; subst f2; subst f3
  obtain ⟨⟨h1, h2, h3⟩, h4⟩ := h
  refine ⟨_, _, add_13 o a _ _ _ (S 21) h1 h2 h3, ⟨h1, ?_, ?_⟩, ?_⟩
  · rw [e0]; rfl
  · rw [e0]; rfl
  · intro s c hs hs2 hc
    rw [e0] at hs2
    have hc3 : c = 0 ∨ c = 1 ∨ c = 2 := by omega
    by_cases d : s = S 21 % 32
    · rcases hc3 with rfl | rfl | rfl
      · simp only [Nat.add_zero]; rw [d, e1, pk_un (by omega), pk_un (by omega), pk_us]
      · rw [d, e2, pk_un (by omega), pk_us]
      · rw [d, e3, pk_us]
    · rw [eo _ (by omega) (by omega) (by omega) (by omega) (by omega), pk_un (by omega), pk_un (by omega), pk_un (by omega)]
      exact h4 s c hs (by omega) hc
theorem gJ_cg {S S' : Nat → Nat} {o a : Nat → Int32} (h : gJ S o a) (e0 : S' 21 = S 21) (eo : ∀ j, 776 ≤ j → j < 872 → S' j = S j) : gJ S' o a := by
  obtain ⟨⟨h1, h2, h3⟩, h4⟩ := h
  unfold gJ
  rw [e0]
  exact ⟨⟨h1, h2, h3⟩, fun s c hs hs2 hc => by rw [eo _ (by omega) (by omega)]; exact h4 s c hs hs2 hc⟩
theorem gC_cg {T0 : Nat} {S S' : Nat → Nat} {o9 a10 a15 : Nat → Int32} (h : gC T0 S o9 a10 a15) (hT : T0 ≤ 48) (e0 : S' 16 = S 16) (eo : ∀ j, 80 ≤ j → j < 704 → S' j = S j) : gC T0 S' o9 a10 a15 := by
  obtain ⟨⟨h1, h2, h3⟩, h4⟩ := h
  unfold gC
  rw [e0]
  refine ⟨⟨h1, h2, h3⟩, fun s hs hs2 => ?_⟩
  obtain ⟨g1, g2, g3, g4, g5⟩ := h4 s hs hs2
  refine ⟨by rw [eo _ (by omega) (by omega)]; exact g1, by rw [eo _ (by omega) (by omega)]; exact g2, by rw [eo _ (by omega) (by omega)]; exact g3, by rw [eo _ (by omega) (by omega)]; exact g4, fun i hi => by rw [eo _ (by omega) (by omega)]; exact g5 i hi⟩
theorem tn_20 (to : Nat) (S : Nat → Nat) : aTn to S 20 = S 20 + 1 := by
  have h := aTn_c to S (k := 7) (by decide)
  rw [show 13 + 7 = 20 from rfl] at h
  rw [h]
  unfold tnC dl
  by_cases c : to = 2 <;> by_cases d : S 1 = 2 <;> simp [c, d]
theorem tn_log (to : Nat) (S : Nat → Nat) {j : Nat} (h : 704 ≤ j ∧ j < 776) : aTn to S j = aTl to S j := by
  have h5 : ∀ (U : Nat → Nat) (k : Nat), k < 14 → aCt U k j = U j := fun U k hk => su_n (by omega)
  unfold aTn
  rw [aTe_at _ _ (by omega)]
  have h6 : aT4 to (aCt (aTl to S) 7) j = aTl to S j := by
    unfold aT4
    by_cases c : to = 2
    · rw [if_pos c, h5 _ 4 (by decide), h5 _ 7 (by decide)]
    · rw [if_neg c, h5 _ 7 (by decide)]
  unfold aT5
  by_cases c : aT4 to (aCt (aTl to S) 7) 1 = 2
  · rw [if_pos c, h5 _ 5 (by decide), h6]
  · rw [if_neg c, h6]
theorem gT_tn {S : Nat → Nat} {o a : Nat → Int32} (h : gT S o a) (to : Nat) (q1 q2 q3 : Int32) (f1 : q1 = nI (S 0)) (f2 : q2 = nI (S 1)) (f3 : q3 = nI to) : ∃ o' a', f_X7_add_11 o a q1 q2 q3 = some (o', a') ∧ gT (aTn to S) o' a' := by
  have hm : S 20 % 24 < 24 := Nat.mod_lt _ (by decide)
  refine gT_add h (S 0) (S 1) to q1 q2 q3 f1 f2 f3 (tn_20 to S) ?_ ?_ ?_ ?_
  · rw [tn_log _ _ (by omega)]
    unfold aTl
    rw [su_n (by omega), su_n (by omega), su_s]
  · rw [tn_log _ _ (by omega)]
    unfold aTl
    rw [su_n (by omega), su_s]
  · rw [tn_log _ _ (by omega)]
    unfold aTl
    rw [su_s]
  · intro j h1 h2 h3 h4 h5
    rw [tn_log _ _ (by omega)]
    unfold aTl
    rw [su_n h5, su_n h4, su_n h3]
theorem become_16 (S : Nat → Nat) (o11 a12 o a : Nat → Int32) (c : Nat → Nat) (to : Nat) (p p2 : Int32) (hp : p = nI to) (hp2 : p2 = nI (S 0)) (hto : to ≤ 2) (hs : S 1 ≤ 2) (h7 : o 7 = nI (S 1)) (hg : gT S o11 a12) (hc : cC c a) : ∃ o11' a12' a', f_X6_become_16 o11 a12 o a p p2 = some (o11', a12', bO p o, a') ∧ gT (aTn to S) o11' a12' ∧ cC (fun k => c k + tnC to (S 1) k) a' := by
  obtain ⟨o11', a12', g1, g2⟩ := gT_tn hg to p2 (o 7) p hp2 h7 hp
  obtain ⟨a', e1, e2⟩ := become_21 o a c (S 1) to p p2 hp hto hs h7 hc
  have e : f_X6_become_16 o11 a12 o a p p2 = some (o11', a12', bO p o, a') := by
    unfold f_X6_become_16
    rw [g1, Option.bind_some]
    unfold f_X6_become_21 b_X6_become_21_49 b_X6_become_21_67 at e1
    unfold b_X6_become_16_23 b_X6_become_16_49 b_X6_become_16_67
    by_cases x : p = 2
    · rw [if_pos x] at e1 ⊢
      by_cases y : o 7 = 2
      · rw [if_pos y] at e1 ⊢
        have z := (Prod.mk.inj (Option.some.inj e1))
        rw [← z.1, ← z.2]
      · rw [if_neg y] at e1 ⊢
        have z := (Prod.mk.inj (Option.some.inj e1))
        rw [← z.1, ← z.2]
    · rw [if_neg x] at e1 ⊢
      by_cases y : o 7 = 2
      · rw [if_pos y] at e1 ⊢
        have z := (Prod.mk.inj (Option.some.inj e1))
        rw [← z.1, ← z.2]
      · rw [if_neg y] at e1 ⊢
        have z := (Prod.mk.inj (Option.some.inj e1))
        rw [← z.1, ← z.2]
  exact ⟨_, _, _, e, g2, e2⟩
theorem hunt_16 {T : Nat → Nat} {a22 : Nat → Int32} (T0 : Nat) (t6 : a22 6 = nI (T 6)) (t6b : 1 ≤ T 6 ∧ T 6 ≤ 8) (S : Nat → Nat) (o11 a12 o a ow : Nat → Int32) (jw : Int64) (p : Int32) (hp : p = nI (S 0)) (h1 : S 1 = 0) (h6 : S 6 = 0 ∧ S 7 = 0 ∧ S 9 = 0) (h5 : S 5 < 2 ^ 31) (h874 : S 874 + 1 < 2 ^ 31) (h28 : S 28 < 256) (hO : cO T0 S o) (hc : cC (fun k => S (13 + k)) a) (hV : cV S ow jw) (hg : gT S o11 a12) : ∃ o11' a12' o' a', f_X6_hunt_16 a22 o11 a12 o a ow jw p = some (o11', a12', o', a') ∧ gT (aHu T S) o11' a12' ∧ cO T0 (aHu T S) o' ∧ cC (fun k => aHu T S (13 + k)) a' := by
  unfold f_X6_hunt_16
  obtain ⟨⟨k1, k2, k3, k4, k5, k6, k7⟩, k8, k9⟩ := hO
  rw [show f_X10_looksRight_18 ow jw = f_X10_looksRight_24 ow jw from rfl, looks_is S ow jw h5 h28 hV, Option.bind_some, t6, k7, nI_1]
  have no : ¬ ((S 874 + 1) % T 6 = 0 ∧ 40 ≤ S 5 ∧ aSyn S = 0) → ∃ o11' a12' o' a', (some (o11, a12, upd o 14 (nI (S 874 + 1)), a) : Option ((Nat → Int32) × (Nat → Int32) × (Nat → Int32) × (Nat → Int32))) = some (o11', a12', o', a') ∧ gT (aHu T S) o11' a12' ∧ cO T0 (aHu T S) o' ∧ cC (fun k => aHu T S (13 + k)) a' := by
    intro c
    refine ⟨_, _, _, _, rfl, ?_, ?_, ?_⟩
    · unfold aHu
      rw [if_neg c]
      exact gT_cg hg rfl (fun j h1 h2 => su_n (by omega))
    · unfold aHu
      rw [if_neg c]
      refine ⟨⟨k1, k2, k3, k4, k5, k6, rfl⟩, fun q => k8 q, fun q => k9 q⟩
    · unfold aHu
      rw [if_neg c]
      exact cC_cg hc (fun k hk => su_c _ _ _ (by decide) hk)
  by_cases c : 40 ≤ S 5 ∧ aSyn S = 0
  · rw [if_pos c, if_neg one_ne, if_neg (nI_nle (by omega) (by omega))]
    have e0 : xnz (nI (T 6)) = true := by
      unfold xnz
      have : ¬ nI (T 6) = 0 := nI_ne0 (by omega) (by omega)
      simp [this]
    have hm : (S 874 + 1) % T 6 < T 6 := Nat.mod_lt _ (by omega)
    rw [e0, cond_true, pk_rem (d := T 6) h874 (by omega) (by omega)]
    by_cases d : (S 874 + 1) % T 6 = 0
    · rw [if_pos (by rw [d]; rfl)]
      obtain ⟨o11', a12', a', e1, e0, e2⟩ := become_16 (su S 874 (S 874 + 1)) o11 a12 (upd (upd o 8 0) 14 (nI (S 874 + 1))) a (fun k => S (13 + k)) 1 1 p rfl hp (by decide) (show S 1 ≤ 2 by omega) k1 (gT_cg hg rfl (fun j h1 h2 => su_n (by omega))) hc
      rw [e1, Option.bind_some]
      refine ⟨_, _, _, _, rfl, ?_, ?_, ?_⟩
      · unfold aHu
        rw [if_pos ⟨d, c⟩]
        exact gT_cg e0 rfl (fun j h1 h2 => su_n (by omega))
      · unfold aHu
        rw [if_pos ⟨d, c⟩]
        have q := cO_tn (T0 := T0) (S := su (su S 874 (S 874 + 1)) 2 0) (o := upd (upd o 8 0) 14 (nI (S 874 + 1))) (to := 1) ⟨rfl, k3, k4, k5, k6⟩
        refine ⟨⟨rfl, rfl, ?_, ?_, ?_, ?_, rfl⟩, fun _ => ⟨rfl, rfl, fun q => (by cases q)⟩, fun q => (by cases q)⟩
        · rw [su_n (by decide), aTn_fr _ _ (by decide) (by decide) (by decide)]; exact k3
        · rw [su_n (by decide), aTn_fr _ _ (by decide) (by decide) (by decide)]; exact k4
        · rw [su_n (by decide), aTn_fr _ _ (by decide) (by decide) (by decide)]; exact k5
        · rw [su_n (by decide), aTn_fr _ _ (by decide) (by decide) (by decide)]; exact k6
      · unfold aHu
        rw [if_pos ⟨d, c⟩]
        refine cC_cg e2 (fun k hk => ?_)
        show su (aTn 1 (su S 874 (S 874 + 1))) 2 0 (13 + k) = S (13 + k) + tnC 1 (su S 874 (S 874 + 1) 1) k
        rw [su_c _ _ _ (by decide) hk, aTn_c _ _ hk, su_c _ _ _ (by decide) hk]
    · rw [if_neg (fun z => d ((nI_eq0 (by omega)).mp z))]
      exact no (fun z => d z.1)
  · rw [if_neg c, if_pos rfl]
    exact no (fun z => c z.2)
theorem accept_16 {T : Nat → Nat} {a22 : Nat → Int32} (T0 : Nat) (t2 : a22 2 = nI (T 2)) (t2b : T 2 ≤ 15) (U : Nat → Nat) (o11 a12 o a : Nat → Int32) (c : Nat → Nat) (p : Int32) (hp : p = nI (U 0)) (h1 : U 1 = 1 ∨ U 1 = 2) (h2 : U 2 + 1 < 2 ^ 31) (hO : jO U o) (hc : cC c a) (hg : gT U o11 a12) : ∃ (o11' a12' o' a' : Nat → Int32) (d : Nat → Nat), f_X6_acceptRight_16 a22 o11 a12 o a p = some (0, o11', a12', o', a') ∧ o' 18 = o 18 ∧ gT (aH4 T 0 U) o11' a12' ∧ cO T0 (aH4 T 0 U) o' ∧ (∀ k, k < 14 → aH4 T 0 U (13 + k) = U (13 + k) + d k) ∧ cC (fun k => c k + dl k 0 + d k) a' := by
  obtain ⟨⟨k1, k2, k3, k4, k5, k6, k7⟩, k8, k9, k10, k11, k12, k13, k14⟩ := hO
  have hc1 := cC_ct hc (j := 0) (by decide)
  unfold f_X6_acceptRight_16
  rw [k1, k2, nI_1, t2]
  rcases h1 with h1 | h1
  · rw [if_pos (by rw [h1]; rfl)]
    have e4 : aH4 T 0 U = aNr T 0 U := by unfold aH4; rw [if_pos h1]
    rw [e4]
    unfold aNr
    rw [if_pos rfl]
    by_cases g : T 2 ≤ U 2 + 1
    · rw [if_neg (nI_nlt g h2), if_pos g]
      obtain ⟨o11', a12', a', e1, e0, e2⟩ := become_16 (su (su U 9 0) 2 (U 2 + 1)) o11 a12 (upd o 8 (nI (U 2 + 1))) _ _ 2 2 p rfl hp (by decide) (show U 1 ≤ 2 by omega) k1 (gT_cg hg rfl (fun j h1 h2 => by rw [su_n (by omega), su_n (by omega)])) hc1
      rw [e1, Option.bind_some]
      unfold b_X6_acceptRight_16_47
      rw [if_pos (show bO 2 (upd o 8 (nI (U 2 + 1))) 7 = 2 from rfl)]
      refine ⟨_, _, _, _, tnC 2 (U 1), rfl, rfl, ?_, ?_, ?_, e2⟩
      · exact gT_cg e0 rfl (fun j h1 h2 => by rw [su_n (by omega), su_n (by omega), su_n (by omega)])
      · refine ⟨⟨rfl, ?_, rfl, rfl, ?_, ?_, rfl⟩, fun _ => ⟨rfl, rfl, fun _ => ⟨?_, ?_, ?_⟩⟩, fun q => (by cases q)⟩
        · rw [su_n (by decide), su_n (by decide), su_n (by decide), aTn_fr _ _ (by decide) (by decide) (by decide)]; rfl
        · rw [su_n (by decide), su_n (by decide), su_n (by decide), aTn_fr _ _ (by decide) (by decide) (by decide)]; exact k5
        · rw [su_n (by decide), su_n (by decide), su_n (by decide), aTn_fr _ _ (by decide) (by decide) (by decide)]; exact k6
        · rw [su_n (by decide), su_n (by decide), su_n (by decide), aTn_fr _ _ (by decide) (by decide) (by decide)]; exact k10
        · rw [su_n (by decide), su_n (by decide), su_n (by decide), aTn_fr _ _ (by decide) (by decide) (by decide)]; exact k11
        · rw [su_n (by decide), su_n (by decide), su_n (by decide), aTn_fr _ _ (by decide) (by decide) (by decide)]; exact k12
      · intro k hk
        rw [su_c _ _ _ (by decide) hk, su_c _ _ _ (by decide) hk, su_c _ _ _ (by decide) hk, aTn_c _ _ hk, su_c _ _ _ (by decide) hk, su_c _ _ _ (by decide) hk, show su (su U 9 0) 2 (U 2 + 1) 1 = U 1 from rfl]
    · rw [if_pos (nI_lt (by omega) (by omega)), if_neg g]
      unfold b_X6_acceptRight_16_47
      rw [if_neg (show ¬ upd o 8 (nI (U 2 + 1)) 7 = 2 by show ¬ o 7 = 2; rw [k1, h1]; decide)]
      refine ⟨_, _, _, _, fun _ => 0, rfl, rfl, ?_, ?_, ?_, hc1⟩
      · exact gT_cg hg rfl (fun j h1 h2 => by rw [su_n (by omega), su_n (by omega)])
      · refine ⟨⟨k1, rfl, k3, k4, k5, k6, k7⟩, fun _ => ⟨?_, k9, fun q => (by cases q)⟩, fun q => ?_⟩
        · show o 15 = nI (U 7)
          rw [k8, k14]; rfl
        · have q' : U 6 = 1 := q
          rw [k13] at q'
          cases q'
      · intro k hk
        rw [su_c _ _ _ (by decide) hk, su_c _ _ _ (by decide) hk]
        rfl
  · rw [if_neg (by rw [h1]; decide)]
    have e4 : aH4 T 0 U = aSu T 0 U := by unfold aH4; rw [if_neg (by omega)]
    rw [e4]
    unfold aSu
    rw [if_pos rfl]
    unfold b_X6_acceptRight_16_47
    rw [if_pos (by rw [k1, h1]; rfl)]
    refine ⟨_, _, _, _, fun _ => 0, rfl, rfl, ?_, ?_, ?_, hc1⟩
    · exact gT_cg hg rfl (fun j h1 h2 => by rw [su_n (by omega), su_n (by omega), su_n (by omega)])
    · refine ⟨⟨k1, k2, rfl, rfl, k5, k6, k7⟩, fun _ => ⟨?_, rfl, fun _ => ⟨k10, k11, k12⟩⟩, fun q => ?_⟩
      · show o 15 = nI (U 7)
        rw [k8, k14]; rfl
      · have q' : U 6 = 1 := q
        rw [k13] at q'
        cases q'
    · intro k hk
      rw [su_c _ _ _ (by decide) hk, su_c _ _ _ (by decide) hk, su_c _ _ _ (by decide) hk]
      rfl
theorem gT_wr {b : Int32} {S : Nat → Nat} {o a : Nat → Int32} (h : gT S o a) : gT (aWr b S) o a := by
  have e : ∀ j, j ≠ 4 → j ≠ 9 → j ≠ 10 → j ≠ 11 → j ≠ 14 → j ≠ 15 → aWr b S j = S j := by
    intro j h1 h2 h3 h4 h5 h6
    unfold aWr
    by_cases c : b = -1
    · rw [if_pos c]
      unfold aCt
      rw [su_n (by omega), su_n h3, su_n h2, su_n h1]
    · rw [if_neg c, aMd_lo _ _ h4]
      unfold aCt
      rw [su_n (by omega), su_n h3, su_n h2, su_n h1]
  exact gT_cg h (e 20 (by decide) (by decide) (by decide) (by decide) (by decide) (by decide)) (fun j h1 h2 => e j (by omega) (by omega) (by omega) (by omega) (by omega) (by omega))
theorem wrong83_16 {n : Nat} (a22 : Nat → Int32) (T0 : Nat) (U : Nat → Nat) (o11 a12 o a : Nat → Int32) (c : Nat → Nat) (b : Int32) (hb : b = -1 ∨ 0 ≤ b) (h1 : U 1 = 2) (hO : jO U o) (hc : cC c a) : ∃ (o' a' : Nat → Int32) (d : Nat → Nat), b_X6_faceWrong_16_83 n a22 o11 a12 o a b = some (if b = -1 then 2 else 1, o11, a12, o', a') ∧ o' 18 = o 18 ∧ cO T0 (aWr b U) o' ∧ (∀ k, k < 14 → aWr b U (13 + k) = U (13 + k) + d k) ∧ cC (fun k => c k + d k) a' := by
  obtain ⟨⟨k1, k2, k3, k4, k5, k6, k7⟩, k8, k9, k10, k11, k12, k13, k14⟩ := hO
  unfold b_X6_faceWrong_16_83
  by_cases g : b = -1
  · rw [if_pos g, if_pos g]
    have e : aWr b U = aCt (su (su (su U 4 0) 9 0) 10 0) 2 := by unfold aWr; rw [if_pos g]
    rw [e]
    refine ⟨_, _, fun k => dl k 2, rfl, rfl, ?_, ?_, cC_ct hc (j := 2) (by decide)⟩
    · refine ⟨⟨k1, k2, k3, rfl, k5, k6, k7⟩, fun _ => ⟨?_, k9, fun q => (by cases q)⟩, fun q => ?_⟩
      · show o 15 = nI (U 7)
        rw [k8, k14]; rfl
      · have q' : U 6 = 1 := q
        rw [k13] at q'
        cases q'
    · intro k hk
      rw [aCt_c _ _ hk, su_c _ _ _ (by decide) hk, su_c _ _ _ (by decide) hk, su_c _ _ _ (by decide) hk]
  · rw [if_neg g, if_neg g, mendH _ _ hb g, Option.bind_some]
    have e : aWr b U = aMd b (aCt (su (su (su U 4 0) 9 1) 10 1) 1) := by unfold aWr; rw [if_neg g]
    rw [e]
    refine ⟨_, _, fun k => dl k 1, rfl, rfl, ?_, ?_, cC_ct hc (j := 1) (by decide)⟩
    · have lo : ∀ j, j ≠ 11 → aMd b (aCt (su (su (su U 4 0) 9 1) 10 1) 1) j = aCt (su (su (su U 4 0) 9 1) 10 1) 1 j := fun j hj => aMd_lo _ _ hj
      refine ⟨⟨?_, ?_, ?_, ?_, ?_, ?_, ?_⟩, fun _ => ⟨?_, ?_, fun _ => ⟨?_, ?_, ?_⟩⟩, fun q => ?_⟩
      · rw [lo _ (by decide)]; exact k1
      · rw [lo _ (by decide)]; exact k2
      · rw [lo _ (by decide)]; exact k3
      · rw [lo _ (by decide)]; rfl
      · rw [lo _ (by decide)]; exact k5
      · rw [lo _ (by decide)]; exact k6
      · rw [lo _ (by decide)]; exact k7
      · rw [lo _ (by decide)]
        show o 15 = nI (U 7)
        rw [k8, k14]; rfl
      · rw [lo _ (by decide)]; rfl
      · show (if 0 ≤ b ∧ b ≤ 31 then o 16 ^^^ (1 <<< ((31 - b) &&& 31)) else o 16) = _
        unfold aMd
        by_cases q : 0 ≤ b ∧ b ≤ 31
        · rw [if_pos q, if_pos q, su_s, nI_nat, k10]; rfl
        · rw [if_neg q, if_neg q, k10]; rfl
      · rw [lo _ (by decide)]; rfl
      · rw [lo _ (by decide)]; exact k12
      · rw [lo _ (by decide)] at q
        have q' : U 6 = 1 := q
        rw [k13] at q'
        cases q'
    · intro k hk
      rw [aMd_lo _ _ (by omega), aCt_c _ _ hk, su_c _ _ _ (by decide) hk, su_c _ _ _ (by decide) hk, su_c _ _ _ (by decide) hk]
theorem wrong_16 {n : Nat} (hn : 50 ≤ n) {T : Nat → Nat} {a22 : Nat → Int32} (T0 : Nat) (t1 : a22 1 = nI (T 1)) (t1b : T 1 ≤ 15) (t3 : a22 3 = nI (T 3)) (t3b : T 3 ≤ 1) (U : Nat → Nat) (o11 a12 o a : Nat → Int32) (c : Nat → Nat) (y : Nat) (hy : y < 256) (hy0 : y ≠ 0) (p : Int32) (hp : p = nI (U 0)) (h1 : U 1 = 1 ∨ U 1 = 2) (h3 : U 3 + 1 < 2 ^ 31) (h4 : U 4 ≤ 1) (h10 : U 10 = 0) (hO : jO U o) (hc : cC c a) (hg : gT U o11 a12) : ∃ (o11' a12' o' a' : Nat → Int32) (d : Nat → Nat), f_X6_faceWrong_16 n a22 o11 a12 o a (nI y) p = some (nI (aV y (aH4 T y U)), o11', a12', o', a') ∧ o' 18 = o 18 ∧ gT (aH4 T y U) o11' a12' ∧ cO T0 (aH4 T y U) o' ∧ (∀ k, k < 14 → aH4 T y U (13 + k) = U (13 + k) + d k) ∧ cC (fun k => c k + d k) a' := by
  obtain ⟨⟨k1, k2, k3, k4, k5, k6, k7⟩, k8, k9, k10, k11, k12, k13, k14⟩ := id hO
  unfold f_X6_faceWrong_16 b_X6_faceWrong_16_18
  rcases h1 with h1 | h1
  · rw [if_neg (by rw [k1, h1]; decide), if_pos (by rw [k1, h1]; rfl)]
    have e4 : aH4 T y U = aTn 0 U := by unfold aH4 aNr; rw [if_pos h1, if_neg hy0]
    rw [e4]
    unfold b_X6_faceWrong_16_39
    obtain ⟨o11', a12', a', e1, e0, e2⟩ := become_16 U o11 a12 o a c 0 0 p rfl hp (by decide) (by omega) k1 hg hc
    rw [e1, Option.bind_some]
    refine ⟨_, _, bO 0 o, _, tnC 0 (U 1), ?_, rfl, e0, cO_tn ⟨k2, k3, k4, k5, k6⟩, ?_, e2⟩
    · unfold aV; rw [if_neg hy0, if_pos (aTn_1 0 U)]; rfl
    · intro k hk; rw [aTn_c _ _ hk]
  · have e4 : aH4 T y U = aSu T y U := by unfold aH4; rw [if_neg (by omega)]
    rw [if_pos (by rw [k1, h1]; rfl), if_neg (show ¬ upd o 9 (o 9 + 1) 7 = 1 by show ¬ o 7 = 1; rw [k1, h1]; decide), e4, k3, nI_1, show upd o 9 (nI (U 3 + 1)) 9 = nI (U 3 + 1) from rfl, t1, show upd o 9 (nI (U 3 + 1)) 10 = o 10 from rfl, k4, t3]
    have hO2 : jO (su U 3 (U 3 + 1)) (upd o 9 (nI (U 3 + 1))) := ⟨⟨k1, k2, rfl, k4, k5, k6, k7⟩, k8, k9, k10, k11, k12, k13, k14⟩
    unfold aSu
    rw [if_neg hy0]
    by_cases g : U 3 + 1 < T 1
    · rw [if_pos (nI_lt g (by omega)), if_pos g]
      have fin : ∀ b, (b = -1 ∨ 0 ≤ b) → ∃ (o11' a12' o' a' : Nat → Int32) (d : Nat → Nat), b_X6_faceWrong_16_83 n a22 o11 a12 (upd o 9 (nI (U 3 + 1))) a b = some (nI (aV y (aWr b (su U 3 (U 3 + 1)))), o11', a12', o', a') ∧ o' 18 = o 18 ∧ gT (aWr b (su U 3 (U 3 + 1))) o11' a12' ∧ cO T0 (aWr b (su U 3 (U 3 + 1))) o' ∧ (∀ k, k < 14 → aWr b (su U 3 (U 3 + 1)) (13 + k) = U (13 + k) + d k) ∧ cC (fun k => c k + d k) a' := by
        intro b hb
        obtain ⟨o', a', d, e1, e9, e2, e3, e5⟩ := wrong83_16 (n := n) a22 T0 _ o11 a12 _ a c b hb (show su U 3 (U 3 + 1) 1 = 2 from h1) hO2 hc
        refine ⟨o11, a12, o', a', d, ?_, e9, gT_wr (gT_cg hg rfl (fun j h1 h2 => su_n (by omega))), e2, fun k hk => by rw [e3 k hk, su_c _ _ _ (by decide) hk], e5⟩
        rw [e1]
        have ev : (if b = -1 then (2 : Int32) else 1) = nI (aV y (aWr b (su U 3 (U 3 + 1)))) := by
          unfold aV
          rw [if_neg hy0, aWr_1, if_neg (show ¬ su U 3 (U 3 + 1) 1 = 0 by show ¬ U 1 = 0; omega), aWr_10]
          by_cases q : b = -1
          · rw [if_pos q, if_pos q]; rfl
          · rw [if_neg q, if_neg q]; rfl
        rw [ev]
      by_cases m : U 4 = 1
      · rw [if_pos (by rw [m]; rfl)]
        by_cases m2 : T 3 = 1
        · rw [if_pos (by rw [m2]; rfl), if_pos ⟨m, m2⟩]
          unfold b_X6_faceWrong_16_70
          rw [if_neg one_ne, bitOf_is hn hy, Option.bind_some]
          exact fin _ (fnd_ok hy)
        · rw [if_neg (fun z => m2 ((nI_eq1 (by omega)).mp z)), if_neg (fun z => m2 z.2)]
          unfold b_X6_faceWrong_16_69 b_X6_faceWrong_16_70
          rw [if_pos rfl]
          exact fin _ (Or.inl rfl)
      · rw [if_neg (fun z => m ((nI_eq1 (by omega)).mp z)), if_neg (fun z => m z.1)]
        unfold b_X6_faceWrong_16_69 b_X6_faceWrong_16_70
        rw [if_pos rfl]
        exact fin _ (Or.inl rfl)
    · rw [if_neg (nI_nlt (by omega) h3), if_neg g]
      unfold b_X6_faceWrong_16_39
      obtain ⟨o11', a12', a', e1, e0, e2⟩ := become_16 (su U 3 (U 3 + 1)) o11 a12 (upd o 9 (nI (U 3 + 1))) a c 0 0 p rfl hp (by decide) (show U 1 ≤ 2 by omega) k1 (gT_cg hg rfl (fun j h1 h2 => su_n (by omega))) hc
      rw [e1, Option.bind_some]
      refine ⟨_, _, bO 0 (upd o 9 (nI (U 3 + 1))), _, tnC 0 (U 1), ?_, rfl, e0, cO_tn (S := su U 3 (U 3 + 1)) (o := upd o 9 (nI (U 3 + 1))) ⟨k2, rfl, k4, k5, k6⟩, ?_, e2⟩
      · unfold aV; rw [if_neg hy0, if_pos (aTn_1 0 _)]; rfl
      · intro k hk; rw [aTn_c _ _ hk, su_c _ _ _ (by decide) hk, show su U 3 (U 3 + 1) 1 = U 1 from rfl]
