/-! the class's receiver on paper: STATE, HUNT, watch -/
def dl (k j : Nat) : Nat := if k = j then 1 else 0
theorem cC_ct {c : Nat → Nat} {a : Nat → Int32} (h : cC c a) {j : Nat} (hj : j < 14) : cC (fun k => c k + dl k j) (upd a j (a j + 1)) := by
  intro k hk
  by_cases e : k = j
  · subst e
    show upd a k (a k + 1) k = nI (c k + dl k k)
    rw [pk_us, h k hk, nI_1]
    unfold dl
    rw [if_pos rfl]
  · show upd a j (a j + 1) k = nI (c k + dl k j)
    rw [pk_un e, h k hk]
    unfold dl
    rw [if_neg e]
    rfl
theorem cC_cg {c c' : Nat → Nat} {a : Nat → Int32} (h : cC c a) (e : ∀ k, k < 14 → c' k = c k) : cC c' a := fun k hk => by rw [e k hk]; exact h k hk
theorem aCt_c (S : Nat → Nat) (j : Nat) {k : Nat} (hk : k < 14) : aCt S j (13 + k) = S (13 + k) + dl k j := by
  unfold aCt dl
  by_cases c : k = j
  · rw [if_pos c, ← c, su_s]
  · rw [if_neg c, su_n (by omega)]; rfl
theorem su_c (S : Nat → Nat) (j v : Nat) (h : j < 13 ∨ 27 ≤ j) {k : Nat} (hk : k < 14) : su S j v (13 + k) = S (13 + k) := su_n (by omega)
/-- what a turn adds to the counts -/
def tnC (to s1 k : Nat) : Nat := dl k 7 + (if to = 2 then dl k 4 else 0) + (if s1 = 2 then dl k 5 else 0)
theorem aTn_c (to : Nat) (S : Nat → Nat) {k : Nat} (hk : k < 14) : aTn to S (13 + k) = S (13 + k) + tnC to (S 1) k := by
  have h1 : aTl to S (13 + k) = S (13 + k) := aTl_lo _ _ (by omega)
  have h2 : aT4 to (aCt (aTl to S) 7) (13 + k) = S (13 + k) + dl k 7 + (if to = 2 then dl k 4 else 0) := by
    unfold aT4
    by_cases c : to = 2
    · rw [if_pos c, if_pos c, aCt_c _ _ hk, aCt_c _ _ hk, h1]
    · rw [if_neg c, if_neg c, aCt_c _ _ hk, h1]; rfl
  have h3 : aT4 to (aCt (aTl to S) 7) 1 = S 1 := by rw [aT4_lo _ _ (by decide), aCt_lo _ _ (by decide), aTl_lo _ _ (by decide)]
  unfold aTn tnC
  rw [aTe_at _ _ (by omega)]
  unfold aT5
  rw [h3]
  by_cases c : S 1 = 2
  · rw [if_pos c, if_pos c, aCt_c _ _ hk, h2]; omega
  · rw [if_neg c, if_neg c, h2]; omega
/-- the class's numbers behind a turn -/
def bO (to : Int32) (o : Nat → Int32) : Nat → Int32 := upd (upd (upd (upd o 7 to) 11 0) 14 0) 15 0
theorem become_21 (o a : Nat → Int32) (c : Nat → Nat) (s1 to : Nat) (p p2 : Int32) (hp : p = nI to) (hto : to ≤ 2) (hs : s1 ≤ 2) (h7 : o 7 = nI s1) (hc : cC c a) : ∃ a', f_X6_become_21 o a p p2 = some (bO p o, a') ∧ cC (fun k => c k + tnC to s1 k) a' := by
  have fin : ∀ (a : Nat → Int32) (c : Nat → Nat), cC c a → ∃ a', b_X6_become_21_49 o a p = some (bO p o, a') ∧ cC (fun k => c k + (if s1 = 2 then dl k 5 else 0)) a' := by
    intro a c hc
    unfold b_X6_become_21_49 b_X6_become_21_67
    rw [h7]
    by_cases d : s1 = 2
    · rw [if_pos (by rw [d]; rfl)]
      exact ⟨_, rfl, cC_cg (cC_ct hc (j := 5) (by decide)) (fun k hk => by rw [if_pos d])⟩
    · rw [if_neg (fun z => d ((nI_eq2 (by omega)).mp z))]
      exact ⟨_, rfl, cC_cg hc (fun k hk => by rw [if_neg d]; rfl)⟩
  unfold f_X6_become_21
  by_cases d : to = 2
  · rw [if_pos (by rw [hp, d]; rfl)]
    obtain ⟨a', e1, e2⟩ := fin _ _ (cC_ct (cC_ct hc (j := 7) (by decide)) (j := 4) (by decide))
    refine ⟨a', ?_, cC_cg e2 (fun k hk => ?_)⟩
    · rw [← e1]; rfl
    · unfold tnC; rw [if_pos d]; omega
  · rw [if_neg (fun z => d ((nI_eq2 (by omega)).mp (hp ▸ z)))]
    obtain ⟨a', e1, e2⟩ := fin _ _ (cC_ct hc (j := 7) (by decide))
    refine ⟨a', e1, cC_cg e2 (fun k hk => ?_)⟩
    unfold tnC; rw [if_neg d]; omega
theorem cO_tn {T0 : Nat} {S : Nat → Nat} {o : Nat → Int32} {to : Nat} (h : o 8 = nI (S 2) ∧ o 9 = nI (S 3) ∧ o 10 = nI (S 4) ∧ o 12 = nI (S 873) ∧ o 13 = nI (S 872)) : cO T0 (aTn to S) (bO (nI to) o) := by
  unfold cO
  rw [aTn_fr to S (j := 2) (by decide) (by decide) (by decide), aTn_fr to S (j := 3) (by decide) (by decide) (by decide), aTn_fr to S (j := 4) (by decide) (by decide) (by decide), aTn_fr to S (j := 872) (by decide) (by decide) (by decide), aTn_fr to S (j := 873) (by decide) (by decide) (by decide), aTn_1, show aTn to S 6 = 0 from rfl, show aTn to S 7 = 0 from rfl, show aTn to S 9 = 0 from rfl, show aTn to S 874 = 0 from rfl]
  exact ⟨⟨rfl, h.1, h.2.1, h.2.2.1, h.2.2.2.1, h.2.2.2.2, rfl⟩, fun _ => ⟨rfl, rfl, fun q => (by cases q)⟩, fun q => (by cases q)⟩
theorem rm85 {S : Nat → Nat} (h28 : S 28 < 256) : nI (rmod 40 (S 27 * 256 + S 28)) = 85 ↔ aSyn S = 0 := by
  have h1 := syn_is (a := S 27) h28
  have hl := rmod_lt 40 (S 27 * 256 + S 28)
  have h2 : nI (rmod 40 (S 27 * 256 + S 28)) = 85 ↔ rmod 40 (S 27 * 256 + S 28) = 85 := nI_eq (b := 85) (by omega) (by decide)
  rw [h2]
  unfold aSyn
  rw [← h1]
  exact ⟨fun e => by rw [e]; decide, fun e => by
    have h3 : rmod 40 (S 27 * 256 + S 28) ^^^ 85 ^^^ 85 = 0 ^^^ 85 := by rw [e]
    rw [Nat.xor_assoc, Nat.xor_self, Nat.xor_zero, Nat.zero_xor] at h3
    exact h3⟩
theorem looks_is (S : Nat → Nat) (ow : Nat → Int32) (jw : Int64) (h5 : S 5 < 2 ^ 31) (h28 : S 28 < 256) (h : cV S ow jw) : f_X10_looksRight_24 ow jw = some (if 40 ≤ S 5 ∧ aSyn S = 0 then 1 else 0) := by
  obtain ⟨h1, h2, h3⟩ := h
  unfold f_X10_looksRight_24
  rw [h1, h2]
  by_cases c : aSyn S = 0
  · rw [if_pos ((rm85 h28).mpr c)]
    by_cases d : 40 ≤ S 5
    · rw [if_neg (show ¬ nI (S 5) < 40 from nI_nlt (b := 40) d h5), if_pos ⟨d, c⟩]
    · rw [if_pos (show nI (S 5) < 40 from nI_lt (b := 40) (by omega) (by decide)), if_neg (fun z => d z.1)]
  · rw [if_neg (fun z => c ((rm85 h28).mp z)), if_neg (fun z => c z.2)]
theorem hunt_21 {T : Nat → Nat} {a22 : Nat → Int32} (T0 : Nat) (t6 : a22 6 = nI (T 6)) (t6b : 1 ≤ T 6 ∧ T 6 ≤ 8) (S : Nat → Nat) (o a ow : Nat → Int32) (jw : Int64) (p : Int32) (h1 : S 1 = 0) (h6 : S 6 = 0 ∧ S 7 = 0 ∧ S 9 = 0) (h5 : S 5 < 2 ^ 31) (h874 : S 874 + 1 < 2 ^ 31) (h28 : S 28 < 256) (hO : cO T0 S o) (hc : cC (fun k => S (13 + k)) a) (hV : cV S ow jw) : ∃ o' a', f_X6_hunt_21 o a22 a ow jw p = some (o', a') ∧ cO T0 (aHu T S) o' ∧ cC (fun k => aHu T S (13 + k)) a' := by
  unfold f_X6_hunt_21
  obtain ⟨⟨k1, k2, k3, k4, k5, k6, k7⟩, k8, k9⟩ := hO
  rw [looks_is S ow jw h5 h28 hV, Option.bind_some, t6, k7, nI_1]
  have no : ¬ ((S 874 + 1) % T 6 = 0 ∧ 40 ≤ S 5 ∧ aSyn S = 0) → ∃ o' a', (some (upd o 14 (nI (S 874 + 1)), a) : Option ((Nat → Int32) × (Nat → Int32))) = some (o', a') ∧ cO T0 (aHu T S) o' ∧ cC (fun k => aHu T S (13 + k)) a' := by
    intro c
    refine ⟨_, _, rfl, ?_, ?_⟩
    · unfold aHu
      rw [if_neg c]
      refine ⟨⟨k1, k2, k3, k4, k5, k6, rfl⟩, fun q => k8 q, fun q => k9 q⟩
    · unfold aHu
      rw [if_neg c]
      exact cC_cg hc (fun k hk => su_c _ _ _ (by decide) hk)
  by_cases c : 40 ≤ S 5 ∧ aSyn S = 0
  · rw [if_pos c, if_neg one_ne, if_neg (nI_nle (by omega) (by omega))]
    have e0 : xnz (nI (T 6)) = true := by
      unfold xnz
      have : ¬ nI (T 6) = 0 := nI_ne0 (by omega) (by omega)
      simp [this]
    have hm : (S 874 + 1) % T 6 < T 6 := Nat.mod_lt _ (by omega)
    rw [e0, cond_true, pk_rem (d := T 6) h874 (by omega) (by omega)]
    by_cases d : (S 874 + 1) % T 6 = 0
    · rw [if_pos (by rw [d]; rfl)]
      obtain ⟨a', e1, e2⟩ := become_21 (upd (upd o 8 0) 14 (nI (S 874 + 1))) a (fun k => S (13 + k)) 0 1 1 p rfl (by decide) (by decide) (show o 7 = nI 0 by rw [k1, h1]) hc
      rw [e1, Option.bind_some]
      refine ⟨_, _, rfl, ?_, ?_⟩
      · unfold aHu
        rw [if_pos ⟨d, c⟩]
        have q := cO_tn (T0 := T0) (S := su (su S 874 (S 874 + 1)) 2 0) (o := upd (upd o 8 0) 14 (nI (S 874 + 1))) (to := 1) ⟨rfl, k3, k4, k5, k6⟩
        refine ⟨⟨rfl, rfl, ?_, ?_, ?_, ?_, rfl⟩, fun _ => ⟨rfl, rfl, fun q => (by cases q)⟩, fun q => (by cases q)⟩
        · rw [su_n (by decide), aTn_fr _ _ (by decide) (by decide) (by decide)]; exact k3
        · rw [su_n (by decide), aTn_fr _ _ (by decide) (by decide) (by decide)]; exact k4
        · rw [su_n (by decide), aTn_fr _ _ (by decide) (by decide) (by decide)]; exact k5
        · rw [su_n (by decide), aTn_fr _ _ (by decide) (by decide) (by decide)]; exact k6
      · unfold aHu
        rw [if_pos ⟨d, c⟩]
        refine cC_cg e2 (fun k hk => ?_)
        show su (aTn 1 (su S 874 (S 874 + 1))) 2 0 (13 + k) = S (13 + k) + tnC 1 0 k
        rw [su_c _ _ _ (by decide) hk, aTn_c _ _ hk, su_c _ _ _ (by decide) hk, show su S 874 (S 874 + 1) 1 = 0 from h1]
    · rw [if_neg (fun z => d ((nI_eq0 (by omega)).mp z))]
      exact no (fun z => d z.1)
  · rw [if_neg c, if_pos rfl]
    exact no (fun z => c z.2)
theorem watch_21 {T : Nat → Nat} {a22 : Nat → Int32} (T0 : Nat) (t4 : a22 4 = nI (T 4)) (t4b : T 4 ≤ 4000) (S : Nat → Nat) (o a : Nat → Int32) (was : Nat) (hw : was ≤ 2) (h1 : S 1 ≤ 2) (h872 : S 872 + 1 < 2 ^ 31) (h873 : S 873 ≤ 1) (hO : cO T0 S o) (hc : cC (fun k => S (13 + k)) a) : ∃ o' a', f_X6_watch_21 o a22 a (if was = 2 then 1 else 0) = some (o', a') ∧ cO T0 (aWt T was S) o' ∧ cC (fun k => aWt T was S (13 + k)) a' := by
  obtain ⟨⟨k1, k2, k3, k4, k5, k6, k7⟩, k8, k9⟩ := hO
  have s78 : ∀ (o : Nat → Int32) (a : Nat → Int32) (l2 : Int32), b_X6_watch_21_68 o a22 a l2 = some (upd o 12 (if l2 = 0 then 1 else 0), a) := by
    intro o a l2
    unfold b_X6_watch_21_68 b_X6_watch_21_78
    by_cases c : l2 = 0
    · rw [if_pos c, if_pos c]; rfl
    · rw [if_neg c, if_neg c]; rfl
  have s30 : ∀ (v : Nat) (l2 : Int32), v < 2 ^ 31 → b_X6_watch_21_30 o a22 a l2 (nI v) = some (if T 4 ≤ v then (upd (upd o 13 (nI v)) 12 (if l2 = 0 then 1 else 0), if l2 = 0 ∧ S 873 = 0 then upd a 11 (a 11 + 1) else a) else (upd o 13 (nI v), a)) := by
    intro v l2 hv
    unfold b_X6_watch_21_30
    rw [t4, k5]
    by_cases c : T 4 ≤ v
    · rw [if_neg (nI_nlt c hv), if_pos c]
      by_cases d : l2 = 0
      · rw [if_pos d]
        by_cases g : S 873 = 0
        · rw [if_pos (by rw [g]; rfl), s78, if_pos (show l2 = 0 ∧ S 873 = 0 from ⟨d, g⟩)]
        · rw [if_neg (fun z => g ((nI_eq0 (by omega)).mp z)), s78, if_neg (show ¬ (l2 = 0 ∧ S 873 = 0) from fun z => g z.2)]
      · rw [if_neg d, s78, if_neg (show ¬ (l2 = 0 ∧ S 873 = 0) from fun z => d z.1)]
    · rw [if_pos (nI_lt (by omega) (by omega)), if_neg c]
  have s13 : ∀ (l1 t0 : Int32), b_X6_watch_21_13 o a22 a l1 t0 = some (if T 4 ≤ (if t0 = l1 then S 872 + 1 else 1) then (upd (upd o 13 (nI (if t0 = l1 then S 872 + 1 else 1))) 12 (if t0 = 0 then 1 else 0), if t0 = 0 ∧ S 873 = 0 then upd a 11 (a 11 + 1) else a) else (upd o 13 (nI (if t0 = l1 then S 872 + 1 else 1)), a)) := by
    intro l1 t0
    unfold b_X6_watch_21_13
    rw [k6, nI_1]
    by_cases c : t0 = l1
    · rw [if_pos c, if_pos c, s30 _ _ h872]
    · rw [if_neg c, if_neg c]
      exact s30 1 t0 (by decide)
  have ha : ∀ (l : Int32), (l = 0 ↔ S 1 ≠ 2) → l = (if S 1 = 2 then 1 else 0) → b_X6_watch_21_13 o a22 a (if was = 2 then 1 else 0) l = some (if T 4 ≤ aW1 was S 872 then (upd (upd o 13 (nI (aW1 was S 872))) 12 (nI (if S 1 = 2 then 0 else 1)), if S 1 ≠ 2 ∧ S 873 = 0 then upd a 11 (a 11 + 1) else a) else (upd o 13 (nI (aW1 was S 872)), a)) := by
    intro l hl hl2
    rw [s13]
    have e1 : (if l = (if was = 2 then 1 else 0) then S 872 + 1 else 1) = aW1 was S 872 := by
      unfold aW1
      rw [su_s, hl2]
      by_cases c : S 1 = 2 <;> by_cases d : was = 2 <;> simp [c, d]
    have e2 : (if l = 0 then (1 : Int32) else 0) = nI (if S 1 = 2 then 0 else 1) := by
      by_cases c : S 1 = 2
      · rw [if_neg (fun z => (hl.mp z) c), if_pos c]; rfl
      · rw [if_pos (hl.mpr c), if_neg c]; rfl
    rw [e1, e2]
    simp only [hl]
  have fin : ∃ o' a', (some (if T 4 ≤ aW1 was S 872 then (upd (upd o 13 (nI (aW1 was S 872))) 12 (nI (if S 1 = 2 then 0 else 1)), if S 1 ≠ 2 ∧ S 873 = 0 then upd a 11 (a 11 + 1) else a) else (upd o 13 (nI (aW1 was S 872)), a)) : Option ((Nat → Int32) × (Nat → Int32))) = some (o', a') ∧ cO T0 (aWt T was S) o' ∧ cC (fun k => aWt T was S (13 + k)) a' := by
    have lo : ∀ j, j < 13 → aWt T was S j = S j := fun j hj => wt_05 hj
    have e874 : aWt T was S 874 = S 874 := by
      unfold aWt
      by_cases c : T 4 ≤ aW1 was S 872
      · rw [if_pos c, su_n (by decide)]
        unfold aW2
        by_cases d : aW1 was S 1 ≠ 2 ∧ aW1 was S 873 = 0
        · rw [if_pos d]; rfl
        · rw [if_neg d]; rfl
      · rw [if_neg c]; rfl
    have mk : ∀ o', o' 7 = o 7 → o' 8 = o 8 → o' 9 = o 9 → o' 10 = o 10 → o' 14 = o 14 → o' 15 = o 15 → o' 11 = o 11 → o' 16 = o 16 → o' 17 = o 17 → o' 18 = o 18 → o' 12 = nI (aWt T was S 873) → o' 13 = nI (aWt T was S 872) → cO T0 (aWt T was S) o' := by
      intro o' q1 q2 q3 q4 q5 q6 q7 q8 q9 q10 q11 q12
      unfold cO
      rw [lo 1 (by decide), lo 2 (by decide), lo 3 (by decide), lo 4 (by decide), lo 6 (by decide), lo 7 (by decide), lo 8 (by decide), lo 9 (by decide), lo 10 (by decide), lo 11 (by decide), lo 12 (by decide), e874, q1, q2, q3, q4, q5, q6, q7, q8, q9, q10, q11, q12]
      exact ⟨⟨k1, k2, k3, k4, rfl, rfl, k7⟩, k8, k9⟩
    by_cases c : T 4 ≤ aW1 was S 872
    · rw [if_pos c]
      refine ⟨_, _, rfl, ?_, ?_⟩
      · refine mk _ rfl rfl rfl rfl rfl rfl rfl rfl rfl rfl ?_ ?_
        · unfold aWt; rw [if_pos c]; rfl
        · unfold aWt
          rw [if_pos c, su_n (by decide)]
          unfold aW2
          by_cases d : aW1 was S 1 ≠ 2 ∧ aW1 was S 873 = 0
          · rw [if_pos d]; rfl
          · rw [if_neg d]; rfl
      · have e : ∀ k, k < 14 → aWt T was S (13 + k) = aW2 (aW1 was S) (13 + k) := by
          intro k hk
          unfold aWt
          rw [if_pos c, su_c _ _ _ (by decide) hk]
        have g1 : aW1 was S 1 = S 1 := rfl
        have g2 : aW1 was S 873 = S 873 := rfl
        by_cases d : S 1 ≠ 2 ∧ S 873 = 0
        · rw [if_pos d]
          refine cC_cg (cC_ct hc (j := 11) (by decide)) (fun k hk => ?_)
          show aWt T was S (13 + k) = S (13 + k) + dl k 11
          rw [e k hk]
          unfold aW2
          rw [g1, g2, if_pos d, aCt_c _ _ hk, show aW1 was S (13 + k) = S (13 + k) from su_c _ _ _ (by decide) hk]
        · rw [if_neg d]
          refine cC_cg hc (fun k hk => ?_)
          show aWt T was S (13 + k) = S (13 + k)
          rw [e k hk]
          unfold aW2
          rw [g1, g2, if_neg d]
          exact su_c _ _ _ (by decide) hk
    · rw [if_neg c]
      refine ⟨_, _, rfl, ?_, ?_⟩
      · refine mk _ rfl rfl rfl rfl rfl rfl rfl rfl rfl rfl ?_ ?_
        · unfold aWt; rw [if_neg c]; exact k5
        · unfold aWt; rw [if_neg c]; rfl
      · refine cC_cg hc (fun k hk => ?_)
        show aWt T was S (13 + k) = S (13 + k)
        unfold aWt
        rw [if_neg c]
        exact su_c _ _ _ (by decide) hk
  unfold f_X6_watch_21
  rw [k1]
  by_cases c : S 1 = 2
  · rw [if_pos (by rw [c]; rfl), ha 1 (by simp [c]) (by rw [if_pos c])]
    exact fin
  · rw [if_neg (fun z => c ((nI_eq2 (by omega)).mp z)), ha 0 (by simp [c]) (by rw [if_neg c])]
    exact fin
