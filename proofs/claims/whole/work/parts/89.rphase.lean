/-! phases -/
theorem mod_s (x : Nat) {c : Nat} (hc : 0 < c) : (x + 1) % c = if c ≤ x % c + 1 then 0 else x % c + 1 := by
  have h := Nat.mod_lt x hc
  rw [← Nat.mod_add_mod]
  by_cases d : c ≤ x % c + 1
  · rw [if_pos d, show x % c + 1 = c by omega, Nat.mod_self]
  · rw [if_neg d, Nat.mod_eq_of_lt (by omega)]
/-- tallies on both sides -/
def tE (cl bd : Nat) (tv : Nat → Nat) (a34 a56 : Nat → Int32) : Prop := (∀ j, j < 424 → a34 j = nI (tv j) ∧ a56 j = nI (tv j) ∧ tv j ≤ bd) ∧ ∀ j, cl ≤ j → j < 424 → tv j = 0
theorem fill_34 {n : Nat} (hn : 1000 ≤ n) (a : Nat → Int32) : ∃ a', f_J7_fill_53178_34 n a 0 = some a' ∧ ∀ k, k < 424 → a' k = 0 := by
  have loop : ∀ (q k i : Nat) (a : Nat → Int32), i + q = 424 → q < k → (∀ j, j < i → a j = 0) → ∃ l a', l_J7_fill_53178_34_5 n 0 424 k (nI i) a = some (l, a') ∧ ∀ j, j < 424 → a' j = 0 := by
    intro q
    induction q with
    | zero =>
      intro k i a hi hk ha
      obtain ⟨k, rfl⟩ : ∃ q, k = q + 1 := ⟨k - 1, by omega⟩
      rw [l_J7_fill_53178_34_5, if_pos (show 424 ≤ nI i from nI_le (a := 424) (by omega) (by omega))]
      exact ⟨_, _, rfl, fun j hj => ha j (by omega)⟩
    | succ q ih =>
      intro k i a hi hk ha
      obtain ⟨k, rfl⟩ : ∃ q, k = q + 1 := ⟨k - 1, by omega⟩
      rw [l_J7_fill_53178_34_5, if_neg (show ¬ 424 ≤ nI i from nI_ge (b := 424) (by omega) (by decide)), xin_t (show i < 424 by omega) (by decide), cond_true, nI_clamp (by omega), nI_1]
      refine ih k (i + 1) _ (by omega) (by omega) (fun j hj => ?_)
      by_cases e : j = i
      · rw [e, pk_us]
      · rw [pk_un e]; exact ha j (by omega)
  obtain ⟨l, a', h, h2⟩ := loop 424 n 0 a (by decide) (by omega) (fun j hj => absurd hj (Nat.not_lt_zero j))
  unfold f_J7_fill_53178_34
  have h' : l_J7_fill_53178_34_5 n 0 424 n 0 a = some (l, a') := h
  rw [h', Option.bind_some]
  exact ⟨_, rfl, h2⟩
theorem zero_56 {n : Nat} (hn : 1000 ≤ n) (o44 a45 a48 a51 : Nat → Int32) (p1 : Int32) (a : Nat → Int32) : ∃ l a', l_X12_phase_44_20 n o44 a45 a48 a51 p1 n 0 a = some (l, a') ∧ ∀ k, k < 424 → a' k = 0 := by
  have loop : ∀ (q k i : Nat) (a : Nat → Int32), i + q = 424 → q < k → (∀ j, j < i → a j = 0) → ∃ l a', l_X12_phase_44_20 n o44 a45 a48 a51 p1 k (nI i) a = some (l, a') ∧ ∀ j, j < 424 → a' j = 0 := by
    intro q
    induction q with
    | zero =>
      intro k i a hi hk ha
      obtain ⟨k, rfl⟩ : ∃ q, k = q + 1 := ⟨k - 1, by omega⟩
      rw [l_X12_phase_44_20, if_pos (show 424 ≤ nI i from nI_le (a := 424) (by omega) (by omega))]
      exact ⟨_, _, rfl, fun j hj => ha j (by omega)⟩
    | succ q ih =>
      intro k i a hi hk ha
      obtain ⟨k, rfl⟩ : ∃ q, k = q + 1 := ⟨k - 1, by omega⟩
      rw [l_X12_phase_44_20, if_neg (show ¬ 424 ≤ nI i from nI_ge (b := 424) (by omega) (by decide)), xin_t (show i < 424 by omega) (by decide), cond_true, nI_clamp (by omega), nI_1]
      refine ih k (i + 1) _ (by omega) (by omega) (fun j hj => ?_)
      by_cases e : j = i
      · rw [e, pk_us]
      · rw [pk_un e]; exact ha j (by omega)
  exact loop 424 n 0 a (by decide) (by omega) (fun j hj => absurd hj (Nat.not_lt_zero j))
theorem k_phase {n : Nat} (hn : 20000 ≤ n) {T : Nat → Nat} {a1 a45 : Nat → Int32} (hT : iT T a1 a45) {sz at_ : Nat} {bt : Nat → Bool} {o2 a3 o44 a48 a51 : Nat → Int32} (hL : iL sz at_ bt o2 a3 o44 a48 a51) (o33 : Nat → Int32) (j33 : Int64) (a34 a56 : Nat → Int32) (p1 : Int32) : ∃ x o33' j33' a34' a56', f_X11_phase_0 n a1 o2 a3 o33 j33 a34 p1 = some (x, o33', j33', a34') ∧ f_X12_phase_44 n o44 a45 a48 a51 a56 p1 = some (x, upd o44 0 0, a56') := by
  obtain ⟨l1, l2, l3, l4, l5, l6, l7⟩ := id hL
  let g : Nat → Nat := fun p => bn (bt p)
  have hg : ∀ p, g p < 2 := fun p => bn_lt _
  have ha3 : ∀ p, p < sz → a3 p = nI (g p) := fun p hp => by rw [(l7 p hp).1, b2i_bn]
  have ha48 : ∀ p, p < sz → a48 p = nI (g p) := fun p hp => by rw [(l7 p hp).2, b2i_bn]
  have h6 : upd o44 0 0 6 = nI sz := l3
  have t0 := hT.2.1
  have ha := (hT.1 0 (by decide)).1
  have hb := (hT.1 0 (by decide)).2
  have ecl : (40 : Int32) + 8 * nI (T 0) = nI (40 + 8 * T 0) := by
    rw [show (8 : Int32) * nI (T 0) = nI (8 * T 0) from pk_mul 8 _]
    exact nI_add 40 _
  generalize hcl : 40 + 8 * T 0 = cl at ecl
  have hc : 72 ≤ cl ∧ cl ≤ 424 := by omega
  have lm := fun (p : Nat) (hp : p < 9600) => looks_m (n := n) (by omega) hg l6 h6 ha48 (p := p) hp
  have xz : xnz (nI cl) = true := by
    unfold xnz
    have : ¬ nI cl = 0 := nI_ne0 (by omega) (by omega)
    simp [this]
  -- the model alone: no place left
  have tail : ∀ (q k p : Nat) (a56 : Nat → Int32), p + q = sz → sz < p + 40 → q < k → ∃ l, l_X12_phase_44_47 n (upd o44 0 0) a45 a48 a51 p1 k (nI p) a56 = some (l, a56) := by
    intro q
    induction q with
    | zero =>
      intro k p a56 hp hs hk
      obtain ⟨k, rfl⟩ : ∃ q, k = q + 1 := ⟨k - 1, by omega⟩
      rw [l_X12_phase_44_47, h6, if_pos (nI_le (by omega) (by omega))]
      exact ⟨_, rfl⟩
    | succ q ih =>
      intro k p a56 hp hs hk
      obtain ⟨k, rfl⟩ : ∃ q, k = q + 1 := ⟨k - 1, by omega⟩
      rw [l_X12_phase_44_47, h6, if_neg (nI_ge (by omega) (by omega))]
      rcases lm p (by omega) with ⟨w1, w2⟩ | ⟨w1, w2⟩
      · exact absurd w2.1 (by omega)
      · rw [w1, Option.bind_some, if_pos rfl, nI_1]
        exact ih k (p + 1) a56 (by omega) (by omega) (by omega)
  have main : ∀ (q k k' p : Nat) (S : Nat → Nat) (o33 : Nat → Int32) (j33 : Int64) (a34 a56 : Nat → Int32) (tv : Nat → Nat), p + 39 + q = sz → at_ ≤ p → q < k → q + 39 < k' → wV g at_ (p + 39 - at_) S → cV S o33 j33 → tE cl (p - at_) tv a34 a56 → ∃ l l' l'' o33' j33' a34' a56' tv', l_X11_tallyPhases_0_25 n o2 a3 (nI cl) k (nI ((p - at_) % cl)) (nI (p + 39)) o33 j33 a34 = some (l, l', o33', j33', a34') ∧ l_X12_phase_44_47 n (upd o44 0 0) a45 a48 a51 p1 k' (nI p) a56 = some (l'', a56') ∧ tE cl 9600 tv' a34' a56' := by
    intro q
    induction q with
    | zero =>
      intro k k' p S o33 j33 a34 a56 tv hp hp2 hk hk' hw hv ht
      obtain ⟨k, rfl⟩ : ∃ q, k = q + 1 := ⟨k - 1, by omega⟩
      obtain ⟨l, e⟩ := tail 39 k' p a56 (by omega) (by omega) (by omega)
      rw [l_X11_tallyPhases_0_25, l1, if_pos (nI_le (by omega) (by omega)), e]
      exact ⟨_, _, _, _, _, _, _, tv, rfl, rfl, fun j hj => ⟨(ht.1 j hj).1, (ht.1 j hj).2.1, Nat.le_trans (ht.1 j hj).2.2 (by omega)⟩, ht.2⟩
    | succ q ih =>
      intro k k' p S o33 j33 a34 a56 tv hp hp2 hk hk' hw hv ht
      obtain ⟨k, rfl⟩ : ∃ q, k = q + 1 := ⟨k - 1, by omega⟩
      obtain ⟨k', rfl⟩ : ∃ q, k' = q + 1 := ⟨k' - 1, by omega⟩
      have ei : at_ + (p + 39 - at_) = p + 39 := by omega
      have hw2 := wV_s hg hw
      rw [ei] at hw2
      obtain ⟨o', j', e1, e2⟩ := push_33 (b := g (p + 39)) (hg _) hw.1 hw.2.1 hv
      have e5 : aPs (g (p + 39)) S 5 = p + 40 - at_ := by rw [hw2.2.2.2]; omega
      have hw3 : wV g at_ (p + 40 - at_) (aPs (g (p + 39)) S) := by rw [show p + 40 - at_ = p + 39 - at_ + 1 by omega]; exact hw2
      have hr := wV_rt hg hp2 hw3
      have hf : f_X10_isFull_33 o' j' = some 1 := by
        unfold f_X10_isFull_33
        rw [e2.2.1, e5, if_neg (show ¬ nI (p + 40 - at_) < 40 from nI_nlt (b := 40) (by omega) (by omega))]
      have hm := Nat.mod_lt (p - at_) (show 0 < cl by omega)
      have ems := mod_s (p - at_) (show 0 < cl by omega)
      rw [show p - at_ + 1 = p + 1 - at_ by omega] at ems
      have nx : ∀ (X : Int32 → Option ((Int32) × (Int32) × (Nat → Int32) × (Int64) × (Nat → Int32))), (if nI cl ≤ nI ((p - at_) % cl + 1) then X 0 else X (nI ((p - at_) % cl + 1))) = X (nI ((p + 1 - at_) % cl)) := by
        intro X
        by_cases y : cl ≤ (p - at_) % cl + 1
        · rw [if_pos (nI_le y (by omega)), ems, if_pos y]; rfl
        · rw [if_neg (nI_ge (by omega) (by omega)), ems, if_neg y]
      rw [l_X11_tallyPhases_0_25, l_X12_phase_44_47, l1, h6, if_neg (nI_ge (by omega) (by omega)), if_neg (nI_ge (by omega) (by omega)), bitAt_is o2 a3 (by omega), Option.bind_some, ha3 (p + 39) (by omega), e1, Option.bind_some]
      simp only []
      rw [hf, Option.bind_some, if_neg one_ne, looks_33 _ _ _ (by rw [e5]; omega) hw2.2.1 e2, Option.bind_some, nI_1, nI_1, nI_1]
      have h424 : ¬ 424 ≤ nI ((p - at_) % cl) := nI_ge (b := 424) (by omega) (by decide)
      rcases lm p (by omega) with ⟨w1, w2⟩ | ⟨w1, w2⟩
      · rw [w1, Option.bind_some, if_pos (show 40 ≤ aPs (g (p + 39)) S 5 ∧ aSyn (aPs (g (p + 39)) S) = 0 from ⟨by rw [e5]; omega, hr.mpr w2.2⟩), if_neg one_ne, if_neg one_ne, if_neg h424]
        unfold f_X12_cellLong_44
        rw [hb, Option.bind_some, ecl, xz, cond_true, l4, pk_sub hp2, pk_rem (d := cl) (by omega) (by omega) (by omega), xin_t (show (p - at_) % cl < 424 by omega) (by decide), cond_true, cond_true, cond_true, cond_true, nI_clamp (by omega), (ht.1 _ (show (p - at_) % cl < 424 by omega)).1, (ht.1 _ (show (p - at_) % cl < 424 by omega)).2.1, nI_1]
        have hx := nx (fun z => l_X11_tallyPhases_0_25 n o2 a3 (nI cl) k z (nI (p + 39 + 1)) o' j' (upd a34 ((p - at_) % cl) (nI (tv ((p - at_) % cl) + 1))))
        rw [hx, show p + 39 + 1 = p + 1 + 39 by omega]
        refine ih k k' (p + 1) _ o' j' _ _ (fun j => if j = (p - at_) % cl then tv j + 1 else tv j) (by omega) (by omega) (by omega) (by omega) (by rw [show p + 1 + 39 - at_ = p + 40 - at_ by omega]; exact hw3) e2 ⟨fun j hj => ?_, fun j h1 h2 => ?_⟩
        · obtain ⟨u1, u2, u3⟩ := ht.1 j hj
          by_cases y : j = (p - at_) % cl
          · rw [← y, pk_us, pk_us]
            dsimp only
            rw [if_pos rfl]
            exact ⟨rfl, rfl, by omega⟩
          · rw [pk_un y, pk_un y]
            dsimp only
            rw [if_neg y]
            exact ⟨u1, u2, by omega⟩
        · dsimp only
          rw [if_neg (by omega)]
          exact ht.2 j h1 h2
      · rw [w1, Option.bind_some, if_neg (show ¬ (40 ≤ aPs (g (p + 39)) S 5 ∧ aSyn (aPs (g (p + 39)) S) = 0) from fun z => w2 ⟨by omega, hr.mp z.2⟩), if_pos rfl, if_pos rfl]
        have hx := nx (fun z => l_X11_tallyPhases_0_25 n o2 a3 (nI cl) k z (nI (p + 39 + 1)) o' j' a34)
        rw [hx, show p + 39 + 1 = p + 1 + 39 by omega]
        exact ih k k' (p + 1) _ o' j' a34 a56 tv (by omega) (by omega) (by omega) (by omega) (by rw [show p + 1 + 39 - at_ = p + 40 - at_ by omega]; exact hw3) e2 ⟨fun j hj => ⟨(ht.1 j hj).1, (ht.1 j hj).2.1, Nat.le_trans (ht.1 j hj).2.2 (by omega)⟩, ht.2⟩
  have pre : ∀ (q k j : Nat) (S : Nat → Nat) (o33 : Nat → Int32) (j33 : Int64) (a34 : Nat → Int32), j + q = min (sz - at_) 39 → q + (sz - at_) < k + j → wV g at_ j S → cV S o33 j33 → ∃ k' S' o33' j33', l_X11_tallyPhases_0_25 n o2 a3 (nI cl) k 0 (nI (at_ + j)) o33 j33 a34 = l_X11_tallyPhases_0_25 n o2 a3 (nI cl) k' 0 (nI (at_ + min (sz - at_) 39)) o33' j33' a34 ∧ sz - at_ < k' + min (sz - at_) 39 ∧ wV g at_ (min (sz - at_) 39) S' ∧ cV S' o33' j33' := by
    intro q
    induction q with
    | zero =>
      intro k j S o33 j33 a34 hj hk hw hv
      have ej : j = min (sz - at_) 39 := by omega
      exact ⟨k, S, o33, j33, by rw [ej], by omega, by rw [← ej]; exact hw, hv⟩
    | succ q ih =>
      intro k j S o33 j33 a34 hj hk hw hv
      obtain ⟨k, rfl⟩ : ∃ q, k = q + 1 := ⟨k - 1, by omega⟩
      obtain ⟨o', j', e1, e2⟩ := push_33 (b := g (at_ + j)) (hg _) hw.1 hw.2.1 hv
      have hw2 := wV_s hg hw
      have e5 : aPs (g (at_ + j)) S 5 = j + 1 := hw2.2.2.2
      have hf : f_X10_isFull_33 o' j' = some 0 := by
        unfold f_X10_isFull_33
        rw [e2.2.1, e5, if_pos (show nI (j + 1) < 40 from nI_lt (b := 40) (by omega) (by decide))]
      rw [l_X11_tallyPhases_0_25, l1, if_neg (nI_ge (by omega) (by omega)), bitAt_is o2 a3 (by omega), Option.bind_some, ha3 (at_ + j) (by omega), e1, Option.bind_some]
      simp only []
      rw [hf, Option.bind_some, if_pos rfl, nI_1]
      exact ih k (j + 1) _ o' j' a34 (by omega) (by omega) hw2 e2
  obtain ⟨az, z1, z2⟩ := fill_34 (n := n) (by omega) a34
  obtain ⟨lz, bz, z3, z4⟩ := zero_56 (n := n) (by omega) (upd o44 0 0) a45 a48 a51 p1 a56
  have tz : tE cl 0 (fun _ => 0) az bz := ⟨fun j hj => ⟨z2 j hj, z4 j hj, Nat.le_refl _⟩, fun _ _ _ => rfl⟩
  have tally : ∃ o33' j33' a34' l a56' tv', f_X11_tallyPhases_0 n o2 a3 o33 j33 a34 (nI cl) = some (o33', j33', a34') ∧ l_X12_phase_44_47 n (upd o44 0 0) a45 a48 a51 p1 n (nI at_) bz = some (l, a56') ∧ tE cl 9600 tv' a34' a56' := by
    unfold f_X11_tallyPhases_0 f_X10_clear_33
    rw [z1, Option.bind_some, Option.bind_some, l2]
    simp only []
    obtain ⟨k', S', o', j', e1, e2, e3, e4⟩ := pre (min (sz - at_) 39) n 0 (fun _ => 0) (upd (upd o33 1 0) 2 0) 0 az (by omega) (by omega) (wV_0 g at_) (cV_z o33)
    have e1' : l_X11_tallyPhases_0_25 n o2 a3 (nI cl) n 0 (nI at_) (upd (upd o33 1 0) 2 0) 0 az = _ := e1
    rw [e1']
    by_cases y : at_ + 39 ≤ sz
    · have em : min (sz - at_) 39 = 39 := by omega
      rw [em] at e2 e3 ⊢
      obtain ⟨x1, x2, x3, x4, x5, x6, x7, x8, f1, f2, f3⟩ := main (sz - (at_ + 39)) k' n at_ S' o' j' az bz (fun _ => 0) (by omega) (Nat.le_refl _) (by omega) (by omega) (by rw [show at_ + 39 - at_ = 39 by omega]; exact e3) e4 (by rw [Nat.sub_self]; exact tz)
      rw [Nat.sub_self, Nat.zero_mod] at f1
      have f1' : l_X11_tallyPhases_0_25 n o2 a3 (nI cl) k' 0 (nI (at_ + 39)) o' j' az = _ := f1
      rw [f1', Option.bind_some]
      exact ⟨_, _, _, x3, x7, x8, rfl, f2, f3⟩
    · obtain ⟨k', rfl⟩ : ∃ q, k' = q + 1 := ⟨k' - 1, by omega⟩
      obtain ⟨l, e⟩ := tail (sz - at_) n at_ bz (by omega) (by omega) (by omega)
      rw [l_X11_tallyPhases_0_25, l1, if_pos (nI_le (by omega) (by omega)), Option.bind_some]
      exact ⟨_, _, _, l, bz, fun _ => 0, rfl, e, fun j hj => ⟨(tz.1 j hj).1, (tz.1 j hj).2.1, Nat.zero_le _⟩, tz.2⟩
  obtain ⟨o', j', a34', l, a56', tv, f1, f2, f3⟩ := tally
  have mt : ∀ (q k x b : Nat), x + q = 424 → cl ≤ x → b < 424 → q < k → ∃ l, l_X12_phase_44_95 n (upd o44 0 0) a45 a48 a51 a56' p1 k (nI b) (nI x) = some (nI b, l) := by
    intro q
    induction q with
    | zero =>
      intro k x b hx hx2 hb2 hk
      obtain ⟨k, rfl⟩ : ∃ q, k = q + 1 := ⟨k - 1, by omega⟩
      rw [l_X12_phase_44_95, if_pos (show 424 ≤ nI x from nI_le (a := 424) (by omega) (by omega))]
      exact ⟨_, rfl⟩
    | succ q ih =>
      intro k x b hx hx2 hb2 hk
      obtain ⟨k, rfl⟩ : ∃ q, k = q + 1 := ⟨k - 1, by omega⟩
      have hbb := (f3.1 b hb2).2.2
      rw [l_X12_phase_44_95, if_neg (show ¬ 424 ≤ nI x from nI_ge (b := 424) (by omega) (by decide)), xin_t (show x < 424 by omega) (by decide), xin_t hb2 (by decide), cond_true, cond_true, nI_clamp (by omega), nI_clamp (by omega), (f3.1 x (by omega)).2.1, f3.2 x hx2 (by omega), (f3.1 b hb2).2.1, if_pos (nI_le (Nat.zero_le _) (by omega)), nI_1]
      exact ih k (x + 1) b (by omega) (by omega) hb2 (by omega)
  have bl : ∀ (q k k' x b : Nat), x + q = cl → b < 424 → q < k → q + (424 - cl) < k' → ∃ (b' : Nat) (l l' : Int32), b' < 424 ∧ l_X11_phase_0_35 n a1 o2 a3 o' j' a34' p1 (nI cl) k (nI b) (nI x) = some (nI b', l) ∧ l_X12_phase_44_95 n (upd o44 0 0) a45 a48 a51 a56' p1 k' (nI b) (nI x) = some (nI b', l') := by
    intro q
    induction q with
    | zero =>
      intro k k' x b hx hb2 hk hk'
      obtain ⟨k, rfl⟩ : ∃ q, k = q + 1 := ⟨k - 1, by omega⟩
      obtain ⟨l, e⟩ := mt (424 - x) k' x b (by omega) (by omega) hb2 (by omega)
      rw [l_X11_phase_0_35, if_pos (nI_le (by omega) (by omega)), e]
      exact ⟨b, _, _, hb2, rfl, rfl⟩
    | succ q ih =>
      intro k k' x b hx hb2 hk hk'
      obtain ⟨k, rfl⟩ : ∃ q, k = q + 1 := ⟨k - 1, by omega⟩
      obtain ⟨k', rfl⟩ : ∃ q, k' = q + 1 := ⟨k' - 1, by omega⟩
      rw [l_X11_phase_0_35, l_X12_phase_44_95, if_neg (nI_ge (by omega) (by omega)), if_neg (show ¬ 424 ≤ nI x from nI_ge (b := 424) (by omega) (by decide)), if_neg (show ¬ 424 ≤ nI x from nI_ge (b := 424) (by omega) (by decide)), xin_t (show x < 424 by omega) (by decide), xin_t hb2 (by decide), cond_true, cond_true, cond_true, cond_true, nI_clamp (by omega), nI_clamp (by omega), (f3.1 x (by omega)).1, (f3.1 x (by omega)).2.1, (f3.1 b hb2).1, (f3.1 b hb2).2.1, nI_1]
      by_cases y : nI (tv x) ≤ nI (tv b)
      · rw [if_pos y, if_pos y]
        exact ih k k' (x + 1) b (by omega) hb2 (by omega) (by omega)
      · rw [if_neg y, if_neg y]
        exact ih k k' (x + 1) x (by omega) (by omega) (by omega) (by omega)
  obtain ⟨b, l5', l6', hb2, g1, g2⟩ := bl (cl - 1) n n 1 0 (by omega) (by decide) (by omega) (by omega)
  have g1' : l_X11_phase_0_35 n a1 o2 a3 o' j' a34' p1 (nI cl) n 0 1 = some (nI b, l5') := g1
  have g2' : l_X12_phase_44_95 n (upd o44 0 0) a45 a48 a51 a56' p1 n 0 1 = some (nI b, l6') := g2
  unfold f_X11_phase_0 f_X12_phase_44
  rw [isW, isIn_w p1 0 1 0 1 rfl rfl, ha, ecl, f1, z3]
  simp only [Option.bind_some]
  rw [l4, f2, Option.bind_some]
  simp only []
  rw [g1', g2', Option.bind_some, Option.bind_some]
  unfold b_X11_phase_0_76
  simp only []
  rw [xin_t hb2 (by decide), nI_clamp (by omega), (f3.1 b hb2).1, (f3.1 b hb2).2.1]
  simp only [cond_true]
  by_cases c : 0 ≤ p1 ∧ p1 ≤ 1
  · rw [if_pos c, if_neg one_ne, if_neg one_ne]
    by_cases d : nI (tv b) = 0
    · rw [if_pos d, if_pos d]; exact ⟨_, _, _, _, _, rfl, rfl⟩
    · rw [if_neg d, if_neg d]
      by_cases y : p1 = 0
      · rw [if_pos y, if_pos y]; exact ⟨_, _, _, _, _, rfl, rfl⟩
      · rw [if_neg y, if_neg y]; exact ⟨_, _, _, _, _, rfl, rfl⟩
  · rw [if_neg c, if_pos rfl, if_pos rfl]
    exact ⟨_, _, _, _, _, rfl, rfl⟩
