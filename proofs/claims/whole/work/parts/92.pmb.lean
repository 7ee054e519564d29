theorem iS_fr {T0 sc hs : Nat} {hd : Nat → Int32} {sy : Nat → Nat → Nat} {o4 : Nat → Int32} {j5 : Int64} {a6 a7 o44 o44' a49 : Nat → Int32} (h : iS T0 sc hs hd sy o4 j5 a6 a7 o44 a49) (e : ∀ j, j ≠ 6 → o44' j = upd o44 0 0 j) : iS T0 sc hs hd sy o4 j5 a6 a7 o44' a49 := by
  obtain ⟨h1, h2, h3, h4, h5⟩ := h
  exact ⟨h1, by rw [e 7 (by decide)]; exact h2, h3, by rw [e 8 (by decide), e 9 (by decide)]; exact h4, h5⟩
theorem iC_fr {o44 o44' a36 a46 a47 : Nat → Int32} (h : iC o44 a36 a46 a47) (e : o44' 15 = o44 15) : iC o44' a36 a46 a47 := by
  obtain ⟨h1, h2⟩ := h
  exact ⟨e.trans h1, h2⟩
theorem pm_feed {n : Nat} (hn : 20000 ≤ n) : PM_feed n Inv := by
  intro t a1 o2 a3 o4 j5 a6 a7 o9 a10 o11 a12 o13 a14 a15 o16 a17 o18 j18 j19 a20 o21 a22 a23 o24 j24 j25 a26 o27 a28 a29 o30 j30 j31 a32 o33 j33 a34 a36 a37 o38 a39 a40 a41 a43 o44 a45 a46 a47 a48 a49 a50 a51 a52 a53 a54 a55 a56 a57 a58 a59 a60 p1 p2 p3 p4 p5 ht hI
  obtain ⟨T, sz, bt, sc, hs, hd, sy, S, hT, hL, hS, hE, hW, hR, hG, hC, hV⟩ := hI
  subst hE
  obtain ⟨a, o2', a3', o44', a48', sz', bt', e1, e2, hL2, e3⟩ := k_feed (n := n) (by omega) hL p1 p2 p3 p4 p5
  exact ⟨(a, o2', a3'), (a, o44', a48'), e1, e2, rfl, T, sz', bt', sc, hs, hd, sy, S, hT, hL2, iS_fr hS e3, rfl, aW_up hW (by omega), hR, hG, iC_fr hC (e3 15 (by decide)), hV⟩
theorem pm_bits {n : Nat} (hn : 20000 ≤ n) : PM_bits n Inv := by
  intro t a1 o2 a3 o4 j5 a6 a7 o9 a10 o11 a12 o13 a14 a15 o16 a17 o18 j18 j19 a20 o21 a22 a23 o24 j24 j25 a26 o27 a28 a29 o30 j30 j31 a32 o33 j33 a34 a36 a37 o38 a39 a40 a41 a43 o44 a45 a46 a47 a48 a49 a50 a51 a52 a53 a54 a55 a56 a57 a58 a59 a60 p1 p2 ht hI
  obtain ⟨T, sz, bt, sc, hs, hd, sy, S, hT, hL, hS, hE, hW, hR, hG, hC, hV⟩ := hI
  subst hE
  obtain ⟨a, o2', a3', o44', a48', sz', bt', e1, e2, hL2, e3⟩ := k_bits (n := n) (by omega) hL p1 p2
  exact ⟨(a, o2', a3'), (a, o44', a48'), e1, e2, rfl, T, sz', bt', sc, hs, hd, sy, S, hT, hL2, iS_fr hS e3, rfl, aW_up hW (by omega), hR, hG, iC_fr hC (e3 15 (by decide)), hV⟩
theorem pm_drop {n : Nat} (hn : 20000 ≤ n) : PM_drop n Inv := by
  intro t a1 o2 a3 o4 j5 a6 a7 o9 a10 o11 a12 o13 a14 a15 o16 a17 o18 j18 j19 a20 o21 a22 a23 o24 j24 j25 a26 o27 a28 a29 o30 j30 j31 a32 o33 j33 a34 a36 a37 o38 a39 a40 a41 a43 o44 a45 a46 a47 a48 a49 a50 a51 a52 a53 a54 a55 a56 a57 a58 a59 a60 p1 p2 ht hI
  obtain ⟨T, sz, bt, sc, hs, hd, sy, S, hT, hL, hS, hE, hW, hR, hG, hC, hV⟩ := hI
  subst hE
  obtain ⟨a, o2', a3', o44', a48', sz', bt', e1, e2, hL2, e3⟩ := k_drop (n := n) (by omega) hL p1 p2
  exact ⟨(a, o2', a3'), (a, o44', a48'), e1, e2, rfl, T, sz', bt', sc, hs, hd, sy, S, hT, hL2, iS_fr hS e3, rfl, aW_up hW (by omega), hR, hG, iC_fr hC (e3 15 (by decide)), hV⟩
theorem pm_slip {n : Nat} (hn : 20000 ≤ n) : PM_slip n Inv := by
  intro t a1 o2 a3 o4 j5 a6 a7 o9 a10 o11 a12 o13 a14 a15 o16 a17 o18 j18 j19 a20 o21 a22 a23 o24 j24 j25 a26 o27 a28 a29 o30 j30 j31 a32 o33 j33 a34 a36 a37 o38 a39 a40 a41 a43 o44 a45 a46 a47 a48 a49 a50 a51 a52 a53 a54 a55 a56 a57 a58 a59 a60 p1 p2 p3 ht hI
  obtain ⟨T, sz, bt, sc, hs, hd, sy, S, hT, hL, hS, hE, hW, hR, hG, hC, hV⟩ := hI
  subst hE
  obtain ⟨a, o2', a3', o44', a48', sz', bt', e1, e2, hL2, e3⟩ := k_slip (n := n) (by omega) hL p1 p2 p3
  exact ⟨(a, o2', a3'), (a, o44', a48'), e1, e2, rfl, T, sz', bt', sc, hs, hd, sy, S, hT, hL2, iS_fr hS e3, rfl, aW_up hW (by omega), hR, hG, iC_fr hC (e3 15 (by decide)), hV⟩
theorem pm_disturb {n : Nat} (hn : 20000 ≤ n) : PM_disturb n Inv := by
  intro t a1 o2 a3 o4 j5 a6 a7 o9 a10 o11 a12 o13 a14 a15 o16 a17 o18 j18 j19 a20 o21 a22 a23 o24 j24 j25 a26 o27 a28 a29 o30 j30 j31 a32 o33 j33 a34 a36 a37 o38 a39 a40 a41 a43 o44 a45 a46 a47 a48 a49 a50 a51 a52 a53 a54 a55 a56 a57 a58 a59 a60 p1 p2 p3 p4 ht hI
  obtain ⟨T, sz, bt, sc, hs, hd, sy, S, hT, hL, hS, hE, hW, hR, hG, hC, hV⟩ := hI
  subst hE
  obtain ⟨a, a3', a48', bt', e1, e2, hL2⟩ := k_disturb (n := n) (by omega) hL p1 p2 p3 p4
  exact ⟨(a, a3'), (a, upd o44 0 0, a48'), e1, e2, rfl, T, sz, bt', sc, hs, hd, sy, S, hT, hL2, hS, rfl, aW_up hW (by omega), hR, hG, hC, hV⟩
theorem pm_send {n : Nat} (hn : 20000 ≤ n) : PM_send n Inv := by
  intro t a1 o2 a3 o4 j5 a6 a7 o9 a10 o11 a12 o13 a14 a15 o16 a17 o18 j18 j19 a20 o21 a22 a23 o24 j24 j25 a26 o27 a28 a29 o30 j30 j31 a32 o33 j33 a34 a36 a37 o38 a39 a40 a41 a43 o44 a45 a46 a47 a48 a49 a50 a51 a52 a53 a54 a55 a56 a57 a58 a59 a60 p1 p2 ht hI
  obtain ⟨T, sz, bt, sc, hs, hd, sy, S, hT, hL, hS, hE, hW, hR, hG, hC, hV⟩ := hI
  subst hE
  obtain ⟨a, o2', a3', o4', a6', a7', o44', a48', a49', j5', sz', sc', hs', bt', hd', sy', e1, e2, e3, hL2, hS2⟩ := k_send (n := n) (by omega) hT hL hS p1 p2
  exact ⟨(a, o2', a3', o4', j5', a6', a7'), (a, o44', a48', a49'), e1, e2, rfl, T, sz', bt', sc', hs', hd', sy', S, hT, hL2, hS2, rfl, aW_up hW (by omega), hR, hG, iC_fr hC (e3 15 (by decide) (by decide) (by decide) (by decide)), hV⟩
theorem pm_rest {n : Nat} (hn : 20000 ≤ n) : PM_rest n Inv := by
  intro t a1 o2 a3 o4 j5 a6 a7 o9 a10 o11 a12 o13 a14 a15 o16 a17 o18 j18 j19 a20 o21 a22 a23 o24 j24 j25 a26 o27 a28 a29 o30 j30 j31 a32 o33 j33 a34 a36 a37 o38 a39 a40 a41 a43 o44 a45 a46 a47 a48 a49 a50 a51 a52 a53 a54 a55 a56 a57 a58 a59 a60 p1 ht hI
  obtain ⟨T, sz, bt, sc, hs, hd, sy, S, hT, hL, hS, hE, hW, hR, hG, hC, hV⟩ := hI
  subst hE
  obtain ⟨a, o2', a3', o4', a6', a7', o44', a48', a49', j5', sz', sc', hs', bt', hd', sy', e1, e2, e3, hL2, hS2⟩ := k_rest (n := n) (by omega) hT hL hS p1
  exact ⟨(a, o2', a3', o4', j5', a6', a7'), (a, o44', a48', a49'), e1, e2, rfl, T, sz', bt', sc', hs', hd', sy', S, hT, hL2, hS2, rfl, aW_up hW (by omega), hR, hG, iC_fr hC (e3 15 (by decide) (by decide) (by decide) (by decide)), hV⟩
