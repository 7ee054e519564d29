theorem pm_pairs {n : Nat} (hn : 20000 ≤ n) : PM_pairs n Inv := by
  intro t a1 o2 a3 o4 j5 a6 a7 o9 a10 o11 a12 o13 a14 a15 o16 a17 o18 j18 j19 a20 o21 a22 a23 o24 j24 j25 a26 o27 a28 a29 o30 j30 j31 a32 o33 j33 a34 a36 a37 o38 a39 a40 a41 a43 o44 a45 a46 a47 a48 a49 a50 a51 a52 a53 a54 a55 a56 a57 a58 a59 a60 p1 p2 ht hI
  have hI2 := Inv_thrown hI
  obtain ⟨T, sz, bt, sc, hs, hd, sy, S, hT, hL, hS, hE, hW, hR, hG, hC, hV⟩ := hI
  subst hE
  obtain ⟨a, e1, e2⟩ := k_pairs (n := n) (by omega) hC.2.2 o44 p1 p2
  exact ⟨a, (a, upd o44 0 0), e1, e2, rfl, hI2⟩
theorem pm_nearest {n : Nat} (hn : 20000 ≤ n) : PM_nearest n Inv := by
  intro t a1 o2 a3 o4 j5 a6 a7 o9 a10 o11 a12 o13 a14 a15 o16 a17 o18 j18 j19 a20 o21 a22 a23 o24 j24 j25 a26 o27 a28 a29 o30 j30 j31 a32 o33 j33 a34 a36 a37 o38 a39 a40 a41 a43 o44 a45 a46 a47 a48 a49 a50 a51 a52 a53 a54 a55 a56 a57 a58 a59 a60 p1 p2 ht hI
  obtain ⟨T, sz, bt, sc, hs, hd, sy, S, hT, hL, hS, hE, hW, hR, hG, hC, hV⟩ := hI
  subst hE
  obtain ⟨a, x, y, e1, e2⟩ := k_nearest (n := n) (by omega) hC.2.2 a37 o44 a50 p1 p2
  exact ⟨(a, x), (a, upd o44 0 0, y), e1, e2, rfl, T, sz, bt, sc, hs, hd, sy, S, hT, hL, hS, rfl, aW_up hW (by omega), hR, hG, hC, hV⟩
theorem pm_words {n : Nat} (hn : 20000 ≤ n) : PM_words n Inv := by
  intro t a1 o2 a3 o4 j5 a6 a7 o9 a10 o11 a12 o13 a14 a15 o16 a17 o18 j18 j19 a20 o21 a22 a23 o24 j24 j25 a26 o27 a28 a29 o30 j30 j31 a32 o33 j33 a34 a36 a37 o38 a39 a40 a41 a43 o44 a45 a46 a47 a48 a49 a50 a51 a52 a53 a54 a55 a56 a57 a58 a59 a60 p1 ht hI
  obtain ⟨T, sz, bt, sc, hs, hd, sy, S, hT, hL, hS, hE, hW, hR, hG, hC, hV⟩ := hI
  subst hE
  obtain ⟨a, o, x, y, z, b, c, e1, e2, hV2⟩ := k_words (n := n) hn hV o44 a40 a58 p1
  exact ⟨(a, o, x, y, z), (a, upd o44 0 0, b, c), e1, e2, rfl, T, sz, bt, sc, hs, hd, sy, S, hT, hL, hS, rfl, aW_up hW (by omega), hR, hG, hC, hV2⟩
theorem pm_cases {n : Nat} (hn : 20000 ≤ n) : PM_cases n Inv := by
  intro t a1 o2 a3 o4 j5 a6 a7 o9 a10 o11 a12 o13 a14 a15 o16 a17 o18 j18 j19 a20 o21 a22 a23 o24 j24 j25 a26 o27 a28 a29 o30 j30 j31 a32 o33 j33 a34 a36 a37 o38 a39 a40 a41 a43 o44 a45 a46 a47 a48 a49 a50 a51 a52 a53 a54 a55 a56 a57 a58 a59 a60 p1 p2 ht hI
  obtain ⟨T, sz, bt, sc, hs, hd, sy, S, hT, hL, hS, hE, hW, hR, hG, hC, hV⟩ := hI
  subst hE
  obtain ⟨a, o, x, y, z, b, c, e1, e2, hV2⟩ := k_cases (n := n) hn hV o44 a40 a58 p1 p2
  exact ⟨(a, o, x, y, z), (a, upd o44 0 0, b, c), e1, e2, rfl, T, sz, bt, sc, hs, hd, sy, S, hT, hL, hS, rfl, aW_up hW (by omega), hR, hG, hC, hV2⟩
theorem pm_unseen {n : Nat} (hn : 20000 ≤ n) : PM_unseen n Inv := by
  intro t a1 o2 a3 o4 j5 a6 a7 o9 a10 o11 a12 o13 a14 a15 o16 a17 o18 j18 j19 a20 o21 a22 a23 o24 j24 j25 a26 o27 a28 a29 o30 j30 j31 a32 o33 j33 a34 a36 a37 o38 a39 a40 a41 a43 o44 a45 a46 a47 a48 a49 a50 a51 a52 a53 a54 a55 a56 a57 a58 a59 a60 p1 p2 ht hI
  obtain ⟨T, sz, bt, sc, hs, hd, sy, S, hT, hL, hS, hE, hW, hR, hG, hC, hV⟩ := hI
  subst hE
  obtain ⟨a, o, x, y, z, b, c, e1, e2, hV2⟩ := k_unseen (n := n) hn hV o44 a40 a58 p1 p2
  exact ⟨(a, o, x, y, z), (a, upd o44 0 0, b, c), e1, e2, rfl, T, sz, bt, sc, hs, hd, sy, S, hT, hL, hS, rfl, aW_up hW (by omega), hR, hG, hC, hV2⟩
theorem pm_half {n : Nat} (hn : 20000 ≤ n) : PM_half n Inv := by
  intro t a1 o2 a3 o4 j5 a6 a7 o9 a10 o11 a12 o13 a14 a15 o16 a17 o18 j18 j19 a20 o21 a22 a23 o24 j24 j25 a26 o27 a28 a29 o30 j30 j31 a32 o33 j33 a34 a36 a37 o38 a39 a40 a41 a43 o44 a45 a46 a47 a48 a49 a50 a51 a52 a53 a54 a55 a56 a57 a58 a59 a60 p1 p2 ht hI
  obtain ⟨T, sz, bt, sc, hs, hd, sy, S, hT, hL, hS, hE, hW, hR, hG, hC, hV⟩ := hI
  subst hE
  obtain ⟨a, x, y, z, e1, e2⟩ := k_half (n := n) (by omega) hT o44 a43 a59 a60 p1 p2
  exact ⟨(a, x), (a, upd o44 0 0, y, z), e1, e2, rfl, T, sz, bt, sc, hs, hd, sy, S, hT, hL, hS, rfl, aW_up hW (by omega), hR, hG, hC, hV⟩
theorem pm_odds {n : Nat} (hn : 20000 ≤ n) : PM_odds n Inv := by
  intro t a1 o2 a3 o4 j5 a6 a7 o9 a10 o11 a12 o13 a14 a15 o16 a17 o18 j18 j19 a20 o21 a22 a23 o24 j24 j25 a26 o27 a28 a29 o30 j30 j31 a32 o33 j33 a34 a36 a37 o38 a39 a40 a41 a43 o44 a45 a46 a47 a48 a49 a50 a51 a52 a53 a54 a55 a56 a57 a58 a59 a60 p1 p2 p3 p4 ht hI
  obtain ⟨T, sz, bt, sc, hs, hd, sy, S, hT, hL, hS, hE, hW, hR, hG, hC, hV⟩ := hI
  subst hE
  obtain ⟨a, x, y, z, e1, e2⟩ := k_odds (n := n) hn hT o44 a43 a59 a60 p1 p2 p3 p4
  exact ⟨(a, x), (a, upd o44 0 0, y, z), e1, e2, rfl, T, sz, bt, sc, hs, hd, sy, S, hT, hL, hS, rfl, aW_up hW (by omega), hR, hG, hC, hV⟩
theorem pm_mean {n : Nat} (hn : 20000 ≤ n) : PM_mean n Inv := by
  intro t a1 o2 a3 o4 j5 a6 a7 o9 a10 o11 a12 o13 a14 a15 o16 a17 o18 j18 j19 a20 o21 a22 a23 o24 j24 j25 a26 o27 a28 a29 o30 j30 j31 a32 o33 j33 a34 a36 a37 o38 a39 a40 a41 a43 o44 a45 a46 a47 a48 a49 a50 a51 a52 a53 a54 a55 a56 a57 a58 a59 a60 p1 p2 p3 ht hI
  have hI2 := Inv_thrown hI
  obtain ⟨T, sz, bt, sc, hs, hd, sy, S, hT, hL, hS, hE, hW, hR, hG, hC, hV⟩ := hI
  subst hE
  obtain ⟨a, e1, e2⟩ := k_mean (n := n) hn hT o44 p1 p2 p3
  exact ⟨a, (a, upd o44 0 0), e1, e2, rfl, hI2⟩
