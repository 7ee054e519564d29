theorem pm_look {n : Nat} (hn : 20000 ≤ n) : PM_look n Inv := by
  intro t a1 o2 a3 o4 j5 a6 a7 o9 a10 o11 a12 o13 a14 a15 o16 a17 o18 j18 j19 a20 o21 a22 a23 o24 j24 j25 a26 o27 a28 a29 o30 j30 j31 a32 o33 j33 a34 a36 a37 o38 a39 a40 a41 a43 o44 a45 a46 a47 a48 a49 a50 a51 a52 a53 a54 a55 a56 a57 a58 a59 a60 p1 ht hI
  obtain ⟨T, sz, bt, sc, hs, hd, sy, S, hT, hL, hS, hE, hW, hR, hG, hC, hV⟩ := hI
  subst hE
  obtain ⟨a, x1, x2, x3, x4, x5, x6, x7, y, e1, e2⟩ := k_look (n := n) (by omega) hT (a52 := a52) (a53 := a53) (a54 := a54) hS hC.1 (B := 9600 * t) (by omega) hL hW hR o21 a22 a23 o24 j24 j25 a26 p1
  exact ⟨(a, x1, x2, x3, x4, x5, x6, x7), (a, upd o44 0 0, sn S, y, a53, a54), e1, e2, rfl, T, sz, bt, sc, hs, hd, sy, S, hT, hL, hS, rfl, aW_up hW (by omega), hR, hG, hC, hV⟩
theorem pm_until {n : Nat} (hn : 20000 ≤ n) : PM_until n Inv := by
  intro t a1 o2 a3 o4 j5 a6 a7 o9 a10 o11 a12 o13 a14 a15 o16 a17 o18 j18 j19 a20 o21 a22 a23 o24 j24 j25 a26 o27 a28 a29 o30 j30 j31 a32 o33 j33 a34 a36 a37 o38 a39 a40 a41 a43 o44 a45 a46 a47 a48 a49 a50 a51 a52 a53 a54 a55 a56 a57 a58 a59 a60 p1 ht hI
  obtain ⟨T, sz, bt, sc, hs, hd, sy, S, hT, hL, hS, hE, hW, hR, hG, hC, hV⟩ := hI
  subst hE
  obtain ⟨a, x1, x2, x3, x4, x5, x6, x7, y, e1, e2⟩ := k_until (n := n) (by omega) hT (a52 := a52) (a53 := a53) (a54 := a54) hS hC.1 (B := 9600 * t) (by omega) hL hW hR o21 a22 a23 o24 j24 j25 a26 p1
  exact ⟨(a, x1, x2, x3, x4, x5, x6, x7), (a, upd o44 0 0, sn S, y, a53, a54), e1, e2, rfl, T, sz, bt, sc, hs, hd, sy, S, hT, hL, hS, rfl, aW_up hW (by omega), hR, hG, hC, hV⟩
theorem pm_regained {n : Nat} (hn : 20000 ≤ n) : PM_regained n Inv := by
  intro t a1 o2 a3 o4 j5 a6 a7 o9 a10 o11 a12 o13 a14 a15 o16 a17 o18 j18 j19 a20 o21 a22 a23 o24 j24 j25 a26 o27 a28 a29 o30 j30 j31 a32 o33 j33 a34 a36 a37 o38 a39 a40 a41 a43 o44 a45 a46 a47 a48 a49 a50 a51 a52 a53 a54 a55 a56 a57 a58 a59 a60 p1 ht hI
  obtain ⟨T, sz, bt, sc, hs, hd, sy, S, hT, hL, hS, hE, hW, hR, hG, hC, hV⟩ := hI
  subst hE
  obtain ⟨a, x1, x2, x3, x4, x5, x6, x7, y, e1, e2⟩ := k_regained (n := n) (by omega) hT (a52 := a52) (a53 := a53) (a54 := a54) hS hC.1 (B := 9600 * t) (by omega) hL hW hR o21 a22 a23 o24 j24 j25 a26 p1
  exact ⟨(a, x1, x2, x3, x4, x5, x6, x7), (a, upd o44 0 0, sn S, y, a53, a54), e1, e2, rfl, T, sz, bt, sc, hs, hd, sy, S, hT, hL, hS, rfl, aW_up hW (by omega), hR, hG, hC, hV⟩
theorem pm_latest {n : Nat} (hn : 20000 ≤ n) : PM_latest n Inv := by
  intro t a1 o2 a3 o4 j5 a6 a7 o9 a10 o11 a12 o13 a14 a15 o16 a17 o18 j18 j19 a20 o21 a22 a23 o24 j24 j25 a26 o27 a28 a29 o30 j30 j31 a32 o33 j33 a34 a36 a37 o38 a39 a40 a41 a43 o44 a45 a46 a47 a48 a49 a50 a51 a52 a53 a54 a55 a56 a57 a58 a59 a60 p1 ht hI
  obtain ⟨T, sz, bt, sc, hs, hd, sy, S, hT, hL, hS, hE, hW, hR, hG, hC, hV⟩ := hI
  subst hE
  obtain ⟨a, x1, x2, x3, x4, x5, x6, x7, y, e1, e2⟩ := k_latest (n := n) (by omega) hT (a52 := a52) (a53 := a53) (a54 := a54) hS hC.1 (B := 9600 * t) (by omega) hL hW hR o21 a22 a23 o24 j24 j25 a26 p1
  exact ⟨(a, x1, x2, x3, x4, x5, x6, x7), (a, upd o44 0 0, sn S, y, a53, a54), e1, e2, rfl, T, sz, bt, sc, hs, hd, sy, S, hT, hL, hS, rfl, aW_up hW (by omega), hR, hG, hC, hV⟩
theorem pm_starts {n : Nat} (hn : 20000 ≤ n) : PM_starts n Inv := by
  intro t a1 o2 a3 o4 j5 a6 a7 o9 a10 o11 a12 o13 a14 a15 o16 a17 o18 j18 j19 a20 o21 a22 a23 o24 j24 j25 a26 o27 a28 a29 o30 j30 j31 a32 o33 j33 a34 a36 a37 o38 a39 a40 a41 a43 o44 a45 a46 a47 a48 a49 a50 a51 a52 a53 a54 a55 a56 a57 a58 a59 a60 p1 ht hI
  obtain ⟨T, sz, bt, sc, hs, hd, sy, S, hT, hL, hS, hE, hW, hR, hG, hC, hV⟩ := hI
  subst hE
  obtain ⟨a, x1, x2, x3, x4, x5, x6, x7, y, e1, e2⟩ := k_starts (n := n) (by omega) hT (a52 := a52) (a53 := a53) (a54 := a54) hS hC.1 (B := 9600 * t) (by omega) hL hW hR o21 a22 a23 o24 j24 j25 a26 p1
  exact ⟨(a, x1, x2, x3, x4, x5, x6, x7), (a, upd o44 0 0, sn S, y, a53, a54), e1, e2, rfl, T, sz, bt, sc, hs, hd, sy, S, hT, hL, hS, rfl, aW_up hW (by omega), hR, hG, hC, hV⟩
theorem pm_would {n : Nat} (hn : 20000 ≤ n) : PM_would n Inv := by
  intro t a1 o2 a3 o4 j5 a6 a7 o9 a10 o11 a12 o13 a14 a15 o16 a17 o18 j18 j19 a20 o21 a22 a23 o24 j24 j25 a26 o27 a28 a29 o30 j30 j31 a32 o33 j33 a34 a36 a37 o38 a39 a40 a41 a43 o44 a45 a46 a47 a48 a49 a50 a51 a52 a53 a54 a55 a56 a57 a58 a59 a60 p1 p2 ht hI
  obtain ⟨T, sz, bt, sc, hs, hd, sy, S, hT, hL, hS, hE, hW, hR, hG, hC, hV⟩ := hI
  subst hE
  obtain ⟨a, x1, x2, x3, x4, x5, x6, x7, y, e1, e2⟩ := k_would (n := n) (by omega) hT (a52 := a52) (a53 := a53) (a54 := a54) hS hC.1 (B := 9600 * t) (by omega) hL hW hR o21 a22 a23 o24 j24 j25 a26 p1 p2
  exact ⟨(a, x1, x2, x3, x4, x5, x6, x7), (a, upd o44 0 0, a48, sn S, y, a53, a54), e1, e2, rfl, T, sz, bt, sc, hs, hd, sy, S, hT, hL, hS, rfl, aW_up hW (by omega), hR, hG, hC, hV⟩
theorem pm_worst {n : Nat} (hn : 20000 ≤ n) : PM_worst n Inv := by
  intro t a1 o2 a3 o4 j5 a6 a7 o9 a10 o11 a12 o13 a14 a15 o16 a17 o18 j18 j19 a20 o21 a22 a23 o24 j24 j25 a26 o27 a28 a29 o30 j30 j31 a32 o33 j33 a34 a36 a37 o38 a39 a40 a41 a43 o44 a45 a46 a47 a48 a49 a50 a51 a52 a53 a54 a55 a56 a57 a58 a59 a60  ht hI
  obtain ⟨T, sz, bt, sc, hs, hd, sy, S, hT, hL, hS, hE, hW, hR, hG, hC, hV⟩ := hI
  subst hE
  obtain ⟨a, x1, x2, x3, x4, x5, x6, x7, y, e1, e2⟩ := k_worst (n := n) (by omega) hT (a52 := a52) (a53 := a53) (a54 := a54) hS hC.1 (B := 9600 * t) (by omega) hL hW hR o21 a22 a23 o24 j24 j25 a26 
  exact ⟨(a, x1, x2, x3, x4, x5, x6, x7), (a, upd o44 0 0, a48, sn S, y, a53, a54), e1, e2, rfl, T, sz, bt, sc, hs, hd, sy, S, hT, hL, hS, rfl, aW_up hW (by omega), hR, hG, hC, hV⟩
theorem pm_tuned {n : Nat} (hn : 20000 ≤ n) : PM_tuned n Inv := by
  intro t a1 o2 a3 o4 j5 a6 a7 o9 a10 o11 a12 o13 a14 a15 o16 a17 o18 j18 j19 a20 o21 a22 a23 o24 j24 j25 a26 o27 a28 a29 o30 j30 j31 a32 o33 j33 a34 a36 a37 o38 a39 a40 a41 a43 o44 a45 a46 a47 a48 a49 a50 a51 a52 a53 a54 a55 a56 a57 a58 a59 a60 p1 ht hI
  obtain ⟨T, sz, bt, sc, hs, hd, sy, S, hT, hL, hS, hE, hW, hR, hG, hC, hV⟩ := hI
  subst hE
  obtain ⟨a, x1, x2, x3, x4, x5, x6, x7, y, e1, e2⟩ := k_tuned (n := n) (by omega) hT (a52 := a52) (a53 := a53) (a54 := a54) hS hC.1 (B := 9600 * t) (by omega) hL hW hR hC o21 a22 a23 o24 j24 j25 a26 p1
  exact ⟨(a, x1, x2, x3, x4, x5, x6, x7), (a, upd o44 0 0, a45, sn S, y, a53, a54), e1, e2, rfl, T, sz, bt, sc, hs, hd, sy, S, hT, hL, hS, rfl, aW_up hW (by omega), hR, hG, hC, hV⟩
theorem pm_spread {n : Nat} (hn : 20000 ≤ n) : PM_spread n Inv := by
  intro t a1 o2 a3 o4 j5 a6 a7 o9 a10 o11 a12 o13 a14 a15 o16 a17 o18 j18 j19 a20 o21 a22 a23 o24 j24 j25 a26 o27 a28 a29 o30 j30 j31 a32 o33 j33 a34 a36 a37 o38 a39 a40 a41 a43 o44 a45 a46 a47 a48 a49 a50 a51 a52 a53 a54 a55 a56 a57 a58 a59 a60 p1 p2 ht hI
  obtain ⟨T, sz, bt, sc, hs, hd, sy, S, hT, hL, hS, hE, hW, hR, hG, hC, hV⟩ := hI
  subst hE
  obtain ⟨a, x1, x2, x3, x4, x5, x6, x7, y1, y2, y3, y4, y5, y6, y7, z1, z2, z3, e1, e2⟩ := k_spread (n := n) (by omega) hT (a52 := a52) (a53 := a53) (a54 := a54) hS hC.1 (B := 9600 * t) (by omega) hL hW hR o21 a22 a23 o24 j24 j25 a26 o27 a28 a29 o30 j30 j31 a32 p1 p2
  exact ⟨(a, x1, x2, x3, x4, x5, x6, x7, y1, y2, y3, y4, y5, y6, y7), (a, upd o44 0 0, a48, sn S, z1, z2, z3), e1, e2, rfl, T, sz, bt, sc, hs, hd, sy, S, hT, hL, hS, rfl, aW_up hW (by omega), hR, hG, hC, hV⟩
theorem pm_rights {n : Nat} (hn : 20000 ≤ n) : PM_rights n Inv := by
  intro t a1 o2 a3 o4 j5 a6 a7 o9 a10 o11 a12 o13 a14 a15 o16 a17 o18 j18 j19 a20 o21 a22 a23 o24 j24 j25 a26 o27 a28 a29 o30 j30 j31 a32 o33 j33 a34 a36 a37 o38 a39 a40 a41 a43 o44 a45 a46 a47 a48 a49 a50 a51 a52 a53 a54 a55 a56 a57 a58 a59 a60 p1 p2 p3 ht hI
  obtain ⟨T, sz, bt, sc, hs, hd, sy, S, hT, hL, hS, hE, hW, hR, hG, hC, hV⟩ := hI
  subst hE
  obtain ⟨a, x1, x2, e1, e2⟩ := k_rights (n := n) (by omega) hL o33 j33 p1 p2 p3
  exact ⟨(a, x1, x2), (a, upd o44 0 0), e1, e2, rfl, T, sz, bt, sc, hs, hd, sy, S, hT, hL, hS, rfl, aW_up hW (by omega), hR, hG, hC, hV⟩
theorem pm_phase {n : Nat} (hn : 20000 ≤ n) : PM_phase n Inv := by
  intro t a1 o2 a3 o4 j5 a6 a7 o9 a10 o11 a12 o13 a14 a15 o16 a17 o18 j18 j19 a20 o21 a22 a23 o24 j24 j25 a26 o27 a28 a29 o30 j30 j31 a32 o33 j33 a34 a36 a37 o38 a39 a40 a41 a43 o44 a45 a46 a47 a48 a49 a50 a51 a52 a53 a54 a55 a56 a57 a58 a59 a60 p1 ht hI
  obtain ⟨T, sz, bt, sc, hs, hd, sy, S, hT, hL, hS, hE, hW, hR, hG, hC, hV⟩ := hI
  subst hE
  obtain ⟨a, x1, x2, x3, x4, e1, e2⟩ := k_phase (n := n) (by omega) hT hL o33 j33 a34 a56 p1
  exact ⟨(a, x1, x2, x3), (a, upd o44 0 0, x4), e1, e2, rfl, T, sz, bt, sc, hs, hd, sy, S, hT, hL, hS, rfl, aW_up hW (by omega), hR, hG, hC, hV⟩
