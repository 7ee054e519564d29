theorem c_lt {T0 t : Nat} {S : Nat → Nat} (ht : t < 512) (h : aW T0 (9600 * t) S) : ∀ k, k < 14 → S (13 + k) < 2 ^ 29 := by
  intro k hk
  have h1 := h.2.2.2 k hk
  have h2 := h.2.1
  omega
theorem pm_state {n : Nat} (hn : 20000 ≤ n) : PM_state n Inv := by
  intro t a1 o2 a3 o4 j5 a6 a7 o9 a10 o11 a12 o13 a14 a15 o16 a17 o18 j18 j19 a20 o21 a22 a23 o24 j24 j25 a26 o27 a28 a29 o30 j30 j31 a32 o33 j33 a34 a36 a37 o38 a39 a40 a41 a43 o44 a45 a46 a47 a48 a49 a50 a51 a52 a53 a54 a55 a56 a57 a58 a59 a60 p1 ht hI
  have hI2 := Inv_thrown hI
  obtain ⟨T, sz, bt, sc, hs, hd, sy, S, hT, hL, hS, hE, hW, hR, hG, hC, hV⟩ := hI
  subst hE
  obtain ⟨a, e1, e2⟩ := k_state (n := n) (by omega) hT.2.1.2 (hT.1 0 (by decide)).1 (show 9600 * t < 2 ^ 30 by omega) hW hR p1
  exact ⟨a, (a, upd o44 0 0), e1, e2, rfl, hI2⟩
theorem pm_judged {n : Nat} (hn : 20000 ≤ n) : PM_judged n Inv := by
  intro t a1 o2 a3 o4 j5 a6 a7 o9 a10 o11 a12 o13 a14 a15 o16 a17 o18 j18 j19 a20 o21 a22 a23 o24 j24 j25 a26 o27 a28 a29 o30 j30 j31 a32 o33 j33 a34 a36 a37 o38 a39 a40 a41 a43 o44 a45 a46 a47 a48 a49 a50 a51 a52 a53 a54 a55 a56 a57 a58 a59 a60 p1 p2 ht hI
  have hI2 := Inv_thrown hI
  obtain ⟨T, sz, bt, sc, hs, hd, sy, S, hT, hL, hS, hE, hW, hR, hG, hC, hV⟩ := hI
  subst hE
  obtain ⟨a, e1, e2⟩ := k_judged (o44 := o44) (Nat.lt_trans (c_lt ht hW 8 (by decide)) (by decide)) hG.2.2 p1 p2
  exact ⟨a, (a, upd o44 0 0), e1, e2, rfl, hI2⟩
theorem pm_turn {n : Nat} (hn : 20000 ≤ n) : PM_turn n Inv := by
  intro t a1 o2 a3 o4 j5 a6 a7 o9 a10 o11 a12 o13 a14 a15 o16 a17 o18 j18 j19 a20 o21 a22 a23 o24 j24 j25 a26 o27 a28 a29 o30 j30 j31 a32 o33 j33 a34 a36 a37 o38 a39 a40 a41 a43 o44 a45 a46 a47 a48 a49 a50 a51 a52 a53 a54 a55 a56 a57 a58 a59 a60 p1 p2 ht hI
  have hI2 := Inv_thrown hI
  obtain ⟨T, sz, bt, sc, hs, hd, sy, S, hT, hL, hS, hE, hW, hR, hG, hC, hV⟩ := hI
  subst hE
  obtain ⟨a, e1, e2⟩ := k_turn (o44 := o44) (Nat.lt_trans (c_lt ht hW 7 (by decide)) (by decide)) hG.2.1 p1 p2
  exact ⟨a, (a, upd o44 0 0), e1, e2, rfl, hI2⟩
theorem pm_field {n : Nat} (hn : 20000 ≤ n) : PM_field n Inv := by
  intro t a1 o2 a3 o4 j5 a6 a7 o9 a10 o11 a12 o13 a14 a15 o16 a17 o18 j18 j19 a20 o21 a22 a23 o24 j24 j25 a26 o27 a28 a29 o30 j30 j31 a32 o33 j33 a34 a36 a37 o38 a39 a40 a41 a43 o44 a45 a46 a47 a48 a49 a50 a51 a52 a53 a54 a55 a56 a57 a58 a59 a60 p1 p2 ht hI
  have hI2 := Inv_thrown hI
  obtain ⟨T, sz, bt, sc, hs, hd, sy, S, hT, hL, hS, hE, hW, hR, hG, hC, hV⟩ := hI
  subst hE
  obtain ⟨a, e1, e2⟩ := k_field (T := T) (o44 := o44) (Nat.lt_trans (c_lt ht hW 3 (by decide)) (by decide)) hG.1 p1 p2
  exact ⟨a, (a, upd o44 0 0), e1, e2, rfl, hI2⟩
theorem pm_load {n : Nat} (hn : 20000 ≤ n) : PM_load n Inv := by
  intro t a1 o2 a3 o4 j5 a6 a7 o9 a10 o11 a12 o13 a14 a15 o16 a17 o18 j18 j19 a20 o21 a22 a23 o24 j24 j25 a26 o27 a28 a29 o30 j30 j31 a32 o33 j33 a34 a36 a37 o38 a39 a40 a41 a43 o44 a45 a46 a47 a48 a49 a50 a51 a52 a53 a54 a55 a56 a57 a58 a59 a60 p1 p2 ht hI
  have hI2 := Inv_thrown hI
  obtain ⟨T, sz, bt, sc, hs, hd, sy, S, hT, hL, hS, hE, hW, hR, hG, hC, hV⟩ := hI
  subst hE
  obtain ⟨a, e1, e2⟩ := k_load (o44 := o44) hT.2.1 (hT.1 0 (by decide)).1 hW.2.2.1 (Nat.lt_trans (c_lt ht hW 3 (by decide)) (by decide)) hG.1 p1 p2
  exact ⟨a, (a, upd o44 0 0), e1, e2, rfl, hI2⟩
theorem pm_delivered {n : Nat} (hn : 20000 ≤ n) : PM_delivered n Inv := by
  intro t a1 o2 a3 o4 j5 a6 a7 o9 a10 o11 a12 o13 a14 a15 o16 a17 o18 j18 j19 a20 o21 a22 a23 o24 j24 j25 a26 o27 a28 a29 o30 j30 j31 a32 o33 j33 a34 a36 a37 o38 a39 a40 a41 a43 o44 a45 a46 a47 a48 a49 a50 a51 a52 a53 a54 a55 a56 a57 a58 a59 a60 p1 p2 ht hI
  have hI2 := Inv_thrown hI
  obtain ⟨T, sz, bt, sc, hs, hd, sy, S, hT, hL, hS, hE, hW, hR, hG, hC, hV⟩ := hI
  subst hE
  obtain ⟨a, e1, e2⟩ := k_delivered (n := n) (by omega) hT.2.1.2 (hT.1 0 (by decide)).1 hS hW.2.2.1 (Nat.lt_trans (c_lt ht hW 3 (by decide)) (by decide)) hG.1 p1 p2
  exact ⟨a, (a, upd o44 0 0), e1, e2, rfl, hI2⟩
theorem pm_lost {n : Nat} (hn : 20000 ≤ n) : PM_lost n Inv := by
  intro t a1 o2 a3 o4 j5 a6 a7 o9 a10 o11 a12 o13 a14 a15 o16 a17 o18 j18 j19 a20 o21 a22 a23 o24 j24 j25 a26 o27 a28 a29 o30 j30 j31 a32 o33 j33 a34 a36 a37 o38 a39 a40 a41 a43 o44 a45 a46 a47 a48 a49 a50 a51 a52 a53 a54 a55 a56 a57 a58 a59 a60  ht hI
  obtain ⟨T, sz, bt, sc, hs, hd, sy, S, hT, hL, hS, hE, hW, hR, hG, hC, hV⟩ := hI
  subst hE
  obtain ⟨a, a55', e1, e2⟩ := k_lost (n := n) (a55 := a55) (by omega) hT.2.1.2 (hT.1 0 (by decide)).1 hS hW.2.2.1 (c_lt ht hW 3 (by decide)) hG.1
  exact ⟨a, (a, upd o44 0 0, a55'), e1, e2, rfl, T, sz, bt, sc, hs, hd, sy, S, hT, hL, hS, rfl, aW_up hW (by omega), hR, hG, hC, hV⟩
theorem pm_stages {n : Nat} (hn : 20000 ≤ n) : PM_stages n Inv := by
  intro t a1 o2 a3 o4 j5 a6 a7 o9 a10 o11 a12 o13 a14 a15 o16 a17 o18 j18 j19 a20 o21 a22 a23 o24 j24 j25 a26 o27 a28 a29 o30 j30 j31 a32 o33 j33 a34 a36 a37 o38 a39 a40 a41 a43 o44 a45 a46 a47 a48 a49 a50 a51 a52 a53 a54 a55 a56 a57 a58 a59 a60 p1 p2 ht hI
  obtain ⟨T, sz, bt, sc, hs, hd, sy, S, hT, hL, hS, hE, hW, hR, hG, hC, hV⟩ := hI
  subst hE
  obtain ⟨a, jh', S', e1, e2, e3, hW2, hR2, hG2⟩ := k_stages (n := n) (o44 := o44) (by omega) hT.2.1.2 hW hR hG p1 p2
  exact ⟨(a, jh'), (a, upd o44 0 0, sn S'), e1, e2, rfl, T, sz, bt, sc, hs, hd, sy, S', hT, ⟨hL.1, by rw [e3]; exact hL.2.1, hL.2.2.1, rfl, by rw [e3]; exact hL.2.2.2.2.1, hL.2.2.2.2.2⟩, hS, rfl, aW_up hW2 (by omega), hR2, hG2, hC, hV⟩
theorem pm_fresh {n : Nat} (hn : 20000 ≤ n) : PM_fresh n Inv := by
  intro t a1 o2 a3 o4 j5 a6 a7 o9 a10 o11 a12 o13 a14 a15 o16 a17 o18 j18 j19 a20 o21 a22 a23 o24 j24 j25 a26 o27 a28 a29 o30 j30 j31 a32 o33 j33 a34 a36 a37 o38 a39 a40 a41 a43 o44 a45 a46 a47 a48 a49 a50 a51 a52 a53 a54 a55 a56 a57 a58 a59 a60  ht hI
  obtain ⟨T, sz, bt, sc, hs, hd, sy, S, hT, hL, hS, hE, hW, hR, hG, hC, hV⟩ := hI
  subst hE
  obtain ⟨a, o9', o11', o13', o', a', ow', jw', jh', e1, e2, hW2, hR2, hG2⟩ := k_fresh (n := n) (o44 := o44) (B := 9600 * (t + 1)) (by omega) (by have := hT.2.1.1; omega) hR hG
  exact ⟨(a, o9', o11', o13', o', a', ow', jw', jh'), (a, upd o44 0 0, sn (aFr S)), e1, e2, rfl, T, sz, bt, sc, hs, hd, sy, aFr S, hT, ⟨hL.1, hL.2.1, hL.2.2.1, rfl, hL.2.2.2.2⟩, hS, rfl, hW2, hR2, hG2, hC, hV⟩
theorem pm_take {n : Nat} (hn : 20000 ≤ n) : PM_take n Inv := by
  intro t a1 o2 a3 o4 j5 a6 a7 o9 a10 o11 a12 o13 a14 a15 o16 a17 o18 j18 j19 a20 o21 a22 a23 o24 j24 j25 a26 o27 a28 a29 o30 j30 j31 a32 o33 j33 a34 a36 a37 o38 a39 a40 a41 a43 o44 a45 a46 a47 a48 a49 a50 a51 a52 a53 a54 a55 a56 a57 a58 a59 a60 p1 ht hI
  obtain ⟨T, sz, bt, sc, hs, hd, sy, S, hT, hL, hS, hE, hW, hR, hG, hC, hV⟩ := hI
  subst hE
  obtain ⟨a, o2', o9', a10', o11', a12', o13', a14', a15', o', a', ow', jw', jh', ald', S', e1, e2, hL2, hW2, hR2, hG2⟩ := k_take (n := n) (a53 := a53) (a54 := a54) (by omega) hT hS hC.1 (by omega) hL hW hR hG p1
  exact ⟨(a, o2', o9', a10', o11', a12', o13', a14', a15', o', a', ow', jw', jh', ald'), (a, upd o44 0 0, sn S', a53, a54), e1, e2, rfl, T, sz, bt, sc, hs, hd, sy, S', hT, hL2, hS, rfl, aW_up hW2 (by omega), hR2, hG2, hC, hV⟩
