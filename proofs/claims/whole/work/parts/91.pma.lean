theorem i43_of {T0 B : Nat} {S : Nat → Nat} {o a ow : Nat → Int32} {jw jh : Int64} {ald : Nat → Int32} (hW : aW T0 B S) (hR : cR T0 S o a ow jw jh ald) : i43 (S 29 * 2 ^ 32 + S 30) jh (sn S 29) (sn S 30) := by
  obtain ⟨⟨h1, h2, h3, h4, h5⟩, -⟩ := hW.2.2.1
  refine ⟨by omega, hR.2.2.2.1, ?_, ?_⟩
  · show nI (S 29) = nI ((S 29 * 2 ^ 32 + S 30) / 2 ^ 32)
    congr 1
    omega
  · show nI (S 30) = nI (S 29 * 2 ^ 32 + S 30)
    rw [← nI_mod (S 29 * 2 ^ 32 + S 30)]
    congr 1
    omega
theorem pm_stage {n : Nat} (hn : 20000 ≤ n) : PM_stage n Inv := by
  intro t a1 o2 a3 o4 j5 a6 a7 o9 a10 o11 a12 o13 a14 a15 o16 a17 o18 j18 j19 a20 o21 a22 a23 o24 j24 j25 a26 o27 a28 a29 o30 j30 j31 a32 o33 j33 a34 a36 a37 o38 a39 a40 a41 a43 o44 a45 a46 a47 a48 a49 a50 a51 a52 a53 a54 a55 a56 a57 a58 a59 a60 p1 p2 ht hI
  have hI2 := Inv_thrown hI
  obtain ⟨T, sz, bt, sc, hs, hd, sy, S, hT, hL, hS, hE, hW, hR, hG, hC, hV⟩ := hI
  subst hE
  obtain ⟨a, e1, e2⟩ := k_stage (o4 := o4) (o16 := o16) hS.2.2.2.1 (i43_of hW hR) p1 p2
  exact ⟨a, (a, upd o44 0 0), e1, e2, rfl, hI2⟩
theorem pm_bit {n : Nat} (hn : 20000 ≤ n) : PM_bit n Inv := by
  intro t a1 o2 a3 o4 j5 a6 a7 o9 a10 o11 a12 o13 a14 a15 o16 a17 o18 j18 j19 a20 o21 a22 a23 o24 j24 j25 a26 o27 a28 a29 o30 j30 j31 a32 o33 j33 a34 a36 a37 o38 a39 a40 a41 a43 o44 a45 a46 a47 a48 a49 a50 a51 a52 a53 a54 a55 a56 a57 a58 a59 a60 p1 ht hI
  have hI2 := Inv_thrown hI
  obtain ⟨T, sz, bt, sc, hs, hd, sy, S, hT, hL, hS, hE, hW, hR, hG, hC, hV⟩ := hI
  subst hE
  obtain ⟨a, e1, e2⟩ := k_bit hL p1
  exact ⟨a, (a, upd o44 0 0), e1, e2, rfl, hI2⟩
theorem pm_single {n : Nat} (hn : 20000 ≤ n) : PM_single n Inv := by
  intro t a1 o2 a3 o4 j5 a6 a7 o9 a10 o11 a12 o13 a14 a15 o16 a17 o18 j18 j19 a20 o21 a22 a23 o24 j24 j25 a26 o27 a28 a29 o30 j30 j31 a32 o33 j33 a34 a36 a37 o38 a39 a40 a41 a43 o44 a45 a46 a47 a48 a49 a50 a51 a52 a53 a54 a55 a56 a57 a58 a59 a60 p1 ht hI
  have hI2 := Inv_thrown hI
  obtain ⟨T, sz, bt, sc, hs, hd, sy, S, hT, hL, hS, hE, hW, hR, hG, hC, hV⟩ := hI
  subst hE
  obtain ⟨a, e1, e2⟩ := k_single (n := n) (by omega) o44 p1
  exact ⟨a, (a, upd o44 0 0), e1, e2, rfl, hI2⟩
theorem pm_mending {n : Nat} (hn : 20000 ≤ n) : PM_mending n Inv := by
  intro t a1 o2 a3 o4 j5 a6 a7 o9 a10 o11 a12 o13 a14 a15 o16 a17 o18 j18 j19 a20 o21 a22 a23 o24 j24 j25 a26 o27 a28 a29 o30 j30 j31 a32 o33 j33 a34 a36 a37 o38 a39 a40 a41 a43 o44 a45 a46 a47 a48 a49 a50 a51 a52 a53 a54 a55 a56 a57 a58 a59 a60 p1 p2 p3 ht hI
  have hI2 := Inv_thrown hI
  obtain ⟨T, sz, bt, sc, hs, hd, sy, S, hT, hL, hS, hE, hW, hR, hG, hC, hV⟩ := hI
  subst hE
  obtain ⟨a, e1, e2⟩ := k_mending (n := n) (by omega) o44 p1 p2 p3
  exact ⟨a, (a, upd o44 0 0), e1, e2, rfl, hI2⟩
theorem pm_check {n : Nat} (hn : 20000 ≤ n) : PM_check n Inv := by
  intro t a1 o2 a3 o4 j5 a6 a7 o9 a10 o11 a12 o13 a14 a15 o16 a17 o18 j18 j19 a20 o21 a22 a23 o24 j24 j25 a26 o27 a28 a29 o30 j30 j31 a32 o33 j33 a34 a36 a37 o38 a39 a40 a41 a43 o44 a45 a46 a47 a48 a49 a50 a51 a52 a53 a54 a55 a56 a57 a58 a59 a60 p1 ht hI
  have hI2 := Inv_thrown hI
  obtain ⟨T, sz, bt, sc, hs, hd, sy, S, hT, hL, hS, hE, hW, hR, hG, hC, hV⟩ := hI
  subst hE
  obtain ⟨a, e1, e2⟩ := k_check (n := n) (by omega) o44 p1
  exact ⟨a, (a, upd o44 0 0), e1, e2, rfl, hI2⟩
theorem pm_syndrome {n : Nat} (hn : 20000 ≤ n) : PM_syndrome n Inv := by
  intro t a1 o2 a3 o4 j5 a6 a7 o9 a10 o11 a12 o13 a14 a15 o16 a17 o18 j18 j19 a20 o21 a22 a23 o24 j24 j25 a26 o27 a28 a29 o30 j30 j31 a32 o33 j33 a34 a36 a37 o38 a39 a40 a41 a43 o44 a45 a46 a47 a48 a49 a50 a51 a52 a53 a54 a55 a56 a57 a58 a59 a60 p1 p2 ht hI
  have hI2 := Inv_thrown hI
  obtain ⟨T, sz, bt, sc, hs, hd, sy, S, hT, hL, hS, hE, hW, hR, hG, hC, hV⟩ := hI
  subst hE
  obtain ⟨a, e1, e2⟩ := k_syndrome (n := n) (by omega) o44 p1 p2
  exact ⟨a, (a, upd o44 0 0), e1, e2, rfl, hI2⟩
theorem pm_told {n : Nat} (hn : 20000 ≤ n) : PM_told n Inv := by
  intro t a1 o2 a3 o4 j5 a6 a7 o9 a10 o11 a12 o13 a14 a15 o16 a17 o18 j18 j19 a20 o21 a22 a23 o24 j24 j25 a26 o27 a28 a29 o30 j30 j31 a32 o33 j33 a34 a36 a37 o38 a39 a40 a41 a43 o44 a45 a46 a47 a48 a49 a50 a51 a52 a53 a54 a55 a56 a57 a58 a59 a60 p1 ht hI
  have hI2 := Inv_thrown hI
  obtain ⟨T, sz, bt, sc, hs, hd, sy, S, hT, hL, hS, hE, hW, hR, hG, hC, hV⟩ := hI
  subst hE
  obtain ⟨a, e1, e2⟩ := k_told hT hL (hS.1.trans hS.2.1.symm) p1
  exact ⟨a, (a, upd o44 0 0), e1, e2, rfl, hI2⟩
theorem pm_count {n : Nat} (hn : 20000 ≤ n) : PM_count n Inv := by
  intro t a1 o2 a3 o4 j5 a6 a7 o9 a10 o11 a12 o13 a14 a15 o16 a17 o18 j18 j19 a20 o21 a22 a23 o24 j24 j25 a26 o27 a28 a29 o30 j30 j31 a32 o33 j33 a34 a36 a37 o38 a39 a40 a41 a43 o44 a45 a46 a47 a48 a49 a50 a51 a52 a53 a54 a55 a56 a57 a58 a59 a60 p1 ht hI
  have hI2 := Inv_thrown hI
  obtain ⟨T, sz, bt, sc, hs, hd, sy, S, hT, hL, hS, hE, hW, hR, hG, hC, hV⟩ := hI
  subst hE
  obtain ⟨a, e1, e2⟩ := k_count (o16 := o16) (a51 := sn S) (fun k hk => ⟨hR.2.1 k hk, rfl⟩) p1
  exact ⟨a, (a, upd o44 0 0), e1, e2, rfl, hI2⟩
theorem pm_flip {n : Nat} (hn : 20000 ≤ n) : PM_flip n Inv := by
  intro t a1 o2 a3 o4 j5 a6 a7 o9 a10 o11 a12 o13 a14 a15 o16 a17 o18 j18 j19 a20 o21 a22 a23 o24 j24 j25 a26 o27 a28 a29 o30 j30 j31 a32 o33 j33 a34 a36 a37 o38 a39 a40 a41 a43 o44 a45 a46 a47 a48 a49 a50 a51 a52 a53 a54 a55 a56 a57 a58 a59 a60 p1 ht hI
  obtain ⟨T, sz, bt, sc, hs, hd, sy, S, hT, hL, hS, hE, hW, hR, hG, hC, hV⟩ := hI
  subst hE
  obtain ⟨a, a3', a48', bt', e1, e2, hL2⟩ := k_flip hL p1
  exact ⟨(a, a3'), (a, upd o44 0 0, a48'), e1, e2, rfl, T, sz, bt', sc, hs, hd, sy, S, hT, hL2, hS, rfl, aW_up hW (by omega), hR, hG, hC, hV⟩
theorem pm_terms {n : Nat} (hn : 20000 ≤ n) : PM_terms n Inv := by
  intro t a1 o2 a3 o4 j5 a6 a7 o9 a10 o11 a12 o13 a14 a15 o16 a17 o18 j18 j19 a20 o21 a22 a23 o24 j24 j25 a26 o27 a28 a29 o30 j30 j31 a32 o33 j33 a34 a36 a37 o38 a39 a40 a41 a43 o44 a45 a46 a47 a48 a49 a50 a51 a52 a53 a54 a55 a56 a57 a58 a59 a60 p1 p2 ht hI
  obtain ⟨T, sz, bt, sc, hs, hd, sy, S, hT, hL, hS, hE, hW, hR, hG, hC, hV⟩ := hI
  subst hE
  obtain ⟨a, a1', a45', T', e1, e2, hT2, hS2, hW2, hR2, hG2⟩ := k_terms (B := 9600 * t) (by omega) ⟨hT, hS, hW, hR, hG⟩ hC p1 p2
  exact ⟨(a, a1'), (a, upd o44 0 0, a45'), e1, e2, rfl, T', sz, bt, sc, hs, hd, sy, S, hT2, hL, hS2, rfl, aW_up hW2 (by omega), hR2, hG2, hC, hV⟩
theorem pm_empty {n : Nat} (hn : 20000 ≤ n) : PM_empty n Inv := by
  intro t a1 o2 a3 o4 j5 a6 a7 o9 a10 o11 a12 o13 a14 a15 o16 a17 o18 j18 j19 a20 o21 a22 a23 o24 j24 j25 a26 o27 a28 a29 o30 j30 j31 a32 o33 j33 a34 a36 a37 o38 a39 a40 a41 a43 o44 a45 a46 a47 a48 a49 a50 a51 a52 a53 a54 a55 a56 a57 a58 a59 a60  ht hI
  obtain ⟨T, sz, bt, sc, hs, hd, sy, S, hT, hL, hS, hE, hW, hR, hG, hC, hV⟩ := hI
  subst hE
  have h7 : S 7 < 384 := by have := hW.1.2.2.2.2.2.1; have := hT.2.1; omega
  exact ⟨(o2 1, upd (upd o2 1 0) 2 0, upd o4 3 0, 0), (o44 6, _, upd (sn S) 0 0), rfl, rfl, by show o2 1 = o44 6; rw [hL.1, hL.2.2.1], T, 0, bt, 0, 0, hd, sy, su S 0 0, hT, ⟨rfl, rfl, rfl, rfl, Nat.le_refl _, Nat.zero_le _, fun j hj => absurd hj (Nat.not_lt_zero j)⟩, ⟨rfl, rfl, Nat.zero_le _, ⟨by decide, rfl, rfl, rfl⟩, fun s hs => absurd hs (Nat.not_lt_zero s)⟩, sn_0 S 0, aW_up (aW_0 hW) (by omega), cR_0 h7 hR, cG_0 hT.2.1.2 hG, hC, hV⟩
