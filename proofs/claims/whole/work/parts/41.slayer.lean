/-! THE LAW'S OWN BODY: V with the script, an int array of L ints xs, at the number 1003. -/
def xX (XL : Nat) (xs : Nat → Int32) (G : XG) (A : Nat → Prop) (s : State) : Prop := va_X (xa G 1003) XL xs s s.heap ∧ ¬ A (xa G 1003)
def VS (XL : Nat) (xs : Nat → Int32) (d N : Nat) (al : Nat × Nat) (pc : Nat) (ls : List (Option Value)) (st : List Value) (σ : XW) (Q : Nat → Option Value → XW → Prop) : Prop :=
  ∀ (p : Program) (l : Launch) (e : Env) (R : Room) (s : State) (m : MethodId) (args : Array Value) (below : List Frame) (meth : Method) (c : Code) (G : XG) (A : Nat → Prop) (H : Heap) (locs : List Loc) (cells slots C0 S0 : Nat) (Z : State → Prop) (lsA : Array Slot),
    xC yL_law cL_law (some .boolean) ls.length d G A p R s m args meth c → xX XL xs G A s → xH G N σ A s.heap H locs → xL G ls lsA → (cells + al.1 ≤ C0 ∧ slots + al.2 ≤ S0 ∧ C0 ≤ R.cells ∧ S0 ≤ R.slots ∧ s.heap.size + cells = G.2.1.1 + N ∧ G.2.1.1 ≤ s.heap.size) → xR cL_law (some .boolean) G A Q p l e R s m args below meth c C0 S0 Z →
    W p l e R s m args below meth c H locs cells slots Z (F0 m pc lsA (st.map (xv G)))
section VSs
variable {XL : Nat} {xs : Nat → Int32} {d N : Nat} {al : Nat × Nat} {pc : Nat} {ls ls' : List (Option Value)} {st : List Value} {σ : XW} {σ0 : XW} {L L' : List (Nat × XE)} {Q : Nat → Option Value → XW → Prop}
theorem VS.wr {i : Nat} {q : XE} (h : xwr L i q = L') (k : VS XL xs d N al pc ls st (xof σ0 L') Q) : VS XL xs d N al pc ls st (xup (xof σ0 L) i q) Q := by
  rw [xof_wr, h]; exact k
theorem VS.less {al2 : Nat × Nat} (h : al2.1 ≤ al.1 ∧ al2.2 ≤ al.2) (k : VS XL xs d N al2 pc ls st σ Q) : VS XL xs d N al pc ls st σ Q :=
  fun p l e R s m args below meth c G A H locs cells slots C0 S0 Z lsA hC hX hH hL hN hR => k p l e R s m args below meth c G A H locs cells slots C0 S0 Z lsA hC hX hH hL ⟨by omega, by omega, hN.2.2⟩ hR
theorem s_iconst {n : Int} {v : Int32} (hd : decode cL_law pc = .ok (.iconst n, 1)) (hv : Int32.ofInt n = v) (k : VS XL xs d N al (pc + 1) ls (.int v :: st) σ Q) : VS XL xs d N al pc ls (st) σ Q := fun p l e R s m args below meth c G A H locs cells slots C0 S0 Z lsA hC hX hH hL hN hR => lv_iconst hC.1 hC.2.1 hd hv (k p l e R s m args below meth c G A H locs cells slots C0 S0 Z lsA hC hX hH hL hN hR)
theorem s_bipush {n : Int} {v : Int32} (hd : decode cL_law pc = .ok (.bipush n, 2)) (hv : (Int8.ofInt n).toInt32 = v) (k : VS XL xs d N al (pc + 2) ls (.int v :: st) σ Q) : VS XL xs d N al pc ls (st) σ Q := fun p l e R s m args below meth c G A H locs cells slots C0 S0 Z lsA hC hX hH hL hN hR => lv_bipush hC.1 hC.2.1 hd hv (k p l e R s m args below meth c G A H locs cells slots C0 S0 Z lsA hC hX hH hL hN hR)
theorem s_iload_n {kk : Fin 4} {x : Int32} (hd : decode cL_law pc = .ok (.iload_n kk, 1)) (h : ls[(kk : Nat)]? = some (some (.int x))) (k : VS XL xs d N al (pc + 1) ls (.int x :: st) σ Q) : VS XL xs d N al pc ls (st) σ Q := fun p l e R s m args below meth c G A H locs cells slots C0 S0 Z lsA hC hX hH hL hN hR => lv_iload_n hC.1 hC.2.1 hd rfl (hL.2.2 _ _ h) (k p l e R s m args below meth c G A H locs cells slots C0 S0 Z lsA hC hX hH hL hN hR)
theorem s_aload_n {kk : Fin 4} {x : Nat} (hd : decode cL_law pc = .ok (.aload_n kk, 1)) (h : ls[(kk : Nat)]? = some (some (.ref x))) (k : VS XL xs d N al (pc + 1) ls (.ref x :: st) σ Q) : VS XL xs d N al pc ls (st) σ Q := fun p l e R s m args below meth c G A H locs cells slots C0 S0 Z lsA hC hX hH hL hN hR => lv_aload_n hC.1 hC.2.1 hd rfl (hL.2.2 _ _ h) (k p l e R s m args below meth c G A H locs cells slots C0 S0 Z lsA hC hX hH hL hN hR)
theorem s_istore_n {kk : Fin 4} {x : Int32} (hd : decode cL_law pc = .ok (.istore_n kk, 1)) (h1 : (decide ((kk : Nat) < ls.length) && xcl ls (kk : Nat)) = true) (h2 : ls.set (kk : Nat) (some (.int x)) = ls') (k : VS XL xs d N al (pc + 1) ls' st σ Q) : VS XL xs d N al pc ls (.int x :: st) σ Q := fun p l e R s m args below meth c G A H locs cells slots C0 S0 Z lsA hC hX hH hL hN hR => lv_istore_n hC.1 hC.2.1 hd rfl (xal_has hL) (by simp only [Bool.and_eq_true, decide_eq_true_eq] at h1; exact h1.1) rfl (fun lsB hB => k p l e R s m args below meth c G A H locs cells slots C0 S0 Z lsB (by rw [← h2]; simpa using hC) hX hH (xL_set1 h1 h2 hB) hN hR)
theorem s_astore_n {kk : Fin 4} {x : Nat} (hd : decode cL_law pc = .ok (.astore_n kk, 1)) (h1 : (decide ((kk : Nat) < ls.length) && xcl ls (kk : Nat)) = true) (h2 : ls.set (kk : Nat) (some (.ref x)) = ls') (k : VS XL xs d N al (pc + 1) ls' st σ Q) : VS XL xs d N al pc ls (.ref x :: st) σ Q := fun p l e R s m args below meth c G A H locs cells slots C0 S0 Z lsA hC hX hH hL hN hR => lv_astore_n hC.1 hC.2.1 hd rfl (xal_has hL) (by simp only [Bool.and_eq_true, decide_eq_true_eq] at h1; exact h1.1) rfl (fun lsB hB => k p l e R s m args below meth c G A H locs cells slots C0 S0 Z lsB (by rw [← h2]; simpa using hC) hX hH (xL_set1 h1 h2 hB) hN hR)
theorem s_iadd {x z : Int32} (hd : decode cL_law pc = .ok (.iadd, 1)) (k : VS XL xs d N al (pc + 1) ls (.int (x + z) :: st) σ Q) : VS XL xs d N al pc ls (.int z :: .int x :: st) σ Q := fun p l e R s m args below meth c G A H locs cells slots C0 S0 Z lsA hC hX hH hL hN hR => lv_iadd hC.1 hC.2.1 hd (k p l e R s m args below meth c G A H locs cells slots C0 S0 Z lsA hC hX hH hL hN hR)
theorem s_isub {x z : Int32} (hd : decode cL_law pc = .ok (.isub, 1)) (k : VS XL xs d N al (pc + 1) ls (.int (x - z) :: st) σ Q) : VS XL xs d N al pc ls (.int z :: .int x :: st) σ Q := fun p l e R s m args below meth c G A H locs cells slots C0 S0 Z lsA hC hX hH hL hN hR => lv_isub hC.1 hC.2.1 hd (k p l e R s m args below meth c G A H locs cells slots C0 S0 Z lsA hC hX hH hL hN hR)
theorem s_iand {x z : Int32} (hd : decode cL_law pc = .ok (.iand, 1)) (k : VS XL xs d N al (pc + 1) ls (.int (x &&& z) :: st) σ Q) : VS XL xs d N al pc ls (.int z :: .int x :: st) σ Q := fun p l e R s m args below meth c G A H locs cells slots C0 S0 Z lsA hC hX hH hL hN hR => lv_iand hC.1 hC.2.1 hd (k p l e R s m args below meth c G A H locs cells slots C0 S0 Z lsA hC hX hH hL hN hR)
theorem s_dup {v : Value} (hd : decode cL_law pc = .ok (.dup, 1)) (hv : v.category = 1) (k : VS XL xs d N al (pc + 1) ls (v :: v :: st) σ Q) : VS XL xs d N al pc ls (v :: st) σ Q := fun p l e R s m args below meth c G A H locs cells slots C0 S0 Z lsA hC hX hH hL hN hR => lv_dup hC.1 hC.2.1 hd ((xv_cat G v).trans hv) (k p l e R s m args below meth c G A H locs cells slots C0 S0 Z lsA hC hX hH hL hN hR)
theorem s_lcmp {x z : Int64} (hd : decode cL_law pc = .ok (.lcmp, 1)) (k : VS XL xs d N al (pc + 1) ls (.int (lg_cmp x z) :: st) σ Q) : VS XL xs d N al pc ls (.long z :: .long x :: st) σ Q := fun p l e R s m args below meth c G A H locs cells slots C0 S0 Z lsA hC hX hH hL hN hR => W.lcmp hC.1 hC.2.1 hd (k p l e R s m args below meth c G A H locs cells slots C0 S0 Z lsA hC hX hH hL hN hR)
theorem s_iinc {i : Nat} {n : Int} {x v : Int32} (hd : decode cL_law pc = .ok (.iinc i n, 3)) (h : ls[i]? = some (some (.int x))) (hv : x + Int32.ofInt n = v) (h1 : (decide (i < ls.length) && xcl ls i) = true) (h2 : ls.set i (some (.int v)) = ls') (k : VS XL xs d N al (pc + 3) ls' st σ Q) : VS XL xs d N al pc ls st σ Q := by
  intro p l e R s m args below meth c G A H locs cells slots C0 S0 Z lsA hC hX hH hL hN hR
  obtain ⟨j, hj⟩ := List.getElem?_of_mem (xal_mem (G := G) h)
  exact lv_iinc (k := j) hC.1 hC.2.1 hd (xal_has hL) hj hv (by simp only [Bool.and_eq_true, decide_eq_true_eq] at h1; exact h1.1) rfl (fun lsB hB => k p l e R s m args below meth c G A H locs cells slots C0 S0 Z lsB (by rw [← h2]; simpa using hC) hX hH (xL_set1 h1 h2 hB) hN hR)
theorem s_if_eq {x : Int32} {off : Int} {tgt : Nat} (hd : decode cL_law pc = .ok (.ifCond .eq off, 3)) (ht : (pc : Int) + off = (tgt : Int)) (kt : x = 0 → VS XL xs d N al tgt ls st σ Q) (kf : ¬ (x = 0) → VS XL xs d N al (pc + 3) ls st σ Q) : VS XL xs d N al pc ls (.int x :: st) σ Q := fun p l e R s m args below meth c G A H locs cells slots C0 S0 Z lsA hC hX hH hL hN hR => lv_if_eq hC.1 hC.2.1 hd ht (fun h => kt h p l e R s m args below meth c G A H locs cells slots C0 S0 Z lsA hC hX hH hL hN hR) (fun h => kf h p l e R s m args below meth c G A H locs cells slots C0 S0 Z lsA hC hX hH hL hN hR)
theorem s_icmp_eq {x z : Int32} {off : Int} {tgt : Nat} (hd : decode cL_law pc = .ok (.if_icmp .eq off, 3)) (ht : (pc : Int) + off = (tgt : Int)) (kt : x = z → VS XL xs d N al tgt ls st σ Q) (kf : ¬ (x = z) → VS XL xs d N al (pc + 3) ls st σ Q) : VS XL xs d N al pc ls (.int z :: .int x :: st) σ Q := fun p l e R s m args below meth c G A H locs cells slots C0 S0 Z lsA hC hX hH hL hN hR => lv_icmp_eq hC.1 hC.2.1 hd ht (fun h => kt h p l e R s m args below meth c G A H locs cells slots C0 S0 Z lsA hC hX hH hL hN hR) (fun h => kf h p l e R s m args below meth c G A H locs cells slots C0 S0 Z lsA hC hX hH hL hN hR)
theorem s_icmp_gt {x z : Int32} {off : Int} {tgt : Nat} (hd : decode cL_law pc = .ok (.if_icmp .gt off, 3)) (ht : (pc : Int) + off = (tgt : Int)) (kt : z < x → VS XL xs d N al tgt ls st σ Q) (kf : ¬ (z < x) → VS XL xs d N al (pc + 3) ls st σ Q) : VS XL xs d N al pc ls (.int z :: .int x :: st) σ Q := fun p l e R s m args below meth c G A H locs cells slots C0 S0 Z lsA hC hX hH hL hN hR => lv_icmp_gt hC.1 hC.2.1 hd ht (fun h => kt h p l e R s m args below meth c G A H locs cells slots C0 S0 Z lsA hC hX hH hL hN hR) (fun h => kf h p l e R s m args below meth c G A H locs cells slots C0 S0 Z lsA hC hX hH hL hN hR)
theorem s_goto {off : Int} {tgt : Nat} (hd : decode cL_law pc = .ok (.goto off, 3)) (ht : (pc : Int) + off = (tgt : Int)) (k : VS XL xs d N al tgt ls st σ Q) : VS XL xs d N al pc ls st σ Q := fun p l e R s m args below meth c G A H locs cells slots C0 S0 Z lsA hC hX hH hL hN hR => lv_goto hC.1 hC.2.1 hd ht (k p l e R s m args below meth c G A H locs cells slots C0 S0 Z lsA hC hX hH hL hN hR)
theorem s_tableIn {dflt lo hi : Int} {offs : Array Int} {len : Nat} {x : Int32} {off : Int} {tgt : Nat} (hd : decode cL_law pc = .ok (.tableswitch dflt lo hi offs, len)) (h1 : ¬ x.toInt < lo) (h2 : ¬ hi < x.toInt) (ho : offs[(x.toInt - lo).toNat]? = some off) (ht : (pc : Int) + off = (tgt : Int)) (k : VS XL xs d N al tgt ls st σ Q) : VS XL xs d N al pc ls (.int x :: st) σ Q := fun p l e R s m args below meth c G A H locs cells slots C0 S0 Z lsA hC hX hH hL hN hR => lv_tableIn hC.1 hC.2.1 hd h1 h2 ho ht (k p l e R s m args below meth c G A H locs cells slots C0 S0 Z lsA hC hX hH hL hN hR)
theorem s_tableOut {dflt lo hi : Int} {offs : Array Int} {len : Nat} {x : Int32} {tgt : Nat} (hd : decode cL_law pc = .ok (.tableswitch dflt lo hi offs, len)) (h : x.toInt < lo ∨ hi < x.toInt) (ht : (pc : Int) + dflt = (tgt : Int)) (k : VS XL xs d N al tgt ls st σ Q) : VS XL xs d N al pc ls (.int x :: st) σ Q := fun p l e R s m args below meth c G A H locs cells slots C0 S0 Z lsA hC hX hH hL hN hR => lv_tableOut hC.1 hC.2.1 hd h ht (k p l e R s m args below meth c G A H locs cells slots C0 S0 Z lsA hC hX hH hL hN hR)
theorem s_zret {x : Int32} (hd : decode cL_law pc = .ok (.ireturn, 1)) (hx : x = 0 ∨ x = 1) (k : Q N (some (.int x)) σ) : VS XL xs d N al pc ls [.int x] σ Q := fun p l e R s m args below meth c G A H locs cells slots C0 S0 Z lsA hC hX hH hL hN hR => W.widen (k := C0) (n := S0) (by omega) (by omega) (hR N σ H locs (some (.int x)) pc lsA .ireturn k hH (by rcases hx with rfl | rfl <;> rfl) hd)
theorem s_new {C : String} {T : u_T} {n ci ix : Nat} {fs : List Value} (ty : Nat → FieldType) (hd : decode cL_law pc = .ok (.new ix, 3)) (hw : Cond.classLink yL_law.cls ix C ∈ lw_gd) (hw2 : Cond.instantiable C n ∈ lw_gd) (hw3 : Cond.initialized C ∈ lw_gd) (hin : ∀ w ∈ u_ws C T n, w ∈ lw_gd) (hty : ∀ k, k < n → parseFieldDescriptor (T k).2.2.1 = some (ty k)) (hc : vwCl[ci]? = some (C, T, n)) (hfs : ∀ j, j < n → defaultValue (ty j) = vp_V fs j) (hfx : ∀ G : XG, fs.map (xv G) = fs) (h1 : 1 ≤ al.1) (h2 : n ≤ al.2) (hlt : N < 1000)
    (k : VS XL xs d (N + 1) (al.1 - 1, al.2 - n) (pc + 3) ls (.ref N :: st) (xup σ N (.inr (ci, fs))) Q) : VS XL xs d N al pc ls st σ Q := by
  intro p l e R s m args below meth c G A H locs cells slots C0 S0 Z lsA hC hX hH hL hN hR
  refine x_sized hH hN (fun hz => ?_)
  have hKn := hC.2.2.2.2.2.2.2.1.1 ci _ hc
  obtain ⟨n1, n2, n3, n4, n5, n6⟩ := hN
  have hs0 := hH.2.2.1.1
  refine W.newcK (g := F0 m pc lsA (st.map (xv G))) hC.1 hC.2.1 hC.2.2.2.2.1 (hC.2.2.2.2.2.1 _ hw) (hC.2.2.2.2.2.1 _ hw2) (hC.2.2.2.2.2.1 _ hw3) rfl hd (by omega) (by omega) hKn.2.1 hz (fun H1 kC hkC e1 z1 o1 => ?_)
  have hxa : xa G N = G.2.1.1 + N := if_pos hlt
  have hk : ∀ (q : Nat) (x : Nat × va_E), (xw G N σ)[q]? = some x → H1[x.1]? = H[x.1]? := fun q x hx => o1 x.1 (by have := (hH.1 q x hx).lt; omega)
  have hA := hC.2.2.2.2.2.2.2.2.1
  have hS := hH.2.2.1
  have hgo := k p l e R s m args below meth c G A H1 locs (cells + 1) (slots + n) C0 S0 Z lsA hC hX ⟨by
      rw [xw_push]
      refine (hH.1.kept hk).app (fun q x hx => ?_)
      have hz' : q < 1 := (List.getElem?_eq_some_iff.mp hx).1
      rw [show q = 0 by omega] at hx
      cases hx
      rw [hxa]
      show va_at _ _ (_, Sum.inr (ci, fs.map (xv G))) _
      rw [hfx G]
      exact ⟨_, hc, (u_born ty hC.2.2.2.2.2.1 hin hKn hkC e1 hty).to hfs⟩, by
      rw [xw_push]
      exact hH.2.1.push hH.1 (by rw [hxa, hz]) (hA _ (by have := hS.1; omega)), ⟨by have := hS.1; omega, fun x g1 g2 => (o1 x (by have := hS.1; omega)).trans (hS.2.1 x g1 g2), hS.2.2⟩, by omega⟩ hL ⟨by show cells + 1 + (al.1 - 1) ≤ C0; omega, by show slots + n + (al.2 - n) ≤ S0; omega, n3, n4, by omega, n6⟩ hR
  rw [List.map_cons] at hgo
  simp only [xv, hxa] at hgo
  exact hgo
theorem s_ran {p : Program} {l : Launch} {e : Env} {R : Room} {s : State} {m : MethodId} {args : Array Value} {below : List Frame} {meth : Method} {c : Code} {G : XG} {A : Nat → Prop} {H : Heap} {locs : List Loc} {cells slots C0 S0 : Nat} {Z : State → Prop} {lsA : Array Slot} (hC : xC yL_law cL_law (some .boolean) ls.length d G A p R s m args meth c) (hX : xX XL xs G A s) (hH : xH G N σ A s.heap H locs) (hL : xL G ls lsA) (hN : cells + al.1 ≤ C0 ∧ slots + al.2 ≤ S0 ∧ C0 ≤ R.cells ∧ S0 ≤ R.slots ∧ s.heap.size + cells = G.2.1.1 + N ∧ G.2.1.1 ≤ s.heap.size) (hR : xR cL_law (some .boolean) G A Q p l e R s m args below meth c C0 S0 Z) {mc ms : Nat} {st0 : List Value} {Q' : Nat → Option Value → XW → Prop} {a : Array Value}
    (hr : va_Run p l e R s m args below meth c H locs cells slots mc ms (F0 m pc lsA st0) (st.map (xv G)) (xQc G Q' (va_A (xw G N σ) (G.2.1.1 + N)) a) (va_A (xw G N σ) (G.2.1.1 + N))) (hz : H.size = G.2.1.1 + N) (hm : mc ≤ al.1 ∧ ms ≤ al.2) (hNN : ∀ n r τ, Q' n r τ → n = N + mc)
    (k : ∀ n r τ, Q' n r τ → VS XL xs d n (al.1 - mc, al.2 - ms) (pc + 3) ls (r.toList ++ st) τ Q) : W p l e R s m args below meth c H locs cells slots Z (F0 m pc lsA st0) := by
  have hsub := x_sub hC hH hz
  intro T hT X
  obtain ⟨v, st₀, t, T', L, h0, X', hLf, e1, e2, ⟨⟨n, r, τ, hv, hq, hP, hD, hn⟩, hF⟩, go⟩ := hr T hT X
  have hv : v = r.map (xv G) := Outcome.returned.inj hv
  subst hv
  have hNe := hNN n r τ hq
  have hF1 := hF.1
  have hF2 := hF.2
  rw [h0] at hF1 hF2
  have hS := hH.2.2.1
  obtain ⟨n1, n2, n3, n4, n5, n6⟩ := hN
  have hgo := k n r τ hq p l e R s m args below meth c G A T'.heap (locs ++ L) (cells + mc) (slots + ms) C0 S0 Z lsA hC hX ⟨by rw [e1]; exact hP, hD.weaken (fun _ q _ h => hsub q.1 h), ⟨by rw [e1]; have := hS.1; omega, fun q g1 g2 => by
      rw [e1, hF2 q (by have := hS.1; omega) (fun z => g2 (hsub q z))]
      exact hS.2.1 q g1 g2, fun q hq => by
      rcases List.mem_append.mp hq with h | h
      · exact hS.2.2 q h
      · exact hsub _ (hLf q h)⟩, hn⟩ hL ⟨by show cells + mc + (al.1 - mc) ≤ C0; omega, by show slots + ms + (al.2 - ms) ≤ S0; omega, n3, n4, by omega, n6⟩ hR
  have e3 : (r.toList ++ st).map (xv G) = (r.map (xv G)).toList ++ st.map (xv G) := by cases r <;> rfl
  rw [e3] at hgo
  obtain ⟨t2, a1, b1⟩ := hgo T' rfl X'
  exact ⟨t2, go t2 a1, b1⟩
/-- invokevirtual, of a method of the receiver's own class -/
theorem s_callV {y' : MethodName} {cc' : ByteArray} {nL' d' ix n mc ms i ci nf : Nat} {rt' : Option FieldType} {T : u_T} {fs As st0 : List Value} {Q' : Nat → Option Value → XW → Prop} (hd : decode cL_law pc = .ok (.invokevirtual ix, 3)) (hM : xMi y' cc' nL' rt' n) (hw : Cond.methodLink yL_law.cls ix y' ∈ lw_gd) (hw2 : Cond.instanceMethod y' ∈ lw_gd) (hw3 : Cond.selects y'.cls y' y' ∈ lw_gd) (hc : vwCl[ci]? = some (y'.cls, T, nf)) (hct : Ct y' cc' nL' rt' d' N (mc, ms) (.ref i :: As) σ Q') (hi : i < N) (hσ : σ i = .inr (ci, fs)) (hlen : (xel (.ref i :: As)).length ≤ nL') (hn : As.length = n) (hdd : d' + 1 ≤ d) (hm : mc ≤ al.1 ∧ ms ≤ al.2) (hst : (st.map fun v => v.category).sum ≤ 8) (hst0 : As.reverse ++ .ref i :: st = st0) (hNN : ∀ n r τ, Q' n r τ → n = N + mc)
    (k : ∀ n r τ, Q' n r τ → VS XL xs d n (al.1 - mc, al.2 - ms) (pc + 3) ls (r.toList ++ st) τ Q) : VS XL xs d N al pc ls st0 σ Q := by
  intro p l e R s m args below meth c G A H locs cells slots C0 S0 Z lsA hC hX hH hL hN hR
  refine x_sized hH hN (fun hz => ?_)
  obtain ⟨n1, n2, n3, n4, n5, n6⟩ := id hN
  refine s_ran hC hX hH hL hN hR (mc := mc) (ms := ms) (a := ((Value.ref i :: As).map (xv G)).toArray) ?_ hz hm hNN k
  subst hst0
  exact va_runV (g := F0 m pc lsA ((As.reverse ++ Value.ref i :: st).map (xv G))) (As := As.map (xv G)) (b := xa G i) (rest := st.map (xv G)) ⟨hC.1, hC.2.1, hC.2.2.2.1, hC.2.2.2.2.1, hC.2.2.2.2.2.1⟩ (x_met hct hM.2.2.1 hlen l G) ⟨x_callB hC hM hdd hw, hC.2.2.2.2.2.1 _ hw2, hC.2.2.2.2.2.1 _ hw3⟩ ⟨x_blind, va_recv hC.2.2.2.2.2.2.2.1 hH.1 hc (xw_inr hi hσ), fun U hU hW => x_pre hC hH hz hU hW⟩ rfl (by rw [List.length_map]; exact hn) hL.1 (by simp [xv, List.map_reverse]) (x_room hst) hd ⟨by omega, by omega⟩
/-- a constructor of ours -/
theorem s_callI {y' : MethodName} {cc' : ByteArray} {nL' d' ix n mc ms i : Nat} {As st0 : List Value} {Q' : Nat → Option Value → XW → Prop} (hd : decode cL_law pc = .ok (.invokespecial ix, 3)) (hM : xMi y' cc' nL' none n) (hw : Cond.methodLink yL_law.cls ix y' ∈ lw_gd) (hw2 : Cond.instanceMethod y' ∈ lw_gd) (hin : y'.name = "<init>") (hct : Ct y' cc' nL' none d' N (mc, ms) (.ref i :: As) σ Q') (hlen : (xel (.ref i :: As)).length ≤ nL') (hn : As.length = n) (hdd : d' + 1 ≤ d) (hm : mc ≤ al.1 ∧ ms ≤ al.2) (hst : (st.map fun v => v.category).sum ≤ 8) (hst0 : As.reverse ++ .ref i :: st = st0) (hNN : ∀ n r τ, Q' n r τ → n = N + mc)
    (k : ∀ n r τ, Q' n r τ → VS XL xs d n (al.1 - mc, al.2 - ms) (pc + 3) ls (r.toList ++ st) τ Q) : VS XL xs d N al pc ls st0 σ Q := by
  intro p l e R s m args below meth c G A H locs cells slots C0 S0 Z lsA hC hX hH hL hN hR
  refine x_sized hH hN (fun hz => ?_)
  obtain ⟨n1, n2, n3, n4, n5, n6⟩ := id hN
  refine s_ran hC hX hH hL hN hR (mc := mc) (ms := ms) (a := ((Value.ref i :: As).map (xv G)).toArray) ?_ hz hm hNN k
  subst hst0
  exact va_runI (g := F0 m pc lsA ((As.reverse ++ Value.ref i :: st).map (xv G))) (As := As.map (xv G)) (b := xa G i) (rest := st.map (xv G)) ⟨hC.1, hC.2.1, hC.2.2.2.1, hC.2.2.2.2.1, hC.2.2.2.2.2.1⟩ (x_met hct hM.2.2.1 hlen l G) ⟨x_callB hC hM hdd hw, hin, hC.2.2.2.2.2.1 _ hw2⟩ ⟨x_blind, fun U hU hW => x_pre (av := .ref i :: As) hC hH hz hU hW⟩ rfl (by rw [List.length_map]; exact hn) hL.1 (by simp [xv, List.map_reverse]) (x_room hst) hd ⟨by omega, by omega⟩
theorem s_slen {v : Int32} (hd : decode cL_law pc = .ok (.arraylength, 1)) (hv : Int32.ofNat XL = v) (k : VS XL xs d N al (pc + 1) ls (.int v :: st) σ Q) : VS XL xs d N al pc ls (.ref 1003 :: st) σ Q := by
  intro p l e R s m args below meth c G A H locs cells slots C0 S0 Z lsA hC hX hH hL hN hR
  subst hv
  obtain ⟨scr, h1, h2⟩ := id hX.1
  exact va_slen hC.1 hC.2.1 hX.1 (Array.getElem?_eq_some_iff.mp h1).1 hX.2 hH.2.2.1 hd (k p l e R s m args below meth c G A H locs cells slots C0 S0 Z lsA hC hX hH hL hN hR)
theorem s_sld {j : Int32} {v : Int32} (hd : decode cL_law pc = .ok (.iaload, 1)) (hj : vp_in j XL) (hv : xs j.toNatClampNeg = v) (k : VS XL xs d N al (pc + 1) ls (.int v :: st) σ Q) : VS XL xs d N al pc ls (.int j :: .ref 1003 :: st) σ Q := by
  intro p l e R s m args below meth c G A H locs cells slots C0 S0 Z lsA hC hX hH hL hN hR
  subst hv
  obtain ⟨scr, h1, h2⟩ := id hX.1
  exact va_sld hC.1 hC.2.1 hX.1 (Array.getElem?_eq_some_iff.mp h1).1 hX.2 hH.2.2.1 hj hd (k p l e R s m args below meth c G A H locs cells slots C0 S0 Z lsA hC hX hH hL hN hR)
theorem s_callVi {y' : MethodName} {cc' : ByteArray} {nL' d' ix n i ci nf : Nat} {rt' : Option FieldType} {T : u_T} {fs As st0 : List Value} {x : Int32} {M M' : List (Nat × XE)} (hM : xMi y' cc' nL' rt' n) (hw : Cond.methodLink yL_law.cls ix y' ∈ lw_gd) (hw2 : Cond.instanceMethod y' ∈ lw_gd) (hw3 : Cond.selects y'.cls y' y' ∈ lw_gd) (hc : vwCl[ci]? = some (y'.cls, T, nf)) (hd : decode cL_law pc = .ok (.invokevirtual ix, 3)) (hct : ∀ σ1, Ct y' cc' nL' rt' d' N (0, 0) (.ref i :: As) (xof σ1 M) (xq N (some (.int x)) (xof σ1 M'))) (hi : i < N) (hσ : xof σ0 L i = .inr (ci, fs)) (hlen : (xel (.ref i :: As)).length ≤ nL') (hn : As.length = n) (hdd : d' + 1 ≤ d) (hst : (st.map fun v => v.category).sum ≤ 8) (hst0 : As.reverse ++ .ref i :: st = st0) (hsub : M.map (fun p => xof σ0 L p.1) = M.map (fun p => p.2)) (hmem : M'.all (fun p => xhas L p.1) = true) (hL : xmg L M' = L') (k : VS XL xs d N al (pc + 3) ls (.int x :: st) (xof σ0 L') Q) : VS XL xs d N al pc ls st0 (xof σ0 L) Q := by
  have hct0 := hct (xof σ0 L)
  rw [← xof_over (xof σ0 L) M hsub] at hct0
  refine s_callV hd hM hw hw2 hw3 hc hct0 hi hσ hlen hn hdd ⟨Nat.zero_le _, Nat.zero_le _⟩ hst hst0 xq_N ?_
  rintro _ _ _ ⟨rfl, rfl, rfl⟩
  rw [xof_mg _ _ _ hmem, hL]
  exact k
theorem s_callVl {y' : MethodName} {cc' : ByteArray} {nL' d' ix n i ci nf : Nat} {rt' : Option FieldType} {T : u_T} {fs As st0 : List Value} {x : Int64} {M M' : List (Nat × XE)} (hM : xMi y' cc' nL' rt' n) (hw : Cond.methodLink yL_law.cls ix y' ∈ lw_gd) (hw2 : Cond.instanceMethod y' ∈ lw_gd) (hw3 : Cond.selects y'.cls y' y' ∈ lw_gd) (hc : vwCl[ci]? = some (y'.cls, T, nf)) (hd : decode cL_law pc = .ok (.invokevirtual ix, 3)) (hct : ∀ σ1, Ct y' cc' nL' rt' d' N (0, 0) (.ref i :: As) (xof σ1 M) (xq N (some (.long x)) (xof σ1 M'))) (hi : i < N) (hσ : xof σ0 L i = .inr (ci, fs)) (hlen : (xel (.ref i :: As)).length ≤ nL') (hn : As.length = n) (hdd : d' + 1 ≤ d) (hst : (st.map fun v => v.category).sum ≤ 8) (hst0 : As.reverse ++ .ref i :: st = st0) (hsub : M.map (fun p => xof σ0 L p.1) = M.map (fun p => p.2)) (hmem : M'.all (fun p => xhas L p.1) = true) (hL : xmg L M' = L') (k : VS XL xs d N al (pc + 3) ls (.long x :: st) (xof σ0 L') Q) : VS XL xs d N al pc ls st0 (xof σ0 L) Q := by
  have hct0 := hct (xof σ0 L)
  rw [← xof_over (xof σ0 L) M hsub] at hct0
  refine s_callV hd hM hw hw2 hw3 hc hct0 hi hσ hlen hn hdd ⟨Nat.zero_le _, Nat.zero_le _⟩ hst hst0 xq_N ?_
  rintro _ _ _ ⟨rfl, rfl, rfl⟩
  rw [xof_mg _ _ _ hmem, hL]
  exact k
theorem s_callIL {y' : MethodName} {cc' : ByteArray} {nL' d' ix n mc ms i N1 : Nat} {As st0 : List Value} {M M' : List (Nat × XE)} (hd : decode cL_law pc = .ok (.invokespecial ix, 3)) (hM : xMi y' cc' nL' none n) (hw : Cond.methodLink yL_law.cls ix y' ∈ lw_gd) (hw2 : Cond.instanceMethod y' ∈ lw_gd) (hin : y'.name = "<init>") (hct : ∀ σ1, Ct y' cc' nL' none d' N (mc, ms) (.ref i :: As) (xof σ1 M) (xq N1 none (xof σ1 M'))) (hlen : (xel (.ref i :: As)).length ≤ nL') (hn : As.length = n) (hdd : d' + 1 ≤ d) (hm : mc ≤ al.1 ∧ ms ≤ al.2) (hst : (st.map fun v => v.category).sum ≤ 8) (hst0 : As.reverse ++ .ref i :: st = st0) (hN1 : N1 = N + mc) (hsub : M.map (fun p => xof σ0 L p.1) = M.map (fun p => p.2))
    (k : VS XL xs d N1 (al.1 - mc, al.2 - ms) (pc + 3) ls st (xof (xof σ0 L) M') Q) : VS XL xs d N al pc ls st0 (xof σ0 L) Q := by
  have hct0 := hct (xof σ0 L)
  rw [← xof_over (xof σ0 L) M hsub] at hct0
  refine s_callI hd hM hw hw2 hin hct0 hlen hn hdd hm hst hst0 (fun _ _ _ h => h.1.trans hN1) ?_
  rintro _ _ _ ⟨rfl, rfl, rfl⟩
  exact k
end VSs
