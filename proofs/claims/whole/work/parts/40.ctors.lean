theorem V.topi {y : MethodName} {cc : ByteArray} {rt : Option FieldType} {d N : Nat} {al : Nat × Nat} {pc : Nat} {ls : List (Option Value)} {st : List Value} {σ : XW} {Q : Nat → Option Value → XW → Prop} {x v : Int32} (h : x = v) (k : V y cc rt d N al pc ls (.int v :: st) σ Q) : V y cc rt d N al pc ls (.int x :: st) σ Q := by
  subst h; exact k
theorem x_callIL {y : MethodName} {cc : ByteArray} {rt : Option FieldType} {d N : Nat} {al : Nat × Nat} {pc : Nat} {ls : List (Option Value)} {st : List Value} {σ0 : XW} {L L' : List (Nat × XE)} {Q : Nat → Option Value → XW → Prop} {y' : MethodName} {cc' : ByteArray} {nL' d' ix n mc ms i N1 : Nat} {As st0 : List Value} {M M' : List (Nat × XE)} (hd : decode cc pc = .ok (.invokespecial ix, 3)) (hM : xMi y' cc' nL' none n) (hw : Cond.methodLink y.cls ix y' ∈ lw_gd) (hw2 : Cond.instanceMethod y' ∈ lw_gd) (hin : y'.name = "<init>") (hct : ∀ σ1, Ct y' cc' nL' none d' N (mc, ms) (.ref i :: As) (xof σ1 M) (xq N1 none (xof σ1 M'))) (hlen : (xel (.ref i :: As)).length ≤ nL') (hn : As.length = n) (hdd : d' + 1 ≤ d) (hm : mc ≤ al.1 ∧ ms ≤ al.2) (hst : (st.map fun v => v.category).sum ≤ 8) (hst0 : As.reverse ++ .ref i :: st = st0) (hN1 : N1 = N + mc) (hsub : M.map (fun p => xof σ0 L p.1) = M.map (fun p => p.2)) (hL : xwrs L M' = L')
    (k : V y cc rt d N1 (al.1 - mc, al.2 - ms) (pc + 3) ls st (xof σ0 L') Q) : V y cc rt d N al pc ls st0 (xof σ0 L) Q := by
  have hct0 := hct (xof σ0 L)
  rw [← xof_over (xof σ0 L) M hsub] at hct0
  refine x_callI hd hM hw hw2 hin hct0 hlen hn hdd hm hst hst0 (fun _ _ _ h => h.1.trans hN1) ?_
  rintro _ _ _ ⟨rfl, rfl, rfl⟩
  rw [xof_wrs, hL]
  exact k
def l_X1_init_35 (n : Nat) (a37 : Nat → Int32) : Nat → (Int32) → (Int32) → (Nat → Int32) → Option (((Int32) × (Int32) × (Nat → Int32)))
  | 0, _, _, _ => none
  | k + 1, l1, l2, a36 => (if l2 < 0 then (some (l1, l2, a36)) else (bif xin l2 40 then (Option.bind (f_X1_timesX l1) (fun q3 => (l_X1_init_35 n a37 k q3 ((l2 + (-1))) (upd a36 ((Int32.toNatClampNeg l2)) l1)))) else none))
set_option maxRecDepth 100000 in
set_option maxHeartbeats 400000 in
theorem lv_X1_init_35 (s0 : XW) (n : Nat) (a37 : Nat → Int32) (Q : Nat → Option Value → XW → Prop) : ∀ (k : Nat) (l1 : Int32) (l2 : Int32) (a36 : Nat → Int32) (o : ((Int32) × (Int32) × (Nat → Int32))), l_X1_init_35 n a37 k l1 l2 a36 = some o → (V yX1_init cX1_init none 2 38 (0, 0) 47 [none, none, none] [] (xof s0 [W_35, W_36 o.2.2, W_37 a37]) Q) → V yX1_init cX1_init none 2 38 (0, 0) 25 [some (.ref 35), some (.int l1), some (.int l2)] [] (xof s0 [W_35, W_36 a36, W_37 a37]) Q := by
  intro k
  induction k with
  | zero =>
    intro _ _ _ _ h
    simp [l_X1_init_35] at h
  | succ k ih =>
    intro l1 l2 a36 o h hk
    rw [l_X1_init_35] at h
    refine x_iload_n dX1_init_25 rfl ?_
    refine x_if_lt (tgt := 47) dX1_init_26 (by decide) (fun c1 => ?_) (fun c1 => ?_)
    · replace h := xif_p c1 h
      refine V.drop1 (i := 0) (ls' := [_, _, _]) rfl ?_
      refine V.drop1 (i := 1) (ls' := [_, _, _]) rfl ?_
      refine V.drop1 (i := 2) (ls' := [_, _, _]) rfl ?_
      show V yX1_init cX1_init none 2 38 (0, 0) 47 [none, none, none] [] (xof s0 [W_35, W_36 a36, W_37 a37]) _
      cases h
      exact hk
    · replace h := xif_n c1 h
      refine x_aload_n dX1_init_29 rfl ?_
      refine g_X1_9 rfl dX1_init_30 (by decide) rfl rfl ?_
      refine x_iload_n dX1_init_33 rfl ?_
      refine x_iload_n dX1_init_34 rfl ?_
      obtain ⟨c2, h⟩ := xck h
      refine x_iastK (jn := (Int32.toNatClampNeg l2)) (L' := [(35, _), (36, _), (37, _)]) dX1_init_35 (by decide) rfl (xin_ok c2) rfl rfl ?_
      refine x_iload_n dX1_init_36 rfl ?_
      obtain ⟨q3, hq3, h⟩ := Option.bind_eq_some_iff.mp h
      refine y_callSi (L' := [(35, _), (36, _), (37, _)]) mi_X1_timesX ml_X1_18 st_X1_timesX dX1_init_37 (fun s1 => v_X1_timesX 38 s1 _ q3 hq3) (Nat.le_of_ble_eq_true rfl) rfl (by decide) (Nat.le_of_ble_eq_true rfl) rfl rfl rfl rfl ?_
      refine x_istore_n (ls' := [_, _, _]) dX1_init_40 rfl rfl ?_
      refine x_iinc (v := l2 + (-1)) (ls' := [_, _, _]) dX1_init_41 rfl rfl rfl rfl ?_
      refine x_goto (tgt := 25) dX1_init_44 (by decide) ?_
      show V yX1_init cX1_init none 2 38 (0, 0) 25 [some (.ref 35), some (.int q3), some (.int ((l2 + (-1))))] [] (xof s0 [W_35, W_36 (upd a36 ((Int32.toNatClampNeg l2)) l1), W_37 a37]) _
      exact ih q3 ((l2 + (-1))) (upd a36 ((Int32.toNatClampNeg l2)) l1) _ h hk
set_option maxRecDepth 100000 in
set_option maxHeartbeats 1000000 in
theorem k_X4_init_2 (s0 : XW) : Ct yX4_init cX4_init 1 none 1 3 (1, 9600) [.ref 2] (xof s0 [(2, .inr (3, [.null, .int 0, .int 0]))]) (xq 4 none (xof s0 [W_2 (fun _ => 0), W_3 ((fun _ => 0))])) := by
  show V yX4_init cX4_init none 1 3 (1, 9600) 0 [some (.ref 2)] [] (xof s0 [(2, .inr (3, [.null, .int 0, .int 0]))]) _
  refine x_aload_n dX4_init_0 rfl ?_
  refine x_objInit dX4_init_1 ml_X4_3 (by decide) (Nat.le_of_ble_eq_true rfl) ?_
  refine x_aload_n dX4_init_4 rfl ?_
  refine x_sipush (v := 9600) dX4_init_5 (by decide) ?_
  refine x_newarr (t := 1) (ty := .byte) (N' := 9600) (a0 := (9600, .inl (fun _ => 0))) dX4_init_8 (xm (i := 110) (by decide +kernel) (by decide +kernel)) rfl (fun _ => rfl) (fun _ _ h => h) (fun _ => rfl) (by decide) (by decide) (by decide) (by decide) (by decide) (by decide) ?_
  refine V.wr (L' := [(2, _), (3, _)]) rfl ?_
  refine p_X4_9 (fs' := [_, _, _]) (L' := [(2, _), (3, _)]) rfl rfl dX4_init_10 (by decide) rfl (fun _ => ⟨rfl, rfl⟩) (Nat.le_of_ble_eq_true rfl) rfl rfl ?_
  refine x_aload_n dX4_init_13 rfl ?_
  refine x_iconst (v := 0) dX4_init_14 (by decide) ?_
  refine p_X4_15 (fs' := [_, _, _]) (L' := [(2, _), (3, _)]) rfl dX4_init_15 (by decide) rfl (Nat.le_of_ble_eq_true rfl) rfl rfl ?_
  refine x_aload_n dX4_init_18 rfl ?_
  refine x_iconst (v := 0) dX4_init_19 (by decide) ?_
  refine p_X4_19 (fs' := [_, _, _]) (L' := [(2, _), (3, _)]) rfl dX4_init_20 (by decide) rfl (Nat.le_of_ble_eq_true rfl) rfl rfl ?_
  exact x_vret dX4_init_23 ⟨rfl, rfl, rfl⟩
set_option maxRecDepth 100000 in
set_option maxHeartbeats 1000000 in
theorem k_X2_init_5 (s0 : XW) : Ct yX2_init cX2_init 1 none 1 6 (0, 0) [.ref 5] (xof s0 [(5, .inr (1, [.long 0]))]) (xq 6 none (xof s0 [W_5 0])) := by
  show V yX2_init cX2_init none 1 6 (0, 0) 0 [some (.ref 5)] [] (xof s0 [(5, .inr (1, [.long 0]))]) _
  refine x_aload_n dX2_init_0 rfl ?_
  refine x_objInit dX2_init_1 ml_X2_3 (by decide) (Nat.le_of_ble_eq_true rfl) ?_
  refine x_aload_n dX2_init_4 rfl ?_
  refine x_lconst (v := 0) dX2_init_5 (by decide) ?_
  refine p_X2_9 (fs' := [_]) (L' := [(5, _)]) rfl dX2_init_6 (by decide) rfl (Nat.le_of_ble_eq_true rfl) rfl rfl ?_
  exact x_vret dX2_init_9 ⟨rfl, rfl, rfl⟩
set_option maxRecDepth 100000 in
set_option maxHeartbeats 1000000 in
theorem k_X8_init_4 (s0 : XW) : Ct yX8_init cX8_init 1 none 2 5 (3, 3137) [.ref 4] (xof s0 [(4, .inr (7, [.null, .null, .null, .int 0]))]) (xq 8 none (xof s0 [W_4 (fun _ => 0), W_5 0, W_6 ((fun _ => 0)), W_7 ((fun _ => 0))])) := by
  show V yX8_init cX8_init none 2 5 (3, 3137) 0 [some (.ref 4)] [] (xof s0 [(4, .inr (7, [.null, .null, .null, .int 0]))]) _
  refine x_aload_n dX8_init_0 rfl ?_
  refine x_objInit dX8_init_1 ml_X8_3 (by decide) (Nat.le_of_ble_eq_true rfl) ?_
  refine x_aload_n dX8_init_4 rfl ?_
  refine x_new (fs := [.long 0]) tyX2 dX8_init_5 cl_X8_9 (xm (i := 118) (by decide +kernel) (by decide +kernel)) (xm (i := 59) (by decide +kernel) (by decide +kernel)) inX2 tyX2_ok (rfl : vwCl[1]? = _) (by decide +kernel) (fun _ => rfl) (by decide) (by decide) (by decide) ?_
  refine V.wr (L' := [(4, _), (5, _)]) rfl ?_
  refine x_dup dX8_init_8 rfl ?_
  refine x_callIL (L' := [(4, _), (5, _)]) dX8_init_9 mi_X2_init ml_X8_11 im_X2_init rfl (fun s1 => k_X2_init_5 s1) (Nat.le_of_ble_eq_true rfl) rfl (Nat.le_of_ble_eq_true rfl) ⟨Nat.le_of_ble_eq_true rfl, Nat.le_of_ble_eq_true rfl⟩ (Nat.le_of_ble_eq_true rfl) rfl rfl rfl rfl ?_
  refine p_X8_12 (fs' := [_, _, _, _]) (L' := [(4, _), (5, _)]) rfl rfl dX8_init_12 (by decide) rfl (fun _ => ⟨rfl, rfl⟩) (Nat.le_of_ble_eq_true rfl) rfl rfl ?_
  refine x_aload_n dX8_init_15 rfl ?_
  refine x_bipush (v := 64) dX8_init_16 (by decide) ?_
  refine x_newarr (t := 0) (ty := .int) (N' := 64) (a0 := (64, .inl (fun _ => 0))) dX8_init_18 (xm (i := 109) (by decide +kernel) (by decide +kernel)) rfl (fun _ => rfl) (fun _ _ h => h) (fun _ => rfl) (by decide) (by decide) (by decide) (by decide) (by decide) (by decide) ?_
  refine V.wr (L' := [(4, _), (5, _), (6, _)]) rfl ?_
  refine p_X8_18 (fs' := [_, _, _, _]) (L' := [(4, _), (5, _), (6, _)]) rfl rfl dX8_init_20 (by decide) rfl (fun _ => ⟨rfl, rfl⟩) (Nat.le_of_ble_eq_true rfl) rfl rfl ?_
  refine x_aload_n dX8_init_23 rfl ?_
  refine x_sipush (v := 3072) dX8_init_24 (by decide) ?_
  refine x_newarr (t := 1) (ty := .byte) (N' := 3072) (a0 := (3072, .inl (fun _ => 0))) dX8_init_27 (xm (i := 110) (by decide +kernel) (by decide +kernel)) rfl (fun _ => rfl) (fun _ _ h => h) (fun _ => rfl) (by decide) (by decide) (by decide) (by decide) (by decide) (by decide) ?_
  refine V.wr (L' := [(4, _), (5, _), (6, _), (7, _)]) rfl ?_
  refine p_X8_22 (fs' := [_, _, _, _]) (L' := [(4, _), (5, _), (6, _), (7, _)]) rfl rfl dX8_init_29 (by decide) rfl (fun _ => ⟨rfl, rfl⟩) (Nat.le_of_ble_eq_true rfl) rfl rfl ?_
  refine x_aload_n dX8_init_32 rfl ?_
  refine x_iconst (v := 0) dX8_init_33 (by decide) ?_
  refine p_X8_26 (fs' := [_, _, _, _]) (L' := [(4, _), (5, _), (6, _), (7, _)]) rfl dX8_init_34 (by decide) rfl (Nat.le_of_ble_eq_true rfl) rfl rfl ?_
  exact x_vret dX8_init_37 ⟨rfl, rfl, rfl⟩
set_option maxRecDepth 100000 in
set_option maxHeartbeats 1000000 in
theorem k_X7_init_9_12 (s0 : XW) : Ct yX7_init cX7_init 2 none 1 10 (1, 36) [.ref 9, .int 12] (xof s0 [(9, .inr (6, [.int 0, .null, .int 0, .int 0]))]) (xq 11 none (xof s0 [W_9 (upd (fun _ => 0) 0 12), W_10 ((fun _ => 0))])) := by
  show V yX7_init cX7_init none 1 10 (1, 36) 0 [some (.ref 9), some (.int 12)] [] (xof s0 [(9, .inr (6, [.int 0, .null, .int 0, .int 0]))]) _
  refine x_aload_n dX7_init_0 rfl ?_
  refine x_objInit dX7_init_1 ml_X7_1 (by decide) (Nat.le_of_ble_eq_true rfl) ?_
  refine x_aload_n dX7_init_4 rfl ?_
  refine x_iconst (v := 1) dX7_init_5 (by decide) ?_
  refine x_iload_n dX7_init_6 rfl ?_
  refine x_mmax dX7_init_7 ml_X7_7 (by decide) (Nat.le_of_ble_eq_true rfl) ?_
  refine V.topi (v := 12) (by decide) ?_
  refine p_X7_13 (fs' := [_, _, _, _]) (L' := [(9, _)]) rfl rfl dX7_init_10 (by decide) rfl (fun _ => ⟨rfl, rfl⟩) (Nat.le_of_ble_eq_true rfl) rfl rfl ?_
  refine x_aload_n dX7_init_13 rfl ?_
  refine x_iconst (v := 3) dX7_init_14 (by decide) ?_
  refine x_aload_n dX7_init_15 rfl ?_
  refine g_X7_13 rfl dX7_init_16 (by decide) rfl rfl ?_
  refine x_imul dX7_init_19 ?_
  refine V.topi (v := 36) (by decide) ?_
  refine x_newarr (t := 0) (ty := .int) (N' := 36) (a0 := (36, .inl (fun _ => 0))) dX7_init_20 (xm (i := 109) (by decide +kernel) (by decide +kernel)) rfl (fun _ => rfl) (fun _ _ h => h) (fun _ => rfl) (by decide) (by decide) (by decide) (by decide) (by decide) (by decide) ?_
  refine V.wr (L' := [(9, _), (10, _)]) rfl ?_
  refine p_X7_19 (fs' := [_, _, _, _]) (L' := [(9, _), (10, _)]) rfl rfl dX7_init_22 (by decide) rfl (fun _ => ⟨rfl, rfl⟩) (Nat.le_of_ble_eq_true rfl) rfl rfl ?_
  refine x_aload_n dX7_init_25 rfl ?_
  refine x_iconst (v := 0) dX7_init_26 (by decide) ?_
  refine p_X7_23 (fs' := [_, _, _, _]) (L' := [(9, _), (10, _)]) rfl dX7_init_27 (by decide) rfl (Nat.le_of_ble_eq_true rfl) rfl rfl ?_
  refine x_aload_n dX7_init_30 rfl ?_
  refine x_iconst (v := 0) dX7_init_31 (by decide) ?_
  refine p_X7_26 (fs' := [_, _, _, _]) (L' := [(9, _), (10, _)]) rfl dX7_init_32 (by decide) rfl (Nat.le_of_ble_eq_true rfl) rfl rfl ?_
  exact x_vret dX7_init_35 ⟨rfl, rfl, rfl⟩
set_option maxRecDepth 100000 in
set_option maxHeartbeats 1000000 in
theorem k_X7_init_11_24 (s0 : XW) : Ct yX7_init cX7_init 2 none 1 12 (1, 72) [.ref 11, .int 24] (xof s0 [(11, .inr (6, [.int 0, .null, .int 0, .int 0]))]) (xq 13 none (xof s0 [W_11 (upd (fun _ => 0) 0 24), W_12 ((fun _ => 0))])) := by
  show V yX7_init cX7_init none 1 12 (1, 72) 0 [some (.ref 11), some (.int 24)] [] (xof s0 [(11, .inr (6, [.int 0, .null, .int 0, .int 0]))]) _
  refine x_aload_n dX7_init_0 rfl ?_
  refine x_objInit dX7_init_1 ml_X7_1 (by decide) (Nat.le_of_ble_eq_true rfl) ?_
  refine x_aload_n dX7_init_4 rfl ?_
  refine x_iconst (v := 1) dX7_init_5 (by decide) ?_
  refine x_iload_n dX7_init_6 rfl ?_
  refine x_mmax dX7_init_7 ml_X7_7 (by decide) (Nat.le_of_ble_eq_true rfl) ?_
  refine V.topi (v := 24) (by decide) ?_
  refine p_X7_13 (fs' := [_, _, _, _]) (L' := [(11, _)]) rfl rfl dX7_init_10 (by decide) rfl (fun _ => ⟨rfl, rfl⟩) (Nat.le_of_ble_eq_true rfl) rfl rfl ?_
  refine x_aload_n dX7_init_13 rfl ?_
  refine x_iconst (v := 3) dX7_init_14 (by decide) ?_
  refine x_aload_n dX7_init_15 rfl ?_
  refine g_X7_13 rfl dX7_init_16 (by decide) rfl rfl ?_
  refine x_imul dX7_init_19 ?_
  refine V.topi (v := 72) (by decide) ?_
  refine x_newarr (t := 0) (ty := .int) (N' := 72) (a0 := (72, .inl (fun _ => 0))) dX7_init_20 (xm (i := 109) (by decide +kernel) (by decide +kernel)) rfl (fun _ => rfl) (fun _ _ h => h) (fun _ => rfl) (by decide) (by decide) (by decide) (by decide) (by decide) (by decide) ?_
  refine V.wr (L' := [(11, _), (12, _)]) rfl ?_
  refine p_X7_19 (fs' := [_, _, _, _]) (L' := [(11, _), (12, _)]) rfl rfl dX7_init_22 (by decide) rfl (fun _ => ⟨rfl, rfl⟩) (Nat.le_of_ble_eq_true rfl) rfl rfl ?_
  refine x_aload_n dX7_init_25 rfl ?_
  refine x_iconst (v := 0) dX7_init_26 (by decide) ?_
  refine p_X7_23 (fs' := [_, _, _, _]) (L' := [(11, _), (12, _)]) rfl dX7_init_27 (by decide) rfl (Nat.le_of_ble_eq_true rfl) rfl rfl ?_
  refine x_aload_n dX7_init_30 rfl ?_
  refine x_iconst (v := 0) dX7_init_31 (by decide) ?_
  refine p_X7_26 (fs' := [_, _, _, _]) (L' := [(11, _), (12, _)]) rfl dX7_init_32 (by decide) rfl (Nat.le_of_ble_eq_true rfl) rfl rfl ?_
  exact x_vret dX7_init_35 ⟨rfl, rfl, rfl⟩
set_option maxRecDepth 100000 in
set_option maxHeartbeats 1000000 in
theorem k_X7_init_13_32 (s0 : XW) : Ct yX7_init cX7_init 2 none 1 14 (1, 96) [.ref 13, .int 32] (xof s0 [(13, .inr (6, [.int 0, .null, .int 0, .int 0]))]) (xq 15 none (xof s0 [W_13 (upd (fun _ => 0) 0 32), W_14 ((fun _ => 0))])) := by
  show V yX7_init cX7_init none 1 14 (1, 96) 0 [some (.ref 13), some (.int 32)] [] (xof s0 [(13, .inr (6, [.int 0, .null, .int 0, .int 0]))]) _
  refine x_aload_n dX7_init_0 rfl ?_
  refine x_objInit dX7_init_1 ml_X7_1 (by decide) (Nat.le_of_ble_eq_true rfl) ?_
  refine x_aload_n dX7_init_4 rfl ?_
  refine x_iconst (v := 1) dX7_init_5 (by decide) ?_
  refine x_iload_n dX7_init_6 rfl ?_
  refine x_mmax dX7_init_7 ml_X7_7 (by decide) (Nat.le_of_ble_eq_true rfl) ?_
  refine V.topi (v := 32) (by decide) ?_
  refine p_X7_13 (fs' := [_, _, _, _]) (L' := [(13, _)]) rfl rfl dX7_init_10 (by decide) rfl (fun _ => ⟨rfl, rfl⟩) (Nat.le_of_ble_eq_true rfl) rfl rfl ?_
  refine x_aload_n dX7_init_13 rfl ?_
  refine x_iconst (v := 3) dX7_init_14 (by decide) ?_
  refine x_aload_n dX7_init_15 rfl ?_
  refine g_X7_13 rfl dX7_init_16 (by decide) rfl rfl ?_
  refine x_imul dX7_init_19 ?_
  refine V.topi (v := 96) (by decide) ?_
  refine x_newarr (t := 0) (ty := .int) (N' := 96) (a0 := (96, .inl (fun _ => 0))) dX7_init_20 (xm (i := 109) (by decide +kernel) (by decide +kernel)) rfl (fun _ => rfl) (fun _ _ h => h) (fun _ => rfl) (by decide) (by decide) (by decide) (by decide) (by decide) (by decide) ?_
  refine V.wr (L' := [(13, _), (14, _)]) rfl ?_
  refine p_X7_19 (fs' := [_, _, _, _]) (L' := [(13, _), (14, _)]) rfl rfl dX7_init_22 (by decide) rfl (fun _ => ⟨rfl, rfl⟩) (Nat.le_of_ble_eq_true rfl) rfl rfl ?_
  refine x_aload_n dX7_init_25 rfl ?_
  refine x_iconst (v := 0) dX7_init_26 (by decide) ?_
  refine p_X7_23 (fs' := [_, _, _, _]) (L' := [(13, _), (14, _)]) rfl dX7_init_27 (by decide) rfl (Nat.le_of_ble_eq_true rfl) rfl rfl ?_
  refine x_aload_n dX7_init_30 rfl ?_
  refine x_iconst (v := 0) dX7_init_31 (by decide) ?_
  refine p_X7_26 (fs' := [_, _, _, _]) (L' := [(13, _), (14, _)]) rfl dX7_init_32 (by decide) rfl (Nat.le_of_ble_eq_true rfl) rfl rfl ?_
  exact x_vret dX7_init_35 ⟨rfl, rfl, rfl⟩
set_option maxRecDepth 100000 in
set_option maxHeartbeats 1000000 in
theorem k_X5_init_8 (s0 : XW) : Ct yX5_init cX5_init 1 none 2 9 (7, 792) [.ref 8] (xof s0 [(8, .inr (4, [.null, .null, .null, .null]))]) (xq 16 none (xof s0 [W_8, W_9 (upd (fun _ => 0) 0 12), W_10 (((fun _ => 0))), W_11 (upd (fun _ => 0) 0 24), W_12 (((fun _ => 0))), W_13 (upd (fun _ => 0) 0 32), W_14 (((fun _ => 0))), W_15 ((fun _ => 0))])) := by
  show V yX5_init cX5_init none 2 9 (7, 792) 0 [some (.ref 8)] [] (xof s0 [(8, .inr (4, [.null, .null, .null, .null]))]) _
  refine x_aload_n dX5_init_0 rfl ?_
  refine x_objInit dX5_init_1 ml_X5_3 (by decide) (Nat.le_of_ble_eq_true rfl) ?_
  refine x_aload_n dX5_init_4 rfl ?_
  refine x_new (fs := [.int 0, .null, .int 0, .int 0]) tyX7 dX5_init_5 cl_X5_9 (xm (i := 149) (by decide +kernel) (by decide +kernel)) (xm (i := 61) (by decide +kernel) (by decide +kernel)) inX7 tyX7_ok (rfl : vwCl[6]? = _) (by decide +kernel) (fun _ => rfl) (by decide) (by decide) (by decide) ?_
  refine V.wr (L' := [(8, _), (9, _)]) rfl ?_
  refine x_dup dX5_init_8 rfl ?_
  refine x_bipush (v := 12) dX5_init_9 (by decide) ?_
  refine x_callIL (L' := [(8, _), (9, _), (10, _)]) dX5_init_11 mi_X7_init ml_X5_13 im_X7_init rfl (fun s1 => k_X7_init_9_12 s1) (Nat.le_of_ble_eq_true rfl) rfl (Nat.le_of_ble_eq_true rfl) ⟨Nat.le_of_ble_eq_true rfl, Nat.le_of_ble_eq_true rfl⟩ (Nat.le_of_ble_eq_true rfl) rfl rfl rfl rfl ?_
  refine p_X5_16 (fs' := [_, _, _, _]) (L' := [(8, _), (9, _), (10, _)]) rfl rfl dX5_init_14 (by decide) rfl (fun _ => ⟨rfl, rfl⟩) (Nat.le_of_ble_eq_true rfl) rfl rfl ?_
  refine x_aload_n dX5_init_17 rfl ?_
  refine x_new (fs := [.int 0, .null, .int 0, .int 0]) tyX7 dX5_init_18 cl_X5_9 (xm (i := 149) (by decide +kernel) (by decide +kernel)) (xm (i := 61) (by decide +kernel) (by decide +kernel)) inX7 tyX7_ok (rfl : vwCl[6]? = _) (by decide +kernel) (fun _ => rfl) (by decide) (by decide) (by decide) ?_
  refine V.wr (L' := [(8, _), (9, _), (10, _), (11, _)]) rfl ?_
  refine x_dup dX5_init_21 rfl ?_
  refine x_bipush (v := 24) dX5_init_22 (by decide) ?_
  refine x_callIL (L' := [(8, _), (9, _), (10, _), (11, _), (12, _)]) dX5_init_24 mi_X7_init ml_X5_13 im_X7_init rfl (fun s1 => k_X7_init_11_24 s1) (Nat.le_of_ble_eq_true rfl) rfl (Nat.le_of_ble_eq_true rfl) ⟨Nat.le_of_ble_eq_true rfl, Nat.le_of_ble_eq_true rfl⟩ (Nat.le_of_ble_eq_true rfl) rfl rfl rfl rfl ?_
  refine p_X5_20 (fs' := [_, _, _, _]) (L' := [(8, _), (9, _), (10, _), (11, _), (12, _)]) rfl rfl dX5_init_27 (by decide) rfl (fun _ => ⟨rfl, rfl⟩) (Nat.le_of_ble_eq_true rfl) rfl rfl ?_
  refine x_aload_n dX5_init_30 rfl ?_
  refine x_new (fs := [.int 0, .null, .int 0, .int 0]) tyX7 dX5_init_31 cl_X5_9 (xm (i := 149) (by decide +kernel) (by decide +kernel)) (xm (i := 61) (by decide +kernel) (by decide +kernel)) inX7 tyX7_ok (rfl : vwCl[6]? = _) (by decide +kernel) (fun _ => rfl) (by decide) (by decide) (by decide) ?_
  refine V.wr (L' := [(8, _), (9, _), (10, _), (11, _), (12, _), (13, _)]) rfl ?_
  refine x_dup dX5_init_34 rfl ?_
  refine x_bipush (v := 32) dX5_init_35 (by decide) ?_
  refine x_callIL (L' := [(8, _), (9, _), (10, _), (11, _), (12, _), (13, _), (14, _)]) dX5_init_37 mi_X7_init ml_X5_13 im_X7_init rfl (fun s1 => k_X7_init_13_32 s1) (Nat.le_of_ble_eq_true rfl) rfl (Nat.le_of_ble_eq_true rfl) ⟨Nat.le_of_ble_eq_true rfl, Nat.le_of_ble_eq_true rfl⟩ (Nat.le_of_ble_eq_true rfl) rfl rfl rfl rfl ?_
  refine p_X5_23 (fs' := [_, _, _, _]) (L' := [(8, _), (9, _), (10, _), (11, _), (12, _), (13, _), (14, _)]) rfl rfl dX5_init_40 (by decide) rfl (fun _ => ⟨rfl, rfl⟩) (Nat.le_of_ble_eq_true rfl) rfl rfl ?_
  refine x_aload_n dX5_init_43 rfl ?_
  refine x_sipush (v := 576) dX5_init_44 (by decide) ?_
  refine x_newarr (t := 1) (ty := .byte) (N' := 576) (a0 := (576, .inl (fun _ => 0))) dX5_init_47 (xm (i := 110) (by decide +kernel) (by decide +kernel)) rfl (fun _ => rfl) (fun _ _ h => h) (fun _ => rfl) (by decide) (by decide) (by decide) (by decide) (by decide) (by decide) ?_
  refine V.wr (L' := [(8, _), (9, _), (10, _), (11, _), (12, _), (13, _), (14, _), (15, _)]) rfl ?_
  refine p_X5_26 (fs' := [_, _, _, _]) (L' := [(8, _), (9, _), (10, _), (11, _), (12, _), (13, _), (14, _), (15, _)]) rfl rfl dX5_init_49 (by decide) rfl (fun _ => ⟨rfl, rfl⟩) (Nat.le_of_ble_eq_true rfl) rfl rfl ?_
  exact x_vret dX5_init_52 ⟨rfl, rfl, rfl⟩
set_option maxRecDepth 100000 in
set_option maxHeartbeats 1000000 in
theorem k_X10_init_18 (s0 : XW) : Ct yX10_init cX10_init 1 none 1 19 (0, 0) [.ref 18] (xof s0 [(18, .inr (9, [.long 0, .int 0, .int 0]))]) (xq 19 none (xof s0 [W_18 (fun _ => 0) 0])) := by
  show V yX10_init cX10_init none 1 19 (0, 0) 0 [some (.ref 18)] [] (xof s0 [(18, .inr (9, [.long 0, .int 0, .int 0]))]) _
  refine x_aload_n dX10_init_0 rfl ?_
  refine x_objInit dX10_init_1 ml_X10_3 (by decide) (Nat.le_of_ble_eq_true rfl) ?_
  refine x_aload_n dX10_init_4 rfl ?_
  refine x_lconst (v := 0) dX10_init_5 (by decide) ?_
  refine p_X10_9 (fs' := [_, _, _]) (L' := [(18, _)]) rfl dX10_init_6 (by decide) rfl (Nat.le_of_ble_eq_true rfl) rfl rfl ?_
  refine x_aload_n dX10_init_9 rfl ?_
  refine x_iconst (v := 0) dX10_init_10 (by decide) ?_
  refine p_X10_15 (fs' := [_, _, _]) (L' := [(18, _)]) rfl dX10_init_11 (by decide) rfl (Nat.le_of_ble_eq_true rfl) rfl rfl ?_
  refine x_aload_n dX10_init_14 rfl ?_
  refine x_iconst (v := 0) dX10_init_15 (by decide) ?_
  refine p_X10_19 (fs' := [_, _, _]) (L' := [(18, _)]) rfl dX10_init_16 (by decide) rfl (Nat.le_of_ble_eq_true rfl) rfl rfl ?_
  exact x_vret dX10_init_19 ⟨rfl, rfl, rfl⟩
set_option maxRecDepth 100000 in
set_option maxHeartbeats 1000000 in
theorem k_X2_init_19 (s0 : XW) : Ct yX2_init cX2_init 1 none 1 20 (0, 0) [.ref 19] (xof s0 [(19, .inr (1, [.long 0]))]) (xq 20 none (xof s0 [W_19 0])) := by
  show V yX2_init cX2_init none 1 20 (0, 0) 0 [some (.ref 19)] [] (xof s0 [(19, .inr (1, [.long 0]))]) _
  refine x_aload_n dX2_init_0 rfl ?_
  refine x_objInit dX2_init_1 ml_X2_3 (by decide) (Nat.le_of_ble_eq_true rfl) ?_
  refine x_aload_n dX2_init_4 rfl ?_
  refine x_lconst (v := 0) dX2_init_5 (by decide) ?_
  refine p_X2_9 (fs' := [_]) (L' := [(19, _)]) rfl dX2_init_6 (by decide) rfl (Nat.le_of_ble_eq_true rfl) rfl rfl ?_
  exact x_vret dX2_init_9 ⟨rfl, rfl, rfl⟩
set_option maxRecDepth 100000 in
set_option maxHeartbeats 1000000 in
theorem k_X6_init_16_1_4_8 (s0 : XW) : Ct yX6_init cX6_init 4 none 2 17 (4, 66) [.ref 16, .ref 1, .ref 4, .ref 8] (xof s0 [(16, .inr (5, [.null, .null, .null, .null, .null, .null, .null, .int 0, .int 0, .int 0, .int 0, .int 0, .int 0, .int 0, .int 0, .int 0, .int 0, .int 0, .int 0]))]) (xq 21 none (xof s0 [W_16 (fun _ => 0), W_17 ((fun _ => 0)), W_18 (fun _ => 0) 0, W_19 0, W_20 ((fun _ => 0))])) := by
  show V yX6_init cX6_init none 2 17 (4, 66) 0 [some (.ref 16), some (.ref 1), some (.ref 4), some (.ref 8)] [] (xof s0 [(16, .inr (5, [.null, .null, .null, .null, .null, .null, .null, .int 0, .int 0, .int 0, .int 0, .int 0, .int 0, .int 0, .int 0, .int 0, .int 0, .int 0, .int 0]))]) _
  refine x_aload_n dX6_init_0 rfl ?_
  refine x_objInit dX6_init_1 ml_X6_3 (by decide) (Nat.le_of_ble_eq_true rfl) ?_
  refine x_aload_n dX6_init_4 rfl ?_
  refine x_bipush (v := 14) dX6_init_5 (by decide) ?_
  refine x_newarr (t := 0) (ty := .int) (N' := 14) (a0 := (14, .inl (fun _ => 0))) dX6_init_7 (xm (i := 109) (by decide +kernel) (by decide +kernel)) rfl (fun _ => rfl) (fun _ _ h => h) (fun _ => rfl) (by decide) (by decide) (by decide) (by decide) (by decide) (by decide) ?_
  refine V.wr (L' := [(16, _), (17, _)]) rfl ?_
  refine p_X6_9 (fs' := [_, _, _, _, _, _, _, _, _, _, _, _, _, _, _, _, _, _, _]) (L' := [(16, _), (17, _)]) rfl rfl dX6_init_9 (by decide) rfl (fun _ => ⟨rfl, rfl⟩) (Nat.le_of_ble_eq_true rfl) rfl rfl ?_
  refine x_aload_n dX6_init_12 rfl ?_
  refine x_new (fs := [.long 0, .int 0, .int 0]) tyX10 dX6_init_13 cl_X6_15 (xm (i := 198) (by decide +kernel) (by decide +kernel)) (xm (i := 64) (by decide +kernel) (by decide +kernel)) inX10 tyX10_ok (rfl : vwCl[9]? = _) (by decide +kernel) (fun _ => rfl) (by decide) (by decide) (by decide) ?_
  refine V.wr (L' := [(16, _), (17, _), (18, _)]) rfl ?_
  refine x_dup dX6_init_16 rfl ?_
  refine x_callIL (L' := [(16, _), (17, _), (18, _)]) dX6_init_17 mi_X10_init ml_X6_17 im_X10_init rfl (fun s1 => k_X10_init_18 s1) (Nat.le_of_ble_eq_true rfl) rfl (Nat.le_of_ble_eq_true rfl) ⟨Nat.le_of_ble_eq_true rfl, Nat.le_of_ble_eq_true rfl⟩ (Nat.le_of_ble_eq_true rfl) rfl rfl rfl rfl ?_
  refine p_X6_18 (fs' := [_, _, _, _, _, _, _, _, _, _, _, _, _, _, _, _, _, _, _]) (L' := [(16, _), (17, _), (18, _)]) rfl rfl dX6_init_20 (by decide) rfl (fun _ => ⟨rfl, rfl⟩) (Nat.le_of_ble_eq_true rfl) rfl rfl ?_
  refine x_aload_n dX6_init_23 rfl ?_
  refine x_new (fs := [.long 0]) tyX2 dX6_init_24 cl_X6_22 (xm (i := 118) (by decide +kernel) (by decide +kernel)) (xm (i := 59) (by decide +kernel) (by decide +kernel)) inX2 tyX2_ok (rfl : vwCl[1]? = _) (by decide +kernel) (fun _ => rfl) (by decide) (by decide) (by decide) ?_
  refine V.wr (L' := [(16, _), (17, _), (18, _), (19, _)]) rfl ?_
  refine x_dup dX6_init_27 rfl ?_
  refine x_callIL (L' := [(16, _), (17, _), (18, _), (19, _)]) dX6_init_28 mi_X2_init ml_X6_24 im_X2_init rfl (fun s1 => k_X2_init_19 s1) (Nat.le_of_ble_eq_true rfl) rfl (Nat.le_of_ble_eq_true rfl) ⟨Nat.le_of_ble_eq_true rfl, Nat.le_of_ble_eq_true rfl⟩ (Nat.le_of_ble_eq_true rfl) rfl rfl rfl rfl ?_
  refine p_X6_25 (fs' := [_, _, _, _, _, _, _, _, _, _, _, _, _, _, _, _, _, _, _]) (L' := [(16, _), (17, _), (18, _), (19, _)]) rfl rfl dX6_init_31 (by decide) rfl (fun _ => ⟨rfl, rfl⟩) (Nat.le_of_ble_eq_true rfl) rfl rfl ?_
  refine x_aload_n dX6_init_34 rfl ?_
  refine x_bipush (v := 48) dX6_init_35 (by decide) ?_
  refine x_newarr (t := 1) (ty := .byte) (N' := 48) (a0 := (48, .inl (fun _ => 0))) dX6_init_37 (xm (i := 110) (by decide +kernel) (by decide +kernel)) rfl (fun _ => rfl) (fun _ _ h => h) (fun _ => rfl) (by decide) (by decide) (by decide) (by decide) (by decide) (by decide) ?_
  refine V.wr (L' := [(16, _), (17, _), (18, _), (19, _), (20, _)]) rfl ?_
  refine p_X6_29 (fs' := [_, _, _, _, _, _, _, _, _, _, _, _, _, _, _, _, _, _, _]) (L' := [(16, _), (17, _), (18, _), (19, _), (20, _)]) rfl rfl dX6_init_39 (by decide) rfl (fun _ => ⟨rfl, rfl⟩) (Nat.le_of_ble_eq_true rfl) rfl rfl ?_
  refine x_aload_n dX6_init_42 rfl ?_
  refine x_aload_n dX6_init_43 rfl ?_
  refine p_X6_33 (fs' := [_, _, _, _, _, _, _, _, _, _, _, _, _, _, _, _, _, _, _]) (L' := [(16, _), (17, _), (18, _), (19, _), (20, _)]) rfl rfl dX6_init_44 (by decide) rfl (fun _ => ⟨rfl, rfl⟩) (Nat.le_of_ble_eq_true rfl) rfl rfl ?_
  refine x_aload_n dX6_init_47 rfl ?_
  refine x_aload_n dX6_init_48 rfl ?_
  refine p_X6_36 (fs' := [_, _, _, _, _, _, _, _, _, _, _, _, _, _, _, _, _, _, _]) (L' := [(16, _), (17, _), (18, _), (19, _), (20, _)]) rfl rfl dX6_init_49 (by decide) rfl (fun _ => ⟨rfl, rfl⟩) (Nat.le_of_ble_eq_true rfl) rfl rfl ?_
  refine x_aload_n dX6_init_52 rfl ?_
  refine x_aload_n dX6_init_53 rfl ?_
  refine p_X6_40 (fs' := [_, _, _, _, _, _, _, _, _, _, _, _, _, _, _, _, _, _, _]) (L' := [(16, _), (17, _), (18, _), (19, _), (20, _)]) rfl rfl dX6_init_54 (by decide) rfl (fun _ => ⟨rfl, rfl⟩) (Nat.le_of_ble_eq_true rfl) rfl rfl ?_
  exact x_vret dX6_init_57 ⟨rfl, rfl, rfl⟩
set_option maxRecDepth 100000 in
set_option maxHeartbeats 1000000 in
theorem k_X10_init_24 (s0 : XW) : Ct yX10_init cX10_init 1 none 1 25 (0, 0) [.ref 24] (xof s0 [(24, .inr (9, [.long 0, .int 0, .int 0]))]) (xq 25 none (xof s0 [W_24 (fun _ => 0) 0])) := by
  show V yX10_init cX10_init none 1 25 (0, 0) 0 [some (.ref 24)] [] (xof s0 [(24, .inr (9, [.long 0, .int 0, .int 0]))]) _
  refine x_aload_n dX10_init_0 rfl ?_
  refine x_objInit dX10_init_1 ml_X10_3 (by decide) (Nat.le_of_ble_eq_true rfl) ?_
  refine x_aload_n dX10_init_4 rfl ?_
  refine x_lconst (v := 0) dX10_init_5 (by decide) ?_
  refine p_X10_9 (fs' := [_, _, _]) (L' := [(24, _)]) rfl dX10_init_6 (by decide) rfl (Nat.le_of_ble_eq_true rfl) rfl rfl ?_
  refine x_aload_n dX10_init_9 rfl ?_
  refine x_iconst (v := 0) dX10_init_10 (by decide) ?_
  refine p_X10_15 (fs' := [_, _, _]) (L' := [(24, _)]) rfl dX10_init_11 (by decide) rfl (Nat.le_of_ble_eq_true rfl) rfl rfl ?_
  refine x_aload_n dX10_init_14 rfl ?_
  refine x_iconst (v := 0) dX10_init_15 (by decide) ?_
  refine p_X10_19 (fs' := [_, _, _]) (L' := [(24, _)]) rfl dX10_init_16 (by decide) rfl (Nat.le_of_ble_eq_true rfl) rfl rfl ?_
  exact x_vret dX10_init_19 ⟨rfl, rfl, rfl⟩
set_option maxRecDepth 100000 in
set_option maxHeartbeats 1000000 in
theorem k_X2_init_25 (s0 : XW) : Ct yX2_init cX2_init 1 none 1 26 (0, 0) [.ref 25] (xof s0 [(25, .inr (1, [.long 0]))]) (xq 26 none (xof s0 [W_25 0])) := by
  show V yX2_init cX2_init none 1 26 (0, 0) 0 [some (.ref 25)] [] (xof s0 [(25, .inr (1, [.long 0]))]) _
  refine x_aload_n dX2_init_0 rfl ?_
  refine x_objInit dX2_init_1 ml_X2_3 (by decide) (Nat.le_of_ble_eq_true rfl) ?_
  refine x_aload_n dX2_init_4 rfl ?_
  refine x_lconst (v := 0) dX2_init_5 (by decide) ?_
  refine p_X2_9 (fs' := [_]) (L' := [(25, _)]) rfl dX2_init_6 (by decide) rfl (Nat.le_of_ble_eq_true rfl) rfl rfl ?_
  exact x_vret dX2_init_9 ⟨rfl, rfl, rfl⟩
set_option maxRecDepth 100000 in
set_option maxHeartbeats 1000000 in
theorem k_X6_init_21_22_4 (s0 : XW) : Ct yX6_init cX6_init 4 none 2 23 (4, 66) [.ref 21, .ref 22, .ref 4, .null] (xof s0 [(21, .inr (5, [.null, .null, .null, .null, .null, .null, .null, .int 0, .int 0, .int 0, .int 0, .int 0, .int 0, .int 0, .int 0, .int 0, .int 0, .int 0, .int 0]))]) (xq 27 none (xof s0 [W_21 (fun _ => 0), W_23 ((fun _ => 0)), W_24 (fun _ => 0) 0, W_25 0, W_26 ((fun _ => 0))])) := by
  show V yX6_init cX6_init none 2 23 (4, 66) 0 [some (.ref 21), some (.ref 22), some (.ref 4), some (.null)] [] (xof s0 [(21, .inr (5, [.null, .null, .null, .null, .null, .null, .null, .int 0, .int 0, .int 0, .int 0, .int 0, .int 0, .int 0, .int 0, .int 0, .int 0, .int 0, .int 0]))]) _
  refine x_aload_n dX6_init_0 rfl ?_
  refine x_objInit dX6_init_1 ml_X6_3 (by decide) (Nat.le_of_ble_eq_true rfl) ?_
  refine x_aload_n dX6_init_4 rfl ?_
  refine x_bipush (v := 14) dX6_init_5 (by decide) ?_
  refine x_newarr (t := 0) (ty := .int) (N' := 14) (a0 := (14, .inl (fun _ => 0))) dX6_init_7 (xm (i := 109) (by decide +kernel) (by decide +kernel)) rfl (fun _ => rfl) (fun _ _ h => h) (fun _ => rfl) (by decide) (by decide) (by decide) (by decide) (by decide) (by decide) ?_
  refine V.wr (L' := [(21, _), (23, _)]) rfl ?_
  refine p_X6_9 (fs' := [_, _, _, _, _, _, _, _, _, _, _, _, _, _, _, _, _, _, _]) (L' := [(21, _), (23, _)]) rfl rfl dX6_init_9 (by decide) rfl (fun _ => ⟨rfl, rfl⟩) (Nat.le_of_ble_eq_true rfl) rfl rfl ?_
  refine x_aload_n dX6_init_12 rfl ?_
  refine x_new (fs := [.long 0, .int 0, .int 0]) tyX10 dX6_init_13 cl_X6_15 (xm (i := 198) (by decide +kernel) (by decide +kernel)) (xm (i := 64) (by decide +kernel) (by decide +kernel)) inX10 tyX10_ok (rfl : vwCl[9]? = _) (by decide +kernel) (fun _ => rfl) (by decide) (by decide) (by decide) ?_
  refine V.wr (L' := [(21, _), (23, _), (24, _)]) rfl ?_
  refine x_dup dX6_init_16 rfl ?_
  refine x_callIL (L' := [(21, _), (23, _), (24, _)]) dX6_init_17 mi_X10_init ml_X6_17 im_X10_init rfl (fun s1 => k_X10_init_24 s1) (Nat.le_of_ble_eq_true rfl) rfl (Nat.le_of_ble_eq_true rfl) ⟨Nat.le_of_ble_eq_true rfl, Nat.le_of_ble_eq_true rfl⟩ (Nat.le_of_ble_eq_true rfl) rfl rfl rfl rfl ?_
  refine p_X6_18 (fs' := [_, _, _, _, _, _, _, _, _, _, _, _, _, _, _, _, _, _, _]) (L' := [(21, _), (23, _), (24, _)]) rfl rfl dX6_init_20 (by decide) rfl (fun _ => ⟨rfl, rfl⟩) (Nat.le_of_ble_eq_true rfl) rfl rfl ?_
  refine x_aload_n dX6_init_23 rfl ?_
  refine x_new (fs := [.long 0]) tyX2 dX6_init_24 cl_X6_22 (xm (i := 118) (by decide +kernel) (by decide +kernel)) (xm (i := 59) (by decide +kernel) (by decide +kernel)) inX2 tyX2_ok (rfl : vwCl[1]? = _) (by decide +kernel) (fun _ => rfl) (by decide) (by decide) (by decide) ?_
  refine V.wr (L' := [(21, _), (23, _), (24, _), (25, _)]) rfl ?_
  refine x_dup dX6_init_27 rfl ?_
  refine x_callIL (L' := [(21, _), (23, _), (24, _), (25, _)]) dX6_init_28 mi_X2_init ml_X6_24 im_X2_init rfl (fun s1 => k_X2_init_25 s1) (Nat.le_of_ble_eq_true rfl) rfl (Nat.le_of_ble_eq_true rfl) ⟨Nat.le_of_ble_eq_true rfl, Nat.le_of_ble_eq_true rfl⟩ (Nat.le_of_ble_eq_true rfl) rfl rfl rfl rfl ?_
  refine p_X6_25 (fs' := [_, _, _, _, _, _, _, _, _, _, _, _, _, _, _, _, _, _, _]) (L' := [(21, _), (23, _), (24, _), (25, _)]) rfl rfl dX6_init_31 (by decide) rfl (fun _ => ⟨rfl, rfl⟩) (Nat.le_of_ble_eq_true rfl) rfl rfl ?_
  refine x_aload_n dX6_init_34 rfl ?_
  refine x_bipush (v := 48) dX6_init_35 (by decide) ?_
  refine x_newarr (t := 1) (ty := .byte) (N' := 48) (a0 := (48, .inl (fun _ => 0))) dX6_init_37 (xm (i := 110) (by decide +kernel) (by decide +kernel)) rfl (fun _ => rfl) (fun _ _ h => h) (fun _ => rfl) (by decide) (by decide) (by decide) (by decide) (by decide) (by decide) ?_
  refine V.wr (L' := [(21, _), (23, _), (24, _), (25, _), (26, _)]) rfl ?_
  refine p_X6_29 (fs' := [_, _, _, _, _, _, _, _, _, _, _, _, _, _, _, _, _, _, _]) (L' := [(21, _), (23, _), (24, _), (25, _), (26, _)]) rfl rfl dX6_init_39 (by decide) rfl (fun _ => ⟨rfl, rfl⟩) (Nat.le_of_ble_eq_true rfl) rfl rfl ?_
  refine x_aload_n dX6_init_42 rfl ?_
  refine x_aload_n dX6_init_43 rfl ?_
  refine p_X6_33 (fs' := [_, _, _, _, _, _, _, _, _, _, _, _, _, _, _, _, _, _, _]) (L' := [(21, _), (23, _), (24, _), (25, _), (26, _)]) rfl rfl dX6_init_44 (by decide) rfl (fun _ => ⟨rfl, rfl⟩) (Nat.le_of_ble_eq_true rfl) rfl rfl ?_
  refine x_aload_n dX6_init_47 rfl ?_
  refine x_aload_n dX6_init_48 rfl ?_
  refine p_X6_36 (fs' := [_, _, _, _, _, _, _, _, _, _, _, _, _, _, _, _, _, _, _]) (L' := [(21, _), (23, _), (24, _), (25, _), (26, _)]) rfl rfl dX6_init_49 (by decide) rfl (fun _ => ⟨rfl, rfl⟩) (Nat.le_of_ble_eq_true rfl) rfl rfl ?_
  refine x_aload_n dX6_init_52 rfl ?_
  refine x_aload_nN dX6_init_53 rfl ?_
  refine p_X6_40 (fs' := [_, _, _, _, _, _, _, _, _, _, _, _, _, _, _, _, _, _, _]) (L' := [(21, _), (23, _), (24, _), (25, _), (26, _)]) rfl rfl dX6_init_54 (by decide) rfl (fun _ => ⟨rfl, rfl⟩) (Nat.le_of_ble_eq_true rfl) rfl rfl ?_
  exact x_vret dX6_init_57 ⟨rfl, rfl, rfl⟩
set_option maxRecDepth 100000 in
set_option maxHeartbeats 1000000 in
theorem k_X10_init_30 (s0 : XW) : Ct yX10_init cX10_init 1 none 1 31 (0, 0) [.ref 30] (xof s0 [(30, .inr (9, [.long 0, .int 0, .int 0]))]) (xq 31 none (xof s0 [W_30 (fun _ => 0) 0])) := by
  show V yX10_init cX10_init none 1 31 (0, 0) 0 [some (.ref 30)] [] (xof s0 [(30, .inr (9, [.long 0, .int 0, .int 0]))]) _
  refine x_aload_n dX10_init_0 rfl ?_
  refine x_objInit dX10_init_1 ml_X10_3 (by decide) (Nat.le_of_ble_eq_true rfl) ?_
  refine x_aload_n dX10_init_4 rfl ?_
  refine x_lconst (v := 0) dX10_init_5 (by decide) ?_
  refine p_X10_9 (fs' := [_, _, _]) (L' := [(30, _)]) rfl dX10_init_6 (by decide) rfl (Nat.le_of_ble_eq_true rfl) rfl rfl ?_
  refine x_aload_n dX10_init_9 rfl ?_
  refine x_iconst (v := 0) dX10_init_10 (by decide) ?_
  refine p_X10_15 (fs' := [_, _, _]) (L' := [(30, _)]) rfl dX10_init_11 (by decide) rfl (Nat.le_of_ble_eq_true rfl) rfl rfl ?_
  refine x_aload_n dX10_init_14 rfl ?_
  refine x_iconst (v := 0) dX10_init_15 (by decide) ?_
  refine p_X10_19 (fs' := [_, _, _]) (L' := [(30, _)]) rfl dX10_init_16 (by decide) rfl (Nat.le_of_ble_eq_true rfl) rfl rfl ?_
  exact x_vret dX10_init_19 ⟨rfl, rfl, rfl⟩
set_option maxRecDepth 100000 in
set_option maxHeartbeats 1000000 in
theorem k_X2_init_31 (s0 : XW) : Ct yX2_init cX2_init 1 none 1 32 (0, 0) [.ref 31] (xof s0 [(31, .inr (1, [.long 0]))]) (xq 32 none (xof s0 [W_31 0])) := by
  show V yX2_init cX2_init none 1 32 (0, 0) 0 [some (.ref 31)] [] (xof s0 [(31, .inr (1, [.long 0]))]) _
  refine x_aload_n dX2_init_0 rfl ?_
  refine x_objInit dX2_init_1 ml_X2_3 (by decide) (Nat.le_of_ble_eq_true rfl) ?_
  refine x_aload_n dX2_init_4 rfl ?_
  refine x_lconst (v := 0) dX2_init_5 (by decide) ?_
  refine p_X2_9 (fs' := [_]) (L' := [(31, _)]) rfl dX2_init_6 (by decide) rfl (Nat.le_of_ble_eq_true rfl) rfl rfl ?_
  exact x_vret dX2_init_9 ⟨rfl, rfl, rfl⟩
set_option maxRecDepth 100000 in
set_option maxHeartbeats 1000000 in
theorem k_X6_init_27_28_4 (s0 : XW) : Ct yX6_init cX6_init 4 none 2 29 (4, 66) [.ref 27, .ref 28, .ref 4, .null] (xof s0 [(27, .inr (5, [.null, .null, .null, .null, .null, .null, .null, .int 0, .int 0, .int 0, .int 0, .int 0, .int 0, .int 0, .int 0, .int 0, .int 0, .int 0, .int 0]))]) (xq 33 none (xof s0 [W_27 (fun _ => 0), W_29 ((fun _ => 0)), W_30 (fun _ => 0) 0, W_31 0, W_32 ((fun _ => 0))])) := by
  show V yX6_init cX6_init none 2 29 (4, 66) 0 [some (.ref 27), some (.ref 28), some (.ref 4), some (.null)] [] (xof s0 [(27, .inr (5, [.null, .null, .null, .null, .null, .null, .null, .int 0, .int 0, .int 0, .int 0, .int 0, .int 0, .int 0, .int 0, .int 0, .int 0, .int 0, .int 0]))]) _
  refine x_aload_n dX6_init_0 rfl ?_
  refine x_objInit dX6_init_1 ml_X6_3 (by decide) (Nat.le_of_ble_eq_true rfl) ?_
  refine x_aload_n dX6_init_4 rfl ?_
  refine x_bipush (v := 14) dX6_init_5 (by decide) ?_
  refine x_newarr (t := 0) (ty := .int) (N' := 14) (a0 := (14, .inl (fun _ => 0))) dX6_init_7 (xm (i := 109) (by decide +kernel) (by decide +kernel)) rfl (fun _ => rfl) (fun _ _ h => h) (fun _ => rfl) (by decide) (by decide) (by decide) (by decide) (by decide) (by decide) ?_
  refine V.wr (L' := [(27, _), (29, _)]) rfl ?_
  refine p_X6_9 (fs' := [_, _, _, _, _, _, _, _, _, _, _, _, _, _, _, _, _, _, _]) (L' := [(27, _), (29, _)]) rfl rfl dX6_init_9 (by decide) rfl (fun _ => ⟨rfl, rfl⟩) (Nat.le_of_ble_eq_true rfl) rfl rfl ?_
  refine x_aload_n dX6_init_12 rfl ?_
  refine x_new (fs := [.long 0, .int 0, .int 0]) tyX10 dX6_init_13 cl_X6_15 (xm (i := 198) (by decide +kernel) (by decide +kernel)) (xm (i := 64) (by decide +kernel) (by decide +kernel)) inX10 tyX10_ok (rfl : vwCl[9]? = _) (by decide +kernel) (fun _ => rfl) (by decide) (by decide) (by decide) ?_
  refine V.wr (L' := [(27, _), (29, _), (30, _)]) rfl ?_
  refine x_dup dX6_init_16 rfl ?_
  refine x_callIL (L' := [(27, _), (29, _), (30, _)]) dX6_init_17 mi_X10_init ml_X6_17 im_X10_init rfl (fun s1 => k_X10_init_30 s1) (Nat.le_of_ble_eq_true rfl) rfl (Nat.le_of_ble_eq_true rfl) ⟨Nat.le_of_ble_eq_true rfl, Nat.le_of_ble_eq_true rfl⟩ (Nat.le_of_ble_eq_true rfl) rfl rfl rfl rfl ?_
  refine p_X6_18 (fs' := [_, _, _, _, _, _, _, _, _, _, _, _, _, _, _, _, _, _, _]) (L' := [(27, _), (29, _), (30, _)]) rfl rfl dX6_init_20 (by decide) rfl (fun _ => ⟨rfl, rfl⟩) (Nat.le_of_ble_eq_true rfl) rfl rfl ?_
  refine x_aload_n dX6_init_23 rfl ?_
  refine x_new (fs := [.long 0]) tyX2 dX6_init_24 cl_X6_22 (xm (i := 118) (by decide +kernel) (by decide +kernel)) (xm (i := 59) (by decide +kernel) (by decide +kernel)) inX2 tyX2_ok (rfl : vwCl[1]? = _) (by decide +kernel) (fun _ => rfl) (by decide) (by decide) (by decide) ?_
  refine V.wr (L' := [(27, _), (29, _), (30, _), (31, _)]) rfl ?_
  refine x_dup dX6_init_27 rfl ?_
  refine x_callIL (L' := [(27, _), (29, _), (30, _), (31, _)]) dX6_init_28 mi_X2_init ml_X6_24 im_X2_init rfl (fun s1 => k_X2_init_31 s1) (Nat.le_of_ble_eq_true rfl) rfl (Nat.le_of_ble_eq_true rfl) ⟨Nat.le_of_ble_eq_true rfl, Nat.le_of_ble_eq_true rfl⟩ (Nat.le_of_ble_eq_true rfl) rfl rfl rfl rfl ?_
  refine p_X6_25 (fs' := [_, _, _, _, _, _, _, _, _, _, _, _, _, _, _, _, _, _, _]) (L' := [(27, _), (29, _), (30, _), (31, _)]) rfl rfl dX6_init_31 (by decide) rfl (fun _ => ⟨rfl, rfl⟩) (Nat.le_of_ble_eq_true rfl) rfl rfl ?_
  refine x_aload_n dX6_init_34 rfl ?_
  refine x_bipush (v := 48) dX6_init_35 (by decide) ?_
  refine x_newarr (t := 1) (ty := .byte) (N' := 48) (a0 := (48, .inl (fun _ => 0))) dX6_init_37 (xm (i := 110) (by decide +kernel) (by decide +kernel)) rfl (fun _ => rfl) (fun _ _ h => h) (fun _ => rfl) (by decide) (by decide) (by decide) (by decide) (by decide) (by decide) ?_
  refine V.wr (L' := [(27, _), (29, _), (30, _), (31, _), (32, _)]) rfl ?_
  refine p_X6_29 (fs' := [_, _, _, _, _, _, _, _, _, _, _, _, _, _, _, _, _, _, _]) (L' := [(27, _), (29, _), (30, _), (31, _), (32, _)]) rfl rfl dX6_init_39 (by decide) rfl (fun _ => ⟨rfl, rfl⟩) (Nat.le_of_ble_eq_true rfl) rfl rfl ?_
  refine x_aload_n dX6_init_42 rfl ?_
  refine x_aload_n dX6_init_43 rfl ?_
  refine p_X6_33 (fs' := [_, _, _, _, _, _, _, _, _, _, _, _, _, _, _, _, _, _, _]) (L' := [(27, _), (29, _), (30, _), (31, _), (32, _)]) rfl rfl dX6_init_44 (by decide) rfl (fun _ => ⟨rfl, rfl⟩) (Nat.le_of_ble_eq_true rfl) rfl rfl ?_
  refine x_aload_n dX6_init_47 rfl ?_
  refine x_aload_n dX6_init_48 rfl ?_
  refine p_X6_36 (fs' := [_, _, _, _, _, _, _, _, _, _, _, _, _, _, _, _, _, _, _]) (L' := [(27, _), (29, _), (30, _), (31, _), (32, _)]) rfl rfl dX6_init_49 (by decide) rfl (fun _ => ⟨rfl, rfl⟩) (Nat.le_of_ble_eq_true rfl) rfl rfl ?_
  refine x_aload_n dX6_init_52 rfl ?_
  refine x_aload_nN dX6_init_53 rfl ?_
  refine p_X6_40 (fs' := [_, _, _, _, _, _, _, _, _, _, _, _, _, _, _, _, _, _, _]) (L' := [(27, _), (29, _), (30, _), (31, _), (32, _)]) rfl rfl dX6_init_54 (by decide) rfl (fun _ => ⟨rfl, rfl⟩) (Nat.le_of_ble_eq_true rfl) rfl rfl ?_
  exact x_vret dX6_init_57 ⟨rfl, rfl, rfl⟩
set_option maxRecDepth 100000 in
set_option maxHeartbeats 1000000 in
theorem k_X10_init_33 (s0 : XW) : Ct yX10_init cX10_init 1 none 1 34 (0, 0) [.ref 33] (xof s0 [(33, .inr (9, [.long 0, .int 0, .int 0]))]) (xq 34 none (xof s0 [W_33 (fun _ => 0) 0])) := by
  show V yX10_init cX10_init none 1 34 (0, 0) 0 [some (.ref 33)] [] (xof s0 [(33, .inr (9, [.long 0, .int 0, .int 0]))]) _
  refine x_aload_n dX10_init_0 rfl ?_
  refine x_objInit dX10_init_1 ml_X10_3 (by decide) (Nat.le_of_ble_eq_true rfl) ?_
  refine x_aload_n dX10_init_4 rfl ?_
  refine x_lconst (v := 0) dX10_init_5 (by decide) ?_
  refine p_X10_9 (fs' := [_, _, _]) (L' := [(33, _)]) rfl dX10_init_6 (by decide) rfl (Nat.le_of_ble_eq_true rfl) rfl rfl ?_
  refine x_aload_n dX10_init_9 rfl ?_
  refine x_iconst (v := 0) dX10_init_10 (by decide) ?_
  refine p_X10_15 (fs' := [_, _, _]) (L' := [(33, _)]) rfl dX10_init_11 (by decide) rfl (Nat.le_of_ble_eq_true rfl) rfl rfl ?_
  refine x_aload_n dX10_init_14 rfl ?_
  refine x_iconst (v := 0) dX10_init_15 (by decide) ?_
  refine p_X10_19 (fs' := [_, _, _]) (L' := [(33, _)]) rfl dX10_init_16 (by decide) rfl (Nat.le_of_ble_eq_true rfl) rfl rfl ?_
  exact x_vret dX10_init_19 ⟨rfl, rfl, rfl⟩
set_option maxRecDepth 100000 in
set_option maxHeartbeats 1000000 in
theorem k_X1_init_35 (s0 : XW) (n : Nat) (u : (Int32) × (Int32) × (Nat → Int32)) (hu : l_X1_init_35 n (fun _ => 0) n 1 39 (fun _ => 0) = some u) : Ct yX1_init cX1_init 3 none 2 36 (2, 48) [.ref 35] (xof s0 [(35, .inr (0, [.null, .null]))]) (xq 38 none (xof s0 [W_35, W_36 u.2.2, W_37 ((fun _ => 0))])) := by
  show V yX1_init cX1_init none 2 36 (2, 48) 0 [some (.ref 35), none, none] [] (xof s0 [(35, .inr (0, [.null, .null]))]) _
  refine x_aload_n dX1_init_0 rfl ?_
  refine x_objInit dX1_init_1 ml_X1_3 (by decide) (Nat.le_of_ble_eq_true rfl) ?_
  refine x_aload_n dX1_init_4 rfl ?_
  refine x_bipush (v := 40) dX1_init_5 (by decide) ?_
  refine x_newarr (t := 0) (ty := .int) (N' := 40) (a0 := (40, .inl (fun _ => 0))) dX1_init_7 (xm (i := 109) (by decide +kernel) (by decide +kernel)) rfl (fun _ => rfl) (fun _ _ h => h) (fun _ => rfl) (by decide) (by decide) (by decide) (by decide) (by decide) (by decide) ?_
  refine V.wr (L' := [(35, _), (36, _)]) rfl ?_
  refine p_X1_9 (fs' := [_, _]) (L' := [(35, _), (36, _)]) rfl rfl dX1_init_9 (by decide) rfl (fun _ => ⟨rfl, rfl⟩) (Nat.le_of_ble_eq_true rfl) rfl rfl ?_
  refine x_aload_n dX1_init_12 rfl ?_
  refine x_bipush (v := 8) dX1_init_13 (by decide) ?_
  refine x_newarr (t := 0) (ty := .int) (N' := 8) (a0 := (8, .inl (fun _ => 0))) dX1_init_15 (xm (i := 109) (by decide +kernel) (by decide +kernel)) rfl (fun _ => rfl) (fun _ _ h => h) (fun _ => rfl) (by decide) (by decide) (by decide) (by decide) (by decide) (by decide) ?_
  refine V.wr (L' := [(35, _), (36, _), (37, _)]) rfl ?_
  refine p_X1_15 (fs' := [_, _]) (L' := [(35, _), (36, _), (37, _)]) rfl rfl dX1_init_17 (by decide) rfl (fun _ => ⟨rfl, rfl⟩) (Nat.le_of_ble_eq_true rfl) rfl rfl ?_
  refine x_iconst (v := 1) dX1_init_20 (by decide) ?_
  refine x_istore_n (ls' := [_, _, _]) dX1_init_21 rfl rfl ?_
  refine x_bipush (v := 39) dX1_init_22 (by decide) ?_
  refine x_istore_n (ls' := [_, _, _]) dX1_init_24 rfl rfl ?_
  refine lv_X1_init_35 s0 n (fun _ => 0) _ n 1 39 (fun _ => 0) u hu ?_
  exact x_vret dX1_init_47 ⟨rfl, rfl, rfl⟩
set_option maxRecDepth 100000 in
set_option maxHeartbeats 1000000 in
theorem k_X9_init_38 (s0 : XW) : Ct yX9_init cX9_init 1 none 1 39 (3, 123) [.ref 38] (xof s0 [(38, .inr (8, [.null, .null, .null, .int 0]))]) (xq 42 none (xof s0 [W_38 (fun _ => 0), W_39 ((fun _ => 0)), W_40 ((fun _ => 0)), W_41 ((fun _ => 0))])) := by
  show V yX9_init cX9_init none 1 39 (3, 123) 0 [some (.ref 38)] [] (xof s0 [(38, .inr (8, [.null, .null, .null, .int 0]))]) _
  refine x_aload_n dX9_init_0 rfl ?_
  refine x_objInit dX9_init_1 ml_X9_3 (by decide) (Nat.le_of_ble_eq_true rfl) ?_
  refine x_aload_n dX9_init_4 rfl ?_
  refine x_bipush (v := 41) dX9_init_5 (by decide) ?_
  refine x_newarr (t := 2) (ty := .long) (N' := 41) (a0 := (41, .inr (.inl (fun _ => 0)))) dX9_init_7 (xm (i := 322) (by decide +kernel) (by decide +kernel)) rfl (fun _ => rfl) (fun _ _ h => h) (fun _ => rfl) (by decide) (by decide) (by decide) (by decide) (by decide) (by decide) ?_
  refine V.wr (L' := [(38, _), (39, _)]) rfl ?_
  refine p_X9_9 (fs' := [_, _, _, _]) (L' := [(38, _), (39, _)]) rfl rfl dX9_init_9 (by decide) rfl (fun _ => ⟨rfl, rfl⟩) (Nat.le_of_ble_eq_true rfl) rfl rfl ?_
  refine x_aload_n dX9_init_12 rfl ?_
  refine x_bipush (v := 41) dX9_init_13 (by decide) ?_
  refine x_newarr (t := 2) (ty := .long) (N' := 41) (a0 := (41, .inr (.inl (fun _ => 0)))) dX9_init_15 (xm (i := 322) (by decide +kernel) (by decide +kernel)) rfl (fun _ => rfl) (fun _ _ h => h) (fun _ => rfl) (by decide) (by decide) (by decide) (by decide) (by decide) (by decide) ?_
  refine V.wr (L' := [(38, _), (39, _), (40, _)]) rfl ?_
  refine p_X9_15 (fs' := [_, _, _, _]) (L' := [(38, _), (39, _), (40, _)]) rfl rfl dX9_init_17 (by decide) rfl (fun _ => ⟨rfl, rfl⟩) (Nat.le_of_ble_eq_true rfl) rfl rfl ?_
  refine x_aload_n dX9_init_20 rfl ?_
  refine x_bipush (v := 41) dX9_init_21 (by decide) ?_
  refine x_newarr (t := 0) (ty := .int) (N' := 41) (a0 := (41, .inl (fun _ => 0))) dX9_init_23 (xm (i := 109) (by decide +kernel) (by decide +kernel)) rfl (fun _ => rfl) (fun _ _ h => h) (fun _ => rfl) (by decide) (by decide) (by decide) (by decide) (by decide) (by decide) ?_
  refine V.wr (L' := [(38, _), (39, _), (40, _), (41, _)]) rfl ?_
  refine p_X9_18 (fs' := [_, _, _, _]) (L' := [(38, _), (39, _), (40, _), (41, _)]) rfl rfl dX9_init_25 (by decide) rfl (fun _ => ⟨rfl, rfl⟩) (Nat.le_of_ble_eq_true rfl) rfl rfl ?_
  refine x_aload_n dX9_init_28 rfl ?_
  refine x_iconst (v := 0) dX9_init_29 (by decide) ?_
  refine p_X9_22 (fs' := [_, _, _, _]) (L' := [(38, _), (39, _), (40, _), (41, _)]) rfl dX9_init_30 (Or.inl rfl) (by decide) rfl (Nat.le_of_ble_eq_true rfl) rfl rfl ?_
  exact x_vret dX9_init_33 ⟨rfl, rfl, rfl⟩
set_option maxRecDepth 100000 in
set_option maxHeartbeats 1000000 in
theorem k_X3_init_42 (s0 : XW) : Ct yX3_init cX3_init 1 none 1 43 (1, 17) [.ref 42] (xof s0 [(42, .inr (2, [.null]))]) (xq 44 none (xof s0 [W_42, W_43 ((fun _ => 0))])) := by
  show V yX3_init cX3_init none 1 43 (1, 17) 0 [some (.ref 42)] [] (xof s0 [(42, .inr (2, [.null]))]) _
  refine x_aload_n dX3_init_0 rfl ?_
  refine x_objInit dX3_init_1 ml_X3_1 (by decide) (Nat.le_of_ble_eq_true rfl) ?_
  refine x_aload_n dX3_init_4 rfl ?_
  refine x_bipush (v := 17) dX3_init_5 (by decide) ?_
  refine x_newarr (t := 2) (ty := .long) (N' := 17) (a0 := (17, .inr (.inl (fun _ => 0)))) dX3_init_7 (xm (i := 322) (by decide +kernel) (by decide +kernel)) rfl (fun _ => rfl) (fun _ _ h => h) (fun _ => rfl) (by decide) (by decide) (by decide) (by decide) (by decide) (by decide) ?_
  refine V.wr (L' := [(42, _), (43, _)]) rfl ?_
  refine p_X3_7 (fs' := [_]) (L' := [(42, _), (43, _)]) rfl rfl dX3_init_9 (by decide) rfl (fun _ => ⟨rfl, rfl⟩) (Nat.le_of_ble_eq_true rfl) rfl rfl ?_
  exact x_vret dX3_init_12 ⟨rfl, rfl, rfl⟩
set_option maxRecDepth 100000 in
set_option maxHeartbeats 1000000 in
theorem k_X11_init_0 (s0 : XW) (n : Nat) (u : (Int32) × (Int32) × (Nat → Int32)) (hu : l_X1_init_35 n (fun _ => 0) n 1 39 (fun _ => 0) = some u) : Ct yX11_init cX11_init 1 none 3 1 (43, 14438) [.ref 0] (xof s0 [(0, .inr (10, [.null, .null, .null, .null, .null, .null, .null, .null, .null, .null, .null, .null]))]) (xq 44 none (xof s0 [W_0, W_1 ((xsf 2)), W_2 (fun _ => 0), W_3 (((fun _ => 0))), W_4 (fun _ => 0), W_7 (((fun _ => 0))), W_6 (((fun _ => 0))), W_5 0, W_8, W_15 (((fun _ => 0))), W_14 ((((fun _ => 0)))), W_13 (upd (fun _ => 0) 0 32), W_12 ((((fun _ => 0)))), W_11 (upd (fun _ => 0) 0 24), W_10 ((((fun _ => 0)))), W_9 (upd (fun _ => 0) 0 12), W_16 (fun _ => 0), W_20 (((fun _ => 0))), W_19 0, W_18 (fun _ => 0) 0, W_17 (((fun _ => 0))), W_21 (fun _ => 0), W_22 ((xsf 2)), W_26 (((fun _ => 0))), W_25 0, W_24 (fun _ => 0) 0, W_23 (((fun _ => 0))), W_27 (fun _ => 0), W_28 ((xsf 2)), W_32 (((fun _ => 0))), W_31 0, W_30 (fun _ => 0) 0, W_29 (((fun _ => 0))), W_33 (fun _ => 0) 0, W_34 ((fun _ => 0)), W_35, W_37 (((fun _ => 0))), W_36 u.2.2, W_38 (fun _ => 0), W_41 (((fun _ => 0))), W_40 (((fun _ => 0))), W_39 (((fun _ => 0))), W_42, W_43 (((fun _ => 0)))])) := by
  show V yX11_init cX11_init none 3 1 (43, 14438) 0 [some (.ref 0)] [] (xof s0 [(0, .inr (10, [.null, .null, .null, .null, .null, .null, .null, .null, .null, .null, .null, .null]))]) _
  refine x_aload_n dX11_init_0 rfl ?_
  refine x_objInit dX11_init_1 ml_X11_3 (by decide) (Nat.le_of_ble_eq_true rfl) ?_
  refine x_aload_n dX11_init_4 rfl ?_
  refine x_gets 2 dX11_init_5 (by decide) fl_X11_9 ?_
  refine x_clone 2 dX11_init_8 (by decide) ml_X11_13 (by decide) (by decide) (by decide) (by decide) (Nat.le_of_ble_eq_true rfl) ?_
  refine V.wr (L' := [(0, _), (1, _)]) rfl ?_
  refine x_castA dX11_init_11 cl_X11_14 (by decide) rfl ?_
  refine p_X11_18 (fs' := [_, _, _, _, _, _, _, _, _, _, _, _]) (L' := [(0, _), (1, _)]) rfl rfl dX11_init_14 (by decide) rfl (fun _ => ⟨rfl, rfl⟩) (Nat.le_of_ble_eq_true rfl) rfl rfl ?_
  refine x_aload_n dX11_init_17 rfl ?_
  refine x_new (fs := [.null, .int 0, .int 0]) tyX4 dX11_init_18 cl_X11_21 (xm (i := 92) (by decide +kernel) (by decide +kernel)) (xm (i := 57) (by decide +kernel) (by decide +kernel)) inX4 tyX4_ok (rfl : vwCl[3]? = _) (by decide +kernel) (fun _ => rfl) (by decide) (by decide) (by decide) ?_
  refine V.wr (L' := [(0, _), (1, _), (2, _)]) rfl ?_
  refine x_dup dX11_init_21 rfl ?_
  refine x_callIL (L' := [(0, _), (1, _), (2, _), (3, _)]) dX11_init_22 mi_X4_init ml_X11_23 im_X4_init rfl (fun s1 => k_X4_init_2 s1) (Nat.le_of_ble_eq_true rfl) rfl (Nat.le_of_ble_eq_true rfl) ⟨Nat.le_of_ble_eq_true rfl, Nat.le_of_ble_eq_true rfl⟩ (Nat.le_of_ble_eq_true rfl) rfl rfl rfl rfl ?_
  refine p_X11_24 (fs' := [_, _, _, _, _, _, _, _, _, _, _, _]) (L' := [(0, _), (1, _), (2, _), (3, _)]) rfl rfl dX11_init_25 (by decide) rfl (fun _ => ⟨rfl, rfl⟩) (Nat.le_of_ble_eq_true rfl) rfl rfl ?_
  refine x_aload_n dX11_init_28 rfl ?_
  refine x_new (fs := [.null, .null, .null, .int 0]) tyX8 dX11_init_29 cl_X11_28 (xm (i := 112) (by decide +kernel) (by decide +kernel)) (xm (i := 58) (by decide +kernel) (by decide +kernel)) inX8 tyX8_ok (rfl : vwCl[7]? = _) (by decide +kernel) (fun _ => rfl) (by decide) (by decide) (by decide) ?_
  refine V.wr (L' := [(0, _), (1, _), (2, _), (3, _), (4, _)]) rfl ?_
  refine x_dup dX11_init_32 rfl ?_
  refine x_callIL (L' := [(0, _), (1, _), (2, _), (3, _), (4, _), (7, _), (6, _), (5, _)]) dX11_init_33 mi_X8_init ml_X11_30 im_X8_init rfl (fun s1 => k_X8_init_4 s1) (Nat.le_of_ble_eq_true rfl) rfl (Nat.le_of_ble_eq_true rfl) ⟨Nat.le_of_ble_eq_true rfl, Nat.le_of_ble_eq_true rfl⟩ (Nat.le_of_ble_eq_true rfl) rfl rfl rfl rfl ?_
  refine p_X11_31 (fs' := [_, _, _, _, _, _, _, _, _, _, _, _]) (L' := [(0, _), (1, _), (2, _), (3, _), (4, _), (7, _), (6, _), (5, _)]) rfl rfl dX11_init_36 (by decide) rfl (fun _ => ⟨rfl, rfl⟩) (Nat.le_of_ble_eq_true rfl) rfl rfl ?_
  refine x_aload_n dX11_init_39 rfl ?_
  refine x_new (fs := [.null, .null, .null, .null]) tyX5 dX11_init_40 cl_X11_35 (xm (i := 143) (by decide +kernel) (by decide +kernel)) (xm (i := 60) (by decide +kernel) (by decide +kernel)) inX5 tyX5_ok (rfl : vwCl[4]? = _) (by decide +kernel) (fun _ => rfl) (by decide) (by decide) (by decide) ?_
  refine V.wr (L' := [(0, _), (1, _), (2, _), (3, _), (4, _), (7, _), (6, _), (5, _), (8, _)]) rfl ?_
  refine x_dup dX11_init_43 rfl ?_
  refine x_callIL (L' := [(0, _), (1, _), (2, _), (3, _), (4, _), (7, _), (6, _), (5, _), (8, _), (15, _), (14, _), (13, _), (12, _), (11, _), (10, _), (9, _)]) dX11_init_44 mi_X5_init ml_X11_37 im_X5_init rfl (fun s1 => k_X5_init_8 s1) (Nat.le_of_ble_eq_true rfl) rfl (Nat.le_of_ble_eq_true rfl) ⟨Nat.le_of_ble_eq_true rfl, Nat.le_of_ble_eq_true rfl⟩ (Nat.le_of_ble_eq_true rfl) rfl rfl rfl rfl ?_
  refine p_X11_38 (fs' := [_, _, _, _, _, _, _, _, _, _, _, _]) (L' := [(0, _), (1, _), (2, _), (3, _), (4, _), (7, _), (6, _), (5, _), (8, _), (15, _), (14, _), (13, _), (12, _), (11, _), (10, _), (9, _)]) rfl rfl dX11_init_47 (by decide) rfl (fun _ => ⟨rfl, rfl⟩) (Nat.le_of_ble_eq_true rfl) rfl rfl ?_
  refine x_aload_n dX11_init_50 rfl ?_
  refine x_new (fs := [.null, .null, .null, .null, .null, .null, .null, .int 0, .int 0, .int 0, .int 0, .int 0, .int 0, .int 0, .int 0, .int 0, .int 0, .int 0, .int 0]) tyX6 dX11_init_51 cl_X11_42 (xm (i := 192) (by decide +kernel) (by decide +kernel)) (xm (i := 63) (by decide +kernel) (by decide +kernel)) inX6 tyX6_ok (rfl : vwCl[5]? = _) (by decide +kernel) (fun _ => rfl) (by decide) (by decide) (by decide) ?_
  refine V.wr (L' := [(0, _), (1, _), (2, _), (3, _), (4, _), (7, _), (6, _), (5, _), (8, _), (15, _), (14, _), (13, _), (12, _), (11, _), (10, _), (9, _), (16, _)]) rfl ?_
  refine x_dup dX11_init_54 rfl ?_
  refine x_aload_n dX11_init_55 rfl ?_
  refine g_X11_18 rfl dX11_init_56 (by decide) rfl rfl ?_
  refine x_aload_n dX11_init_59 rfl ?_
  refine g_X11_31 rfl dX11_init_60 (by decide) rfl rfl ?_
  refine x_aload_n dX11_init_63 rfl ?_
  refine g_X11_38 rfl dX11_init_64 (by decide) rfl rfl ?_
  refine x_callIL (L' := [(0, _), (1, _), (2, _), (3, _), (4, _), (7, _), (6, _), (5, _), (8, _), (15, _), (14, _), (13, _), (12, _), (11, _), (10, _), (9, _), (16, _), (20, _), (19, _), (18, _), (17, _)]) dX11_init_67 mi_X6_init ml_X11_44 im_X6_init rfl (fun s1 => k_X6_init_16_1_4_8 s1) (Nat.le_of_ble_eq_true rfl) rfl (Nat.le_of_ble_eq_true rfl) ⟨Nat.le_of_ble_eq_true rfl, Nat.le_of_ble_eq_true rfl⟩ (Nat.le_of_ble_eq_true rfl) rfl rfl rfl rfl ?_
  refine p_X11_47 (fs' := [_, _, _, _, _, _, _, _, _, _, _, _]) (L' := [(0, _), (1, _), (2, _), (3, _), (4, _), (7, _), (6, _), (5, _), (8, _), (15, _), (14, _), (13, _), (12, _), (11, _), (10, _), (9, _), (16, _), (20, _), (19, _), (18, _), (17, _)]) rfl rfl dX11_init_70 (by decide) rfl (fun _ => ⟨rfl, rfl⟩) (Nat.le_of_ble_eq_true rfl) rfl rfl ?_
  refine x_aload_n dX11_init_73 rfl ?_
  refine x_new (fs := [.null, .null, .null, .null, .null, .null, .null, .int 0, .int 0, .int 0, .int 0, .int 0, .int 0, .int 0, .int 0, .int 0, .int 0, .int 0, .int 0]) tyX6 dX11_init_74 cl_X11_42 (xm (i := 192) (by decide +kernel) (by decide +kernel)) (xm (i := 63) (by decide +kernel) (by decide +kernel)) inX6 tyX6_ok (rfl : vwCl[5]? = _) (by decide +kernel) (fun _ => rfl) (by decide) (by decide) (by decide) ?_
  refine V.wr (L' := [(0, _), (1, _), (2, _), (3, _), (4, _), (7, _), (6, _), (5, _), (8, _), (15, _), (14, _), (13, _), (12, _), (11, _), (10, _), (9, _), (16, _), (20, _), (19, _), (18, _), (17, _), (21, _)]) rfl ?_
  refine x_dup dX11_init_77 rfl ?_
  refine x_gets 2 dX11_init_78 (by decide) fl_X11_9 ?_
  refine x_clone 2 dX11_init_81 (by decide) ml_X11_13 (by decide) (by decide) (by decide) (by decide) (Nat.le_of_ble_eq_true rfl) ?_
  refine V.wr (L' := [(0, _), (1, _), (2, _), (3, _), (4, _), (7, _), (6, _), (5, _), (8, _), (15, _), (14, _), (13, _), (12, _), (11, _), (10, _), (9, _), (16, _), (20, _), (19, _), (18, _), (17, _), (21, _), (22, _)]) rfl ?_
  refine x_castA dX11_init_84 cl_X11_14 (by decide) rfl ?_
  refine x_aload_n dX11_init_87 rfl ?_
  refine g_X11_31 rfl dX11_init_88 (by decide) rfl rfl ?_
  refine x_null dX11_init_91 ?_
  refine x_callIL (L' := [(0, _), (1, _), (2, _), (3, _), (4, _), (7, _), (6, _), (5, _), (8, _), (15, _), (14, _), (13, _), (12, _), (11, _), (10, _), (9, _), (16, _), (20, _), (19, _), (18, _), (17, _), (21, _), (22, _), (26, _), (25, _), (24, _), (23, _)]) dX11_init_92 mi_X6_init ml_X11_44 im_X6_init rfl (fun s1 => k_X6_init_21_22_4 s1) (Nat.le_of_ble_eq_true rfl) rfl (Nat.le_of_ble_eq_true rfl) ⟨Nat.le_of_ble_eq_true rfl, Nat.le_of_ble_eq_true rfl⟩ (Nat.le_of_ble_eq_true rfl) rfl rfl rfl rfl ?_
  refine p_X11_51 (fs' := [_, _, _, _, _, _, _, _, _, _, _, _]) (L' := [(0, _), (1, _), (2, _), (3, _), (4, _), (7, _), (6, _), (5, _), (8, _), (15, _), (14, _), (13, _), (12, _), (11, _), (10, _), (9, _), (16, _), (20, _), (19, _), (18, _), (17, _), (21, _), (22, _), (26, _), (25, _), (24, _), (23, _)]) rfl rfl dX11_init_95 (by decide) rfl (fun _ => ⟨rfl, rfl⟩) (Nat.le_of_ble_eq_true rfl) rfl rfl ?_
  refine x_aload_n dX11_init_98 rfl ?_
  refine x_new (fs := [.null, .null, .null, .null, .null, .null, .null, .int 0, .int 0, .int 0, .int 0, .int 0, .int 0, .int 0, .int 0, .int 0, .int 0, .int 0, .int 0]) tyX6 dX11_init_99 cl_X11_42 (xm (i := 192) (by decide +kernel) (by decide +kernel)) (xm (i := 63) (by decide +kernel) (by decide +kernel)) inX6 tyX6_ok (rfl : vwCl[5]? = _) (by decide +kernel) (fun _ => rfl) (by decide) (by decide) (by decide) ?_
  refine V.wr (L' := [(0, _), (1, _), (2, _), (3, _), (4, _), (7, _), (6, _), (5, _), (8, _), (15, _), (14, _), (13, _), (12, _), (11, _), (10, _), (9, _), (16, _), (20, _), (19, _), (18, _), (17, _), (21, _), (22, _), (26, _), (25, _), (24, _), (23, _), (27, _)]) rfl ?_
  refine x_dup dX11_init_102 rfl ?_
  refine x_gets 2 dX11_init_103 (by decide) fl_X11_9 ?_
  refine x_clone 2 dX11_init_106 (by decide) ml_X11_13 (by decide) (by decide) (by decide) (by decide) (Nat.le_of_ble_eq_true rfl) ?_
  refine V.wr (L' := [(0, _), (1, _), (2, _), (3, _), (4, _), (7, _), (6, _), (5, _), (8, _), (15, _), (14, _), (13, _), (12, _), (11, _), (10, _), (9, _), (16, _), (20, _), (19, _), (18, _), (17, _), (21, _), (22, _), (26, _), (25, _), (24, _), (23, _), (27, _), (28, _)]) rfl ?_
  refine x_castA dX11_init_109 cl_X11_14 (by decide) rfl ?_
  refine x_aload_n dX11_init_112 rfl ?_
  refine g_X11_31 rfl dX11_init_113 (by decide) rfl rfl ?_
  refine x_null dX11_init_116 ?_
  refine x_callIL (L' := [(0, _), (1, _), (2, _), (3, _), (4, _), (7, _), (6, _), (5, _), (8, _), (15, _), (14, _), (13, _), (12, _), (11, _), (10, _), (9, _), (16, _), (20, _), (19, _), (18, _), (17, _), (21, _), (22, _), (26, _), (25, _), (24, _), (23, _), (27, _), (28, _), (32, _), (31, _), (30, _), (29, _)]) dX11_init_117 mi_X6_init ml_X11_44 im_X6_init rfl (fun s1 => k_X6_init_27_28_4 s1) (Nat.le_of_ble_eq_true rfl) rfl (Nat.le_of_ble_eq_true rfl) ⟨Nat.le_of_ble_eq_true rfl, Nat.le_of_ble_eq_true rfl⟩ (Nat.le_of_ble_eq_true rfl) rfl rfl rfl rfl ?_
  refine p_X11_54 (fs' := [_, _, _, _, _, _, _, _, _, _, _, _]) (L' := [(0, _), (1, _), (2, _), (3, _), (4, _), (7, _), (6, _), (5, _), (8, _), (15, _), (14, _), (13, _), (12, _), (11, _), (10, _), (9, _), (16, _), (20, _), (19, _), (18, _), (17, _), (21, _), (22, _), (26, _), (25, _), (24, _), (23, _), (27, _), (28, _), (32, _), (31, _), (30, _), (29, _)]) rfl rfl dX11_init_120 (by decide) rfl (fun _ => ⟨rfl, rfl⟩) (Nat.le_of_ble_eq_true rfl) rfl rfl ?_
  refine x_aload_n dX11_init_123 rfl ?_
  refine x_new (fs := [.long 0, .int 0, .int 0]) tyX10 dX11_init_124 cl_X11_57 (xm (i := 198) (by decide +kernel) (by decide +kernel)) (xm (i := 64) (by decide +kernel) (by decide +kernel)) inX10 tyX10_ok (rfl : vwCl[9]? = _) (by decide +kernel) (fun _ => rfl) (by decide) (by decide) (by decide) ?_
  refine V.wr (L' := [(0, _), (1, _), (2, _), (3, _), (4, _), (7, _), (6, _), (5, _), (8, _), (15, _), (14, _), (13, _), (12, _), (11, _), (10, _), (9, _), (16, _), (20, _), (19, _), (18, _), (17, _), (21, _), (22, _), (26, _), (25, _), (24, _), (23, _), (27, _), (28, _), (32, _), (31, _), (30, _), (29, _), (33, _)]) rfl ?_
  refine x_dup dX11_init_127 rfl ?_
  refine x_callIL (L' := [(0, _), (1, _), (2, _), (3, _), (4, _), (7, _), (6, _), (5, _), (8, _), (15, _), (14, _), (13, _), (12, _), (11, _), (10, _), (9, _), (16, _), (20, _), (19, _), (18, _), (17, _), (21, _), (22, _), (26, _), (25, _), (24, _), (23, _), (27, _), (28, _), (32, _), (31, _), (30, _), (29, _), (33, _)]) dX11_init_128 mi_X10_init ml_X11_59 im_X10_init rfl (fun s1 => k_X10_init_33 s1) (Nat.le_of_ble_eq_true rfl) rfl (Nat.le_of_ble_eq_true rfl) ⟨Nat.le_of_ble_eq_true rfl, Nat.le_of_ble_eq_true rfl⟩ (Nat.le_of_ble_eq_true rfl) rfl rfl rfl rfl ?_
  refine p_X11_60 (fs' := [_, _, _, _, _, _, _, _, _, _, _, _]) (L' := [(0, _), (1, _), (2, _), (3, _), (4, _), (7, _), (6, _), (5, _), (8, _), (15, _), (14, _), (13, _), (12, _), (11, _), (10, _), (9, _), (16, _), (20, _), (19, _), (18, _), (17, _), (21, _), (22, _), (26, _), (25, _), (24, _), (23, _), (27, _), (28, _), (32, _), (31, _), (30, _), (29, _), (33, _)]) rfl rfl dX11_init_131 (by decide) rfl (fun _ => ⟨rfl, rfl⟩) (Nat.le_of_ble_eq_true rfl) rfl rfl ?_
  refine x_aload_n dX11_init_134 rfl ?_
  refine x_sipush (v := 424) dX11_init_135 (by decide) ?_
  refine x_newarr (t := 0) (ty := .int) (N' := 424) (a0 := (424, .inl (fun _ => 0))) dX11_init_138 (xm (i := 109) (by decide +kernel) (by decide +kernel)) rfl (fun _ => rfl) (fun _ _ h => h) (fun _ => rfl) (by decide) (by decide) (by decide) (by decide) (by decide) (by decide) ?_
  refine V.wr (L' := [(0, _), (1, _), (2, _), (3, _), (4, _), (7, _), (6, _), (5, _), (8, _), (15, _), (14, _), (13, _), (12, _), (11, _), (10, _), (9, _), (16, _), (20, _), (19, _), (18, _), (17, _), (21, _), (22, _), (26, _), (25, _), (24, _), (23, _), (27, _), (28, _), (32, _), (31, _), (30, _), (29, _), (33, _), (34, _)]) rfl ?_
  refine p_X11_64 (fs' := [_, _, _, _, _, _, _, _, _, _, _, _]) (L' := [(0, _), (1, _), (2, _), (3, _), (4, _), (7, _), (6, _), (5, _), (8, _), (15, _), (14, _), (13, _), (12, _), (11, _), (10, _), (9, _), (16, _), (20, _), (19, _), (18, _), (17, _), (21, _), (22, _), (26, _), (25, _), (24, _), (23, _), (27, _), (28, _), (32, _), (31, _), (30, _), (29, _), (33, _), (34, _)]) rfl rfl dX11_init_140 (by decide) rfl (fun _ => ⟨rfl, rfl⟩) (Nat.le_of_ble_eq_true rfl) rfl rfl ?_
  refine x_aload_n dX11_init_143 rfl ?_
  refine x_new (fs := [.null, .null]) tyX1 dX11_init_144 cl_X11_67 (xm (i := 288) (by decide +kernel) (by decide +kernel)) (xm (i := 65) (by decide +kernel) (by decide +kernel)) inX1 tyX1_ok (rfl : vwCl[0]? = _) (by decide +kernel) (fun _ => rfl) (by decide) (by decide) (by decide) ?_
  refine V.wr (L' := [(0, _), (1, _), (2, _), (3, _), (4, _), (7, _), (6, _), (5, _), (8, _), (15, _), (14, _), (13, _), (12, _), (11, _), (10, _), (9, _), (16, _), (20, _), (19, _), (18, _), (17, _), (21, _), (22, _), (26, _), (25, _), (24, _), (23, _), (27, _), (28, _), (32, _), (31, _), (30, _), (29, _), (33, _), (34, _), (35, _)]) rfl ?_
  refine x_dup dX11_init_147 rfl ?_
  refine x_callIL (L' := [(0, _), (1, _), (2, _), (3, _), (4, _), (7, _), (6, _), (5, _), (8, _), (15, _), (14, _), (13, _), (12, _), (11, _), (10, _), (9, _), (16, _), (20, _), (19, _), (18, _), (17, _), (21, _), (22, _), (26, _), (25, _), (24, _), (23, _), (27, _), (28, _), (32, _), (31, _), (30, _), (29, _), (33, _), (34, _), (35, _), (37, _), (36, _)]) dX11_init_148 mi_X1_init ml_X11_69 im_X1_init rfl (fun s1 => k_X1_init_35 s1 n u hu) (Nat.le_of_ble_eq_true rfl) rfl (Nat.le_of_ble_eq_true rfl) ⟨Nat.le_of_ble_eq_true rfl, Nat.le_of_ble_eq_true rfl⟩ (Nat.le_of_ble_eq_true rfl) rfl rfl rfl rfl ?_
  refine p_X11_70 (fs' := [_, _, _, _, _, _, _, _, _, _, _, _]) (L' := [(0, _), (1, _), (2, _), (3, _), (4, _), (7, _), (6, _), (5, _), (8, _), (15, _), (14, _), (13, _), (12, _), (11, _), (10, _), (9, _), (16, _), (20, _), (19, _), (18, _), (17, _), (21, _), (22, _), (26, _), (25, _), (24, _), (23, _), (27, _), (28, _), (32, _), (31, _), (30, _), (29, _), (33, _), (34, _), (35, _), (37, _), (36, _)]) rfl rfl dX11_init_151 (by decide) rfl (fun _ => ⟨rfl, rfl⟩) (Nat.le_of_ble_eq_true rfl) rfl rfl ?_
  refine x_aload_n dX11_init_154 rfl ?_
  refine x_new (fs := [.null, .null, .null, .int 0]) tyX9 dX11_init_155 cl_X11_74 (xm (i := 304) (by decide +kernel) (by decide +kernel)) (xm (i := 66) (by decide +kernel) (by decide +kernel)) inX9 tyX9_ok (rfl : vwCl[8]? = _) (by decide +kernel) (fun _ => rfl) (by decide) (by decide) (by decide) ?_
  refine V.wr (L' := [(0, _), (1, _), (2, _), (3, _), (4, _), (7, _), (6, _), (5, _), (8, _), (15, _), (14, _), (13, _), (12, _), (11, _), (10, _), (9, _), (16, _), (20, _), (19, _), (18, _), (17, _), (21, _), (22, _), (26, _), (25, _), (24, _), (23, _), (27, _), (28, _), (32, _), (31, _), (30, _), (29, _), (33, _), (34, _), (35, _), (37, _), (36, _), (38, _)]) rfl ?_
  refine x_dup dX11_init_158 rfl ?_
  refine x_callIL (L' := [(0, _), (1, _), (2, _), (3, _), (4, _), (7, _), (6, _), (5, _), (8, _), (15, _), (14, _), (13, _), (12, _), (11, _), (10, _), (9, _), (16, _), (20, _), (19, _), (18, _), (17, _), (21, _), (22, _), (26, _), (25, _), (24, _), (23, _), (27, _), (28, _), (32, _), (31, _), (30, _), (29, _), (33, _), (34, _), (35, _), (37, _), (36, _), (38, _), (41, _), (40, _), (39, _)]) dX11_init_159 mi_X9_init ml_X11_76 im_X9_init rfl (fun s1 => k_X9_init_38 s1) (Nat.le_of_ble_eq_true rfl) rfl (Nat.le_of_ble_eq_true rfl) ⟨Nat.le_of_ble_eq_true rfl, Nat.le_of_ble_eq_true rfl⟩ (Nat.le_of_ble_eq_true rfl) rfl rfl rfl rfl ?_
  refine p_X11_77 (fs' := [_, _, _, _, _, _, _, _, _, _, _, _]) (L' := [(0, _), (1, _), (2, _), (3, _), (4, _), (7, _), (6, _), (5, _), (8, _), (15, _), (14, _), (13, _), (12, _), (11, _), (10, _), (9, _), (16, _), (20, _), (19, _), (18, _), (17, _), (21, _), (22, _), (26, _), (25, _), (24, _), (23, _), (27, _), (28, _), (32, _), (31, _), (30, _), (29, _), (33, _), (34, _), (35, _), (37, _), (36, _), (38, _), (41, _), (40, _), (39, _)]) rfl rfl dX11_init_162 (by decide) rfl (fun _ => ⟨rfl, rfl⟩) (Nat.le_of_ble_eq_true rfl) rfl rfl ?_
  refine x_aload_n dX11_init_165 rfl ?_
  refine x_new (fs := [.null]) tyX3 dX11_init_166 cl_X11_81 (xm (i := 324) (by decide +kernel) (by decide +kernel)) (xm (i := 67) (by decide +kernel) (by decide +kernel)) inX3 tyX3_ok (rfl : vwCl[2]? = _) (by decide +kernel) (fun _ => rfl) (by decide) (by decide) (by decide) ?_
  refine V.wr (L' := [(0, _), (1, _), (2, _), (3, _), (4, _), (7, _), (6, _), (5, _), (8, _), (15, _), (14, _), (13, _), (12, _), (11, _), (10, _), (9, _), (16, _), (20, _), (19, _), (18, _), (17, _), (21, _), (22, _), (26, _), (25, _), (24, _), (23, _), (27, _), (28, _), (32, _), (31, _), (30, _), (29, _), (33, _), (34, _), (35, _), (37, _), (36, _), (38, _), (41, _), (40, _), (39, _), (42, _)]) rfl ?_
  refine x_dup dX11_init_169 rfl ?_
  refine x_callIL (L' := [(0, _), (1, _), (2, _), (3, _), (4, _), (7, _), (6, _), (5, _), (8, _), (15, _), (14, _), (13, _), (12, _), (11, _), (10, _), (9, _), (16, _), (20, _), (19, _), (18, _), (17, _), (21, _), (22, _), (26, _), (25, _), (24, _), (23, _), (27, _), (28, _), (32, _), (31, _), (30, _), (29, _), (33, _), (34, _), (35, _), (37, _), (36, _), (38, _), (41, _), (40, _), (39, _), (42, _), (43, _)]) dX11_init_170 mi_X3_init ml_X11_83 im_X3_init rfl (fun s1 => k_X3_init_42 s1) (Nat.le_of_ble_eq_true rfl) rfl (Nat.le_of_ble_eq_true rfl) ⟨Nat.le_of_ble_eq_true rfl, Nat.le_of_ble_eq_true rfl⟩ (Nat.le_of_ble_eq_true rfl) rfl rfl rfl rfl ?_
  refine p_X11_84 (fs' := [_, _, _, _, _, _, _, _, _, _, _, _]) (L' := [(0, _), (1, _), (2, _), (3, _), (4, _), (7, _), (6, _), (5, _), (8, _), (15, _), (14, _), (13, _), (12, _), (11, _), (10, _), (9, _), (16, _), (20, _), (19, _), (18, _), (17, _), (21, _), (22, _), (26, _), (25, _), (24, _), (23, _), (27, _), (28, _), (32, _), (31, _), (30, _), (29, _), (33, _), (34, _), (35, _), (37, _), (36, _), (38, _), (41, _), (40, _), (39, _), (42, _), (43, _)]) rfl rfl dX11_init_173 (by decide) rfl (fun _ => ⟨rfl, rfl⟩) (Nat.le_of_ble_eq_true rfl) rfl rfl ?_
  exact x_vret dX11_init_176 ⟨rfl, rfl, rfl⟩
set_option maxRecDepth 100000 in
set_option maxHeartbeats 1000000 in
theorem k_X12_init_44 (s0 : XW) : Ct yX12_init cX12_init 1 none 1 45 (16, 65779) [.ref 44] (xof s0 [(44, .inr (11, [.int 0, .null, .null, .null, .null, .null, .int 0, .int 0, .int 0, .int 0, .null, .null, .null, .null, .null, .int 0, .null, .null, .null, .null, .null, .null]))]) (xq 61 none (xof s0 [W_44 (fun _ => 0), W_45 (upd (upd (upd (upd (upd (upd (upd ((fun _ => 0)) 0 48) 1 7) 2 6) 3 1) 4 800) 5 0) 6 1), W_46 (upd (upd (upd (upd (upd (upd (upd ((fun _ => 0)) 0 4) 1 1) 2 1) 3 0) 4 40) 5 0) 6 1), W_47 (upd (upd (upd (upd (upd (upd (upd ((fun _ => 0)) 0 48) 1 15) 2 15) 3 1) 4 4000) 5 1) 6 8), W_48 ((fun _ => 0)), W_49 ((fun _ => 0)), W_50 ((fun _ => 0)), W_51 ((fun _ => 0)), W_52 ((fun _ => 0)), W_53 ((fun _ => 0)), W_54 ((fun _ => 0)), W_55 ((fun _ => 0)), W_56 ((fun _ => 0)), W_57 ((fun _ => 0)), W_58 ((fun _ => 0)), W_59 ((fun _ => 0)), W_60 ((fun _ => 0))])) := by
  show V yX12_init cX12_init none 1 45 (16, 65779) 0 [some (.ref 44)] [] (xof s0 [(44, .inr (11, [.int 0, .null, .null, .null, .null, .null, .int 0, .int 0, .int 0, .int 0, .null, .null, .null, .null, .null, .int 0, .null, .null, .null, .null, .null, .null]))]) _
  refine x_aload_n dX12_init_0 rfl ?_
  refine x_objInit dX12_init_1 ml_X12_7 (by decide) (Nat.le_of_ble_eq_true rfl) ?_
  refine x_aload_n dX12_init_4 rfl ?_
  refine x_bipush (v := 7) dX12_init_5 (by decide) ?_
  refine x_newarr (t := 0) (ty := .int) (N' := 7) (a0 := (7, .inl (fun _ => 0))) dX12_init_7 (xm (i := 109) (by decide +kernel) (by decide +kernel)) rfl (fun _ => rfl) (fun _ _ h => h) (fun _ => rfl) (by decide) (by decide) (by decide) (by decide) (by decide) (by decide) ?_
  refine V.wr (L' := [(44, _), (45, _)]) rfl ?_
  refine x_dup dX12_init_9 rfl ?_
  refine x_iconst (v := 0) dX12_init_10 (by decide) ?_
  refine x_bipush (v := 48) dX12_init_11 (by decide) ?_
  refine x_iastK (jn := 0) (L' := [(44, _), (45, _)]) dX12_init_13 (by decide) rfl (xin_ok (by decide)) (by decide) rfl ?_
  refine x_dup dX12_init_14 rfl ?_
  refine x_iconst (v := 1) dX12_init_15 (by decide) ?_
  refine x_bipush (v := 7) dX12_init_16 (by decide) ?_
  refine x_iastK (jn := 1) (L' := [(44, _), (45, _)]) dX12_init_18 (by decide) rfl (xin_ok (by decide)) (by decide) rfl ?_
  refine x_dup dX12_init_19 rfl ?_
  refine x_iconst (v := 2) dX12_init_20 (by decide) ?_
  refine x_bipush (v := 6) dX12_init_21 (by decide) ?_
  refine x_iastK (jn := 2) (L' := [(44, _), (45, _)]) dX12_init_23 (by decide) rfl (xin_ok (by decide)) (by decide) rfl ?_
  refine x_dup dX12_init_24 rfl ?_
  refine x_iconst (v := 3) dX12_init_25 (by decide) ?_
  refine x_iconst (v := 1) dX12_init_26 (by decide) ?_
  refine x_iastK (jn := 3) (L' := [(44, _), (45, _)]) dX12_init_27 (by decide) rfl (xin_ok (by decide)) (by decide) rfl ?_
  refine x_dup dX12_init_28 rfl ?_
  refine x_iconst (v := 4) dX12_init_29 (by decide) ?_
  refine x_sipush (v := 800) dX12_init_30 (by decide) ?_
  refine x_iastK (jn := 4) (L' := [(44, _), (45, _)]) dX12_init_33 (by decide) rfl (xin_ok (by decide)) (by decide) rfl ?_
  refine x_dup dX12_init_34 rfl ?_
  refine x_iconst (v := 5) dX12_init_35 (by decide) ?_
  refine x_iconst (v := 0) dX12_init_36 (by decide) ?_
  refine x_iastK (jn := 5) (L' := [(44, _), (45, _)]) dX12_init_37 (by decide) rfl (xin_ok (by decide)) (by decide) rfl ?_
  refine x_dup dX12_init_38 rfl ?_
  refine x_bipush (v := 6) dX12_init_39 (by decide) ?_
  refine x_iconst (v := 1) dX12_init_41 (by decide) ?_
  refine x_iastK (jn := 6) (L' := [(44, _), (45, _)]) dX12_init_42 (by decide) rfl (xin_ok (by decide)) (by decide) rfl ?_
  refine p_X12_13 (fs' := [_, _, _, _, _, _, _, _, _, _, _, _, _, _, _, _, _, _, _, _, _, _]) (L' := [(44, _), (45, _)]) rfl rfl dX12_init_43 (by decide) rfl (fun _ => ⟨rfl, rfl⟩) (Nat.le_of_ble_eq_true rfl) rfl rfl ?_
  refine x_aload_n dX12_init_46 rfl ?_
  refine x_bipush (v := 7) dX12_init_47 (by decide) ?_
  refine x_newarr (t := 0) (ty := .int) (N' := 7) (a0 := (7, .inl (fun _ => 0))) dX12_init_49 (xm (i := 109) (by decide +kernel) (by decide +kernel)) rfl (fun _ => rfl) (fun _ _ h => h) (fun _ => rfl) (by decide) (by decide) (by decide) (by decide) (by decide) (by decide) ?_
  refine V.wr (L' := [(44, _), (45, _), (46, _)]) rfl ?_
  refine x_dup dX12_init_51 rfl ?_
  refine x_iconst (v := 0) dX12_init_52 (by decide) ?_
  refine x_iconst (v := 4) dX12_init_53 (by decide) ?_
  refine x_iastK (jn := 0) (L' := [(44, _), (45, _), (46, _)]) dX12_init_54 (by decide) rfl (xin_ok (by decide)) (by decide) rfl ?_
  refine x_dup dX12_init_55 rfl ?_
  refine x_iconst (v := 1) dX12_init_56 (by decide) ?_
  refine x_iconst (v := 1) dX12_init_57 (by decide) ?_
  refine x_iastK (jn := 1) (L' := [(44, _), (45, _), (46, _)]) dX12_init_58 (by decide) rfl (xin_ok (by decide)) (by decide) rfl ?_
  refine x_dup dX12_init_59 rfl ?_
  refine x_iconst (v := 2) dX12_init_60 (by decide) ?_
  refine x_iconst (v := 1) dX12_init_61 (by decide) ?_
  refine x_iastK (jn := 2) (L' := [(44, _), (45, _), (46, _)]) dX12_init_62 (by decide) rfl (xin_ok (by decide)) (by decide) rfl ?_
  refine x_dup dX12_init_63 rfl ?_
  refine x_iconst (v := 3) dX12_init_64 (by decide) ?_
  refine x_iconst (v := 0) dX12_init_65 (by decide) ?_
  refine x_iastK (jn := 3) (L' := [(44, _), (45, _), (46, _)]) dX12_init_66 (by decide) rfl (xin_ok (by decide)) (by decide) rfl ?_
  refine x_dup dX12_init_67 rfl ?_
  refine x_iconst (v := 4) dX12_init_68 (by decide) ?_
  refine x_bipush (v := 40) dX12_init_69 (by decide) ?_
  refine x_iastK (jn := 4) (L' := [(44, _), (45, _), (46, _)]) dX12_init_71 (by decide) rfl (xin_ok (by decide)) (by decide) rfl ?_
  refine x_dup dX12_init_72 rfl ?_
  refine x_iconst (v := 5) dX12_init_73 (by decide) ?_
  refine x_iconst (v := 0) dX12_init_74 (by decide) ?_
  refine x_iastK (jn := 5) (L' := [(44, _), (45, _), (46, _)]) dX12_init_75 (by decide) rfl (xin_ok (by decide)) (by decide) rfl ?_
  refine x_dup dX12_init_76 rfl ?_
  refine x_bipush (v := 6) dX12_init_77 (by decide) ?_
  refine x_iconst (v := 1) dX12_init_79 (by decide) ?_
  refine x_iastK (jn := 6) (L' := [(44, _), (45, _), (46, _)]) dX12_init_80 (by decide) rfl (xin_ok (by decide)) (by decide) rfl ?_
  refine p_X12_17 (fs' := [_, _, _, _, _, _, _, _, _, _, _, _, _, _, _, _, _, _, _, _, _, _]) (L' := [(44, _), (45, _), (46, _)]) rfl rfl dX12_init_81 (by decide) rfl (fun _ => ⟨rfl, rfl⟩) (Nat.le_of_ble_eq_true rfl) rfl rfl ?_
  refine x_aload_n dX12_init_84 rfl ?_
  refine x_bipush (v := 7) dX12_init_85 (by decide) ?_
  refine x_newarr (t := 0) (ty := .int) (N' := 7) (a0 := (7, .inl (fun _ => 0))) dX12_init_87 (xm (i := 109) (by decide +kernel) (by decide +kernel)) rfl (fun _ => rfl) (fun _ _ h => h) (fun _ => rfl) (by decide) (by decide) (by decide) (by decide) (by decide) (by decide) ?_
  refine V.wr (L' := [(44, _), (45, _), (46, _), (47, _)]) rfl ?_
  refine x_dup dX12_init_89 rfl ?_
  refine x_iconst (v := 0) dX12_init_90 (by decide) ?_
  refine x_bipush (v := 48) dX12_init_91 (by decide) ?_
  refine x_iastK (jn := 0) (L' := [(44, _), (45, _), (46, _), (47, _)]) dX12_init_93 (by decide) rfl (xin_ok (by decide)) (by decide) rfl ?_
  refine x_dup dX12_init_94 rfl ?_
  refine x_iconst (v := 1) dX12_init_95 (by decide) ?_
  refine x_bipush (v := 15) dX12_init_96 (by decide) ?_
  refine x_iastK (jn := 1) (L' := [(44, _), (45, _), (46, _), (47, _)]) dX12_init_98 (by decide) rfl (xin_ok (by decide)) (by decide) rfl ?_
  refine x_dup dX12_init_99 rfl ?_
  refine x_iconst (v := 2) dX12_init_100 (by decide) ?_
  refine x_bipush (v := 15) dX12_init_101 (by decide) ?_
  refine x_iastK (jn := 2) (L' := [(44, _), (45, _), (46, _), (47, _)]) dX12_init_103 (by decide) rfl (xin_ok (by decide)) (by decide) rfl ?_
  refine x_dup dX12_init_104 rfl ?_
  refine x_iconst (v := 3) dX12_init_105 (by decide) ?_
  refine x_iconst (v := 1) dX12_init_106 (by decide) ?_
  refine x_iastK (jn := 3) (L' := [(44, _), (45, _), (46, _), (47, _)]) dX12_init_107 (by decide) rfl (xin_ok (by decide)) (by decide) rfl ?_
  refine x_dup dX12_init_108 rfl ?_
  refine x_iconst (v := 4) dX12_init_109 (by decide) ?_
  refine x_sipush (v := 4000) dX12_init_110 (by decide) ?_
  refine x_iastK (jn := 4) (L' := [(44, _), (45, _), (46, _), (47, _)]) dX12_init_113 (by decide) rfl (xin_ok (by decide)) (by decide) rfl ?_
  refine x_dup dX12_init_114 rfl ?_
  refine x_iconst (v := 5) dX12_init_115 (by decide) ?_
  refine x_iconst (v := 1) dX12_init_116 (by decide) ?_
  refine x_iastK (jn := 5) (L' := [(44, _), (45, _), (46, _), (47, _)]) dX12_init_117 (by decide) rfl (xin_ok (by decide)) (by decide) rfl ?_
  refine x_dup dX12_init_118 rfl ?_
  refine x_bipush (v := 6) dX12_init_119 (by decide) ?_
  refine x_bipush (v := 8) dX12_init_121 (by decide) ?_
  refine x_iastK (jn := 6) (L' := [(44, _), (45, _), (46, _), (47, _)]) dX12_init_123 (by decide) rfl (xin_ok (by decide)) (by decide) rfl ?_
  refine p_X12_20 (fs' := [_, _, _, _, _, _, _, _, _, _, _, _, _, _, _, _, _, _, _, _, _, _]) (L' := [(44, _), (45, _), (46, _), (47, _)]) rfl rfl dX12_init_124 (by decide) rfl (fun _ => ⟨rfl, rfl⟩) (Nat.le_of_ble_eq_true rfl) rfl rfl ?_
  refine x_aload_n dX12_init_127 rfl ?_
  refine x_sipush (v := 9600) dX12_init_128 (by decide) ?_
  refine x_newarr (t := 0) (ty := .int) (N' := 9600) (a0 := (9600, .inl (fun _ => 0))) dX12_init_131 (xm (i := 109) (by decide +kernel) (by decide +kernel)) rfl (fun _ => rfl) (fun _ _ h => h) (fun _ => rfl) (by decide) (by decide) (by decide) (by decide) (by decide) (by decide) ?_
  refine V.wr (L' := [(44, _), (45, _), (46, _), (47, _), (48, _)]) rfl ?_
  refine p_X12_23 (fs' := [_, _, _, _, _, _, _, _, _, _, _, _, _, _, _, _, _, _, _, _, _, _]) (L' := [(44, _), (45, _), (46, _), (47, _), (48, _)]) rfl rfl dX12_init_133 (by decide) rfl (fun _ => ⟨rfl, rfl⟩) (Nat.le_of_ble_eq_true rfl) rfl rfl ?_
  refine x_aload_n dX12_init_136 rfl ?_
  refine x_sipush (v := 3200) dX12_init_137 (by decide) ?_
  refine x_newarr (t := 0) (ty := .int) (N' := 3200) (a0 := (3200, .inl (fun _ => 0))) dX12_init_140 (xm (i := 109) (by decide +kernel) (by decide +kernel)) rfl (fun _ => rfl) (fun _ _ h => h) (fun _ => rfl) (by decide) (by decide) (by decide) (by decide) (by decide) (by decide) ?_
  refine V.wr (L' := [(44, _), (45, _), (46, _), (47, _), (48, _), (49, _)]) rfl ?_
  refine p_X12_26 (fs' := [_, _, _, _, _, _, _, _, _, _, _, _, _, _, _, _, _, _, _, _, _, _]) (L' := [(44, _), (45, _), (46, _), (47, _), (48, _), (49, _)]) rfl rfl dX12_init_142 (by decide) rfl (fun _ => ⟨rfl, rfl⟩) (Nat.le_of_ble_eq_true rfl) rfl rfl ?_
  refine x_aload_n dX12_init_145 rfl ?_
  refine x_sipush (v := 10496) dX12_init_146 (by decide) ?_
  refine x_newarr (t := 0) (ty := .int) (N' := 10496) (a0 := (10496, .inl (fun _ => 0))) dX12_init_149 (xm (i := 109) (by decide +kernel) (by decide +kernel)) rfl (fun _ => rfl) (fun _ _ h => h) (fun _ => rfl) (by decide) (by decide) (by decide) (by decide) (by decide) (by decide) ?_
  refine V.wr (L' := [(44, _), (45, _), (46, _), (47, _), (48, _), (49, _), (50, _)]) rfl ?_
  refine p_X12_29 (fs' := [_, _, _, _, _, _, _, _, _, _, _, _, _, _, _, _, _, _, _, _, _, _]) (L' := [(44, _), (45, _), (46, _), (47, _), (48, _), (49, _), (50, _)]) rfl rfl dX12_init_151 (by decide) rfl (fun _ => ⟨rfl, rfl⟩) (Nat.le_of_ble_eq_true rfl) rfl rfl ?_
  refine x_aload_n dX12_init_154 rfl ?_
  refine x_sipush (v := 875) dX12_init_155 (by decide) ?_
  refine x_newarr (t := 0) (ty := .int) (N' := 875) (a0 := (875, .inl (fun _ => 0))) dX12_init_158 (xm (i := 109) (by decide +kernel) (by decide +kernel)) rfl (fun _ => rfl) (fun _ _ h => h) (fun _ => rfl) (by decide) (by decide) (by decide) (by decide) (by decide) (by decide) ?_
  refine V.wr (L' := [(44, _), (45, _), (46, _), (47, _), (48, _), (49, _), (50, _), (51, _)]) rfl ?_
  refine p_X12_32 (fs' := [_, _, _, _, _, _, _, _, _, _, _, _, _, _, _, _, _, _, _, _, _, _]) (L' := [(44, _), (45, _), (46, _), (47, _), (48, _), (49, _), (50, _), (51, _)]) rfl rfl dX12_init_160 (by decide) rfl (fun _ => ⟨rfl, rfl⟩) (Nat.le_of_ble_eq_true rfl) rfl rfl ?_
  refine x_aload_n dX12_init_163 rfl ?_
  refine x_sipush (v := 875) dX12_init_164 (by decide) ?_
  refine x_newarr (t := 0) (ty := .int) (N' := 875) (a0 := (875, .inl (fun _ => 0))) dX12_init_167 (xm (i := 109) (by decide +kernel) (by decide +kernel)) rfl (fun _ => rfl) (fun _ _ h => h) (fun _ => rfl) (by decide) (by decide) (by decide) (by decide) (by decide) (by decide) ?_
  refine V.wr (L' := [(44, _), (45, _), (46, _), (47, _), (48, _), (49, _), (50, _), (51, _), (52, _)]) rfl ?_
  refine p_X12_35 (fs' := [_, _, _, _, _, _, _, _, _, _, _, _, _, _, _, _, _, _, _, _, _, _]) (L' := [(44, _), (45, _), (46, _), (47, _), (48, _), (49, _), (50, _), (51, _), (52, _)]) rfl rfl dX12_init_169 (by decide) rfl (fun _ => ⟨rfl, rfl⟩) (Nat.le_of_ble_eq_true rfl) rfl rfl ?_
  refine x_aload_n dX12_init_172 rfl ?_
  refine x_sipush (v := 9600) dX12_init_173 (by decide) ?_
  refine x_newarr (t := 0) (ty := .int) (N' := 9600) (a0 := (9600, .inl (fun _ => 0))) dX12_init_176 (xm (i := 109) (by decide +kernel) (by decide +kernel)) rfl (fun _ => rfl) (fun _ _ h => h) (fun _ => rfl) (by decide) (by decide) (by decide) (by decide) (by decide) (by decide) ?_
  refine V.wr (L' := [(44, _), (45, _), (46, _), (47, _), (48, _), (49, _), (50, _), (51, _), (52, _), (53, _)]) rfl ?_
  refine p_X12_38 (fs' := [_, _, _, _, _, _, _, _, _, _, _, _, _, _, _, _, _, _, _, _, _, _]) (L' := [(44, _), (45, _), (46, _), (47, _), (48, _), (49, _), (50, _), (51, _), (52, _), (53, _)]) rfl rfl dX12_init_178 (by decide) rfl (fun _ => ⟨rfl, rfl⟩) (Nat.le_of_ble_eq_true rfl) rfl rfl ?_
  refine x_aload_n dX12_init_181 rfl ?_
  refine x_sipush (v := 9600) dX12_init_182 (by decide) ?_
  refine x_newarr (t := 0) (ty := .int) (N' := 9600) (a0 := (9600, .inl (fun _ => 0))) dX12_init_185 (xm (i := 109) (by decide +kernel) (by decide +kernel)) rfl (fun _ => rfl) (fun _ _ h => h) (fun _ => rfl) (by decide) (by decide) (by decide) (by decide) (by decide) (by decide) ?_
  refine V.wr (L' := [(44, _), (45, _), (46, _), (47, _), (48, _), (49, _), (50, _), (51, _), (52, _), (53, _), (54, _)]) rfl ?_
  refine p_X12_41 (fs' := [_, _, _, _, _, _, _, _, _, _, _, _, _, _, _, _, _, _, _, _, _, _]) (L' := [(44, _), (45, _), (46, _), (47, _), (48, _), (49, _), (50, _), (51, _), (52, _), (53, _), (54, _)]) rfl rfl dX12_init_187 (by decide) rfl (fun _ => ⟨rfl, rfl⟩) (Nat.le_of_ble_eq_true rfl) rfl rfl ?_
  refine x_aload_n dX12_init_190 rfl ?_
  refine x_bipush (v := 64) dX12_init_191 (by decide) ?_
  refine x_newarr (t := 3) (ty := .boolean) (N' := 64) (a0 := (64, .inl (fun _ => 0))) dX12_init_193 (xm (i := 1056) (by decide +kernel) (by decide +kernel)) rfl (fun _ => rfl) (fun _ _ h => h) (fun _ => rfl) (by decide) (by decide) (by decide) (by decide) (by decide) (by decide) ?_
  refine V.wr (L' := [(44, _), (45, _), (46, _), (47, _), (48, _), (49, _), (50, _), (51, _), (52, _), (53, _), (54, _), (55, _)]) rfl ?_
  refine p_X12_44 (fs' := [_, _, _, _, _, _, _, _, _, _, _, _, _, _, _, _, _, _, _, _, _, _]) (L' := [(44, _), (45, _), (46, _), (47, _), (48, _), (49, _), (50, _), (51, _), (52, _), (53, _), (54, _), (55, _)]) rfl rfl dX12_init_195 (by decide) rfl (fun _ => ⟨rfl, rfl⟩) (Nat.le_of_ble_eq_true rfl) rfl rfl ?_
  refine x_aload_n dX12_init_198 rfl ?_
  refine x_sipush (v := 424) dX12_init_199 (by decide) ?_
  refine x_newarr (t := 0) (ty := .int) (N' := 424) (a0 := (424, .inl (fun _ => 0))) dX12_init_202 (xm (i := 109) (by decide +kernel) (by decide +kernel)) rfl (fun _ => rfl) (fun _ _ h => h) (fun _ => rfl) (by decide) (by decide) (by decide) (by decide) (by decide) (by decide) ?_
  refine V.wr (L' := [(44, _), (45, _), (46, _), (47, _), (48, _), (49, _), (50, _), (51, _), (52, _), (53, _), (54, _), (55, _), (56, _)]) rfl ?_
  refine p_X12_48 (fs' := [_, _, _, _, _, _, _, _, _, _, _, _, _, _, _, _, _, _, _, _, _, _]) (L' := [(44, _), (45, _), (46, _), (47, _), (48, _), (49, _), (50, _), (51, _), (52, _), (53, _), (54, _), (55, _), (56, _)]) rfl rfl dX12_init_204 (by decide) rfl (fun _ => ⟨rfl, rfl⟩) (Nat.le_of_ble_eq_true rfl) rfl rfl ?_
  refine x_aload_n dX12_init_207 rfl ?_
  refine x_sipush (v := 10496) dX12_init_208 (by decide) ?_
  refine x_newarr (t := 2) (ty := .long) (N' := 10496) (a0 := (10496, .inr (.inl (fun _ => 0)))) dX12_init_211 (xm (i := 322) (by decide +kernel) (by decide +kernel)) rfl (fun _ => rfl) (fun _ _ h => h) (fun _ => rfl) (by decide) (by decide) (by decide) (by decide) (by decide) (by decide) ?_
  refine V.wr (L' := [(44, _), (45, _), (46, _), (47, _), (48, _), (49, _), (50, _), (51, _), (52, _), (53, _), (54, _), (55, _), (56, _), (57, _)]) rfl ?_
  refine p_X12_51 (fs' := [_, _, _, _, _, _, _, _, _, _, _, _, _, _, _, _, _, _, _, _, _, _]) (L' := [(44, _), (45, _), (46, _), (47, _), (48, _), (49, _), (50, _), (51, _), (52, _), (53, _), (54, _), (55, _), (56, _), (57, _)]) rfl rfl dX12_init_213 (by decide) rfl (fun _ => ⟨rfl, rfl⟩) (Nat.le_of_ble_eq_true rfl) rfl rfl ?_
  refine x_aload_n dX12_init_216 rfl ?_
  refine x_sipush (v := 10496) dX12_init_217 (by decide) ?_
  refine x_newarr (t := 2) (ty := .long) (N' := 10496) (a0 := (10496, .inr (.inl (fun _ => 0)))) dX12_init_220 (xm (i := 322) (by decide +kernel) (by decide +kernel)) rfl (fun _ => rfl) (fun _ _ h => h) (fun _ => rfl) (by decide) (by decide) (by decide) (by decide) (by decide) (by decide) ?_
  refine V.wr (L' := [(44, _), (45, _), (46, _), (47, _), (48, _), (49, _), (50, _), (51, _), (52, _), (53, _), (54, _), (55, _), (56, _), (57, _), (58, _)]) rfl ?_
  refine p_X12_55 (fs' := [_, _, _, _, _, _, _, _, _, _, _, _, _, _, _, _, _, _, _, _, _, _]) (L' := [(44, _), (45, _), (46, _), (47, _), (48, _), (49, _), (50, _), (51, _), (52, _), (53, _), (54, _), (55, _), (56, _), (57, _), (58, _)]) rfl rfl dX12_init_222 (by decide) rfl (fun _ => ⟨rfl, rfl⟩) (Nat.le_of_ble_eq_true rfl) rfl rfl ?_
  refine x_aload_n dX12_init_225 rfl ?_
  refine x_bipush (v := 16) dX12_init_226 (by decide) ?_
  refine x_newarr (t := 2) (ty := .long) (N' := 16) (a0 := (16, .inr (.inl (fun _ => 0)))) dX12_init_228 (xm (i := 322) (by decide +kernel) (by decide +kernel)) rfl (fun _ => rfl) (fun _ _ h => h) (fun _ => rfl) (by decide) (by decide) (by decide) (by decide) (by decide) (by decide) ?_
  refine V.wr (L' := [(44, _), (45, _), (46, _), (47, _), (48, _), (49, _), (50, _), (51, _), (52, _), (53, _), (54, _), (55, _), (56, _), (57, _), (58, _), (59, _)]) rfl ?_
  refine p_X12_58 (fs' := [_, _, _, _, _, _, _, _, _, _, _, _, _, _, _, _, _, _, _, _, _, _]) (L' := [(44, _), (45, _), (46, _), (47, _), (48, _), (49, _), (50, _), (51, _), (52, _), (53, _), (54, _), (55, _), (56, _), (57, _), (58, _), (59, _)]) rfl rfl dX12_init_230 (by decide) rfl (fun _ => ⟨rfl, rfl⟩) (Nat.le_of_ble_eq_true rfl) rfl rfl ?_
  refine x_aload_n dX12_init_233 rfl ?_
  refine x_bipush (v := 16) dX12_init_234 (by decide) ?_
  refine x_newarr (t := 2) (ty := .long) (N' := 16) (a0 := (16, .inr (.inl (fun _ => 0)))) dX12_init_236 (xm (i := 322) (by decide +kernel) (by decide +kernel)) rfl (fun _ => rfl) (fun _ _ h => h) (fun _ => rfl) (by decide) (by decide) (by decide) (by decide) (by decide) (by decide) ?_
  refine V.wr (L' := [(44, _), (45, _), (46, _), (47, _), (48, _), (49, _), (50, _), (51, _), (52, _), (53, _), (54, _), (55, _), (56, _), (57, _), (58, _), (59, _), (60, _)]) rfl ?_
  refine p_X12_61 (fs' := [_, _, _, _, _, _, _, _, _, _, _, _, _, _, _, _, _, _, _, _, _, _]) (L' := [(44, _), (45, _), (46, _), (47, _), (48, _), (49, _), (50, _), (51, _), (52, _), (53, _), (54, _), (55, _), (56, _), (57, _), (58, _), (59, _), (60, _)]) rfl rfl dX12_init_238 (by decide) rfl (fun _ => ⟨rfl, rfl⟩) (Nat.le_of_ble_eq_true rfl) rfl rfl ?_
  exact x_vret dX12_init_241 ⟨rfl, rfl, rfl⟩
