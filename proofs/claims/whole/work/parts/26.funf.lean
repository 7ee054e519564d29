def l_X1_ofHeader_28 (n : Nat) : Nat → (Int32) → (Int32) → Option (((Int32) × (Int32)))
  | 0, _, _ => none
  | k + 1, l1, l2 => (if 8 ≤ l2 then (some (l1, l2)) else (Option.bind (f_X1_timesX l1) (fun q5 => (l_X1_ofHeader_28 n k q5 ((l2 + 1))))))
set_option maxRecDepth 100000 in
set_option maxHeartbeats 400000 in
theorem lv_X1_ofHeader_28 (N : Nat) (s0 : XW) (n : Nat)  (Q : Nat → Option Value → XW → Prop) : ∀ (k : Nat) (l1 : Int32) (l2 : Int32) (o : ((Int32) × (Int32))), l_X1_ofHeader_28 n k l1 l2 = some o → (V yX1_ofHeader cX1_ofHeader (some .int) 1 N (0, 0) 45 [none, some (.int o.1), none] [] (xof s0 []) Q) → V yX1_ofHeader cX1_ofHeader (some .int) 1 N (0, 0) 28 [none, some (.int l1), some (.int l2)] [] (xof s0 []) Q := by
  intro k
  induction k with
  | zero =>
    intro _ _ _ h
    simp [l_X1_ofHeader_28] at h
  | succ k ih =>
    intro l1 l2 o h hk
    rw [l_X1_ofHeader_28] at h
    refine x_iload_n dX1_ofHeader_28 rfl ?_
    refine x_bipush (v := 8) dX1_ofHeader_29 (by decide) ?_
    refine x_icmp_ge (tgt := 45) dX1_ofHeader_31 (by decide) (fun c4 => ?_) (fun c4 => ?_)
    · replace h := xif_p c4 h
      refine V.drop1 (i := 2) (ls' := [_, _, _]) rfl ?_
      show V yX1_ofHeader cX1_ofHeader (some .int) 1 N (0, 0) 45 [none, some (.int l1), none] [] (xof s0 []) _
      cases h
      exact hk
    · replace h := xif_n c4 h
      refine x_iload_n dX1_ofHeader_34 rfl ?_
      obtain ⟨q5, hq5, h⟩ := Option.bind_eq_some_iff.mp h
      refine y_callSi (L' := []) mi_X1_timesX ml_X1_18 st_X1_timesX dX1_ofHeader_35 (fun s1 => v_X1_timesX N s1 _ q5 hq5) (Nat.le_of_ble_eq_true rfl) rfl (by decide) (Nat.le_of_ble_eq_true rfl) rfl rfl rfl rfl ?_
      refine x_istore_n (ls' := [_, _, _]) dX1_ofHeader_38 rfl rfl ?_
      refine x_iinc (v := l2 + 1) (ls' := [_, _, _]) dX1_ofHeader_39 rfl rfl rfl rfl ?_
      refine x_goto (tgt := 28) dX1_ofHeader_42 (by decide) ?_
      show V yX1_ofHeader cX1_ofHeader (some .int) 1 N (0, 0) 28 [none, some (.int q5), some (.int ((l2 + 1)))] [] (xof s0 []) _
      exact ih q5 ((l2 + 1)) _ h hk
def f_X1_ofHeader (n : Nat)  (p0 : Int32) : Option Int32 := (Option.bind (l_X1_ofHeader_5 n p0 n 0 31) (fun u3 => (Option.bind (l_X1_ofHeader_28 n n u3.1 0) (fun u6 => (some ((u6.1 ^^^ 85)))))))
set_option maxRecDepth 100000 in
set_option maxHeartbeats 400000 in
theorem v_X1_ofHeader (N : Nat) (s0 : XW) (n : Nat)  (p0 : Int32) (q : Int32) (h : f_X1_ofHeader n p0 = some q) : C_X1_ofHeader 1 N [.int p0] (xof s0 []) (some (.int q)) (xof s0 []) := by
  unfold f_X1_ofHeader at h
  show V yX1_ofHeader cX1_ofHeader (some .int) 1 N (0, 0) 0 [some (.int p0), none, none] [] (xof s0 []) _
  refine x_iconst (v := 0) dX1_ofHeader_0 (by decide) ?_
  refine x_istore_n (ls' := [_, _, _]) dX1_ofHeader_1 rfl rfl ?_
  refine x_bipush (v := 31) dX1_ofHeader_2 (by decide) ?_
  refine x_istore_n (ls' := [_, _, _]) dX1_ofHeader_4 rfl rfl ?_
  obtain ⟨u3, hu3, h⟩ := Option.bind_eq_some_iff.mp h
  show V yX1_ofHeader cX1_ofHeader (some .int) 1 N (0, 0) 5 [some (.int p0), some (.int 0), some (.int 31)] [] (xof s0 []) _
  refine lv_X1_ofHeader_5 N s0 _ p0 _ n 0 31 _ hu3 ?_
  refine x_iconst (v := 0) dX1_ofHeader_26 (by decide) ?_
  refine x_istore_n (ls' := [_, _, _]) dX1_ofHeader_27 rfl rfl ?_
  obtain ⟨u6, hu6, h⟩ := Option.bind_eq_some_iff.mp h
  show V yX1_ofHeader cX1_ofHeader (some .int) 1 N (0, 0) 28 [none, some (.int u3.1), some (.int 0)] [] (xof s0 []) _
  refine lv_X1_ofHeader_28 N s0 _ _ n u3.1 0 _ hu6 ?_
  refine x_iload_n dX1_ofHeader_45 rfl ?_
  refine x_bipush (v := 85) dX1_ofHeader_46 (by decide) ?_
  refine x_ixor dX1_ofHeader_48 ?_
  cases h
  exact x_iret dX1_ofHeader_49 ⟨rfl, rfl, rfl⟩
def f_X2_oldest_5 (j5 : Int64)  : Option Int32 := (some ((Int64.toInt32 (xul j5 42))))
set_option maxRecDepth 100000 in
set_option maxHeartbeats 400000 in
theorem v_X2_oldest_5 (s0 : XW) (j5 : Int64)  (q : Int32) (h : f_X2_oldest_5 j5 = some q) : C_X2_oldest 0 61 [.ref 5] (xof s0 [W_5 j5]) (some (.int q)) (xof s0 [W_5 j5]) := by
  unfold f_X2_oldest_5 at h
  show V yX2_oldest cX2_oldest (some .int) 0 61 (0, 0) 0 [some (.ref 5)] [] (xof s0 [W_5 j5]) _
  refine x_aload_n dX2_oldest_0 rfl ?_
  refine g_X2_9 rfl dX2_oldest_1 (by decide) rfl rfl ?_
  refine x_bipush (v := 42) dX2_oldest_4 (by decide) ?_
  refine x_lushr dX2_oldest_6 ?_
  refine x_l2i dX2_oldest_7 ?_
  cases h
  exact x_iret dX2_oldest_8 ⟨rfl, rfl, rfl⟩
def f_X2_push_5 (j5 : Int64) (p1 : Int32) : Option Int64 := (some ((((j5 <<< (Int32.toInt64 1 &&& 63)) ||| (Int32.toInt64 p1)) &&& 8796093022207)))
set_option maxRecDepth 100000 in
set_option maxHeartbeats 400000 in
theorem v_X2_push_5 (s0 : XW) (j5 : Int64) (p1 : Int32) (q : Int64) (h : f_X2_push_5 j5 p1 = some q) : C_X2_push 0 61 [.ref 5, .int p1] (xof s0 [W_5 j5]) none (xof s0 [W_5 q]) := by
  unfold f_X2_push_5 at h
  show V yX2_push cX2_push none 0 61 (0, 0) 0 [some (.ref 5), some (.int p1)] [] (xof s0 [W_5 j5]) _
  refine x_aload_n dX2_push_0 rfl ?_
  refine x_aload_n dX2_push_1 rfl ?_
  refine g_X2_9 rfl dX2_push_2 (by decide) rfl rfl ?_
  refine x_iconst (v := 1) dX2_push_5 (by decide) ?_
  refine x_lshl dX2_push_6 ?_
  refine x_iload_n dX2_push_7 rfl ?_
  refine x_i2l dX2_push_8 ?_
  refine x_lor dX2_push_9 ?_
  refine x_ldc2 dX2_push_10 cn_X2_17 ?_
  refine x_land dX2_push_13 ?_
  refine p_X2_9 (fs' := [_]) (L' := [(5, _)]) rfl dX2_push_14 (by decide) rfl (Nat.le_of_ble_eq_true rfl) rfl rfl ?_
  cases h
  exact x_vret dX2_push_17 ⟨rfl, rfl, rfl⟩
def l_X8_scrambled_4_5 (n : Nat) (o4 : Nat → Int32) (l1 : Int32) : Nat → (Int32) → (Int32) → (Int64) → Option (((Int32) × (Int32) × (Int64)))
  | 0, _, _, _ => none
  | k + 1, l2, l3, j5 => (if l3 < 0 then (some (l2, l3, j5)) else (Option.bind (f_X2_oldest_5 j5) (fun q2 => (Option.bind (f_X2_push_5 j5 ((((xus l1 l3) &&& 1) ^^^ q2))) (fun q3 => (l_X8_scrambled_4_5 n o4 l1 k (((l2 <<< (1 &&& 31)) ||| (((xus l1 l3) &&& 1) ^^^ q2))) ((l3 + (-1))) q3))))))
set_option maxRecDepth 100000 in
set_option maxHeartbeats 400000 in
theorem lv_X8_scrambled_4_5 (s0 : XW) (n : Nat) (o4 : Nat → Int32) (l1 : Int32) (Q : Nat → Option Value → XW → Prop) : ∀ (k : Nat) (l2 : Int32) (l3 : Int32) (j5 : Int64) (o : ((Int32) × (Int32) × (Int64))), l_X8_scrambled_4_5 n o4 l1 k l2 l3 j5 = some o → (V yX8_scrambled cX8_scrambled (some .int) 1 61 (0, 0) 46 [none, none, some (.int o.1), none, none] [] (xof s0 [W_4 o4, W_5 o.2.2]) Q) → V yX8_scrambled cX8_scrambled (some .int) 1 61 (0, 0) 5 [some (.ref 4), some (.int l1), some (.int l2), some (.int l3), none] [] (xof s0 [W_4 o4, W_5 j5]) Q := by
  intro k
  induction k with
  | zero =>
    intro _ _ _ _ h
    simp [l_X8_scrambled_4_5] at h
  | succ k ih =>
    intro l2 l3 j5 o h hk
    rw [l_X8_scrambled_4_5] at h
    refine x_iload_n dX8_scrambled_5 rfl ?_
    refine x_if_lt (tgt := 46) dX8_scrambled_6 (by decide) (fun c1 => ?_) (fun c1 => ?_)
    · replace h := xif_p c1 h
      refine V.drop1 (i := 0) (ls' := [_, _, _, _, _]) rfl ?_
      refine V.drop1 (i := 1) (ls' := [_, _, _, _, _]) rfl ?_
      refine V.drop1 (i := 3) (ls' := [_, _, _, _, _]) rfl ?_
      show V yX8_scrambled cX8_scrambled (some .int) 1 61 (0, 0) 46 [none, none, some (.int l2), none, none] [] (xof s0 [W_4 o4, W_5 j5]) _
      cases h
      exact hk
    · replace h := xif_n c1 h
      refine x_iload_n dX8_scrambled_9 rfl ?_
      refine x_iload_n dX8_scrambled_10 rfl ?_
      refine x_iushr dX8_scrambled_11 ?_
      refine x_iconst (v := 1) dX8_scrambled_12 (by decide) ?_
      refine x_iand dX8_scrambled_13 ?_
      refine x_aload_n dX8_scrambled_14 rfl ?_
      refine g_X8_12 rfl dX8_scrambled_15 (by decide) rfl rfl ?_
      obtain ⟨q2, hq2, h⟩ := Option.bind_eq_some_iff.mp h
      refine y_callVi (L' := [(4, _), (5, _)]) mi_X2_oldest ml_X8_52 im_X2_oldest se_X2_oldest (rfl : vwCl[1]? = _) dX8_scrambled_18 (fun s1 => v_X2_oldest_5 s1 _ q2 hq2) (by decide) rfl (Nat.le_of_ble_eq_true rfl) rfl (by decide) (Nat.le_of_ble_eq_true rfl) rfl rfl rfl rfl ?_
      refine x_ixor dX8_scrambled_21 ?_
      refine x_istore (ls' := [_, _, _, _, _]) dX8_scrambled_22 rfl rfl ?_
      refine x_aload_n dX8_scrambled_24 rfl ?_
      refine g_X8_12 rfl dX8_scrambled_25 (by decide) rfl rfl ?_
      refine x_iload dX8_scrambled_28 rfl ?_
      obtain ⟨q3, hq3, h⟩ := Option.bind_eq_some_iff.mp h
      refine y_callVv (L' := [(4, _), (5, _)]) mi_X2_push ml_X8_56 im_X2_push se_X2_push (rfl : vwCl[1]? = _) dX8_scrambled_30 (fun s1 => v_X2_push_5 s1 _ _ q3 hq3) (by decide) rfl (Nat.le_of_ble_eq_true rfl) rfl (by decide) (Nat.le_of_ble_eq_true rfl) rfl rfl rfl rfl ?_
      refine x_iload_n dX8_scrambled_33 rfl ?_
      refine x_iconst (v := 1) dX8_scrambled_34 (by decide) ?_
      refine x_ishl dX8_scrambled_35 ?_
      refine x_iload dX8_scrambled_36 rfl ?_
      refine x_ior dX8_scrambled_38 ?_
      refine x_istore_n (ls' := [_, _, _, _, _]) dX8_scrambled_39 rfl rfl ?_
      refine x_iinc (v := l3 + (-1)) (ls' := [_, _, _, _, _]) dX8_scrambled_40 rfl rfl rfl rfl ?_
      refine x_goto (tgt := 5) dX8_scrambled_43 (by decide) ?_
      refine V.drop1 (i := 4) (ls' := [_, _, _, _, _]) rfl ?_
      show V yX8_scrambled cX8_scrambled (some .int) 1 61 (0, 0) 5 [some (.ref 4), some (.int l1), some (.int (((l2 <<< (1 &&& 31)) ||| (((xus l1 l3) &&& 1) ^^^ q2)))), some (.int ((l3 + (-1)))), none] [] (xof s0 [W_4 o4, W_5 q3]) _
      exact ih (((l2 <<< (1 &&& 31)) ||| (((xus l1 l3) &&& 1) ^^^ q2))) ((l3 + (-1))) q3 _ h hk
def f_X8_scrambled_4 (n : Nat) (o4 : Nat → Int32) (j5 : Int64) (p1 : Int32) : Option (((Int32) × (Int64))) := (Option.bind (l_X8_scrambled_4_5 n o4 p1 n 0 7 j5) (fun u4 => (some (u4.1, u4.2.2))))
set_option maxRecDepth 100000 in
set_option maxHeartbeats 400000 in
theorem v_X8_scrambled_4 (s0 : XW) (n : Nat) (o4 : Nat → Int32) (j5 : Int64) (p1 : Int32) (q : ((Int32) × (Int64))) (h : f_X8_scrambled_4 n o4 j5 p1 = some q) : C_X8_scrambled 1 61 [.ref 4, .int p1] (xof s0 [W_4 o4, W_5 j5]) (some (.int q.1)) (xof s0 [W_4 o4, W_5 q.2]) := by
  unfold f_X8_scrambled_4 at h
  show V yX8_scrambled cX8_scrambled (some .int) 1 61 (0, 0) 0 [some (.ref 4), some (.int p1), none, none, none] [] (xof s0 [W_4 o4, W_5 j5]) _
  refine x_iconst (v := 0) dX8_scrambled_0 (by decide) ?_
  refine x_istore_n (ls' := [_, _, _, _, _]) dX8_scrambled_1 rfl rfl ?_
  refine x_bipush (v := 7) dX8_scrambled_2 (by decide) ?_
  refine x_istore_n (ls' := [_, _, _, _, _]) dX8_scrambled_4 rfl rfl ?_
  obtain ⟨u4, hu4, h⟩ := Option.bind_eq_some_iff.mp h
  show V yX8_scrambled cX8_scrambled (some .int) 1 61 (0, 0) 5 [some (.ref 4), some (.int p1), some (.int 0), some (.int 7), none] [] (xof s0 [W_4 o4, W_5 j5]) _
  refine lv_X8_scrambled_4_5 s0 _ o4 p1 _ n 0 7 j5 _ hu4 ?_
  refine x_iload_n dX8_scrambled_46 rfl ?_
  cases h
  exact x_iret dX8_scrambled_47 ⟨rfl, rfl, rfl⟩
def l_X8_putCell_4_2_42 (n : Nat) (o4 : Nat → Int32) (a6 : Nat → Int32) (a7 : Nat → Int32) (l2 : Int32) (l3 : Int32) (l4 : Int32) : Nat → (Int32) → (Nat → Int32) → (Nat → Int32) → (Int64) → Option (((Int32) × (Nat → Int32) × (Nat → Int32) × (Int64)))
  | 0, _, _, _, _ => none
  | k + 1, l5, o2, a3, j5 => (if l3 ≤ l5 then (some (l5, o2, a3, j5)) else (if 3072 ≤ (l4 + l5) then (some (l5, o2, a3, j5)) else (bif xin (l4 + l5) 3072 then (Option.bind (f_X8_scrambled_4 n o4 j5 ((a7 (Int32.toNatClampNeg (l4 + l5))))) (fun q8 => (Option.bind (f_X4_append_2 n o2 a3 8 q8.1) (fun q9 => (l_X8_putCell_4_2_42 n o4 a6 a7 l2 l3 l4 k ((l5 + 1)) q9.1 q9.2 q8.2))))) else none)))
set_option maxRecDepth 100000 in
set_option maxHeartbeats 400000 in
theorem lv_X8_putCell_4_2_42 (s0 : XW) (n : Nat) (o4 : Nat → Int32) (a6 : Nat → Int32) (a7 : Nat → Int32) (l2 : Int32) (l3 : Int32) (l4 : Int32) (Q : Nat → Option Value → XW → Prop) : ∀ (k : Nat) (l5 : Int32) (o2 : Nat → Int32) (a3 : Nat → Int32) (j5 : Int64) (o : ((Int32) × (Nat → Int32) × (Nat → Int32) × (Int64))), l_X8_putCell_4_2_42 n o4 a6 a7 l2 l3 l4 k l5 o2 a3 j5 = some o → (V yX8_putCell cX8_putCell none 2 61 (0, 0) 87 [some (.ref 4), none, some (.int l2), none, none, none] [] (xof s0 [W_2 o.2.1, W_3 o.2.2.1, W_4 o4, W_5 o.2.2.2, W_6 a6, W_7 a7]) Q) → V yX8_putCell cX8_putCell none 2 61 (0, 0) 42 [some (.ref 4), some (.ref 2), some (.int l2), some (.int l3), some (.int l4), some (.int l5)] [] (xof s0 [W_2 o2, W_3 a3, W_4 o4, W_5 j5, W_6 a6, W_7 a7]) Q := by
  intro k
  induction k with
  | zero =>
    intro _ _ _ _ _ h
    simp [l_X8_putCell_4_2_42] at h
  | succ k ih =>
    intro l5 o2 a3 j5 o h hk
    rw [l_X8_putCell_4_2_42] at h
    refine x_iload dX8_putCell_42 rfl ?_
    refine x_iload_n dX8_putCell_44 rfl ?_
    refine x_icmp_ge (tgt := 87) dX8_putCell_45 (by decide) (fun c5 => ?_) (fun c5 => ?_)
    · replace h := xif_p c5 h
      refine V.drop1 (i := 1) (ls' := [_, _, _, _, _, _]) rfl ?_
      refine V.drop1 (i := 3) (ls' := [_, _, _, _, _, _]) rfl ?_
      refine V.drop1 (i := 4) (ls' := [_, _, _, _, _, _]) rfl ?_
      refine V.drop1 (i := 5) (ls' := [_, _, _, _, _, _]) rfl ?_
      show V yX8_putCell cX8_putCell none 2 61 (0, 0) 87 [some (.ref 4), none, some (.int l2), none, none, none] [] (xof s0 [W_2 o2, W_3 a3, W_4 o4, W_5 j5, W_6 a6, W_7 a7]) _
      cases h
      exact hk
    · replace h := xif_n c5 h
      refine x_iload dX8_putCell_48 rfl ?_
      refine x_iload dX8_putCell_50 rfl ?_
      refine x_iadd dX8_putCell_52 ?_
      refine x_aload_n dX8_putCell_53 rfl ?_
      refine g_X8_22 rfl dX8_putCell_54 (by decide) rfl rfl ?_
      refine x_alen (v := 3072) dX8_putCell_57 (by decide) rfl (by decide) rfl ?_
      refine x_icmp_ge (tgt := 87) dX8_putCell_58 (by decide) (fun c6 => ?_) (fun c6 => ?_)
      · replace h := xif_p c6 h
        refine V.drop1 (i := 1) (ls' := [_, _, _, _, _, _]) rfl ?_
        refine V.drop1 (i := 3) (ls' := [_, _, _, _, _, _]) rfl ?_
        refine V.drop1 (i := 4) (ls' := [_, _, _, _, _, _]) rfl ?_
        refine V.drop1 (i := 5) (ls' := [_, _, _, _, _, _]) rfl ?_
        show V yX8_putCell cX8_putCell none 2 61 (0, 0) 87 [some (.ref 4), none, some (.int l2), none, none, none] [] (xof s0 [W_2 o2, W_3 a3, W_4 o4, W_5 j5, W_6 a6, W_7 a7]) _
        cases h
        exact hk
      · replace h := xif_n c6 h
        refine x_aload_n dX8_putCell_61 rfl ?_
        refine x_bipush (v := 8) dX8_putCell_62 (by decide) ?_
        refine x_aload_n dX8_putCell_64 rfl ?_
        refine x_aload_n dX8_putCell_65 rfl ?_
        refine g_X8_22 rfl dX8_putCell_66 (by decide) rfl rfl ?_
        refine x_iload dX8_putCell_69 rfl ?_
        refine x_iload dX8_putCell_71 rfl ?_
        refine x_iadd dX8_putCell_73 ?_
        obtain ⟨c7, h⟩ := xck h
        refine x_baldK (jn := (Int32.toNatClampNeg (l4 + l5))) (v := (a7 (Int32.toNatClampNeg (l4 + l5)))) dX8_putCell_74 (by decide) rfl (xin_ok c7) rfl rfl ?_
        obtain ⟨q8, hq8, h⟩ := Option.bind_eq_some_iff.mp h
        refine y_callVi (L' := [(2, _), (3, _), (4, _), (5, _), (6, _), (7, _)]) mi_X8_scrambled ml_X8_49 im_X8_scrambled se_X8_scrambled (rfl : vwCl[7]? = _) dX8_putCell_75 (fun s1 => v_X8_scrambled_4 s1 n _ _ _ q8 hq8) (by decide) rfl (Nat.le_of_ble_eq_true rfl) rfl (by decide) (Nat.le_of_ble_eq_true rfl) rfl rfl rfl rfl ?_
        obtain ⟨q9, hq9, h⟩ := Option.bind_eq_some_iff.mp h
        refine y_callVv (L' := [(2, _), (3, _), (4, _), (5, _), (6, _), (7, _)]) mi_X4_append ml_X8_38 im_X4_append se_X4_append (rfl : vwCl[3]? = _) dX8_putCell_78 (fun s1 => v_X4_append_2 s1 n _ _ _ _ q9 hq9) (by decide) rfl (Nat.le_of_ble_eq_true rfl) rfl (by decide) (Nat.le_of_ble_eq_true rfl) rfl rfl rfl rfl ?_
        refine x_iinc (v := l5 + 1) (ls' := [_, _, _, _, _, _]) dX8_putCell_81 rfl rfl rfl rfl ?_
        refine x_goto (tgt := 42) dX8_putCell_84 (by decide) ?_
        show V yX8_putCell cX8_putCell none 2 61 (0, 0) 42 [some (.ref 4), some (.ref 2), some (.int l2), some (.int l3), some (.int l4), some (.int ((l5 + 1)))] [] (xof s0 [W_2 q9.1, W_3 q9.2, W_4 o4, W_5 q8.2, W_6 a6, W_7 a7]) _
        exact ih ((l5 + 1)) q9.1 q9.2 q8.2 _ h hk
def b_X8_putCell_4_2_87 (n : Nat) (o2 : Nat → Int32) (a3 : Nat → Int32) (o4 : Nat → Int32) (j5 : Int64) (a6 : Nat → Int32) (a7 : Nat → Int32) (l2 : Int32) : Option (((Nat → Int32) × (Nat → Int32) × (Nat → Int32) × (Int64) × (Nat → Int32))) := (bif xin (o4 3) 64 then (some (o2, a3, upd o4 3 (((o4 3) + 1)), j5, upd a6 ((Int32.toNatClampNeg (o4 3))) l2)) else none)
set_option maxRecDepth 100000 in
set_option maxHeartbeats 400000 in
theorem vb_X8_putCell_4_2_87 (s0 : XW) (n : Nat) (o2 : Nat → Int32) (a3 : Nat → Int32) (o4 : Nat → Int32) (j5 : Int64) (a6 : Nat → Int32) (a7 : Nat → Int32) (l2 : Int32) (q : ((Nat → Int32) × (Nat → Int32) × (Nat → Int32) × (Int64) × (Nat → Int32))) (h : b_X8_putCell_4_2_87 n o2 a3 o4 j5 a6 a7 l2 = some q) : V yX8_putCell cX8_putCell none 2 61 (0, 0) 87 [some (.ref 4), none, some (.int l2), none, none, none] [] (xof s0 [W_2 o2, W_3 a3, W_4 o4, W_5 j5, W_6 a6, W_7 a7]) (xq 61 none (xof s0 [W_2 q.1, W_3 q.2.1, W_4 q.2.2.1, W_5 q.2.2.2.1, W_6 q.2.2.2.2, W_7 a7])) := by
  unfold b_X8_putCell_4_2_87 at h
  refine x_aload_n dX8_putCell_87 rfl ?_
  refine g_X8_18 rfl dX8_putCell_88 (by decide) rfl rfl ?_
  refine x_aload_n dX8_putCell_91 rfl ?_
  refine g_X8_26 rfl dX8_putCell_92 (by decide) rfl rfl ?_
  refine x_iload_n dX8_putCell_95 rfl ?_
  obtain ⟨c11, h⟩ := xck h
  refine x_iastK (jn := (Int32.toNatClampNeg (o4 3))) (L' := [(2, _), (3, _), (4, _), (5, _), (6, _), (7, _)]) dX8_putCell_96 (by decide) rfl (xin_ok c11) rfl rfl ?_
  refine x_aload_n dX8_putCell_97 rfl ?_
  refine x_dup dX8_putCell_98 rfl ?_
  refine g_X8_26 rfl dX8_putCell_99 (by decide) rfl rfl ?_
  refine x_iconst (v := 1) dX8_putCell_102 (by decide) ?_
  refine x_iadd dX8_putCell_103 ?_
  refine p_X8_26 (fs' := [_, _, _, _]) (L' := [(2, _), (3, _), (4, _), (5, _), (6, _), (7, _)]) rfl dX8_putCell_104 (by decide) rfl (Nat.le_of_ble_eq_true rfl) rfl rfl ?_
  cases h
  exact x_vret dX8_putCell_107 ⟨rfl, rfl, rfl⟩
def f_X8_putCell_4_2 (n : Nat) (o2 : Nat → Int32) (a3 : Nat → Int32) (o4 : Nat → Int32) (j5 : Int64) (a6 : Nat → Int32) (a7 : Nat → Int32) (p2 : Int32) (p3 : Int32) : Option (((Nat → Int32) × (Nat → Int32) × (Nat → Int32) × (Int64) × (Nat → Int32))) := (if (o4 3) < 64 then (Option.bind (f_X4_append_2 n o2 a3 32 p2) (fun q2 => (Option.bind (f_X1_ofHeader n p2) (fun q3 => (Option.bind (f_X4_append_2 n q2.1 q2.2 8 q3) (fun q4 => (Option.bind (l_X8_putCell_4_2_42 n o4 a6 a7 p2 p3 (((o4 3) * 48)) n 0 q4.1 q4.2 j5) (fun u10 => (b_X8_putCell_4_2_87 n u10.2.1 u10.2.2.1 o4 u10.2.2.2 a6 a7 p2))))))))) else (some (o2, a3, o4, j5, a6)))
set_option maxRecDepth 100000 in
set_option maxHeartbeats 400000 in
theorem v_X8_putCell_4_2 (s0 : XW) (n : Nat) (o2 : Nat → Int32) (a3 : Nat → Int32) (o4 : Nat → Int32) (j5 : Int64) (a6 : Nat → Int32) (a7 : Nat → Int32) (p2 : Int32) (p3 : Int32) (q : ((Nat → Int32) × (Nat → Int32) × (Nat → Int32) × (Int64) × (Nat → Int32))) (h : f_X8_putCell_4_2 n o2 a3 o4 j5 a6 a7 p2 p3 = some q) : C_X8_putCell 2 61 [.ref 4, .ref 2, .int p2, .int p3] (xof s0 [W_2 o2, W_3 a3, W_4 o4, W_5 j5, W_6 a6, W_7 a7]) none (xof s0 [W_2 q.1, W_3 q.2.1, W_4 q.2.2.1, W_5 q.2.2.2.1, W_6 q.2.2.2.2, W_7 a7]) := by
  unfold f_X8_putCell_4_2 at h
  show V yX8_putCell cX8_putCell none 2 61 (0, 0) 0 [some (.ref 4), some (.ref 2), some (.int p2), some (.int p3), none, none] [] (xof s0 [W_2 o2, W_3 a3, W_4 o4, W_5 j5, W_6 a6, W_7 a7]) _
  refine x_aload_n dX8_putCell_0 rfl ?_
  refine g_X8_26 rfl dX8_putCell_1 (by decide) rfl rfl ?_
  refine x_aload_n dX8_putCell_4 rfl ?_
  refine g_X8_18 rfl dX8_putCell_5 (by decide) rfl rfl ?_
  refine x_alen (v := 64) dX8_putCell_8 (by decide) rfl (by decide) rfl ?_
  refine x_icmp_lt (tgt := 13) dX8_putCell_9 (by decide) (fun c1 => ?_) (fun c1 => ?_)
  · replace h := xif_p c1 h
    refine x_aload_n dX8_putCell_13 rfl ?_
    refine g_X8_26 rfl dX8_putCell_14 (by decide) rfl rfl ?_
    refine x_bipush (v := 48) dX8_putCell_17 (by decide) ?_
    refine x_imul dX8_putCell_19 ?_
    refine x_istore (ls' := [_, _, _, _, _, _]) dX8_putCell_20 rfl rfl ?_
    refine x_aload_n dX8_putCell_22 rfl ?_
    refine x_bipush (v := 32) dX8_putCell_23 (by decide) ?_
    refine x_iload_n dX8_putCell_25 rfl ?_
    obtain ⟨q2, hq2, h⟩ := Option.bind_eq_some_iff.mp h
    refine y_callVv (L' := [(2, _), (3, _), (4, _), (5, _), (6, _), (7, _)]) mi_X4_append ml_X8_38 im_X4_append se_X4_append (rfl : vwCl[3]? = _) dX8_putCell_26 (fun s1 => v_X4_append_2 s1 n _ _ _ _ q2 hq2) (by decide) rfl (Nat.le_of_ble_eq_true rfl) rfl (by decide) (Nat.le_of_ble_eq_true rfl) rfl rfl rfl rfl ?_
    refine x_aload_n dX8_putCell_29 rfl ?_
    refine x_bipush (v := 8) dX8_putCell_30 (by decide) ?_
    refine x_iload_n dX8_putCell_32 rfl ?_
    obtain ⟨q3, hq3, h⟩ := Option.bind_eq_some_iff.mp h
    refine y_callSi (L' := [(2, _), (3, _), (4, _), (5, _), (6, _), (7, _)]) mi_X1_ofHeader ml_X8_44 st_X1_ofHeader dX8_putCell_33 (fun s1 => v_X1_ofHeader 61 s1 n _ q3 hq3) (Nat.le_of_ble_eq_true rfl) rfl (by decide) (Nat.le_of_ble_eq_true rfl) rfl rfl rfl rfl ?_
    obtain ⟨q4, hq4, h⟩ := Option.bind_eq_some_iff.mp h
    refine y_callVv (L' := [(2, _), (3, _), (4, _), (5, _), (6, _), (7, _)]) mi_X4_append ml_X8_38 im_X4_append se_X4_append (rfl : vwCl[3]? = _) dX8_putCell_36 (fun s1 => v_X4_append_2 s1 n _ _ _ _ q4 hq4) (by decide) rfl (Nat.le_of_ble_eq_true rfl) rfl (by decide) (Nat.le_of_ble_eq_true rfl) rfl rfl rfl rfl ?_
    refine x_iconst (v := 0) dX8_putCell_39 (by decide) ?_
    refine x_istore (ls' := [_, _, _, _, _, _]) dX8_putCell_40 rfl rfl ?_
    obtain ⟨u10, hu10, h⟩ := Option.bind_eq_some_iff.mp h
    show V yX8_putCell cX8_putCell none 2 61 (0, 0) 42 [some (.ref 4), some (.ref 2), some (.int p2), some (.int p3), some (.int (((o4 3) * 48))), some (.int 0)] [] (xof s0 [W_2 q4.1, W_3 q4.2, W_4 o4, W_5 j5, W_6 a6, W_7 a7]) _
    refine lv_X8_putCell_4_2_42 s0 _ o4 a6 a7 p2 p3 (((o4 3) * 48)) _ n 0 q4.1 q4.2 j5 _ hu10 ?_
    show V yX8_putCell cX8_putCell none 2 61 (0, 0) 87 [some (.ref 4), none, some (.int p2), none, none, none] [] (xof s0 [W_2 u10.2.1, W_3 u10.2.2.1, W_4 o4, W_5 u10.2.2.2, W_6 a6, W_7 a7]) _
    exact vb_X8_putCell_4_2_87 s0 n u10.2.1 u10.2.2.1 o4 u10.2.2.2 a6 a7 p2 q h
  · replace h := xif_n c1 h
    cases h
    exact x_vret dX8_putCell_12 ⟨rfl, rfl, rfl⟩
def f_X11_send_0 (n : Nat) (a1 : Nat → Int32) (o2 : Nat → Int32) (a3 : Nat → Int32) (o4 : Nat → Int32) (j5 : Int64) (a6 : Nat → Int32) (a7 : Nat → Int32) (p1 : Int32) (p2 : Int32) : Option (((Int32) × (Nat → Int32) × (Nat → Int32) × (Nat → Int32) × (Int64) × (Nat → Int32) × (Nat → Int32))) := (Option.bind (f_X11_isWithin p2 0 1000003) (fun q1 => (if q1 = 0 then (some ((-3), o2, a3, o4, j5, a6, a7)) else (Option.bind (f_X11_hasRoomForCells_0 a1 o2 o4 1) (fun q3 => (if q3 = 0 then (some ((-4), o2, a3, o4, j5, a6, a7)) else (Option.bind (f_X8_fillBySeed_4 n o4 a7 p2 ((a1 0))) (fun q5 => (Option.bind (f_X8_putCell_4_2 n o2 a3 o4 j5 a6 q5 p1 ((a1 0))) (fun q6 => (some (((q6.2.2.1 3) - 1), q6.1, q6.2.1, q6.2.2.1, q6.2.2.2.1, q6.2.2.2.2, q5))))))))))))
set_option maxRecDepth 100000 in
set_option maxHeartbeats 400000 in
theorem v_X11_send_0 (s0 : XW) (n : Nat) (a1 : Nat → Int32) (o2 : Nat → Int32) (a3 : Nat → Int32) (o4 : Nat → Int32) (j5 : Int64) (a6 : Nat → Int32) (a7 : Nat → Int32) (p1 : Int32) (p2 : Int32) (q : ((Int32) × (Nat → Int32) × (Nat → Int32) × (Nat → Int32) × (Int64) × (Nat → Int32) × (Nat → Int32))) (h : f_X11_send_0 n a1 o2 a3 o4 j5 a6 a7 p1 p2 = some q) : C_X11_send 3 61 [.ref 0, .int p1, .int p2] (xof s0 [W_0, W_1 a1, W_2 o2, W_3 a3, W_4 o4, W_5 j5, W_6 a6, W_7 a7]) (some (.int q.1)) (xof s0 [W_0, W_1 a1, W_2 q.2.1, W_3 q.2.2.1, W_4 q.2.2.2.1, W_5 q.2.2.2.2.1, W_6 q.2.2.2.2.2.1, W_7 q.2.2.2.2.2.2]) := by
  unfold f_X11_send_0 at h
  show V yX11_send cX11_send (some .int) 3 61 (0, 0) 0 [some (.ref 0), some (.int p1), some (.int p2)] [] (xof s0 [W_0, W_1 a1, W_2 o2, W_3 a3, W_4 o4, W_5 j5, W_6 a6, W_7 a7]) _
  refine x_iload_n dX11_send_0 rfl ?_
  refine x_iconst (v := 0) dX11_send_1 (by decide) ?_
  refine x_ldc dX11_send_2 cn_X11_104 ?_
  obtain ⟨q1, hq1, h⟩ := Option.bind_eq_some_iff.mp h
  refine y_callSi (L' := [(0, _), (1, _), (2, _), (3, _), (4, _), (5, _), (6, _), (7, _)]) mi_X11_isWithin ml_X11_100 st_X11_isWithin dX11_send_4 (fun s1 => v_X11_isWithin 61 s1 _ _ _ q1 hq1) (Nat.le_of_ble_eq_true rfl) rfl (by decide) (Nat.le_of_ble_eq_true rfl) rfl rfl rfl rfl ?_
  refine x_if_ne (tgt := 13) dX11_send_7 (by decide) (fun c2 => ?_) (fun c2 => ?_)
  · replace h := xif_n c2 h
    refine x_aload_n dX11_send_13 rfl ?_
    refine x_iconst (v := 1) dX11_send_14 (by decide) ?_
    obtain ⟨q3, hq3, h⟩ := Option.bind_eq_some_iff.mp h
    refine y_callVi (L' := [(0, _), (1, _), (2, _), (3, _), (4, _), (5, _), (6, _), (7, _)]) mi_X11_hasRoomForCells ml_X11_105 im_X11_hasRoomForCells se_X11_hasRoomForCells (rfl : vwCl[10]? = _) dX11_send_15 (fun s1 => v_X11_hasRoomForCells_0 s1 _ _ _ _ q3 hq3) (by decide) rfl (Nat.le_of_ble_eq_true rfl) rfl (by decide) (Nat.le_of_ble_eq_true rfl) rfl rfl rfl rfl ?_
    refine x_if_ne (tgt := 24) dX11_send_18 (by decide) (fun c4 => ?_) (fun c4 => ?_)
    · replace h := xif_n c4 h
      refine x_aload_n dX11_send_24 rfl ?_
      refine g_X11_31 rfl dX11_send_25 (by decide) rfl rfl ?_
      refine x_iload_n dX11_send_28 rfl ?_
      refine x_aload_n dX11_send_29 rfl ?_
      refine g_X11_18 rfl dX11_send_30 (by decide) rfl rfl ?_
      refine x_iconst (v := 0) dX11_send_33 (by decide) ?_
      refine x_ialdK (jn := 0) (v := (a1 0)) dX11_send_34 (by decide) rfl (xin_ok (by decide)) (by decide) rfl ?_
      obtain ⟨q5, hq5, h⟩ := Option.bind_eq_some_iff.mp h
      refine y_callVv (L' := [(0, _), (1, _), (2, _), (3, _), (4, _), (5, _), (6, _), (7, _)]) mi_X8_fillBySeed ml_X11_108 im_X8_fillBySeed se_X8_fillBySeed (rfl : vwCl[7]? = _) dX11_send_35 (fun s1 => v_X8_fillBySeed_4 s1 n _ _ _ _ q5 hq5) (by decide) rfl (Nat.le_of_ble_eq_true rfl) rfl (by decide) (Nat.le_of_ble_eq_true rfl) rfl rfl rfl rfl ?_
      refine x_aload_n dX11_send_38 rfl ?_
      refine g_X11_31 rfl dX11_send_39 (by decide) rfl rfl ?_
      refine x_aload_n dX11_send_42 rfl ?_
      refine g_X11_24 rfl dX11_send_43 (by decide) rfl rfl ?_
      refine x_iload_n dX11_send_46 rfl ?_
      refine x_aload_n dX11_send_47 rfl ?_
      refine g_X11_18 rfl dX11_send_48 (by decide) rfl rfl ?_
      refine x_iconst (v := 0) dX11_send_51 (by decide) ?_
      refine x_ialdK (jn := 0) (v := (a1 0)) dX11_send_52 (by decide) rfl (xin_ok (by decide)) (by decide) rfl ?_
      obtain ⟨q6, hq6, h⟩ := Option.bind_eq_some_iff.mp h
      refine y_callVv (L' := [(0, _), (1, _), (2, _), (3, _), (4, _), (5, _), (6, _), (7, _)]) mi_X8_putCell ml_X11_111 im_X8_putCell se_X8_putCell (rfl : vwCl[7]? = _) dX11_send_53 (fun s1 => v_X8_putCell_4_2 s1 n _ _ _ _ _ _ _ _ q6 hq6) (by decide) rfl (Nat.le_of_ble_eq_true rfl) rfl (by decide) (Nat.le_of_ble_eq_true rfl) rfl rfl rfl rfl ?_
      refine x_aload_n dX11_send_56 rfl ?_
      refine g_X11_31 rfl dX11_send_57 (by decide) rfl rfl ?_
      refine g_X11_115 rfl dX11_send_60 (by decide) rfl rfl ?_
      refine x_iconst (v := 1) dX11_send_63 (by decide) ?_
      refine x_isub dX11_send_64 ?_
      cases h
      exact x_iret dX11_send_65 ⟨rfl, rfl, rfl⟩
    · replace h := xif_p c4 h
      refine x_bipush (v := -4) dX11_send_21 (by decide) ?_
      cases h
      exact x_iret dX11_send_23 ⟨rfl, rfl, rfl⟩
  · replace h := xif_p c2 h
    refine x_bipush (v := -3) dX11_send_10 (by decide) ?_
    cases h
    exact x_iret dX11_send_12 ⟨rfl, rfl, rfl⟩
def l_X8_fillIdle_4_10 (n : Nat) (o4 : Nat → Int32) (l1 : Int32) (l2 : Int32) : Nat → (Int32) → (Nat → Int32) → Option (((Int32) × (Nat → Int32)))
  | 0, _, _ => none
  | k + 1, l3, a7 => (if l1 ≤ l3 then (some (l3, a7)) else (if 3072 ≤ (l2 + l3) then (some (l3, a7)) else (bif xin (l2 + l3) 3072 then (l_X8_fillIdle_4_10 n o4 l1 l2 k ((l3 + 1)) (upd a7 ((Int32.toNatClampNeg (l2 + l3))) ((vp_nar .byte 106)))) else none)))
set_option maxRecDepth 100000 in
set_option maxHeartbeats 400000 in
theorem lv_X8_fillIdle_4_10 (s0 : XW) (n : Nat) (o4 : Nat → Int32) (l1 : Int32) (l2 : Int32) (Q : Nat → Option Value → XW → Prop) : ∀ (k : Nat) (l3 : Int32) (a7 : Nat → Int32) (o : ((Int32) × (Nat → Int32))), l_X8_fillIdle_4_10 n o4 l1 l2 k l3 a7 = some o → (V yX8_fillIdle cX8_fillIdle none 0 61 (0, 0) 42 [none, none, none, none] [] (xof s0 [W_4 o4, W_7 o.2]) Q) → V yX8_fillIdle cX8_fillIdle none 0 61 (0, 0) 10 [some (.ref 4), some (.int l1), some (.int l2), some (.int l3)] [] (xof s0 [W_4 o4, W_7 a7]) Q := by
  intro k
  induction k with
  | zero =>
    intro _ _ _ h
    simp [l_X8_fillIdle_4_10] at h
  | succ k ih =>
    intro l3 a7 o h hk
    rw [l_X8_fillIdle_4_10] at h
    refine x_iload_n dX8_fillIdle_10 rfl ?_
    refine x_iload_n dX8_fillIdle_11 rfl ?_
    refine x_icmp_ge (tgt := 42) dX8_fillIdle_12 (by decide) (fun c1 => ?_) (fun c1 => ?_)
    · replace h := xif_p c1 h
      refine V.drop1 (i := 0) (ls' := [_, _, _, _]) rfl ?_
      refine V.drop1 (i := 1) (ls' := [_, _, _, _]) rfl ?_
      refine V.drop1 (i := 2) (ls' := [_, _, _, _]) rfl ?_
      refine V.drop1 (i := 3) (ls' := [_, _, _, _]) rfl ?_
      show V yX8_fillIdle cX8_fillIdle none 0 61 (0, 0) 42 [none, none, none, none] [] (xof s0 [W_4 o4, W_7 a7]) _
      cases h
      exact hk
    · replace h := xif_n c1 h
      refine x_iload_n dX8_fillIdle_15 rfl ?_
      refine x_iload_n dX8_fillIdle_16 rfl ?_
      refine x_iadd dX8_fillIdle_17 ?_
      refine x_aload_n dX8_fillIdle_18 rfl ?_
      refine g_X8_22 rfl dX8_fillIdle_19 (by decide) rfl rfl ?_
      refine x_alen (v := 3072) dX8_fillIdle_22 (by decide) rfl (by decide) rfl ?_
      refine x_icmp_ge (tgt := 42) dX8_fillIdle_23 (by decide) (fun c2 => ?_) (fun c2 => ?_)
      · replace h := xif_p c2 h
        refine V.drop1 (i := 0) (ls' := [_, _, _, _]) rfl ?_
        refine V.drop1 (i := 1) (ls' := [_, _, _, _]) rfl ?_
        refine V.drop1 (i := 2) (ls' := [_, _, _, _]) rfl ?_
        refine V.drop1 (i := 3) (ls' := [_, _, _, _]) rfl ?_
        show V yX8_fillIdle cX8_fillIdle none 0 61 (0, 0) 42 [none, none, none, none] [] (xof s0 [W_4 o4, W_7 a7]) _
        cases h
        exact hk
      · replace h := xif_n c2 h
        refine x_aload_n dX8_fillIdle_26 rfl ?_
        refine g_X8_22 rfl dX8_fillIdle_27 (by decide) rfl rfl ?_
        refine x_iload_n dX8_fillIdle_30 rfl ?_
        refine x_iload_n dX8_fillIdle_31 rfl ?_
        refine x_iadd dX8_fillIdle_32 ?_
        refine x_bipush (v := 106) dX8_fillIdle_33 (by decide) ?_
        obtain ⟨c3, h⟩ := xck h
        refine x_bastK (jn := (Int32.toNatClampNeg (l2 + l3))) (L' := [(4, _), (7, _)]) dX8_fillIdle_35 (by decide) rfl (xin_ok c3) rfl rfl ?_
        refine x_iinc (v := l3 + 1) (ls' := [_, _, _, _]) dX8_fillIdle_36 rfl rfl rfl rfl ?_
        refine x_goto (tgt := 10) dX8_fillIdle_39 (by decide) ?_
        show V yX8_fillIdle cX8_fillIdle none 0 61 (0, 0) 10 [some (.ref 4), some (.int l1), some (.int l2), some (.int ((l3 + 1)))] [] (xof s0 [W_4 o4, W_7 (upd a7 ((Int32.toNatClampNeg (l2 + l3))) ((vp_nar .byte 106)))]) _
        exact ih ((l3 + 1)) (upd a7 ((Int32.toNatClampNeg (l2 + l3))) ((vp_nar .byte 106))) _ h hk
def f_X8_fillIdle_4 (n : Nat) (o4 : Nat → Int32) (a7 : Nat → Int32) (p1 : Int32) : Option (Nat → Int32) := (Option.bind (l_X8_fillIdle_4_10 n o4 p1 (((o4 3) * 48)) n 0 a7) (fun u4 => (some u4.2)))
set_option maxRecDepth 100000 in
set_option maxHeartbeats 400000 in
theorem v_X8_fillIdle_4 (s0 : XW) (n : Nat) (o4 : Nat → Int32) (a7 : Nat → Int32) (p1 : Int32) (q : Nat → Int32) (h : f_X8_fillIdle_4 n o4 a7 p1 = some q) : C_X8_fillIdle 0 61 [.ref 4, .int p1] (xof s0 [W_4 o4, W_7 a7]) none (xof s0 [W_4 o4, W_7 q]) := by
  unfold f_X8_fillIdle_4 at h
  show V yX8_fillIdle cX8_fillIdle none 0 61 (0, 0) 0 [some (.ref 4), some (.int p1), none, none] [] (xof s0 [W_4 o4, W_7 a7]) _
  refine x_aload_n dX8_fillIdle_0 rfl ?_
  refine g_X8_26 rfl dX8_fillIdle_1 (by decide) rfl rfl ?_
  refine x_bipush (v := 48) dX8_fillIdle_4 (by decide) ?_
  refine x_imul dX8_fillIdle_6 ?_
  refine x_istore_n (ls' := [_, _, _, _]) dX8_fillIdle_7 rfl rfl ?_
  refine x_iconst (v := 0) dX8_fillIdle_8 (by decide) ?_
  refine x_istore_n (ls' := [_, _, _, _]) dX8_fillIdle_9 rfl rfl ?_
  obtain ⟨u4, hu4, h⟩ := Option.bind_eq_some_iff.mp h
  show V yX8_fillIdle cX8_fillIdle none 0 61 (0, 0) 10 [some (.ref 4), some (.int p1), some (.int (((o4 3) * 48))), some (.int 0)] [] (xof s0 [W_4 o4, W_7 a7]) _
  refine lv_X8_fillIdle_4_10 s0 _ o4 p1 (((o4 3) * 48)) _ n 0 a7 _ hu4 ?_
  cases h
  exact x_vret dX8_fillIdle_42 ⟨rfl, rfl, rfl⟩
def l_X11_rest_0_26 (n : Nat) (a1 : Nat → Int32) (l1 : Int32) : Nat → (Int32) → (Nat → Int32) → (Nat → Int32) → (Nat → Int32) → (Int64) → (Nat → Int32) → (Nat → Int32) → Option (((Int32) × (Nat → Int32) × (Nat → Int32) × (Nat → Int32) × (Int64) × (Nat → Int32) × (Nat → Int32)))
  | 0, _, _, _, _, _, _, _ => none
  | k + 1, l2, o2, a3, o4, j5, a6, a7 => (if l1 ≤ l2 then (some (l2, o2, a3, o4, j5, a6, a7)) else (Option.bind (f_X8_fillIdle_4 n o4 a7 ((a1 0))) (fun q6 => (Option.bind (f_X8_putCell_4_2 n o2 a3 o4 j5 a6 q6 1 ((a1 0))) (fun q7 => (l_X11_rest_0_26 n a1 l1 k ((l2 + 1)) q7.1 q7.2.1 q7.2.2.1 q7.2.2.2.1 q7.2.2.2.2 q6))))))
set_option maxRecDepth 100000 in
set_option maxHeartbeats 400000 in
theorem lv_X11_rest_0_26 (s0 : XW) (n : Nat) (a1 : Nat → Int32) (l1 : Int32) (Q : Nat → Option Value → XW → Prop) : ∀ (k : Nat) (l2 : Int32) (o2 : Nat → Int32) (a3 : Nat → Int32) (o4 : Nat → Int32) (j5 : Int64) (a6 : Nat → Int32) (a7 : Nat → Int32) (o : ((Int32) × (Nat → Int32) × (Nat → Int32) × (Nat → Int32) × (Int64) × (Nat → Int32) × (Nat → Int32))), l_X11_rest_0_26 n a1 l1 k l2 o2 a3 o4 j5 a6 a7 = some o → (V yX11_rest cX11_rest (some .int) 3 61 (0, 0) 68 [some (.ref 0), none, none] [] (xof s0 [W_0, W_1 a1, W_2 o.2.1, W_3 o.2.2.1, W_4 o.2.2.2.1, W_5 o.2.2.2.2.1, W_6 o.2.2.2.2.2.1, W_7 o.2.2.2.2.2.2]) Q) → V yX11_rest cX11_rest (some .int) 3 61 (0, 0) 26 [some (.ref 0), some (.int l1), some (.int l2)] [] (xof s0 [W_0, W_1 a1, W_2 o2, W_3 a3, W_4 o4, W_5 j5, W_6 a6, W_7 a7]) Q := by
  intro k
  induction k with
  | zero =>
    intro _ _ _ _ _ _ _ _ h
    simp [l_X11_rest_0_26] at h
  | succ k ih =>
    intro l2 o2 a3 o4 j5 a6 a7 o h hk
    rw [l_X11_rest_0_26] at h
    refine x_iload_n dX11_rest_26 rfl ?_
    refine x_iload_n dX11_rest_27 rfl ?_
    refine x_icmp_ge (tgt := 68) dX11_rest_28 (by decide) (fun c5 => ?_) (fun c5 => ?_)
    · replace h := xif_p c5 h
      refine V.drop1 (i := 1) (ls' := [_, _, _]) rfl ?_
      refine V.drop1 (i := 2) (ls' := [_, _, _]) rfl ?_
      show V yX11_rest cX11_rest (some .int) 3 61 (0, 0) 68 [some (.ref 0), none, none] [] (xof s0 [W_0, W_1 a1, W_2 o2, W_3 a3, W_4 o4, W_5 j5, W_6 a6, W_7 a7]) _
      cases h
      exact hk
    · replace h := xif_n c5 h
      refine x_aload_n dX11_rest_31 rfl ?_
      refine g_X11_31 rfl dX11_rest_32 (by decide) rfl rfl ?_
      refine x_aload_n dX11_rest_35 rfl ?_
      refine g_X11_18 rfl dX11_rest_36 (by decide) rfl rfl ?_
      refine x_iconst (v := 0) dX11_rest_39 (by decide) ?_
      refine x_ialdK (jn := 0) (v := (a1 0)) dX11_rest_40 (by decide) rfl (xin_ok (by decide)) (by decide) rfl ?_
      obtain ⟨q6, hq6, h⟩ := Option.bind_eq_some_iff.mp h
      refine y_callVv (L' := [(0, _), (1, _), (2, _), (3, _), (4, _), (5, _), (6, _), (7, _)]) mi_X8_fillIdle ml_X11_118 im_X8_fillIdle se_X8_fillIdle (rfl : vwCl[7]? = _) dX11_rest_41 (fun s1 => v_X8_fillIdle_4 s1 n _ _ _ q6 hq6) (by decide) rfl (Nat.le_of_ble_eq_true rfl) rfl (by decide) (Nat.le_of_ble_eq_true rfl) rfl rfl rfl rfl ?_
      refine x_aload_n dX11_rest_44 rfl ?_
      refine g_X11_31 rfl dX11_rest_45 (by decide) rfl rfl ?_
      refine x_aload_n dX11_rest_48 rfl ?_
      refine g_X11_24 rfl dX11_rest_49 (by decide) rfl rfl ?_
      refine x_iconst (v := 1) dX11_rest_52 (by decide) ?_
      refine x_aload_n dX11_rest_53 rfl ?_
      refine g_X11_18 rfl dX11_rest_54 (by decide) rfl rfl ?_
      refine x_iconst (v := 0) dX11_rest_57 (by decide) ?_
      refine x_ialdK (jn := 0) (v := (a1 0)) dX11_rest_58 (by decide) rfl (xin_ok (by decide)) (by decide) rfl ?_
      obtain ⟨q7, hq7, h⟩ := Option.bind_eq_some_iff.mp h
      refine y_callVv (L' := [(0, _), (1, _), (2, _), (3, _), (4, _), (5, _), (6, _), (7, _)]) mi_X8_putCell ml_X11_111 im_X8_putCell se_X8_putCell (rfl : vwCl[7]? = _) dX11_rest_59 (fun s1 => v_X8_putCell_4_2 s1 n _ _ _ _ _ _ _ _ q7 hq7) (by decide) rfl (Nat.le_of_ble_eq_true rfl) rfl (by decide) (Nat.le_of_ble_eq_true rfl) rfl rfl rfl rfl ?_
      refine x_iinc (v := l2 + 1) (ls' := [_, _, _]) dX11_rest_62 rfl rfl rfl rfl ?_
      refine x_goto (tgt := 26) dX11_rest_65 (by decide) ?_
      show V yX11_rest cX11_rest (some .int) 3 61 (0, 0) 26 [some (.ref 0), some (.int l1), some (.int ((l2 + 1)))] [] (xof s0 [W_0, W_1 a1, W_2 q7.1, W_3 q7.2.1, W_4 q7.2.2.1, W_5 q7.2.2.2.1, W_6 q7.2.2.2.2, W_7 q6]) _
      exact ih ((l2 + 1)) q7.1 q7.2.1 q7.2.2.1 q7.2.2.2.1 q7.2.2.2.2 q6 _ h hk
def f_X11_rest_0 (n : Nat) (a1 : Nat → Int32) (o2 : Nat → Int32) (a3 : Nat → Int32) (o4 : Nat → Int32) (j5 : Int64) (a6 : Nat → Int32) (a7 : Nat → Int32) (p1 : Int32) : Option (((Int32) × (Nat → Int32) × (Nat → Int32) × (Nat → Int32) × (Int64) × (Nat → Int32) × (Nat → Int32))) := (Option.bind (f_X11_isWithin p1 1 20) (fun q1 => (if q1 = 0 then (some ((-3), o2, a3, o4, j5, a6, a7)) else (Option.bind (f_X11_hasRoomForCells_0 a1 o2 o4 p1) (fun q3 => (if q3 = 0 then (some ((-4), o2, a3, o4, j5, a6, a7)) else (Option.bind (l_X11_rest_0_26 n a1 p1 n 0 o2 a3 o4 j5 a6 a7) (fun u8 => (some ((u8.2.2.2.1 3), u8.2.1, u8.2.2.1, u8.2.2.2.1, u8.2.2.2.2.1, u8.2.2.2.2.2.1, u8.2.2.2.2.2.2))))))))))
set_option maxRecDepth 100000 in
set_option maxHeartbeats 400000 in
theorem v_X11_rest_0 (s0 : XW) (n : Nat) (a1 : Nat → Int32) (o2 : Nat → Int32) (a3 : Nat → Int32) (o4 : Nat → Int32) (j5 : Int64) (a6 : Nat → Int32) (a7 : Nat → Int32) (p1 : Int32) (q : ((Int32) × (Nat → Int32) × (Nat → Int32) × (Nat → Int32) × (Int64) × (Nat → Int32) × (Nat → Int32))) (h : f_X11_rest_0 n a1 o2 a3 o4 j5 a6 a7 p1 = some q) : C_X11_rest 3 61 [.ref 0, .int p1] (xof s0 [W_0, W_1 a1, W_2 o2, W_3 a3, W_4 o4, W_5 j5, W_6 a6, W_7 a7]) (some (.int q.1)) (xof s0 [W_0, W_1 a1, W_2 q.2.1, W_3 q.2.2.1, W_4 q.2.2.2.1, W_5 q.2.2.2.2.1, W_6 q.2.2.2.2.2.1, W_7 q.2.2.2.2.2.2]) := by
  unfold f_X11_rest_0 at h
  show V yX11_rest cX11_rest (some .int) 3 61 (0, 0) 0 [some (.ref 0), some (.int p1), none] [] (xof s0 [W_0, W_1 a1, W_2 o2, W_3 a3, W_4 o4, W_5 j5, W_6 a6, W_7 a7]) _
  refine x_iload_n dX11_rest_0 rfl ?_
  refine x_iconst (v := 1) dX11_rest_1 (by decide) ?_
  refine x_bipush (v := 20) dX11_rest_2 (by decide) ?_
  obtain ⟨q1, hq1, h⟩ := Option.bind_eq_some_iff.mp h
  refine y_callSi (L' := [(0, _), (1, _), (2, _), (3, _), (4, _), (5, _), (6, _), (7, _)]) mi_X11_isWithin ml_X11_100 st_X11_isWithin dX11_rest_4 (fun s1 => v_X11_isWithin 61 s1 _ _ _ q1 hq1) (Nat.le_of_ble_eq_true rfl) rfl (by decide) (Nat.le_of_ble_eq_true rfl) rfl rfl rfl rfl ?_
  refine x_if_ne (tgt := 13) dX11_rest_7 (by decide) (fun c2 => ?_) (fun c2 => ?_)
  · replace h := xif_n c2 h
    refine x_aload_n dX11_rest_13 rfl ?_
    refine x_iload_n dX11_rest_14 rfl ?_
    obtain ⟨q3, hq3, h⟩ := Option.bind_eq_some_iff.mp h
    refine y_callVi (L' := [(0, _), (1, _), (2, _), (3, _), (4, _), (5, _), (6, _), (7, _)]) mi_X11_hasRoomForCells ml_X11_105 im_X11_hasRoomForCells se_X11_hasRoomForCells (rfl : vwCl[10]? = _) dX11_rest_15 (fun s1 => v_X11_hasRoomForCells_0 s1 _ _ _ _ q3 hq3) (by decide) rfl (Nat.le_of_ble_eq_true rfl) rfl (by decide) (Nat.le_of_ble_eq_true rfl) rfl rfl rfl rfl ?_
    refine x_if_ne (tgt := 24) dX11_rest_18 (by decide) (fun c4 => ?_) (fun c4 => ?_)
    · replace h := xif_n c4 h
      refine x_iconst (v := 0) dX11_rest_24 (by decide) ?_
      refine x_istore_n (ls' := [_, _, _]) dX11_rest_25 rfl rfl ?_
      obtain ⟨u8, hu8, h⟩ := Option.bind_eq_some_iff.mp h
      show V yX11_rest cX11_rest (some .int) 3 61 (0, 0) 26 [some (.ref 0), some (.int p1), some (.int 0)] [] (xof s0 [W_0, W_1 a1, W_2 o2, W_3 a3, W_4 o4, W_5 j5, W_6 a6, W_7 a7]) _
      refine lv_X11_rest_0_26 s0 _ a1 p1 _ n 0 o2 a3 o4 j5 a6 a7 _ hu8 ?_
      refine x_aload_n dX11_rest_68 rfl ?_
      refine g_X11_31 rfl dX11_rest_69 (by decide) rfl rfl ?_
      refine g_X11_115 rfl dX11_rest_72 (by decide) rfl rfl ?_
      cases h
      exact x_iret dX11_rest_75 ⟨rfl, rfl, rfl⟩
    · replace h := xif_p c4 h
      refine x_bipush (v := -4) dX11_rest_21 (by decide) ?_
      cases h
      exact x_iret dX11_rest_23 ⟨rfl, rfl, rfl⟩
  · replace h := xif_p c2 h
    refine x_bipush (v := -3) dX11_rest_10 (by decide) ?_
    cases h
    exact x_iret dX11_rest_12 ⟨rfl, rfl, rfl⟩
def f_X4_has_2 (o2 : Nat → Int32) (a3 : Nat → Int32) (p1 : Int32) : Option Int32 := (if p1 < 0 then (some 0) else (if (o2 1) ≤ p1 then (some 0) else (if 9600 ≤ p1 then (some 0) else (some 1))))
set_option maxRecDepth 100000 in
set_option maxHeartbeats 400000 in
theorem v_X4_has_2 (s0 : XW) (o2 : Nat → Int32) (a3 : Nat → Int32) (p1 : Int32) (q : Int32) (h : f_X4_has_2 o2 a3 p1 = some q) : C_X4_has 0 61 [.ref 2, .int p1] (xof s0 [W_2 o2, W_3 a3]) (some (.int q)) (xof s0 [W_2 o2, W_3 a3]) := by
  unfold f_X4_has_2 at h
  show V yX4_has cX4_has (some .boolean) 0 61 (0, 0) 0 [some (.ref 2), some (.int p1)] [] (xof s0 [W_2 o2, W_3 a3]) _
  refine x_iload_n dX4_has_0 rfl ?_
  refine x_if_lt (tgt := 25) dX4_has_1 (by decide) (fun c1 => ?_) (fun c1 => ?_)
  · replace h := xif_p c1 h
    refine x_iconst (v := 0) dX4_has_25 (by decide) ?_
    cases h
    exact x_zret dX4_has_26 (Or.inl rfl) ⟨rfl, rfl, rfl⟩
  · replace h := xif_n c1 h
    refine x_iload_n dX4_has_4 rfl ?_
    refine x_aload_n dX4_has_5 rfl ?_
    refine g_X4_15 rfl dX4_has_6 (by decide) rfl rfl ?_
    refine x_icmp_ge (tgt := 25) dX4_has_9 (by decide) (fun c2 => ?_) (fun c2 => ?_)
    · replace h := xif_p c2 h
      refine x_iconst (v := 0) dX4_has_25 (by decide) ?_
      cases h
      exact x_zret dX4_has_26 (Or.inl rfl) ⟨rfl, rfl, rfl⟩
    · replace h := xif_n c2 h
      refine x_iload_n dX4_has_12 rfl ?_
      refine x_aload_n dX4_has_13 rfl ?_
      refine g_X4_9 rfl dX4_has_14 (by decide) rfl rfl ?_
      refine x_alen (v := 9600) dX4_has_17 (by decide) rfl (by decide) rfl ?_
      refine x_icmp_ge (tgt := 25) dX4_has_18 (by decide) (fun c3 => ?_) (fun c3 => ?_)
      · replace h := xif_p c3 h
        refine x_iconst (v := 0) dX4_has_25 (by decide) ?_
        cases h
        exact x_zret dX4_has_26 (Or.inl rfl) ⟨rfl, rfl, rfl⟩
      · replace h := xif_n c3 h
        refine x_iconst (v := 1) dX4_has_21 (by decide) ?_
        refine x_goto (tgt := 26) dX4_has_22 (by decide) ?_
        cases h
        exact x_zret dX4_has_26 (Or.inr rfl) ⟨rfl, rfl, rfl⟩
def f_X4_toggle_2 (o2 : Nat → Int32) (a3 : Nat → Int32) (p1 : Int32) : Option (Nat → Int32) := (Option.bind (f_X4_has_2 o2 a3 p1) (fun q1 => (if q1 = 0 then (some a3) else (bif xin p1 9600 then (bif xin p1 9600 then (some (upd a3 ((Int32.toNatClampNeg p1)) ((vp_nar .byte (Int8.toInt32 (Int32.toInt8 ((a3 (Int32.toNatClampNeg p1)) ^^^ 1))))))) else none) else none))))
set_option maxRecDepth 100000 in
set_option maxHeartbeats 400000 in
theorem v_X4_toggle_2 (s0 : XW) (o2 : Nat → Int32) (a3 : Nat → Int32) (p1 : Int32) (q : Nat → Int32) (h : f_X4_toggle_2 o2 a3 p1 = some q) : C_X4_toggle 1 61 [.ref 2, .int p1] (xof s0 [W_2 o2, W_3 a3]) none (xof s0 [W_2 o2, W_3 q]) := by
  unfold f_X4_toggle_2 at h
  show V yX4_toggle cX4_toggle none 1 61 (0, 0) 0 [some (.ref 2), some (.int p1)] [] (xof s0 [W_2 o2, W_3 a3]) _
  refine x_aload_n dX4_toggle_0 rfl ?_
  refine x_iload_n dX4_toggle_1 rfl ?_
  obtain ⟨q1, hq1, h⟩ := Option.bind_eq_some_iff.mp h
  refine y_callVi (L' := [(2, _), (3, _)]) mi_X4_has ml_X4_22 im_X4_has se_X4_has (rfl : vwCl[3]? = _) dX4_toggle_2 (fun s1 => v_X4_has_2 s1 _ _ _ q1 hq1) (by decide) rfl (Nat.le_of_ble_eq_true rfl) rfl (by decide) (Nat.le_of_ble_eq_true rfl) rfl rfl rfl rfl ?_
  refine x_if_eq (tgt := 19) dX4_toggle_5 (by decide) (fun c2 => ?_) (fun c2 => ?_)
  · replace h := xif_p c2 h
    cases h
    exact x_vret dX4_toggle_19 ⟨rfl, rfl, rfl⟩
  · replace h := xif_n c2 h
    refine x_aload_n dX4_toggle_8 rfl ?_
    refine g_X4_9 rfl dX4_toggle_9 (by decide) rfl rfl ?_
    refine x_iload_n dX4_toggle_12 rfl ?_
    refine x_dup2 dX4_toggle_13 rfl rfl ?_
    obtain ⟨c3, h⟩ := xck h
    refine x_baldK (jn := (Int32.toNatClampNeg p1)) (v := (a3 (Int32.toNatClampNeg p1))) dX4_toggle_14 (by decide) rfl (xin_ok c3) rfl rfl ?_
    refine x_iconst (v := 1) dX4_toggle_15 (by decide) ?_
    refine x_ixor dX4_toggle_16 ?_
    refine x_i2b dX4_toggle_17 ?_
    obtain ⟨c4, h⟩ := xck h
    refine x_bastK (jn := (Int32.toNatClampNeg p1)) (L' := [(2, _), (3, _)]) dX4_toggle_18 (by decide) rfl (xin_ok c4) rfl rfl ?_
    cases h
    exact x_vret dX4_toggle_19 ⟨rfl, rfl, rfl⟩
def f_X4_bitAt_2 (o2 : Nat → Int32) (a3 : Nat → Int32) (p1 : Int32) : Option Int32 := (if p1 < 0 then (some 0) else (if 9600 ≤ p1 then (some 0) else (bif xin p1 9600 then (some ((a3 (Int32.toNatClampNeg p1)))) else none)))
set_option maxRecDepth 100000 in
set_option maxHeartbeats 400000 in
theorem v_X4_bitAt_2 (s0 : XW) (o2 : Nat → Int32) (a3 : Nat → Int32) (p1 : Int32) (q : Int32) (h : f_X4_bitAt_2 o2 a3 p1 = some q) : C_X4_bitAt 0 61 [.ref 2, .int p1] (xof s0 [W_2 o2, W_3 a3]) (some (.int q)) (xof s0 [W_2 o2, W_3 a3]) := by
  unfold f_X4_bitAt_2 at h
  show V yX4_bitAt cX4_bitAt (some .int) 0 61 (0, 0) 0 [some (.ref 2), some (.int p1)] [] (xof s0 [W_2 o2, W_3 a3]) _
  refine x_iload_n dX4_bitAt_0 rfl ?_
  refine x_if_lt (tgt := 22) dX4_bitAt_1 (by decide) (fun c1 => ?_) (fun c1 => ?_)
  · replace h := xif_p c1 h
    refine x_iconst (v := 0) dX4_bitAt_22 (by decide) ?_
    cases h
    exact x_iret dX4_bitAt_23 ⟨rfl, rfl, rfl⟩
  · replace h := xif_n c1 h
    refine x_iload_n dX4_bitAt_4 rfl ?_
    refine x_aload_n dX4_bitAt_5 rfl ?_
    refine g_X4_9 rfl dX4_bitAt_6 (by decide) rfl rfl ?_
    refine x_alen (v := 9600) dX4_bitAt_9 (by decide) rfl (by decide) rfl ?_
    refine x_icmp_ge (tgt := 22) dX4_bitAt_10 (by decide) (fun c2 => ?_) (fun c2 => ?_)
    · replace h := xif_p c2 h
      refine x_iconst (v := 0) dX4_bitAt_22 (by decide) ?_
      cases h
      exact x_iret dX4_bitAt_23 ⟨rfl, rfl, rfl⟩
    · replace h := xif_n c2 h
      refine x_aload_n dX4_bitAt_13 rfl ?_
      refine g_X4_9 rfl dX4_bitAt_14 (by decide) rfl rfl ?_
      refine x_iload_n dX4_bitAt_17 rfl ?_
      obtain ⟨c3, h⟩ := xck h
      refine x_baldK (jn := (Int32.toNatClampNeg p1)) (v := (a3 (Int32.toNatClampNeg p1))) dX4_bitAt_18 (by decide) rfl (xin_ok c3) rfl rfl ?_
      refine x_goto (tgt := 23) dX4_bitAt_19 (by decide) ?_
      cases h
      exact x_iret dX4_bitAt_23 ⟨rfl, rfl, rfl⟩
def f_X11_flip_0 (o2 : Nat → Int32) (a3 : Nat → Int32) (p1 : Int32) : Option (((Int32) × (Nat → Int32))) := (Option.bind (f_X4_has_2 o2 a3 p1) (fun q1 => (if q1 = 0 then (some ((-2), a3)) else (if (o2 2) ≤ p1 then (Option.bind (f_X4_toggle_2 o2 a3 p1) (fun q4 => (Option.bind (f_X4_bitAt_2 o2 q4 p1) (fun q5 => (some (q5, q4)))))) else (some ((-5), a3))))))
set_option maxRecDepth 100000 in
set_option maxHeartbeats 400000 in
theorem v_X11_flip_0 (s0 : XW) (o2 : Nat → Int32) (a3 : Nat → Int32) (p1 : Int32) (q : ((Int32) × (Nat → Int32))) (h : f_X11_flip_0 o2 a3 p1 = some q) : C_X11_flip 2 61 [.ref 0, .int p1] (xof s0 [W_0, W_2 o2, W_3 a3]) (some (.int q.1)) (xof s0 [W_0, W_2 o2, W_3 q.2]) := by
  unfold f_X11_flip_0 at h
  show V yX11_flip cX11_flip (some .int) 2 61 (0, 0) 0 [some (.ref 0), some (.int p1)] [] (xof s0 [W_0, W_2 o2, W_3 a3]) _
  refine x_aload_n dX11_flip_0 rfl ?_
  refine g_X11_24 rfl dX11_flip_1 (by decide) rfl rfl ?_
  refine x_iload_n dX11_flip_4 rfl ?_
  obtain ⟨q1, hq1, h⟩ := Option.bind_eq_some_iff.mp h
  refine y_callVi (L' := [(0, _), (2, _), (3, _)]) mi_X4_has ml_X11_122 im_X4_has se_X4_has (rfl : vwCl[3]? = _) dX11_flip_5 (fun s1 => v_X4_has_2 s1 _ _ _ q1 hq1) (by decide) rfl (Nat.le_of_ble_eq_true rfl) rfl (by decide) (Nat.le_of_ble_eq_true rfl) rfl rfl rfl rfl ?_
  refine x_if_ne (tgt := 14) dX11_flip_8 (by decide) (fun c2 => ?_) (fun c2 => ?_)
  · replace h := xif_n c2 h
    refine x_iload_n dX11_flip_14 rfl ?_
    refine x_aload_n dX11_flip_15 rfl ?_
    refine g_X11_24 rfl dX11_flip_16 (by decide) rfl rfl ?_
    refine g_X11_125 rfl dX11_flip_19 (by decide) rfl rfl ?_
    refine x_icmp_ge (tgt := 28) dX11_flip_22 (by decide) (fun c3 => ?_) (fun c3 => ?_)
    · replace h := xif_p c3 h
      refine x_aload_n dX11_flip_28 rfl ?_
      refine g_X11_24 rfl dX11_flip_29 (by decide) rfl rfl ?_
      refine x_iload_n dX11_flip_32 rfl ?_
      obtain ⟨q4, hq4, h⟩ := Option.bind_eq_some_iff.mp h
      refine y_callVv (L' := [(0, _), (2, _), (3, _)]) mi_X4_toggle ml_X11_128 im_X4_toggle se_X4_toggle (rfl : vwCl[3]? = _) dX11_flip_33 (fun s1 => v_X4_toggle_2 s1 _ _ _ q4 hq4) (by decide) rfl (Nat.le_of_ble_eq_true rfl) rfl (by decide) (Nat.le_of_ble_eq_true rfl) rfl rfl rfl rfl ?_
      refine x_aload_n dX11_flip_36 rfl ?_
      refine g_X11_24 rfl dX11_flip_37 (by decide) rfl rfl ?_
      refine x_iload_n dX11_flip_40 rfl ?_
      obtain ⟨q5, hq5, h⟩ := Option.bind_eq_some_iff.mp h
      refine y_callVi (L' := [(0, _), (2, _), (3, _)]) mi_X4_bitAt ml_X11_131 im_X4_bitAt se_X4_bitAt (rfl : vwCl[3]? = _) dX11_flip_41 (fun s1 => v_X4_bitAt_2 s1 _ _ _ q5 hq5) (by decide) rfl (Nat.le_of_ble_eq_true rfl) rfl (by decide) (Nat.le_of_ble_eq_true rfl) rfl rfl rfl rfl ?_
      cases h
      exact x_iret dX11_flip_44 ⟨rfl, rfl, rfl⟩
    · replace h := xif_n c3 h
      refine x_bipush (v := -5) dX11_flip_25 (by decide) ?_
      cases h
      exact x_iret dX11_flip_27 ⟨rfl, rfl, rfl⟩
  · replace h := xif_p c2 h
    refine x_bipush (v := -2) dX11_flip_11 (by decide) ?_
    cases h
    exact x_iret dX11_flip_13 ⟨rfl, rfl, rfl⟩
def f_X4_cut_2 (o2 : Nat → Int32) (a3 : Nat → Int32) (p1 : Int32) (p2 : Int32) : Option (((Nat → Int32) × (Nat → Int32))) := (Option.bind (f_X4_has_2 o2 a3 p1) (fun q1 => (if q1 = 0 then (some (o2, a3)) else (if p2 < 0 then (some (o2, a3)) else (if ((o2 1) - p1) < p2 then (some (o2, a3)) else (bif xcp (p1 + p2) p1 (((o2 1) - p1) - p2) 9600 9600 then (bif xfb a3 (p1 + p2) (((o2 1) - p1) - p2) then (some (upd o2 1 (((o2 1) - p2)), (va_cpy a3 a3 (Int32.toNatClampNeg (p1 + p2)) (Int32.toNatClampNeg p1) (Int32.toNatClampNeg (((o2 1) - p1) - p2))))) else none) else none))))))
set_option maxRecDepth 100000 in
set_option maxHeartbeats 400000 in
theorem v_X4_cut_2 (s0 : XW) (o2 : Nat → Int32) (a3 : Nat → Int32) (p1 : Int32) (p2 : Int32) (q : ((Nat → Int32) × (Nat → Int32))) (h : f_X4_cut_2 o2 a3 p1 p2 = some q) : C_X4_cut 1 61 [.ref 2, .int p1, .int p2] (xof s0 [W_2 o2, W_3 a3]) none (xof s0 [W_2 q.1, W_3 q.2]) := by
  unfold f_X4_cut_2 at h
  show V yX4_cut cX4_cut none 1 61 (0, 0) 0 [some (.ref 2), some (.int p1), some (.int p2)] [] (xof s0 [W_2 o2, W_3 a3]) _
  refine x_aload_n dX4_cut_0 rfl ?_
  refine x_iload_n dX4_cut_1 rfl ?_
  obtain ⟨q1, hq1, h⟩ := Option.bind_eq_some_iff.mp h
  refine y_callVi (L' := [(2, _), (3, _)]) mi_X4_has ml_X4_22 im_X4_has se_X4_has (rfl : vwCl[3]? = _) dX4_cut_2 (fun s1 => v_X4_has_2 s1 _ _ _ q1 hq1) (by decide) rfl (Nat.le_of_ble_eq_true rfl) rfl (by decide) (Nat.le_of_ble_eq_true rfl) rfl rfl rfl rfl ?_
  refine x_if_eq (tgt := 55) dX4_cut_5 (by decide) (fun c2 => ?_) (fun c2 => ?_)
  · replace h := xif_p c2 h
    cases h
    exact x_vret dX4_cut_55 ⟨rfl, rfl, rfl⟩
  · replace h := xif_n c2 h
    refine x_iload_n dX4_cut_8 rfl ?_
    refine x_if_lt (tgt := 55) dX4_cut_9 (by decide) (fun c3 => ?_) (fun c3 => ?_)
    · replace h := xif_p c3 h
      cases h
      exact x_vret dX4_cut_55 ⟨rfl, rfl, rfl⟩
    · replace h := xif_n c3 h
      refine x_iload_n dX4_cut_12 rfl ?_
      refine x_aload_n dX4_cut_13 rfl ?_
      refine g_X4_15 rfl dX4_cut_14 (by decide) rfl rfl ?_
      refine x_iload_n dX4_cut_17 rfl ?_
      refine x_isub dX4_cut_18 ?_
      refine x_icmp_gt (tgt := 55) dX4_cut_19 (by decide) (fun c4 => ?_) (fun c4 => ?_)
      · replace h := xif_p c4 h
        cases h
        exact x_vret dX4_cut_55 ⟨rfl, rfl, rfl⟩
      · replace h := xif_n c4 h
        refine x_aload_n dX4_cut_22 rfl ?_
        refine g_X4_9 rfl dX4_cut_23 (by decide) rfl rfl ?_
        refine x_iload_n dX4_cut_26 rfl ?_
        refine x_iload_n dX4_cut_27 rfl ?_
        refine x_iadd dX4_cut_28 ?_
        refine x_aload_n dX4_cut_29 rfl ?_
        refine g_X4_9 rfl dX4_cut_30 (by decide) rfl rfl ?_
        refine x_iload_n dX4_cut_33 rfl ?_
        refine x_aload_n dX4_cut_34 rfl ?_
        refine g_X4_15 rfl dX4_cut_35 (by decide) rfl rfl ?_
        refine x_iload_n dX4_cut_38 rfl ?_
        refine x_isub dX4_cut_39 ?_
        refine x_iload_n dX4_cut_40 rfl ?_
        refine x_isub dX4_cut_41 ?_
        obtain ⟨c5, h⟩ := xck h
        obtain ⟨c6, h⟩ := xck h
        refine x_copyiL (t := 1) (ty := .byte) (L' := [(2, _), (3, _)]) dX4_cut_42 ml_X4_33 (by decide) (by decide) (by decide) rfl rfl (fun _ => rfl) rfl (xcp_ok c5).1 (xcp_ok c5).2.1 (xcp_ok c5).2.2.1 (xcp_ok c5).2.2.2.1 (xcp_ok c5).2.2.2.2 (xfb_ok c6) (Nat.le_of_ble_eq_true rfl) rfl ?_
        refine x_aload_n dX4_cut_45 rfl ?_
        refine x_dup dX4_cut_46 rfl ?_
        refine g_X4_15 rfl dX4_cut_47 (by decide) rfl rfl ?_
        refine x_iload_n dX4_cut_50 rfl ?_
        refine x_isub dX4_cut_51 ?_
        refine p_X4_15 (fs' := [_, _, _]) (L' := [(2, _), (3, _)]) rfl dX4_cut_52 (by decide) rfl (Nat.le_of_ble_eq_true rfl) rfl rfl ?_
        cases h
        exact x_vret dX4_cut_55 ⟨rfl, rfl, rfl⟩
def f_X11_drop_0 (o2 : Nat → Int32) (a3 : Nat → Int32) (p1 : Int32) (p2 : Int32) : Option (((Int32) × (Nat → Int32) × (Nat → Int32))) := (Option.bind (f_X4_has_2 o2 a3 p1) (fun q1 => (if q1 = 0 then (some ((-2), o2, a3)) else (Option.bind (f_X11_isWithin p2 1 400) (fun q3 => (if q3 = 0 then (some ((-3), o2, a3)) else (if p2 ≤ ((o2 1) - p1) then (if (o2 2) ≤ p1 then (Option.bind (f_X4_cut_2 o2 a3 p1 p2) (fun q7 => (some ((q7.1 1), q7.1, q7.2)))) else (some ((-5), o2, a3))) else (some ((-3), o2, a3)))))))))
set_option maxRecDepth 100000 in
set_option maxHeartbeats 400000 in
theorem v_X11_drop_0 (s0 : XW) (o2 : Nat → Int32) (a3 : Nat → Int32) (p1 : Int32) (p2 : Int32) (q : ((Int32) × (Nat → Int32) × (Nat → Int32))) (h : f_X11_drop_0 o2 a3 p1 p2 = some q) : C_X11_drop 2 61 [.ref 0, .int p1, .int p2] (xof s0 [W_0, W_2 o2, W_3 a3]) (some (.int q.1)) (xof s0 [W_0, W_2 q.2.1, W_3 q.2.2]) := by
  unfold f_X11_drop_0 at h
  show V yX11_drop cX11_drop (some .int) 2 61 (0, 0) 0 [some (.ref 0), some (.int p1), some (.int p2)] [] (xof s0 [W_0, W_2 o2, W_3 a3]) _
  refine x_aload_n dX11_drop_0 rfl ?_
  refine g_X11_24 rfl dX11_drop_1 (by decide) rfl rfl ?_
  refine x_iload_n dX11_drop_4 rfl ?_
  obtain ⟨q1, hq1, h⟩ := Option.bind_eq_some_iff.mp h
  refine y_callVi (L' := [(0, _), (2, _), (3, _)]) mi_X4_has ml_X11_122 im_X4_has se_X4_has (rfl : vwCl[3]? = _) dX11_drop_5 (fun s1 => v_X4_has_2 s1 _ _ _ q1 hq1) (by decide) rfl (Nat.le_of_ble_eq_true rfl) rfl (by decide) (Nat.le_of_ble_eq_true rfl) rfl rfl rfl rfl ?_
  refine x_if_ne (tgt := 14) dX11_drop_8 (by decide) (fun c2 => ?_) (fun c2 => ?_)
  · replace h := xif_n c2 h
    refine x_iload_n dX11_drop_14 rfl ?_
    refine x_iconst (v := 1) dX11_drop_15 (by decide) ?_
    refine x_sipush (v := 400) dX11_drop_16 (by decide) ?_
    obtain ⟨q3, hq3, h⟩ := Option.bind_eq_some_iff.mp h
    refine y_callSi (L' := [(0, _), (2, _), (3, _)]) mi_X11_isWithin ml_X11_100 st_X11_isWithin dX11_drop_19 (fun s1 => v_X11_isWithin 61 s1 _ _ _ q3 hq3) (Nat.le_of_ble_eq_true rfl) rfl (by decide) (Nat.le_of_ble_eq_true rfl) rfl rfl rfl rfl ?_
    refine x_if_eq (tgt := 38) dX11_drop_22 (by decide) (fun c4 => ?_) (fun c4 => ?_)
    · replace h := xif_p c4 h
      refine x_bipush (v := -3) dX11_drop_38 (by decide) ?_
      cases h
      exact x_iret dX11_drop_40 ⟨rfl, rfl, rfl⟩
    · replace h := xif_n c4 h
      refine x_iload_n dX11_drop_25 rfl ?_
      refine x_aload_n dX11_drop_26 rfl ?_
      refine g_X11_24 rfl dX11_drop_27 (by decide) rfl rfl ?_
      refine g_X11_96 rfl dX11_drop_30 (by decide) rfl rfl ?_
      refine x_iload_n dX11_drop_33 rfl ?_
      refine x_isub dX11_drop_34 ?_
      refine x_icmp_le (tgt := 41) dX11_drop_35 (by decide) (fun c5 => ?_) (fun c5 => ?_)
      · replace h := xif_p c5 h
        refine x_iload_n dX11_drop_41 rfl ?_
        refine x_aload_n dX11_drop_42 rfl ?_
        refine g_X11_24 rfl dX11_drop_43 (by decide) rfl rfl ?_
        refine g_X11_125 rfl dX11_drop_46 (by decide) rfl rfl ?_
        refine x_icmp_ge (tgt := 55) dX11_drop_49 (by decide) (fun c6 => ?_) (fun c6 => ?_)
        · replace h := xif_p c6 h
          refine x_aload_n dX11_drop_55 rfl ?_
          refine g_X11_24 rfl dX11_drop_56 (by decide) rfl rfl ?_
          refine x_iload_n dX11_drop_59 rfl ?_
          refine x_iload_n dX11_drop_60 rfl ?_
          obtain ⟨q7, hq7, h⟩ := Option.bind_eq_some_iff.mp h
          refine y_callVv (L' := [(0, _), (2, _), (3, _)]) mi_X4_cut ml_X11_135 im_X4_cut se_X4_cut (rfl : vwCl[3]? = _) dX11_drop_61 (fun s1 => v_X4_cut_2 s1 _ _ _ _ q7 hq7) (by decide) rfl (Nat.le_of_ble_eq_true rfl) rfl (by decide) (Nat.le_of_ble_eq_true rfl) rfl rfl rfl rfl ?_
          refine x_aload_n dX11_drop_64 rfl ?_
          refine g_X11_24 rfl dX11_drop_65 (by decide) rfl rfl ?_
          refine g_X11_96 rfl dX11_drop_68 (by decide) rfl rfl ?_
          cases h
          exact x_iret dX11_drop_71 ⟨rfl, rfl, rfl⟩
        · replace h := xif_n c6 h
          refine x_bipush (v := -5) dX11_drop_52 (by decide) ?_
          cases h
          exact x_iret dX11_drop_54 ⟨rfl, rfl, rfl⟩
      · replace h := xif_n c5 h
        refine x_bipush (v := -3) dX11_drop_38 (by decide) ?_
        cases h
        exact x_iret dX11_drop_40 ⟨rfl, rfl, rfl⟩
  · replace h := xif_p c2 h
    refine x_bipush (v := -2) dX11_drop_11 (by decide) ?_
    cases h
    exact x_iret dX11_drop_13 ⟨rfl, rfl, rfl⟩
def f_X4_insert_2 (n : Nat) (o2 : Nat → Int32) (a3 : Nat → Int32) (p1 : Int32) (p2 : Int32) (p3 : Int32) : Option (((Nat → Int32) × (Nat → Int32))) := (if p1 < 0 then (some (o2, a3)) else (if (o2 1) < p1 then (some (o2, a3)) else (Option.bind (f_X4_hasRoomFor_2 o2 p2) (fun q3 => (if q3 = 0 then (some (o2, a3)) else (bif xcp p1 (p1 + p2) ((o2 1) - p1) 9600 9600 then (bif xfb a3 p1 ((o2 1) - p1) then (Option.bind (f_X4_write_2 n o2 ((va_cpy a3 a3 (Int32.toNatClampNeg p1) (Int32.toNatClampNeg (p1 + p2)) (Int32.toNatClampNeg ((o2 1) - p1)))) p1 p2 p3) (fun q7 => (some (upd o2 1 (((o2 1) + p2)), q7)))) else none) else none))))))
set_option maxRecDepth 100000 in
set_option maxHeartbeats 400000 in
theorem v_X4_insert_2 (s0 : XW) (n : Nat) (o2 : Nat → Int32) (a3 : Nat → Int32) (p1 : Int32) (p2 : Int32) (p3 : Int32) (q : ((Nat → Int32) × (Nat → Int32))) (h : f_X4_insert_2 n o2 a3 p1 p2 p3 = some q) : C_X4_insert 1 61 [.ref 2, .int p1, .int p2, .int p3] (xof s0 [W_2 o2, W_3 a3]) none (xof s0 [W_2 q.1, W_3 q.2]) := by
  unfold f_X4_insert_2 at h
  show V yX4_insert cX4_insert none 1 61 (0, 0) 0 [some (.ref 2), some (.int p1), some (.int p2), some (.int p3)] [] (xof s0 [W_2 o2, W_3 a3]) _
  refine x_iload_n dX4_insert_0 rfl ?_
  refine x_if_lt (tgt := 58) dX4_insert_1 (by decide) (fun c1 => ?_) (fun c1 => ?_)
  · replace h := xif_p c1 h
    cases h
    exact x_vret dX4_insert_58 ⟨rfl, rfl, rfl⟩
  · replace h := xif_n c1 h
    refine x_iload_n dX4_insert_4 rfl ?_
    refine x_aload_n dX4_insert_5 rfl ?_
    refine g_X4_15 rfl dX4_insert_6 (by decide) rfl rfl ?_
    refine x_icmp_gt (tgt := 58) dX4_insert_9 (by decide) (fun c2 => ?_) (fun c2 => ?_)
    · replace h := xif_p c2 h
      cases h
      exact x_vret dX4_insert_58 ⟨rfl, rfl, rfl⟩
    · replace h := xif_n c2 h
      refine x_aload_n dX4_insert_12 rfl ?_
      refine x_iload_n dX4_insert_13 rfl ?_
      obtain ⟨q3, hq3, h⟩ := Option.bind_eq_some_iff.mp h
      refine y_callVi (L' := [(2, _), (3, _)]) mi_X4_hasRoomFor ml_X4_26 im_X4_hasRoomFor se_X4_hasRoomFor (rfl : vwCl[3]? = _) dX4_insert_14 (fun s1 => v_X4_hasRoomFor_2 s1 _ _ q3 hq3) (by decide) rfl (Nat.le_of_ble_eq_true rfl) rfl (by decide) (Nat.le_of_ble_eq_true rfl) rfl rfl rfl rfl ?_
      refine x_if_eq (tgt := 58) dX4_insert_17 (by decide) (fun c4 => ?_) (fun c4 => ?_)
      · replace h := xif_p c4 h
        cases h
        exact x_vret dX4_insert_58 ⟨rfl, rfl, rfl⟩
      · replace h := xif_n c4 h
        refine x_aload_n dX4_insert_20 rfl ?_
        refine g_X4_9 rfl dX4_insert_21 (by decide) rfl rfl ?_
        refine x_iload_n dX4_insert_24 rfl ?_
        refine x_aload_n dX4_insert_25 rfl ?_
        refine g_X4_9 rfl dX4_insert_26 (by decide) rfl rfl ?_
        refine x_iload_n dX4_insert_29 rfl ?_
        refine x_iload_n dX4_insert_30 rfl ?_
        refine x_iadd dX4_insert_31 ?_
        refine x_aload_n dX4_insert_32 rfl ?_
        refine g_X4_15 rfl dX4_insert_33 (by decide) rfl rfl ?_
        refine x_iload_n dX4_insert_36 rfl ?_
        refine x_isub dX4_insert_37 ?_
        obtain ⟨c5, h⟩ := xck h
        obtain ⟨c6, h⟩ := xck h
        refine x_copyiL (t := 1) (ty := .byte) (L' := [(2, _), (3, _)]) dX4_insert_38 ml_X4_33 (by decide) (by decide) (by decide) rfl rfl (fun _ => rfl) rfl (xcp_ok c5).1 (xcp_ok c5).2.1 (xcp_ok c5).2.2.1 (xcp_ok c5).2.2.2.1 (xcp_ok c5).2.2.2.2 (xfb_ok c6) (Nat.le_of_ble_eq_true rfl) rfl ?_
        refine x_aload_n dX4_insert_41 rfl ?_
        refine x_iload_n dX4_insert_42 rfl ?_
        refine x_iload_n dX4_insert_43 rfl ?_
        refine x_iload_n dX4_insert_44 rfl ?_
        obtain ⟨q7, hq7, h⟩ := Option.bind_eq_some_iff.mp h
        refine y_callVv (L' := [(2, _), (3, _)]) mi_X4_write ml_X4_29 im_X4_write se_X4_write (rfl : vwCl[3]? = _) dX4_insert_45 (fun s1 => v_X4_write_2 s1 n _ _ _ _ _ q7 hq7) (by decide) rfl (Nat.le_of_ble_eq_true rfl) rfl (by decide) (Nat.le_of_ble_eq_true rfl) rfl rfl rfl rfl ?_
        refine x_aload_n dX4_insert_48 rfl ?_
        refine x_dup dX4_insert_49 rfl ?_
        refine g_X4_15 rfl dX4_insert_50 (by decide) rfl rfl ?_
        refine x_iload_n dX4_insert_53 rfl ?_
        refine x_iadd dX4_insert_54 ?_
        refine p_X4_15 (fs' := [_, _, _]) (L' := [(2, _), (3, _)]) rfl dX4_insert_55 (by decide) rfl (Nat.le_of_ble_eq_true rfl) rfl rfl ?_
        cases h
        exact x_vret dX4_insert_58 ⟨rfl, rfl, rfl⟩
def f_X11_slip_0 (n : Nat) (o2 : Nat → Int32) (a3 : Nat → Int32) (p1 : Int32) (p2 : Int32) (p3 : Int32) : Option (((Int32) × (Nat → Int32) × (Nat → Int32))) := (Option.bind (f_X11_isWithin p1 0 ((o2 1))) (fun q1 => (if q1 = 0 then (some ((-2), o2, a3)) else (Option.bind (f_X11_isWithin p2 1 32) (fun q3 => (if q3 = 0 then (some ((-3), o2, a3)) else (Option.bind (f_X4_hasRoomFor_2 o2 p2) (fun q5 => (if q5 = 0 then (some ((-4), o2, a3)) else (if (o2 2) ≤ p1 then (Option.bind (f_X4_insert_2 n o2 a3 p1 p2 p3) (fun q8 => (some ((q8.1 1), q8.1, q8.2)))) else (some ((-5), o2, a3))))))))))))
set_option maxRecDepth 100000 in
set_option maxHeartbeats 400000 in
theorem v_X11_slip_0 (s0 : XW) (n : Nat) (o2 : Nat → Int32) (a3 : Nat → Int32) (p1 : Int32) (p2 : Int32) (p3 : Int32) (q : ((Int32) × (Nat → Int32) × (Nat → Int32))) (h : f_X11_slip_0 n o2 a3 p1 p2 p3 = some q) : C_X11_slip 2 61 [.ref 0, .int p1, .int p2, .int p3] (xof s0 [W_0, W_2 o2, W_3 a3]) (some (.int q.1)) (xof s0 [W_0, W_2 q.2.1, W_3 q.2.2]) := by
  unfold f_X11_slip_0 at h
  show V yX11_slip cX11_slip (some .int) 2 61 (0, 0) 0 [some (.ref 0), some (.int p1), some (.int p2), some (.int p3)] [] (xof s0 [W_0, W_2 o2, W_3 a3]) _
  refine x_iload_n dX11_slip_0 rfl ?_
  refine x_iconst (v := 0) dX11_slip_1 (by decide) ?_
  refine x_aload_n dX11_slip_2 rfl ?_
  refine g_X11_24 rfl dX11_slip_3 (by decide) rfl rfl ?_
  refine g_X11_96 rfl dX11_slip_6 (by decide) rfl rfl ?_
  obtain ⟨q1, hq1, h⟩ := Option.bind_eq_some_iff.mp h
  refine y_callSi (L' := [(0, _), (2, _), (3, _)]) mi_X11_isWithin ml_X11_100 st_X11_isWithin dX11_slip_9 (fun s1 => v_X11_isWithin 61 s1 _ _ _ q1 hq1) (Nat.le_of_ble_eq_true rfl) rfl (by decide) (Nat.le_of_ble_eq_true rfl) rfl rfl rfl rfl ?_
  refine x_if_ne (tgt := 18) dX11_slip_12 (by decide) (fun c2 => ?_) (fun c2 => ?_)
  · replace h := xif_n c2 h
    refine x_iload_n dX11_slip_18 rfl ?_
    refine x_iconst (v := 1) dX11_slip_19 (by decide) ?_
    refine x_bipush (v := 32) dX11_slip_20 (by decide) ?_
    obtain ⟨q3, hq3, h⟩ := Option.bind_eq_some_iff.mp h
    refine y_callSi (L' := [(0, _), (2, _), (3, _)]) mi_X11_isWithin ml_X11_100 st_X11_isWithin dX11_slip_22 (fun s1 => v_X11_isWithin 61 s1 _ _ _ q3 hq3) (Nat.le_of_ble_eq_true rfl) rfl (by decide) (Nat.le_of_ble_eq_true rfl) rfl rfl rfl rfl ?_
    refine x_if_ne (tgt := 31) dX11_slip_25 (by decide) (fun c4 => ?_) (fun c4 => ?_)
    · replace h := xif_n c4 h
      refine x_aload_n dX11_slip_31 rfl ?_
      refine g_X11_24 rfl dX11_slip_32 (by decide) rfl rfl ?_
      refine x_iload_n dX11_slip_35 rfl ?_
      obtain ⟨q5, hq5, h⟩ := Option.bind_eq_some_iff.mp h
      refine y_callVi (L' := [(0, _), (2, _), (3, _)]) mi_X4_hasRoomFor ml_X11_88 im_X4_hasRoomFor se_X4_hasRoomFor (rfl : vwCl[3]? = _) dX11_slip_36 (fun s1 => v_X4_hasRoomFor_2 s1 _ _ q5 hq5) (by decide) rfl (Nat.le_of_ble_eq_true rfl) rfl (by decide) (Nat.le_of_ble_eq_true rfl) rfl rfl rfl rfl ?_
      refine x_if_ne (tgt := 45) dX11_slip_39 (by decide) (fun c6 => ?_) (fun c6 => ?_)
      · replace h := xif_n c6 h
        refine x_iload_n dX11_slip_45 rfl ?_
        refine x_aload_n dX11_slip_46 rfl ?_
        refine g_X11_24 rfl dX11_slip_47 (by decide) rfl rfl ?_
        refine g_X11_125 rfl dX11_slip_50 (by decide) rfl rfl ?_
        refine x_icmp_ge (tgt := 59) dX11_slip_53 (by decide) (fun c7 => ?_) (fun c7 => ?_)
        · replace h := xif_p c7 h
          refine x_aload_n dX11_slip_59 rfl ?_
          refine g_X11_24 rfl dX11_slip_60 (by decide) rfl rfl ?_
          refine x_iload_n dX11_slip_63 rfl ?_
          refine x_iload_n dX11_slip_64 rfl ?_
          refine x_iload_n dX11_slip_65 rfl ?_
          obtain ⟨q8, hq8, h⟩ := Option.bind_eq_some_iff.mp h
          refine y_callVv (L' := [(0, _), (2, _), (3, _)]) mi_X4_insert ml_X11_138 im_X4_insert se_X4_insert (rfl : vwCl[3]? = _) dX11_slip_66 (fun s1 => v_X4_insert_2 s1 n _ _ _ _ _ q8 hq8) (by decide) rfl (Nat.le_of_ble_eq_true rfl) rfl (by decide) (Nat.le_of_ble_eq_true rfl) rfl rfl rfl rfl ?_
          refine x_aload_n dX11_slip_69 rfl ?_
          refine g_X11_24 rfl dX11_slip_70 (by decide) rfl rfl ?_
          refine g_X11_96 rfl dX11_slip_73 (by decide) rfl rfl ?_
          cases h
          exact x_iret dX11_slip_76 ⟨rfl, rfl, rfl⟩
        · replace h := xif_n c7 h
          refine x_bipush (v := -5) dX11_slip_56 (by decide) ?_
          cases h
          exact x_iret dX11_slip_58 ⟨rfl, rfl, rfl⟩
      · replace h := xif_p c6 h
        refine x_bipush (v := -4) dX11_slip_42 (by decide) ?_
        cases h
        exact x_iret dX11_slip_44 ⟨rfl, rfl, rfl⟩
    · replace h := xif_p c4 h
      refine x_bipush (v := -3) dX11_slip_28 (by decide) ?_
      cases h
      exact x_iret dX11_slip_30 ⟨rfl, rfl, rfl⟩
  · replace h := xif_p c2 h
    refine x_bipush (v := -2) dX11_slip_15 (by decide) ?_
    cases h
    exact x_iret dX11_slip_17 ⟨rfl, rfl, rfl⟩
def l_X11_disturb_0_90 (n : Nat) (o2 : Nat → Int32) (l1 : Int32) (l2 : Int32) (l3 : Int32) : Nat → (Int32) → (Int32) → (Int32) → (Nat → Int32) → Option (((Int32) × (Int32) × (Int32) × (Nat → Int32)))
  | 0, _, _, _, _ => none
  | k + 1, l5, l6, l7, a3 => (if l2 ≤ l7 then (some (l5, l6, l7, a3)) else (Option.bind (f_X8_following l6) (fun q12 => (bif xnz l3 then (if (q12 - q12 / l3 * l3) = 0 then (Option.bind (f_X4_toggle_2 o2 a3 ((l1 + l7))) (fun q15 => (l_X11_disturb_0_90 n o2 l1 l2 l3 k ((l5 + 1)) q12 ((l7 + 1)) q15))) else (l_X11_disturb_0_90 n o2 l1 l2 l3 k l5 q12 ((l7 + 1)) a3)) else none))))
set_option maxRecDepth 100000 in
set_option maxHeartbeats 400000 in
theorem lv_X11_disturb_0_90 (s0 : XW) (n : Nat) (o2 : Nat → Int32) (l1 : Int32) (l2 : Int32) (l3 : Int32) (Q : Nat → Option Value → XW → Prop) : ∀ (k : Nat) (l5 : Int32) (l6 : Int32) (l7 : Int32) (a3 : Nat → Int32) (o : ((Int32) × (Int32) × (Int32) × (Nat → Int32))), l_X11_disturb_0_90 n o2 l1 l2 l3 k l5 l6 l7 a3 = some o → (V yX11_disturb cX11_disturb (some .int) 2 61 (0, 0) 130 [none, none, none, none, none, some (.int o.1), none, none] [] (xof s0 [W_0, W_2 o2, W_3 o.2.2.2]) Q) → V yX11_disturb cX11_disturb (some .int) 2 61 (0, 0) 90 [some (.ref 0), some (.int l1), some (.int l2), some (.int l3), none, some (.int l5), some (.int l6), some (.int l7)] [] (xof s0 [W_0, W_2 o2, W_3 a3]) Q := by
  intro k
  induction k with
  | zero =>
    intro _ _ _ _ _ h
    simp [l_X11_disturb_0_90] at h
  | succ k ih =>
    intro l5 l6 l7 a3 o h hk
    rw [l_X11_disturb_0_90] at h
    refine x_iload dX11_disturb_90 rfl ?_
    refine x_iload_n dX11_disturb_92 rfl ?_
    refine x_icmp_ge (tgt := 130) dX11_disturb_93 (by decide) (fun c11 => ?_) (fun c11 => ?_)
    · replace h := xif_p c11 h
      refine V.drop1 (i := 0) (ls' := [_, _, _, _, _, _, _, _]) rfl ?_
      refine V.drop1 (i := 1) (ls' := [_, _, _, _, _, _, _, _]) rfl ?_
      refine V.drop1 (i := 2) (ls' := [_, _, _, _, _, _, _, _]) rfl ?_
      refine V.drop1 (i := 3) (ls' := [_, _, _, _, _, _, _, _]) rfl ?_
      refine V.drop1 (i := 6) (ls' := [_, _, _, _, _, _, _, _]) rfl ?_
      refine V.drop1 (i := 7) (ls' := [_, _, _, _, _, _, _, _]) rfl ?_
      show V yX11_disturb cX11_disturb (some .int) 2 61 (0, 0) 130 [none, none, none, none, none, some (.int l5), none, none] [] (xof s0 [W_0, W_2 o2, W_3 a3]) _
      cases h
      exact hk
    · replace h := xif_n c11 h
      refine x_iload dX11_disturb_96 rfl ?_
      obtain ⟨q12, hq12, h⟩ := Option.bind_eq_some_iff.mp h
      refine y_callSi (L' := [(0, _), (2, _), (3, _)]) mi_X8_following ml_X11_142 st_X8_following dX11_disturb_98 (fun s1 => v_X8_following 61 s1 _ q12 hq12) (Nat.le_of_ble_eq_true rfl) rfl (by decide) (Nat.le_of_ble_eq_true rfl) rfl rfl rfl rfl ?_
      refine x_istore (ls' := [_, _, _, _, _, _, _, _]) dX11_disturb_101 rfl rfl ?_
      refine x_iload dX11_disturb_103 rfl ?_
      refine x_iload_n dX11_disturb_105 rfl ?_
      obtain ⟨c13, h⟩ := xck h
      refine x_irem dX11_disturb_106 (xnz_ok c13) ?_
      refine x_if_ne (tgt := 124) dX11_disturb_107 (by decide) (fun c14 => ?_) (fun c14 => ?_)
      · replace h := xif_n c14 h
        refine x_iinc (v := l7 + 1) (ls' := [_, _, _, _, _, _, _, _]) dX11_disturb_124 rfl rfl rfl rfl ?_
        refine x_goto (tgt := 90) dX11_disturb_127 (by decide) ?_
        show V yX11_disturb cX11_disturb (some .int) 2 61 (0, 0) 90 [some (.ref 0), some (.int l1), some (.int l2), some (.int l3), none, some (.int l5), some (.int q12), some (.int ((l7 + 1)))] [] (xof s0 [W_0, W_2 o2, W_3 a3]) _
        exact ih l5 q12 ((l7 + 1)) a3 _ h hk
      · replace h := xif_p c14 h
        refine x_aload_n dX11_disturb_110 rfl ?_
        refine g_X11_24 rfl dX11_disturb_111 (by decide) rfl rfl ?_
        refine x_iload_n dX11_disturb_114 rfl ?_
        refine x_iload dX11_disturb_115 rfl ?_
        refine x_iadd dX11_disturb_117 ?_
        obtain ⟨q15, hq15, h⟩ := Option.bind_eq_some_iff.mp h
        refine y_callVv (L' := [(0, _), (2, _), (3, _)]) mi_X4_toggle ml_X11_128 im_X4_toggle se_X4_toggle (rfl : vwCl[3]? = _) dX11_disturb_118 (fun s1 => v_X4_toggle_2 s1 _ _ _ q15 hq15) (by decide) rfl (Nat.le_of_ble_eq_true rfl) rfl (by decide) (Nat.le_of_ble_eq_true rfl) rfl rfl rfl rfl ?_
        refine x_iinc (v := l5 + 1) (ls' := [_, _, _, _, _, _, _, _]) dX11_disturb_121 rfl rfl rfl rfl ?_
        refine x_iinc (v := l7 + 1) (ls' := [_, _, _, _, _, _, _, _]) dX11_disturb_124 rfl rfl rfl rfl ?_
        refine x_goto (tgt := 90) dX11_disturb_127 (by decide) ?_
        show V yX11_disturb cX11_disturb (some .int) 2 61 (0, 0) 90 [some (.ref 0), some (.int l1), some (.int l2), some (.int l3), none, some (.int ((l5 + 1))), some (.int q12), some (.int ((l7 + 1)))] [] (xof s0 [W_0, W_2 o2, W_3 q15]) _
        exact ih ((l5 + 1)) q12 ((l7 + 1)) q15 _ h hk
def f_X11_disturb_0 (n : Nat) (o2 : Nat → Int32) (a3 : Nat → Int32) (p1 : Int32) (p2 : Int32) (p3 : Int32) (p4 : Int32) : Option (((Int32) × (Nat → Int32))) := (Option.bind (f_X4_has_2 o2 a3 p1) (fun q1 => (if q1 = 0 then (some ((-2), a3)) else (Option.bind (f_X11_isWithin p2 1 2000) (fun q3 => (if q3 = 0 then (some ((-3), a3)) else (if p2 ≤ ((o2 1) - p1) then (Option.bind (f_X11_isWithin p3 1 1000) (fun q6 => (if q6 = 0 then (some ((-3), a3)) else (Option.bind (f_X11_isWithin p4 0 1000003) (fun q8 => (if q8 = 0 then (some ((-3), a3)) else (if (o2 2) ≤ p1 then (Option.bind (l_X11_disturb_0_90 n o2 p1 p2 p3 n 0 p4 0 a3) (fun u16 => (some (u16.1, u16.2.2.2)))) else (some ((-5), a3))))))))) else (some ((-3), a3)))))))))
set_option maxRecDepth 100000 in
set_option maxHeartbeats 400000 in
theorem v_X11_disturb_0 (s0 : XW) (n : Nat) (o2 : Nat → Int32) (a3 : Nat → Int32) (p1 : Int32) (p2 : Int32) (p3 : Int32) (p4 : Int32) (q : ((Int32) × (Nat → Int32))) (h : f_X11_disturb_0 n o2 a3 p1 p2 p3 p4 = some q) : C_X11_disturb 2 61 [.ref 0, .int p1, .int p2, .int p3, .int p4] (xof s0 [W_0, W_2 o2, W_3 a3]) (some (.int q.1)) (xof s0 [W_0, W_2 o2, W_3 q.2]) := by
  unfold f_X11_disturb_0 at h
  show V yX11_disturb cX11_disturb (some .int) 2 61 (0, 0) 0 [some (.ref 0), some (.int p1), some (.int p2), some (.int p3), some (.int p4), none, none, none] [] (xof s0 [W_0, W_2 o2, W_3 a3]) _
  refine x_aload_n dX11_disturb_0 rfl ?_
  refine g_X11_24 rfl dX11_disturb_1 (by decide) rfl rfl ?_
  refine x_iload_n dX11_disturb_4 rfl ?_
  obtain ⟨q1, hq1, h⟩ := Option.bind_eq_some_iff.mp h
  refine y_callVi (L' := [(0, _), (2, _), (3, _)]) mi_X4_has ml_X11_122 im_X4_has se_X4_has (rfl : vwCl[3]? = _) dX11_disturb_5 (fun s1 => v_X4_has_2 s1 _ _ _ q1 hq1) (by decide) rfl (Nat.le_of_ble_eq_true rfl) rfl (by decide) (Nat.le_of_ble_eq_true rfl) rfl rfl rfl rfl ?_
  refine x_if_ne (tgt := 14) dX11_disturb_8 (by decide) (fun c2 => ?_) (fun c2 => ?_)
  · replace h := xif_n c2 h
    refine x_iload_n dX11_disturb_14 rfl ?_
    refine x_iconst (v := 1) dX11_disturb_15 (by decide) ?_
    refine x_sipush (v := 2000) dX11_disturb_16 (by decide) ?_
    obtain ⟨q3, hq3, h⟩ := Option.bind_eq_some_iff.mp h
    refine y_callSi (L' := [(0, _), (2, _), (3, _)]) mi_X11_isWithin ml_X11_100 st_X11_isWithin dX11_disturb_19 (fun s1 => v_X11_isWithin 61 s1 _ _ _ q3 hq3) (Nat.le_of_ble_eq_true rfl) rfl (by decide) (Nat.le_of_ble_eq_true rfl) rfl rfl rfl rfl ?_
    refine x_if_eq (tgt := 38) dX11_disturb_22 (by decide) (fun c4 => ?_) (fun c4 => ?_)
    · replace h := xif_p c4 h
      refine x_bipush (v := -3) dX11_disturb_38 (by decide) ?_
      cases h
      exact x_iret dX11_disturb_40 ⟨rfl, rfl, rfl⟩
    · replace h := xif_n c4 h
      refine x_iload_n dX11_disturb_25 rfl ?_
      refine x_aload_n dX11_disturb_26 rfl ?_
      refine g_X11_24 rfl dX11_disturb_27 (by decide) rfl rfl ?_
      refine g_X11_96 rfl dX11_disturb_30 (by decide) rfl rfl ?_
      refine x_iload_n dX11_disturb_33 rfl ?_
      refine x_isub dX11_disturb_34 ?_
      refine x_icmp_le (tgt := 41) dX11_disturb_35 (by decide) (fun c5 => ?_) (fun c5 => ?_)
      · replace h := xif_p c5 h
        refine x_iload_n dX11_disturb_41 rfl ?_
        refine x_iconst (v := 1) dX11_disturb_42 (by decide) ?_
        refine x_sipush (v := 1000) dX11_disturb_43 (by decide) ?_
        obtain ⟨q6, hq6, h⟩ := Option.bind_eq_some_iff.mp h
        refine y_callSi (L' := [(0, _), (2, _), (3, _)]) mi_X11_isWithin ml_X11_100 st_X11_isWithin dX11_disturb_46 (fun s1 => v_X11_isWithin 61 s1 _ _ _ q6 hq6) (Nat.le_of_ble_eq_true rfl) rfl (by decide) (Nat.le_of_ble_eq_true rfl) rfl rfl rfl rfl ?_
        refine x_if_eq (tgt := 63) dX11_disturb_49 (by decide) (fun c7 => ?_) (fun c7 => ?_)
        · replace h := xif_p c7 h
          refine x_bipush (v := -3) dX11_disturb_63 (by decide) ?_
          cases h
          exact x_iret dX11_disturb_65 ⟨rfl, rfl, rfl⟩
        · replace h := xif_n c7 h
          refine x_iload dX11_disturb_52 rfl ?_
          refine x_iconst (v := 0) dX11_disturb_54 (by decide) ?_
          refine x_ldc dX11_disturb_55 cn_X11_104 ?_
          obtain ⟨q8, hq8, h⟩ := Option.bind_eq_some_iff.mp h
          refine y_callSi (L' := [(0, _), (2, _), (3, _)]) mi_X11_isWithin ml_X11_100 st_X11_isWithin dX11_disturb_57 (fun s1 => v_X11_isWithin 61 s1 _ _ _ q8 hq8) (Nat.le_of_ble_eq_true rfl) rfl (by decide) (Nat.le_of_ble_eq_true rfl) rfl rfl rfl rfl ?_
          refine x_if_ne (tgt := 66) dX11_disturb_60 (by decide) (fun c9 => ?_) (fun c9 => ?_)
          · replace h := xif_n c9 h
            refine x_iload_n dX11_disturb_66 rfl ?_
            refine x_aload_n dX11_disturb_67 rfl ?_
            refine g_X11_24 rfl dX11_disturb_68 (by decide) rfl rfl ?_
            refine g_X11_125 rfl dX11_disturb_71 (by decide) rfl rfl ?_
            refine x_icmp_ge (tgt := 80) dX11_disturb_74 (by decide) (fun c10 => ?_) (fun c10 => ?_)
            · replace h := xif_p c10 h
              refine x_iconst (v := 0) dX11_disturb_80 (by decide) ?_
              refine x_istore (ls' := [_, _, _, _, _, _, _, _]) dX11_disturb_81 rfl rfl ?_
              refine x_iload dX11_disturb_83 rfl ?_
              refine x_istore (ls' := [_, _, _, _, _, _, _, _]) dX11_disturb_85 rfl rfl ?_
              refine x_iconst (v := 0) dX11_disturb_87 (by decide) ?_
              refine x_istore (ls' := [_, _, _, _, _, _, _, _]) dX11_disturb_88 rfl rfl ?_
              refine V.drop1 (i := 4) (ls' := [_, _, _, _, _, _, _, _]) rfl ?_
              obtain ⟨u16, hu16, h⟩ := Option.bind_eq_some_iff.mp h
              show V yX11_disturb cX11_disturb (some .int) 2 61 (0, 0) 90 [some (.ref 0), some (.int p1), some (.int p2), some (.int p3), none, some (.int 0), some (.int p4), some (.int 0)] [] (xof s0 [W_0, W_2 o2, W_3 a3]) _
              refine lv_X11_disturb_0_90 s0 _ o2 p1 p2 p3 _ n 0 p4 0 a3 _ hu16 ?_
              refine x_iload dX11_disturb_130 rfl ?_
              cases h
              exact x_iret dX11_disturb_132 ⟨rfl, rfl, rfl⟩
            · replace h := xif_n c10 h
              refine x_bipush (v := -5) dX11_disturb_77 (by decide) ?_
              cases h
              exact x_iret dX11_disturb_79 ⟨rfl, rfl, rfl⟩
          · replace h := xif_p c9 h
            refine x_bipush (v := -3) dX11_disturb_63 (by decide) ?_
            cases h
            exact x_iret dX11_disturb_65 ⟨rfl, rfl, rfl⟩
      · replace h := xif_n c5 h
        refine x_bipush (v := -3) dX11_disturb_38 (by decide) ?_
        cases h
        exact x_iret dX11_disturb_40 ⟨rfl, rfl, rfl⟩
  · replace h := xif_p c2 h
    refine x_bipush (v := -2) dX11_disturb_11 (by decide) ?_
    cases h
    exact x_iret dX11_disturb_13 ⟨rfl, rfl, rfl⟩
def f_X11_bit_0 (o2 : Nat → Int32) (a3 : Nat → Int32) (p1 : Int32) : Option Int32 := (Option.bind (f_X4_has_2 o2 a3 p1) (fun q1 => (if q1 = 0 then (some ((-1))) else (Option.bind (f_X4_bitAt_2 o2 a3 p1) (fun q3 => (some q3))))))
set_option maxRecDepth 100000 in
set_option maxHeartbeats 400000 in
theorem v_X11_bit_0 (s0 : XW) (o2 : Nat → Int32) (a3 : Nat → Int32) (p1 : Int32) (q : Int32) (h : f_X11_bit_0 o2 a3 p1 = some q) : C_X11_bit 1 61 [.ref 0, .int p1] (xof s0 [W_0, W_2 o2, W_3 a3]) (some (.int q)) (xof s0 [W_0, W_2 o2, W_3 a3]) := by
  unfold f_X11_bit_0 at h
  show V yX11_bit cX11_bit (some .int) 1 61 (0, 0) 0 [some (.ref 0), some (.int p1)] [] (xof s0 [W_0, W_2 o2, W_3 a3]) _
  refine x_aload_n dX11_bit_0 rfl ?_
  refine g_X11_24 rfl dX11_bit_1 (by decide) rfl rfl ?_
  refine x_iload_n dX11_bit_4 rfl ?_
  obtain ⟨q1, hq1, h⟩ := Option.bind_eq_some_iff.mp h
  refine y_callVi (L' := [(0, _), (2, _), (3, _)]) mi_X4_has ml_X11_122 im_X4_has se_X4_has (rfl : vwCl[3]? = _) dX11_bit_5 (fun s1 => v_X4_has_2 s1 _ _ _ q1 hq1) (by decide) rfl (Nat.le_of_ble_eq_true rfl) rfl (by decide) (Nat.le_of_ble_eq_true rfl) rfl rfl rfl rfl ?_
  refine x_if_eq (tgt := 22) dX11_bit_8 (by decide) (fun c2 => ?_) (fun c2 => ?_)
  · replace h := xif_p c2 h
    refine x_iconst (v := -1) dX11_bit_22 (by decide) ?_
    cases h
    exact x_iret dX11_bit_23 ⟨rfl, rfl, rfl⟩
  · replace h := xif_n c2 h
    refine x_aload_n dX11_bit_11 rfl ?_
    refine g_X11_24 rfl dX11_bit_12 (by decide) rfl rfl ?_
    refine x_iload_n dX11_bit_15 rfl ?_
    obtain ⟨q3, hq3, h⟩ := Option.bind_eq_some_iff.mp h
    refine y_callVi (L' := [(0, _), (2, _), (3, _)]) mi_X4_bitAt ml_X11_131 im_X4_bitAt se_X4_bitAt (rfl : vwCl[3]? = _) dX11_bit_16 (fun s1 => v_X4_bitAt_2 s1 _ _ _ q3 hq3) (by decide) rfl (Nat.le_of_ble_eq_true rfl) rfl (by decide) (Nat.le_of_ble_eq_true rfl) rfl rfl rfl rfl ?_
    refine x_goto (tgt := 23) dX11_bit_19 (by decide) ?_
    cases h
    exact x_iret dX11_bit_23 ⟨rfl, rfl, rfl⟩
def f_X4_clear_2 (o2 : Nat → Int32)  : Option (Nat → Int32) := (some (upd (upd o2 1 0) 2 0))
set_option maxRecDepth 100000 in
set_option maxHeartbeats 400000 in
theorem v_X4_clear_2 (s0 : XW) (o2 : Nat → Int32)  (q : Nat → Int32) (h : f_X4_clear_2 o2 = some q) : C_X4_clear 0 61 [.ref 2] (xof s0 [W_2 o2]) none (xof s0 [W_2 q]) := by
  unfold f_X4_clear_2 at h
  show V yX4_clear cX4_clear none 0 61 (0, 0) 0 [some (.ref 2)] [] (xof s0 [W_2 o2]) _
  refine x_aload_n dX4_clear_0 rfl ?_
  refine x_iconst (v := 0) dX4_clear_1 (by decide) ?_
  refine p_X4_15 (fs' := [_, _, _]) (L' := [(2, _)]) rfl dX4_clear_2 (by decide) rfl (Nat.le_of_ble_eq_true rfl) rfl rfl ?_
  refine x_aload_n dX4_clear_5 rfl ?_
  refine x_iconst (v := 0) dX4_clear_6 (by decide) ?_
  refine p_X4_19 (fs' := [_, _, _]) (L' := [(2, _)]) rfl dX4_clear_7 (by decide) rfl (Nat.le_of_ble_eq_true rfl) rfl rfl ?_
  cases h
  exact x_vret dX4_clear_10 ⟨rfl, rfl, rfl⟩
def f_X2_clear_5 (j5 : Int64)  : Option Int64 := (some 0)
set_option maxRecDepth 100000 in
set_option maxHeartbeats 400000 in
theorem v_X2_clear_5 (s0 : XW) (j5 : Int64)  (q : Int64) (h : f_X2_clear_5 j5 = some q) : C_X2_clear 0 61 [.ref 5] (xof s0 [W_5 j5]) none (xof s0 [W_5 q]) := by
  unfold f_X2_clear_5 at h
  show V yX2_clear cX2_clear none 0 61 (0, 0) 0 [some (.ref 5)] [] (xof s0 [W_5 j5]) _
  refine x_aload_n dX2_clear_0 rfl ?_
  refine x_lconst (v := 0) dX2_clear_1 (by decide) ?_
  refine p_X2_9 (fs' := [_]) (L' := [(5, _)]) rfl dX2_clear_2 (by decide) rfl (Nat.le_of_ble_eq_true rfl) rfl rfl ?_
  cases h
  exact x_vret dX2_clear_5 ⟨rfl, rfl, rfl⟩
def f_X8_restart_4 (o4 : Nat → Int32) (j5 : Int64)  : Option (((Nat → Int32) × (Int64))) := (Option.bind (f_X2_clear_5 j5) (fun q1 => (some (upd o4 3 0, q1))))
set_option maxRecDepth 100000 in
set_option maxHeartbeats 400000 in
theorem v_X8_restart_4 (s0 : XW) (o4 : Nat → Int32) (j5 : Int64)  (q : ((Nat → Int32) × (Int64))) (h : f_X8_restart_4 o4 j5 = some q) : C_X8_restart 1 61 [.ref 4] (xof s0 [W_4 o4, W_5 j5]) none (xof s0 [W_4 q.1, W_5 q.2]) := by
  unfold f_X8_restart_4 at h
  show V yX8_restart cX8_restart none 1 61 (0, 0) 0 [some (.ref 4)] [] (xof s0 [W_4 o4, W_5 j5]) _
  refine x_aload_n dX8_restart_0 rfl ?_
  refine x_iconst (v := 0) dX8_restart_1 (by decide) ?_
  refine p_X8_26 (fs' := [_, _, _, _]) (L' := [(4, _), (5, _)]) rfl dX8_restart_2 (by decide) rfl (Nat.le_of_ble_eq_true rfl) rfl rfl ?_
  refine x_aload_n dX8_restart_5 rfl ?_
  refine g_X8_12 rfl dX8_restart_6 (by decide) rfl rfl ?_
  obtain ⟨q1, hq1, h⟩ := Option.bind_eq_some_iff.mp h
  refine y_callVv (L' := [(4, _), (5, _)]) mi_X2_clear ml_X8_30 im_X2_clear se_X2_clear (rfl : vwCl[1]? = _) dX8_restart_9 (fun s1 => v_X2_clear_5 s1 _ q1 hq1) (by decide) rfl (Nat.le_of_ble_eq_true rfl) rfl (by decide) (Nat.le_of_ble_eq_true rfl) rfl rfl rfl rfl ?_
  cases h
  exact x_vret dX8_restart_12 ⟨rfl, rfl, rfl⟩
def f_X11_empty_0 (o2 : Nat → Int32) (o4 : Nat → Int32) (j5 : Int64)  : Option (((Int32) × (Nat → Int32) × (Nat → Int32) × (Int64))) := (Option.bind (f_X4_clear_2 o2) (fun q1 => (Option.bind (f_X8_restart_4 o4 j5) (fun q2 => (some ((o2 1), q1, q2.1, q2.2))))))
set_option maxRecDepth 100000 in
set_option maxHeartbeats 400000 in
theorem v_X11_empty_0 (s0 : XW) (o2 : Nat → Int32) (o4 : Nat → Int32) (j5 : Int64)  (q : ((Int32) × (Nat → Int32) × (Nat → Int32) × (Int64))) (h : f_X11_empty_0 o2 o4 j5 = some q) : C_X11_empty 2 61 [.ref 0] (xof s0 [W_0, W_2 o2, W_4 o4, W_5 j5]) (some (.int q.1)) (xof s0 [W_0, W_2 q.2.1, W_4 q.2.2.1, W_5 q.2.2.2]) := by
  unfold f_X11_empty_0 at h
  show V yX11_empty cX11_empty (some .int) 2 61 (0, 0) 0 [some (.ref 0), none] [] (xof s0 [W_0, W_2 o2, W_4 o4, W_5 j5]) _
  refine x_aload_n dX11_empty_0 rfl ?_
  refine g_X11_24 rfl dX11_empty_1 (by decide) rfl rfl ?_
  refine g_X11_96 rfl dX11_empty_4 (by decide) rfl rfl ?_
  refine x_istore_n (ls' := [_, _]) dX11_empty_7 rfl rfl ?_
  refine x_aload_n dX11_empty_8 rfl ?_
  refine g_X11_24 rfl dX11_empty_9 (by decide) rfl rfl ?_
  obtain ⟨q1, hq1, h⟩ := Option.bind_eq_some_iff.mp h
  refine y_callVv (L' := [(0, _), (2, _), (4, _), (5, _)]) mi_X4_clear ml_X11_145 im_X4_clear se_X4_clear (rfl : vwCl[3]? = _) dX11_empty_12 (fun s1 => v_X4_clear_2 s1 _ q1 hq1) (by decide) rfl (Nat.le_of_ble_eq_true rfl) rfl (by decide) (Nat.le_of_ble_eq_true rfl) rfl rfl rfl rfl ?_
  refine x_aload_n dX11_empty_15 rfl ?_
  refine g_X11_31 rfl dX11_empty_16 (by decide) rfl rfl ?_
  obtain ⟨q2, hq2, h⟩ := Option.bind_eq_some_iff.mp h
  refine y_callVv (L' := [(0, _), (2, _), (4, _), (5, _)]) mi_X8_restart ml_X11_148 im_X8_restart se_X8_restart (rfl : vwCl[7]? = _) dX11_empty_19 (fun s1 => v_X8_restart_4 s1 _ _ q2 hq2) (by decide) rfl (Nat.le_of_ble_eq_true rfl) rfl (by decide) (Nat.le_of_ble_eq_true rfl) rfl rfl rfl rfl ?_
  refine x_iload_n dX11_empty_22 rfl ?_
  cases h
  exact x_iret dX11_empty_23 ⟨rfl, rfl, rfl⟩
def f_X11_isLoadHeld_0 (o4 : Nat → Int32) (o16 : Nat → Int32) (a17 : Nat → Int32)  : Option Int32 := (if 0 < (o4 3) then (some 1) else (if (o16 7) = 0 then (if (a17 3) ≤ 0 then (some 0) else (some 1)) else (some 1)))
set_option maxRecDepth 100000 in
set_option maxHeartbeats 400000 in
theorem v_X11_isLoadHeld_0 (s0 : XW) (o4 : Nat → Int32) (o16 : Nat → Int32) (a17 : Nat → Int32)  (q : Int32) (h : f_X11_isLoadHeld_0 o4 o16 a17 = some q) : C_X11_isLoadHeld 0 61 [.ref 0] (xof s0 [W_0, W_4 o4, W_16 o16, W_17 a17]) (some (.int q)) (xof s0 [W_0, W_4 o4, W_16 o16, W_17 a17]) := by
  unfold f_X11_isLoadHeld_0 at h
  show V yX11_isLoadHeld cX11_isLoadHeld (some .boolean) 0 61 (0, 0) 0 [some (.ref 0)] [] (xof s0 [W_0, W_4 o4, W_16 o16, W_17 a17]) _
  refine x_aload_n dX11_isLoadHeld_0 rfl ?_
  refine g_X11_31 rfl dX11_isLoadHeld_1 (by decide) rfl rfl ?_
  refine g_X11_115 rfl dX11_isLoadHeld_4 (by decide) rfl rfl ?_
  refine x_if_gt (tgt := 32) dX11_isLoadHeld_7 (by decide) (fun c1 => ?_) (fun c1 => ?_)
  · replace h := xif_p c1 h
    refine x_iconst (v := 1) dX11_isLoadHeld_32 (by decide) ?_
    refine x_goto (tgt := 37) dX11_isLoadHeld_33 (by decide) ?_
    cases h
    exact x_zret dX11_isLoadHeld_37 (Or.inr rfl) ⟨rfl, rfl, rfl⟩
  · replace h := xif_n c1 h
    refine x_aload_n dX11_isLoadHeld_10 rfl ?_
    refine g_X11_47 rfl dX11_isLoadHeld_11 (by decide) rfl rfl ?_
    refine g_X11_168 rfl dX11_isLoadHeld_14 (by decide) rfl rfl ?_
    refine x_if_ne (tgt := 32) dX11_isLoadHeld_17 (by decide) (fun c2 => ?_) (fun c2 => ?_)
    · replace h := xif_n c2 h
      refine x_iconst (v := 1) dX11_isLoadHeld_32 (by decide) ?_
      refine x_goto (tgt := 37) dX11_isLoadHeld_33 (by decide) ?_
      cases h
      exact x_zret dX11_isLoadHeld_37 (Or.inr rfl) ⟨rfl, rfl, rfl⟩
    · replace h := xif_p c2 h
      refine x_aload_n dX11_isLoadHeld_20 rfl ?_
      refine g_X11_47 rfl dX11_isLoadHeld_21 (by decide) rfl rfl ?_
      refine g_X11_171 rfl dX11_isLoadHeld_24 (by decide) rfl rfl ?_
      refine x_iconst (v := 3) dX11_isLoadHeld_27 (by decide) ?_
      refine x_ialdK (jn := 3) (v := (a17 3)) dX11_isLoadHeld_28 (by decide) rfl (xin_ok (by decide)) (by decide) rfl ?_
      refine x_if_le (tgt := 36) dX11_isLoadHeld_29 (by decide) (fun c3 => ?_) (fun c3 => ?_)
      · replace h := xif_p c3 h
        refine x_iconst (v := 0) dX11_isLoadHeld_36 (by decide) ?_
        cases h
        exact x_zret dX11_isLoadHeld_37 (Or.inl rfl) ⟨rfl, rfl, rfl⟩
      · replace h := xif_n c3 h
        refine x_iconst (v := 1) dX11_isLoadHeld_32 (by decide) ?_
        refine x_goto (tgt := 37) dX11_isLoadHeld_33 (by decide) ?_
        cases h
        exact x_zret dX11_isLoadHeld_37 (Or.inr rfl) ⟨rfl, rfl, rfl⟩
def b_X11_terms_0_47  (a1 : Nat → Int32) (o4 : Nat → Int32) (o16 : Nat → Int32) (a17 : Nat → Int32) (l1 : Int32) (l2 : Int32) : Option (((Int32) × (Nat → Int32))) := (bif xin l1 7 then (bif xin l1 7 then (some ((a1 (Int32.toNatClampNeg l1)), upd a1 ((Int32.toNatClampNeg l1)) l2)) else none) else none)
set_option maxRecDepth 100000 in
set_option maxHeartbeats 400000 in
theorem vb_X11_terms_0_47 (s0 : XW)  (a1 : Nat → Int32) (o4 : Nat → Int32) (o16 : Nat → Int32) (a17 : Nat → Int32) (l1 : Int32) (l2 : Int32) (q : ((Int32) × (Nat → Int32))) (h : b_X11_terms_0_47 a1 o4 o16 a17 l1 l2 = some q) : V yX11_terms cX11_terms (some .int) 1 61 (0, 0) 47 [some (.ref 0), some (.int l1), some (.int l2), none] [] (xof s0 [W_0, W_1 a1, W_4 o4, W_16 o16, W_17 a17]) (xq 61 (some (.int q.1)) (xof s0 [W_0, W_1 q.2, W_4 o4, W_16 o16, W_17 a17])) := by
  unfold b_X11_terms_0_47 at h
  refine x_aload_n dX11_terms_47 rfl ?_
  refine g_X11_18 rfl dX11_terms_48 (by decide) rfl rfl ?_
  refine x_iload_n dX11_terms_51 rfl ?_
  obtain ⟨c8, h⟩ := xck h
  refine x_ialdK (jn := (Int32.toNatClampNeg l1)) (v := (a1 (Int32.toNatClampNeg l1))) dX11_terms_52 (by decide) rfl (xin_ok c8) rfl rfl ?_
  refine x_istore_n (ls' := [_, _, _, _]) dX11_terms_53 rfl rfl ?_
  refine x_aload_n dX11_terms_54 rfl ?_
  refine g_X11_18 rfl dX11_terms_55 (by decide) rfl rfl ?_
  refine x_iload_n dX11_terms_58 rfl ?_
  refine x_iload_n dX11_terms_59 rfl ?_
  obtain ⟨c9, h⟩ := xck h
  refine x_iastK (jn := (Int32.toNatClampNeg l1)) (L' := [(0, _), (1, _), (4, _), (16, _), (17, _)]) dX11_terms_60 (by decide) rfl (xin_ok c9) rfl rfl ?_
  refine x_iload_n dX11_terms_61 rfl ?_
  cases h
  exact x_iret dX11_terms_62 ⟨rfl, rfl, rfl⟩
def f_X11_terms_0 (a1 : Nat → Int32) (o4 : Nat → Int32) (o16 : Nat → Int32) (a17 : Nat → Int32) (p1 : Int32) (p2 : Int32) : Option (((Int32) × (Nat → Int32))) := (Option.bind (f_X11_isWithin p1 0 6) (fun q1 => (if q1 = 0 then (some ((-2), a1)) else (bif xin p1 7 then (bif xin p1 7 then (Option.bind (f_X11_isWithin p2 ((xsf 0 (Int32.toNatClampNeg p1))) ((xsf 1 (Int32.toNatClampNeg p1)))) (fun q5 => (if q5 = 0 then (some ((-3), a1)) else (if p1 = 0 then (Option.bind (f_X11_isLoadHeld_0 o4 o16 a17) (fun q10 => (if q10 = 0 then (b_X11_terms_0_47 a1 o4 o16 a17 p1 p2) else (some ((-5), a1))))) else (b_X11_terms_0_47 a1 o4 o16 a17 p1 p2))))) else none) else none))))
set_option maxRecDepth 100000 in
set_option maxHeartbeats 400000 in
theorem v_X11_terms_0 (s0 : XW) (a1 : Nat → Int32) (o4 : Nat → Int32) (o16 : Nat → Int32) (a17 : Nat → Int32) (p1 : Int32) (p2 : Int32) (q : ((Int32) × (Nat → Int32))) (h : f_X11_terms_0 a1 o4 o16 a17 p1 p2 = some q) : C_X11_terms 1 61 [.ref 0, .int p1, .int p2] (xof s0 [W_0, W_1 a1, W_4 o4, W_16 o16, W_17 a17]) (some (.int q.1)) (xof s0 [W_0, W_1 q.2, W_4 o4, W_16 o16, W_17 a17]) := by
  unfold f_X11_terms_0 at h
  show V yX11_terms cX11_terms (some .int) 1 61 (0, 0) 0 [some (.ref 0), some (.int p1), some (.int p2), none] [] (xof s0 [W_0, W_1 a1, W_4 o4, W_16 o16, W_17 a17]) _
  refine x_iload_n dX11_terms_0 rfl ?_
  refine x_iconst (v := 0) dX11_terms_1 (by decide) ?_
  refine x_bipush (v := 6) dX11_terms_2 (by decide) ?_
  obtain ⟨q1, hq1, h⟩ := Option.bind_eq_some_iff.mp h
  refine y_callSi (L' := [(0, _), (1, _), (4, _), (16, _), (17, _)]) mi_X11_isWithin ml_X11_100 st_X11_isWithin dX11_terms_4 (fun s1 => v_X11_isWithin 61 s1 _ _ _ q1 hq1) (Nat.le_of_ble_eq_true rfl) rfl (by decide) (Nat.le_of_ble_eq_true rfl) rfl rfl rfl rfl ?_
  refine x_if_ne (tgt := 13) dX11_terms_7 (by decide) (fun c2 => ?_) (fun c2 => ?_)
  · replace h := xif_n c2 h
    refine x_iload_n dX11_terms_13 rfl ?_
    refine x_gets 0 dX11_terms_14 (by decide) fl_X11_151 ?_
    refine x_iload_n dX11_terms_17 rfl ?_
    obtain ⟨c3, h⟩ := xck h
    refine x_sald 0 dX11_terms_18 (by decide) (xin_ok c3) ?_
    refine x_gets 1 dX11_terms_19 (by decide) fl_X11_154 ?_
    refine x_iload_n dX11_terms_22 rfl ?_
    obtain ⟨c4, h⟩ := xck h
    refine x_sald 1 dX11_terms_23 (by decide) (xin_ok c4) ?_
    obtain ⟨q5, hq5, h⟩ := Option.bind_eq_some_iff.mp h
    refine y_callSi (L' := [(0, _), (1, _), (4, _), (16, _), (17, _)]) mi_X11_isWithin ml_X11_100 st_X11_isWithin dX11_terms_24 (fun s1 => v_X11_isWithin 61 s1 _ _ _ q5 hq5) (Nat.le_of_ble_eq_true rfl) rfl (by decide) (Nat.le_of_ble_eq_true rfl) rfl rfl rfl rfl ?_
    refine x_if_ne (tgt := 33) dX11_terms_27 (by decide) (fun c6 => ?_) (fun c6 => ?_)
    · replace h := xif_n c6 h
      refine x_iload_n dX11_terms_33 rfl ?_
      refine x_if_ne (tgt := 47) dX11_terms_34 (by decide) (fun c7 => ?_) (fun c7 => ?_)
      · replace h := xif_n c7 h
        show V yX11_terms cX11_terms (some .int) 1 61 (0, 0) 47 [some (.ref 0), some (.int p1), some (.int p2), none] [] (xof s0 [W_0, W_1 a1, W_4 o4, W_16 o16, W_17 a17]) _
        exact vb_X11_terms_0_47 s0 a1 o4 o16 a17 p1 p2 q h
      · replace h := xif_p c7 h
        refine x_aload_n dX11_terms_37 rfl ?_
        obtain ⟨q10, hq10, h⟩ := Option.bind_eq_some_iff.mp h
        refine y_callVi (L' := [(0, _), (1, _), (4, _), (16, _), (17, _)]) mi_X11_isLoadHeld ml_X11_157 im_X11_isLoadHeld se_X11_isLoadHeld (rfl : vwCl[10]? = _) dX11_terms_38 (fun s1 => v_X11_isLoadHeld_0 s1 _ _ _ q10 hq10) (by decide) rfl (Nat.le_of_ble_eq_true rfl) rfl (by decide) (Nat.le_of_ble_eq_true rfl) rfl rfl rfl rfl ?_
        refine x_if_eq (tgt := 47) dX11_terms_41 (by decide) (fun c11 => ?_) (fun c11 => ?_)
        · replace h := xif_p c11 h
          show V yX11_terms cX11_terms (some .int) 1 61 (0, 0) 47 [some (.ref 0), some (.int p1), some (.int p2), none] [] (xof s0 [W_0, W_1 a1, W_4 o4, W_16 o16, W_17 a17]) _
          exact vb_X11_terms_0_47 s0 a1 o4 o16 a17 p1 p2 q h
        · replace h := xif_n c11 h
          refine x_bipush (v := -5) dX11_terms_44 (by decide) ?_
          cases h
          exact x_iret dX11_terms_46 ⟨rfl, rfl, rfl⟩
    · replace h := xif_p c6 h
      refine x_bipush (v := -3) dX11_terms_30 (by decide) ?_
      cases h
      exact x_iret dX11_terms_32 ⟨rfl, rfl, rfl⟩
  · replace h := xif_p c2 h
    refine x_bipush (v := -2) dX11_terms_10 (by decide) ?_
    cases h
    exact x_iret dX11_terms_12 ⟨rfl, rfl, rfl⟩
def f_X11_endOf_0 (o2 : Nat → Int32) (p1 : Int32) : Option Int32 := (some ((if ((o2 2) + p1) < (o2 1) then ((o2 2) + p1) else (o2 1))))
set_option maxRecDepth 100000 in
set_option maxHeartbeats 400000 in
theorem v_X11_endOf_0 (s0 : XW) (o2 : Nat → Int32) (p1 : Int32) (q : Int32) (h : f_X11_endOf_0 o2 p1 = some q) : C_X11_endOf 1 61 [.ref 0, .int p1] (xof s0 [W_0, W_2 o2]) (some (.int q)) (xof s0 [W_0, W_2 o2]) := by
  unfold f_X11_endOf_0 at h
  show V yX11_endOf cX11_endOf (some .int) 1 61 (0, 0) 0 [some (.ref 0), some (.int p1)] [] (xof s0 [W_0, W_2 o2]) _
  refine x_aload_n dX11_endOf_0 rfl ?_
  refine g_X11_24 rfl dX11_endOf_1 (by decide) rfl rfl ?_
  refine g_X11_96 rfl dX11_endOf_4 (by decide) rfl rfl ?_
  refine x_aload_n dX11_endOf_7 rfl ?_
  refine g_X11_24 rfl dX11_endOf_8 (by decide) rfl rfl ?_
  refine g_X11_125 rfl dX11_endOf_11 (by decide) rfl rfl ?_
  refine x_iload_n dX11_endOf_14 rfl ?_
  refine x_iadd dX11_endOf_15 ?_
  refine x_mmin dX11_endOf_16 ml_X11_283 (by decide) (Nat.le_of_ble_eq_true rfl) ?_
  cases h
  exact x_iret dX11_endOf_19 ⟨rfl, rfl, rfl⟩
def b_X10_push_18_18  (o18 : Nat → Int32) (j18 : Int64) (l1 : Int32) (t0 : Int32) : Option (((Nat → Int32) × (Int64))) := (Option.bind (f_X1_timesX ((o18 1))) (fun q2 => (some (upd (upd o18 1 (((q2 ^^^ l1) ^^^ t0))) 2 (((o18 2) + 1)), (((j18 <<< (Int32.toInt64 1 &&& 63)) ||| (Int32.toInt64 l1)) &&& 1099511627775)))))
set_option maxRecDepth 100000 in
set_option maxHeartbeats 400000 in
theorem vb_X10_push_18_18 (s0 : XW)  (o18 : Nat → Int32) (j18 : Int64) (l1 : Int32) (t0 : Int32) (q : ((Nat → Int32) × (Int64))) (h : b_X10_push_18_18 o18 j18 l1 t0 = some q) : V yX10_push cX10_push none 1 61 (0, 0) 18 [some (.ref 18), some (.int l1), none] [.int t0] (xof s0 [W_18 o18 j18]) (xq 61 none (xof s0 [W_18 q.1 q.2])) := by
  unfold b_X10_push_18_18 at h
  refine x_istore_n (ls' := [_, _, _]) dX10_push_18 rfl rfl ?_
  refine x_aload_n dX10_push_19 rfl ?_
  refine x_aload_n dX10_push_20 rfl ?_
  refine g_X10_9 rfl dX10_push_21 (by decide) rfl rfl ?_
  refine x_iconst (v := 1) dX10_push_24 (by decide) ?_
  refine x_lshl dX10_push_25 ?_
  refine x_iload_n dX10_push_26 rfl ?_
  refine x_i2l dX10_push_27 ?_
  refine x_lor dX10_push_28 ?_
  refine x_ldc2 dX10_push_29 cn_X10_22 ?_
  refine x_land dX10_push_32 ?_
  refine p_X10_9 (fs' := [_, _, _]) (L' := [(18, _)]) rfl dX10_push_33 (by decide) rfl (Nat.le_of_ble_eq_true rfl) rfl rfl ?_
  refine x_aload_n dX10_push_36 rfl ?_
  refine x_aload_n dX10_push_37 rfl ?_
  refine g_X10_15 rfl dX10_push_38 (by decide) rfl rfl ?_
  obtain ⟨q2, hq2, h⟩ := Option.bind_eq_some_iff.mp h
  refine y_callSi (L' := [(18, _)]) mi_X1_timesX ml_X10_24 st_X1_timesX dX10_push_41 (fun s1 => v_X1_timesX 61 s1 _ q2 hq2) (Nat.le_of_ble_eq_true rfl) rfl (by decide) (Nat.le_of_ble_eq_true rfl) rfl rfl rfl rfl ?_
  refine x_iload_n dX10_push_44 rfl ?_
  refine x_ixor dX10_push_45 ?_
  refine x_iload_n dX10_push_46 rfl ?_
  refine x_ixor dX10_push_47 ?_
  refine p_X10_15 (fs' := [_, _, _]) (L' := [(18, _)]) rfl dX10_push_48 (by decide) rfl (Nat.le_of_ble_eq_true rfl) rfl rfl ?_
  refine x_aload_n dX10_push_51 rfl ?_
  refine x_dup dX10_push_52 rfl ?_
  refine g_X10_19 rfl dX10_push_53 (by decide) rfl rfl ?_
  refine x_iconst (v := 1) dX10_push_56 (by decide) ?_
  refine x_iadd dX10_push_57 ?_
  refine p_X10_19 (fs' := [_, _, _]) (L' := [(18, _)]) rfl dX10_push_58 (by decide) rfl (Nat.le_of_ble_eq_true rfl) rfl rfl ?_
  cases h
  exact x_vret dX10_push_61 ⟨rfl, rfl, rfl⟩
def f_X10_push_18 (o18 : Nat → Int32) (j18 : Int64) (p1 : Int32) : Option (((Nat → Int32) × (Int64))) := (if (lg_cmp (xul j18 39) 0) = 0 then (b_X10_push_18_18 o18 j18 p1 0) else (b_X10_push_18_18 o18 j18 p1 98))
set_option maxRecDepth 100000 in
set_option maxHeartbeats 400000 in
theorem v_X10_push_18 (s0 : XW) (o18 : Nat → Int32) (j18 : Int64) (p1 : Int32) (q : ((Nat → Int32) × (Int64))) (h : f_X10_push_18 o18 j18 p1 = some q) : C_X10_push 1 61 [.ref 18, .int p1] (xof s0 [W_18 o18 j18]) none (xof s0 [W_18 q.1 q.2]) := by
  unfold f_X10_push_18 at h
  show V yX10_push cX10_push none 1 61 (0, 0) 0 [some (.ref 18), some (.int p1), none] [] (xof s0 [W_18 o18 j18]) _
  refine x_aload_n dX10_push_0 rfl ?_
  refine g_X10_9 rfl dX10_push_1 (by decide) rfl rfl ?_
  refine x_bipush (v := 39) dX10_push_4 (by decide) ?_
  refine x_lushr dX10_push_6 ?_
  refine x_lconst (v := 0) dX10_push_7 (by decide) ?_
  refine x_lcmp dX10_push_8 ?_
  refine x_if_ne (tgt := 16) dX10_push_9 (by decide) (fun c1 => ?_) (fun c1 => ?_)
  · replace h := xif_n c1 h
    refine x_bipush (v := 98) dX10_push_16 (by decide) ?_
    show V yX10_push cX10_push none 1 61 (0, 0) 18 [some (.ref 18), some (.int p1), none] [.int 98] (xof s0 [W_18 o18 j18]) _
    exact vb_X10_push_18_18 s0 o18 j18 p1 98 q h
  · replace h := xif_p c1 h
    refine x_iconst (v := 0) dX10_push_12 (by decide) ?_
    refine x_goto (tgt := 18) dX10_push_13 (by decide) ?_
    show V yX10_push cX10_push none 1 61 (0, 0) 18 [some (.ref 18), some (.int p1), none] [.int 0] (xof s0 [W_18 o18 j18]) _
    exact vb_X10_push_18_18 s0 o18 j18 p1 0 q h
def f_X10_looksRight_18 (o18 : Nat → Int32) (j18 : Int64)  : Option Int32 := (if (o18 1) = 85 then (if (o18 2) < 40 then (some 0) else (some 1)) else (some 0))
set_option maxRecDepth 100000 in
set_option maxHeartbeats 400000 in
theorem v_X10_looksRight_18 (s0 : XW) (o18 : Nat → Int32) (j18 : Int64)  (q : Int32) (h : f_X10_looksRight_18 o18 j18 = some q) : C_X10_looksRight 0 61 [.ref 18] (xof s0 [W_18 o18 j18]) (some (.int q)) (xof s0 [W_18 o18 j18]) := by
  unfold f_X10_looksRight_18 at h
  show V yX10_looksRight cX10_looksRight (some .boolean) 0 61 (0, 0) 0 [some (.ref 18)] [] (xof s0 [W_18 o18 j18]) _
  refine x_aload_n dX10_looksRight_0 rfl ?_
  refine g_X10_15 rfl dX10_looksRight_1 (by decide) rfl rfl ?_
  refine x_bipush (v := 85) dX10_looksRight_4 (by decide) ?_
  refine x_icmp_ne (tgt := 22) dX10_looksRight_6 (by decide) (fun c1 => ?_) (fun c1 => ?_)
  · replace h := xif_n c1 h
    refine x_iconst (v := 0) dX10_looksRight_22 (by decide) ?_
    cases h
    exact x_zret dX10_looksRight_23 (Or.inl rfl) ⟨rfl, rfl, rfl⟩
  · replace h := xif_p c1 h
    refine x_aload_n dX10_looksRight_9 rfl ?_
    refine g_X10_19 rfl dX10_looksRight_10 (by decide) rfl rfl ?_
    refine x_bipush (v := 40) dX10_looksRight_13 (by decide) ?_
    refine x_icmp_lt (tgt := 22) dX10_looksRight_15 (by decide) (fun c2 => ?_) (fun c2 => ?_)
    · replace h := xif_p c2 h
      refine x_iconst (v := 0) dX10_looksRight_22 (by decide) ?_
      cases h
      exact x_zret dX10_looksRight_23 (Or.inl rfl) ⟨rfl, rfl, rfl⟩
    · replace h := xif_n c2 h
      refine x_iconst (v := 1) dX10_looksRight_18 (by decide) ?_
      refine x_goto (tgt := 23) dX10_looksRight_19 (by decide) ?_
      cases h
      exact x_zret dX10_looksRight_23 (Or.inr rfl) ⟨rfl, rfl, rfl⟩
def b_X7_add_11_77  (o11 : Nat → Int32) (a12 : Nat → Int32) (t1 : Int32) : Option (((Nat → Int32) × (Nat → Int32))) := (some (upd (upd o11 2 (((o11 2) + 1))) 3 t1, a12))
set_option maxRecDepth 100000 in
set_option maxHeartbeats 400000 in
theorem vb_X7_add_11_77 (s0 : XW)  (o11 : Nat → Int32) (a12 : Nat → Int32) (t1 : Int32) (q : ((Nat → Int32) × (Nat → Int32))) (h : b_X7_add_11_77 o11 a12 t1 = some q) : V yX7_add cX7_add none 0 61 (0, 0) 77 [some (.ref 11), none, none, none, none] [.int t1, .ref 11] (xof s0 [W_11 o11, W_12 a12]) (xq 61 none (xof s0 [W_11 q.1, W_12 q.2])) := by
  unfold b_X7_add_11_77 at h
  refine p_X7_26 (fs' := [_, _, _, _]) (L' := [(11, _), (12, _)]) rfl dX7_add_77 (by decide) rfl (Nat.le_of_ble_eq_true rfl) rfl rfl ?_
  refine x_aload_n dX7_add_80 rfl ?_
  refine x_dup dX7_add_81 rfl ?_
  refine g_X7_23 rfl dX7_add_82 (by decide) rfl rfl ?_
  refine x_iconst (v := 1) dX7_add_85 (by decide) ?_
  refine x_iadd dX7_add_86 ?_
  refine p_X7_23 (fs' := [_, _, _, _]) (L' := [(11, _), (12, _)]) rfl dX7_add_87 (by decide) rfl (Nat.le_of_ble_eq_true rfl) rfl rfl ?_
  cases h
  exact x_vret dX7_add_90 ⟨rfl, rfl, rfl⟩
def b_X7_add_11_53  (o11 : Nat → Int32) (a12 : Nat → Int32)  : Option (((Nat → Int32) × (Nat → Int32))) := (if (o11 0) ≤ ((o11 3) + 1) then (b_X7_add_11_77 o11 a12 0) else (b_X7_add_11_77 o11 a12 (((o11 3) + 1))))
set_option maxRecDepth 100000 in
set_option maxHeartbeats 400000 in
theorem vb_X7_add_11_53 (s0 : XW)  (o11 : Nat → Int32) (a12 : Nat → Int32)  (q : ((Nat → Int32) × (Nat → Int32))) (h : b_X7_add_11_53 o11 a12 = some q) : V yX7_add cX7_add none 0 61 (0, 0) 53 [some (.ref 11), none, none, none, none] [] (xof s0 [W_11 o11, W_12 a12]) (xq 61 none (xof s0 [W_11 q.1, W_12 q.2])) := by
  unfold b_X7_add_11_53 at h
  refine x_aload_n dX7_add_53 rfl ?_
  refine x_aload_n dX7_add_54 rfl ?_
  refine g_X7_26 rfl dX7_add_55 (by decide) rfl rfl ?_
  refine x_iconst (v := 1) dX7_add_58 (by decide) ?_
  refine x_iadd dX7_add_59 ?_
  refine x_aload_n dX7_add_60 rfl ?_
  refine g_X7_13 rfl dX7_add_61 (by decide) rfl rfl ?_
  refine x_icmp_ge (tgt := 76) dX7_add_64 (by decide) (fun c2 => ?_) (fun c2 => ?_)
  · replace h := xif_p c2 h
    refine x_iconst (v := 0) dX7_add_76 (by decide) ?_
    show V yX7_add cX7_add none 0 61 (0, 0) 77 [some (.ref 11), none, none, none, none] [.int 0, .ref 11] (xof s0 [W_11 o11, W_12 a12]) _
    exact vb_X7_add_11_77 s0 o11 a12 0 q h
  · replace h := xif_n c2 h
    refine x_aload_n dX7_add_67 rfl ?_
    refine g_X7_26 rfl dX7_add_68 (by decide) rfl rfl ?_
    refine x_iconst (v := 1) dX7_add_71 (by decide) ?_
    refine x_iadd dX7_add_72 ?_
    refine x_goto (tgt := 77) dX7_add_73 (by decide) ?_
    show V yX7_add cX7_add none 0 61 (0, 0) 77 [some (.ref 11), none, none, none, none] [.int (((o11 3) + 1)), .ref 11] (xof s0 [W_11 o11, W_12 a12]) _
    exact vb_X7_add_11_77 s0 o11 a12 (((o11 3) + 1)) q h
def f_X7_add_11 (o11 : Nat → Int32) (a12 : Nat → Int32) (p1 : Int32) (p2 : Int32) (p3 : Int32) : Option (((Nat → Int32) × (Nat → Int32))) := (if (3 * (o11 3)) < 0 then (b_X7_add_11_53 o11 a12) else (if 72 ≤ ((3 * (o11 3)) + 2) then (b_X7_add_11_53 o11 a12) else (bif xin (3 * (o11 3)) 72 then (bif xin ((3 * (o11 3)) + 1) 72 then (bif xin ((3 * (o11 3)) + 2) 72 then (b_X7_add_11_53 o11 (upd (upd (upd a12 ((Int32.toNatClampNeg (3 * (o11 3)))) p1) ((Int32.toNatClampNeg ((3 * (o11 3)) + 1))) p2) ((Int32.toNatClampNeg ((3 * (o11 3)) + 2))) p3)) else none) else none) else none)))
set_option maxRecDepth 100000 in
set_option maxHeartbeats 400000 in
theorem v_X7_add_11 (s0 : XW) (o11 : Nat → Int32) (a12 : Nat → Int32) (p1 : Int32) (p2 : Int32) (p3 : Int32) (q : ((Nat → Int32) × (Nat → Int32))) (h : f_X7_add_11 o11 a12 p1 p2 p3 = some q) : C_X7_add 0 61 [.ref 11, .int p1, .int p2, .int p3] (xof s0 [W_11 o11, W_12 a12]) none (xof s0 [W_11 q.1, W_12 q.2]) := by
  unfold f_X7_add_11 at h
  show V yX7_add cX7_add none 0 61 (0, 0) 0 [some (.ref 11), some (.int p1), some (.int p2), some (.int p3), none] [] (xof s0 [W_11 o11, W_12 a12]) _
  refine x_iconst (v := 3) dX7_add_0 (by decide) ?_
  refine x_aload_n dX7_add_1 rfl ?_
  refine g_X7_26 rfl dX7_add_2 (by decide) rfl rfl ?_
  refine x_imul dX7_add_5 ?_
  refine x_istore (ls' := [_, _, _, _, _]) dX7_add_6 rfl rfl ?_
  refine x_iload dX7_add_8 rfl ?_
  refine x_if_lt (tgt := 53) dX7_add_10 (by decide) (fun c1 => ?_) (fun c1 => ?_)
  · replace h := xif_p c1 h
    refine V.drop1 (i := 1) (ls' := [_, _, _, _, _]) rfl ?_
    refine V.drop1 (i := 2) (ls' := [_, _, _, _, _]) rfl ?_
    refine V.drop1 (i := 3) (ls' := [_, _, _, _, _]) rfl ?_
    refine V.drop1 (i := 4) (ls' := [_, _, _, _, _]) rfl ?_
    show V yX7_add cX7_add none 0 61 (0, 0) 53 [some (.ref 11), none, none, none, none] [] (xof s0 [W_11 o11, W_12 a12]) _
    exact vb_X7_add_11_53 s0 o11 a12 q h
  · replace h := xif_n c1 h
    refine x_iload dX7_add_13 rfl ?_
    refine x_iconst (v := 2) dX7_add_15 (by decide) ?_
    refine x_iadd dX7_add_16 ?_
    refine x_aload_n dX7_add_17 rfl ?_
    refine g_X7_19 rfl dX7_add_18 (by decide) rfl rfl ?_
    refine x_alen (v := 72) dX7_add_21 (by decide) rfl (by decide) rfl ?_
    refine x_icmp_ge (tgt := 53) dX7_add_22 (by decide) (fun c3 => ?_) (fun c3 => ?_)
    · replace h := xif_p c3 h
      refine V.drop1 (i := 1) (ls' := [_, _, _, _, _]) rfl ?_
      refine V.drop1 (i := 2) (ls' := [_, _, _, _, _]) rfl ?_
      refine V.drop1 (i := 3) (ls' := [_, _, _, _, _]) rfl ?_
      refine V.drop1 (i := 4) (ls' := [_, _, _, _, _]) rfl ?_
      show V yX7_add cX7_add none 0 61 (0, 0) 53 [some (.ref 11), none, none, none, none] [] (xof s0 [W_11 o11, W_12 a12]) _
      exact vb_X7_add_11_53 s0 o11 a12 q h
    · replace h := xif_n c3 h
      refine x_aload_n dX7_add_25 rfl ?_
      refine g_X7_19 rfl dX7_add_26 (by decide) rfl rfl ?_
      refine x_iload dX7_add_29 rfl ?_
      refine x_iload_n dX7_add_31 rfl ?_
      obtain ⟨c4, h⟩ := xck h
      refine x_iastK (jn := (Int32.toNatClampNeg (3 * (o11 3)))) (L' := [(11, _), (12, _)]) dX7_add_32 (by decide) rfl (xin_ok c4) rfl rfl ?_
      refine x_aload_n dX7_add_33 rfl ?_
      refine g_X7_19 rfl dX7_add_34 (by decide) rfl rfl ?_
      refine x_iload dX7_add_37 rfl ?_
      refine x_iconst (v := 1) dX7_add_39 (by decide) ?_
      refine x_iadd dX7_add_40 ?_
      refine x_iload_n dX7_add_41 rfl ?_
      obtain ⟨c5, h⟩ := xck h
      refine x_iastK (jn := (Int32.toNatClampNeg ((3 * (o11 3)) + 1))) (L' := [(11, _), (12, _)]) dX7_add_42 (by decide) rfl (xin_ok c5) rfl rfl ?_
      refine x_aload_n dX7_add_43 rfl ?_
      refine g_X7_19 rfl dX7_add_44 (by decide) rfl rfl ?_
      refine x_iload dX7_add_47 rfl ?_
      refine x_iconst (v := 2) dX7_add_49 (by decide) ?_
      refine x_iadd dX7_add_50 ?_
      refine x_iload_n dX7_add_51 rfl ?_
      obtain ⟨c6, h⟩ := xck h
      refine x_iastK (jn := (Int32.toNatClampNeg ((3 * (o11 3)) + 2))) (L' := [(11, _), (12, _)]) dX7_add_52 (by decide) rfl (xin_ok c6) rfl rfl ?_
      refine V.drop1 (i := 1) (ls' := [_, _, _, _, _]) rfl ?_
      refine V.drop1 (i := 2) (ls' := [_, _, _, _, _]) rfl ?_
      refine V.drop1 (i := 3) (ls' := [_, _, _, _, _]) rfl ?_
      refine V.drop1 (i := 4) (ls' := [_, _, _, _, _]) rfl ?_
      show V yX7_add cX7_add none 0 61 (0, 0) 53 [some (.ref 11), none, none, none, none] [] (xof s0 [W_11 o11, W_12 (upd (upd (upd a12 ((Int32.toNatClampNeg (3 * (o11 3)))) p1) ((Int32.toNatClampNeg ((3 * (o11 3)) + 1))) p2) ((Int32.toNatClampNeg ((3 * (o11 3)) + 2))) p3)]) _
      exact vb_X7_add_11_53 s0 o11 (upd (upd (upd a12 ((Int32.toNatClampNeg (3 * (o11 3)))) p1) ((Int32.toNatClampNeg ((3 * (o11 3)) + 1))) p2) ((Int32.toNatClampNeg ((3 * (o11 3)) + 2))) p3) q h
def b_X6_become_16_67  (o11 : Nat → Int32) (a12 : Nat → Int32) (o16 : Nat → Int32) (a17 : Nat → Int32) (l1 : Int32) : Option (((Nat → Int32) × (Nat → Int32) × (Nat → Int32) × (Nat → Int32))) := (some (o11, a12, upd (upd (upd (upd o16 7 l1) 11 0) 14 0) 15 0, a17))
set_option maxRecDepth 100000 in
set_option maxHeartbeats 400000 in
theorem vb_X6_become_16_67 (s0 : XW)  (o11 : Nat → Int32) (a12 : Nat → Int32) (o16 : Nat → Int32) (a17 : Nat → Int32) (l1 : Int32) (q : ((Nat → Int32) × (Nat → Int32) × (Nat → Int32) × (Nat → Int32))) (h : b_X6_become_16_67 o11 a12 o16 a17 l1 = some q) : V yX6_become cX6_become none 1 61 (0, 0) 67 [some (.ref 16), some (.int l1), none] [] (xof s0 [W_8, W_11 o11, W_12 a12, W_16 o16, W_17 a17]) (xq 61 none (xof s0 [W_8, W_11 q.1, W_12 q.2.1, W_16 q.2.2.1, W_17 q.2.2.2])) := by
  unfold b_X6_become_16_67 at h
  refine x_aload_n dX6_become_67 rfl ?_
  refine x_iload_n dX6_become_68 rfl ?_
  refine p_X6_54 (fs' := [_, _, _, _, _, _, _, _, _, _, _, _, _, _, _, _, _, _, _]) (L' := [(8, _), (11, _), (12, _), (16, _), (17, _)]) rfl dX6_become_69 (by decide) rfl (Nat.le_of_ble_eq_true rfl) rfl rfl ?_
  refine x_aload_n dX6_become_72 rfl ?_
  refine x_iconst (v := 0) dX6_become_73 (by decide) ?_
  refine p_X6_77 (fs' := [_, _, _, _, _, _, _, _, _, _, _, _, _, _, _, _, _, _, _]) (L' := [(8, _), (11, _), (12, _), (16, _), (17, _)]) rfl dX6_become_74 (by decide) rfl (Nat.le_of_ble_eq_true rfl) rfl rfl ?_
  refine x_aload_n dX6_become_77 rfl ?_
  refine x_iconst (v := 0) dX6_become_78 (by decide) ?_
  refine p_X6_80 (fs' := [_, _, _, _, _, _, _, _, _, _, _, _, _, _, _, _, _, _, _]) (L' := [(8, _), (11, _), (12, _), (16, _), (17, _)]) rfl dX6_become_79 (by decide) rfl (Nat.le_of_ble_eq_true rfl) rfl rfl ?_
  refine x_aload_n dX6_become_82 rfl ?_
  refine x_iconst (v := 0) dX6_become_83 (by decide) ?_
  refine p_X6_67 (fs' := [_, _, _, _, _, _, _, _, _, _, _, _, _, _, _, _, _, _, _]) (L' := [(8, _), (11, _), (12, _), (16, _), (17, _)]) rfl dX6_become_84 (Or.inl rfl) (by decide) rfl (Nat.le_of_ble_eq_true rfl) rfl rfl ?_
  cases h
  exact x_vret dX6_become_87 ⟨rfl, rfl, rfl⟩
def b_X6_become_16_49  (o11 : Nat → Int32) (a12 : Nat → Int32) (o16 : Nat → Int32) (a17 : Nat → Int32) (l1 : Int32) : Option (((Nat → Int32) × (Nat → Int32) × (Nat → Int32) × (Nat → Int32))) := (if (o16 7) = 2 then (b_X6_become_16_67 o11 a12 o16 (upd a17 5 (((a17 5) + 1))) l1) else (b_X6_become_16_67 o11 a12 o16 a17 l1))
set_option maxRecDepth 100000 in
set_option maxHeartbeats 400000 in
theorem vb_X6_become_16_49 (s0 : XW)  (o11 : Nat → Int32) (a12 : Nat → Int32) (o16 : Nat → Int32) (a17 : Nat → Int32) (l1 : Int32) (q : ((Nat → Int32) × (Nat → Int32) × (Nat → Int32) × (Nat → Int32))) (h : b_X6_become_16_49 o11 a12 o16 a17 l1 = some q) : V yX6_become cX6_become none 1 61 (0, 0) 49 [some (.ref 16), some (.int l1), none] [] (xof s0 [W_8, W_11 o11, W_12 a12, W_16 o16, W_17 a17]) (xq 61 none (xof s0 [W_8, W_11 q.1, W_12 q.2.1, W_16 q.2.2.1, W_17 q.2.2.2])) := by
  unfold b_X6_become_16_49 at h
  refine x_aload_n dX6_become_49 rfl ?_
  refine g_X6_54 rfl dX6_become_50 (by decide) rfl rfl ?_
  refine x_iconst (v := 2) dX6_become_53 (by decide) ?_
  refine x_icmp_ne (tgt := 67) dX6_become_54 (by decide) (fun c3 => ?_) (fun c3 => ?_)
  · replace h := xif_n c3 h
    show V yX6_become cX6_become none 1 61 (0, 0) 67 [some (.ref 16), some (.int l1), none] [] (xof s0 [W_8, W_11 o11, W_12 a12, W_16 o16, W_17 a17]) _
    exact vb_X6_become_16_67 s0 o11 a12 o16 a17 l1 q h
  · replace h := xif_p c3 h
    refine x_aload_n dX6_become_57 rfl ?_
    refine g_X6_9 rfl dX6_become_58 (by decide) rfl rfl ?_
    refine x_iconst (v := 5) dX6_become_61 (by decide) ?_
    refine x_dup2 dX6_become_62 rfl rfl ?_
    refine x_ialdK (jn := 5) (v := (a17 5)) dX6_become_63 (by decide) rfl (xin_ok (by decide)) (by decide) rfl ?_
    refine x_iconst (v := 1) dX6_become_64 (by decide) ?_
    refine x_iadd dX6_become_65 ?_
    refine x_iastK (jn := 5) (L' := [(8, _), (11, _), (12, _), (16, _), (17, _)]) dX6_become_66 (by decide) rfl (xin_ok (by decide)) (by decide) rfl ?_
    show V yX6_become cX6_become none 1 61 (0, 0) 67 [some (.ref 16), some (.int l1), none] [] (xof s0 [W_8, W_11 o11, W_12 a12, W_16 o16, W_17 (upd a17 5 (((a17 5) + 1)))]) _
    exact vb_X6_become_16_67 s0 o11 a12 o16 (upd a17 5 (((a17 5) + 1))) l1 q h
def b_X6_become_16_23  (o11 : Nat → Int32) (a12 : Nat → Int32) (o16 : Nat → Int32) (a17 : Nat → Int32) (l1 : Int32) : Option (((Nat → Int32) × (Nat → Int32) × (Nat → Int32) × (Nat → Int32))) := (if l1 = 2 then (b_X6_become_16_49 o11 a12 o16 (upd (upd a17 7 (((a17 7) + 1))) 4 (((a17 4) + 1))) l1) else (b_X6_become_16_49 o11 a12 o16 (upd a17 7 (((a17 7) + 1))) l1))
set_option maxRecDepth 100000 in
set_option maxHeartbeats 400000 in
theorem vb_X6_become_16_23 (s0 : XW)  (o11 : Nat → Int32) (a12 : Nat → Int32) (o16 : Nat → Int32) (a17 : Nat → Int32) (l1 : Int32) (q : ((Nat → Int32) × (Nat → Int32) × (Nat → Int32) × (Nat → Int32))) (h : b_X6_become_16_23 o11 a12 o16 a17 l1 = some q) : V yX6_become cX6_become none 1 61 (0, 0) 23 [some (.ref 16), some (.int l1), none] [] (xof s0 [W_8, W_11 o11, W_12 a12, W_16 o16, W_17 a17]) (xq 61 none (xof s0 [W_8, W_11 q.1, W_12 q.2.1, W_16 q.2.2.1, W_17 q.2.2.2])) := by
  unfold b_X6_become_16_23 at h
  refine x_aload_n dX6_become_23 rfl ?_
  refine g_X6_9 rfl dX6_become_24 (by decide) rfl rfl ?_
  refine x_bipush (v := 7) dX6_become_27 (by decide) ?_
  refine x_dup2 dX6_become_29 rfl rfl ?_
  refine x_ialdK (jn := 7) (v := (a17 7)) dX6_become_30 (by decide) rfl (xin_ok (by decide)) (by decide) rfl ?_
  refine x_iconst (v := 1) dX6_become_31 (by decide) ?_
  refine x_iadd dX6_become_32 ?_
  refine x_iastK (jn := 7) (L' := [(8, _), (11, _), (12, _), (16, _), (17, _)]) dX6_become_33 (by decide) rfl (xin_ok (by decide)) (by decide) rfl ?_
  refine x_iload_n dX6_become_34 rfl ?_
  refine x_iconst (v := 2) dX6_become_35 (by decide) ?_
  refine x_icmp_ne (tgt := 49) dX6_become_36 (by decide) (fun c2 => ?_) (fun c2 => ?_)
  · replace h := xif_n c2 h
    show V yX6_become cX6_become none 1 61 (0, 0) 49 [some (.ref 16), some (.int l1), none] [] (xof s0 [W_8, W_11 o11, W_12 a12, W_16 o16, W_17 (upd a17 7 (((a17 7) + 1)))]) _
    exact vb_X6_become_16_49 s0 o11 a12 o16 (upd a17 7 (((a17 7) + 1))) l1 q h
  · replace h := xif_p c2 h
    refine x_aload_n dX6_become_39 rfl ?_
    refine g_X6_9 rfl dX6_become_40 (by decide) rfl rfl ?_
    refine x_iconst (v := 4) dX6_become_43 (by decide) ?_
    refine x_dup2 dX6_become_44 rfl rfl ?_
    refine x_ialdK (jn := 4) (v := (a17 4)) dX6_become_45 (by decide) rfl (xin_ok (by decide)) (by decide) rfl ?_
    refine x_iconst (v := 1) dX6_become_46 (by decide) ?_
    refine x_iadd dX6_become_47 ?_
    refine x_iastK (jn := 4) (L' := [(8, _), (11, _), (12, _), (16, _), (17, _)]) dX6_become_48 (by decide) rfl (xin_ok (by decide)) (by decide) rfl ?_
    show V yX6_become cX6_become none 1 61 (0, 0) 49 [some (.ref 16), some (.int l1), none] [] (xof s0 [W_8, W_11 o11, W_12 a12, W_16 o16, W_17 (upd (upd a17 7 (((a17 7) + 1))) 4 (((a17 4) + 1)))]) _
    exact vb_X6_become_16_49 s0 o11 a12 o16 (upd (upd a17 7 (((a17 7) + 1))) 4 (((a17 4) + 1))) l1 q h
def f_X6_become_16 (o11 : Nat → Int32) (a12 : Nat → Int32) (o16 : Nat → Int32) (a17 : Nat → Int32) (p1 : Int32) (p2 : Int32) : Option (((Nat → Int32) × (Nat → Int32) × (Nat → Int32) × (Nat → Int32))) := (Option.bind (f_X7_add_11 o11 a12 p2 ((o16 7)) p1) (fun q1 => (b_X6_become_16_23 q1.1 q1.2 o16 a17 p1)))
set_option maxRecDepth 100000 in
set_option maxHeartbeats 400000 in
theorem v_X6_become_16 (s0 : XW) (o11 : Nat → Int32) (a12 : Nat → Int32) (o16 : Nat → Int32) (a17 : Nat → Int32) (p1 : Int32) (p2 : Int32) (q : ((Nat → Int32) × (Nat → Int32) × (Nat → Int32) × (Nat → Int32))) (h : f_X6_become_16 o11 a12 o16 a17 p1 p2 = some q) : C_X6_become 1 61 [.ref 16, .int p1, .int p2] (xof s0 [W_8, W_11 o11, W_12 a12, W_16 o16, W_17 a17]) none (xof s0 [W_8, W_11 q.1, W_12 q.2.1, W_16 q.2.2.1, W_17 q.2.2.2]) := by
  unfold f_X6_become_16 at h
  show V yX6_become cX6_become none 1 61 (0, 0) 0 [some (.ref 16), some (.int p1), some (.int p2)] [] (xof s0 [W_8, W_11 o11, W_12 a12, W_16 o16, W_17 a17]) _
  refine x_aload_n dX6_become_0 rfl ?_
  refine g_X6_40 rfl dX6_become_1 (by decide) rfl rfl ?_
  refine x_ifnull dX6_become_4 ?_
  refine x_aload_n dX6_become_7 rfl ?_
  refine g_X6_40 rfl dX6_become_8 (by decide) rfl rfl ?_
  refine g_X6_185 rfl dX6_become_11 (by decide) rfl rfl ?_
  refine x_iload_n dX6_become_14 rfl ?_
  refine x_aload_n dX6_become_15 rfl ?_
  refine g_X6_54 rfl dX6_become_16 (by decide) rfl rfl ?_
  refine x_iload_n dX6_become_19 rfl ?_
  obtain ⟨q1, hq1, h⟩ := Option.bind_eq_some_iff.mp h
  refine y_callVv (L' := [(8, _), (11, _), (12, _), (16, _), (17, _)]) mi_X7_add ml_X6_171 im_X7_add se_X7_add (rfl : vwCl[6]? = _) dX6_become_20 (fun s1 => v_X7_add_11 s1 _ _ _ _ _ q1 hq1) (by decide) rfl (Nat.le_of_ble_eq_true rfl) rfl (by decide) (Nat.le_of_ble_eq_true rfl) rfl rfl rfl rfl ?_
  refine V.drop1 (i := 2) (ls' := [_, _, _]) rfl ?_
  show V yX6_become cX6_become none 1 61 (0, 0) 23 [some (.ref 16), some (.int p1), none] [] (xof s0 [W_8, W_11 q1.1, W_12 q1.2, W_16 o16, W_17 a17]) _
  exact vb_X6_become_16_23 s0 q1.1 q1.2 o16 a17 p1 q h
def f_X6_hunt_16 (a1 : Nat → Int32) (o11 : Nat → Int32) (a12 : Nat → Int32) (o16 : Nat → Int32) (a17 : Nat → Int32) (o18 : Nat → Int32) (j18 : Int64) (p1 : Int32) : Option (((Nat → Int32) × (Nat → Int32) × (Nat → Int32) × (Nat → Int32))) := (Option.bind (f_X10_looksRight_18 o18 j18) (fun q1 => (if q1 = 0 then (some (o11, a12, upd o16 14 (((o16 14) + 1)), a17)) else (if (a1 6) ≤ 0 then (some (o11, a12, upd o16 14 (((o16 14) + 1)), a17)) else (bif xnz (a1 6) then (if (((o16 14) + 1) - ((o16 14) + 1) / (a1 6) * (a1 6)) = 0 then (Option.bind (f_X6_become_16 o11 a12 (upd (upd o16 8 0) 14 (((o16 14) + 1))) a17 1 p1) (fun q6 => (some (q6.1, q6.2.1, q6.2.2.1, q6.2.2.2)))) else (some (o11, a12, upd o16 14 (((o16 14) + 1)), a17))) else none)))))
set_option maxRecDepth 100000 in
set_option maxHeartbeats 400000 in
theorem v_X6_hunt_16 (s0 : XW) (a1 : Nat → Int32) (o11 : Nat → Int32) (a12 : Nat → Int32) (o16 : Nat → Int32) (a17 : Nat → Int32) (o18 : Nat → Int32) (j18 : Int64) (p1 : Int32) (q : ((Nat → Int32) × (Nat → Int32) × (Nat → Int32) × (Nat → Int32))) (h : f_X6_hunt_16 a1 o11 a12 o16 a17 o18 j18 p1 = some q) : C_X6_hunt 2 61 [.ref 16, .int p1] (xof s0 [W_1 a1, W_8, W_11 o11, W_12 a12, W_16 o16, W_17 a17, W_18 o18 j18]) none (xof s0 [W_1 a1, W_8, W_11 q.1, W_12 q.2.1, W_16 q.2.2.1, W_17 q.2.2.2, W_18 o18 j18]) := by
  unfold f_X6_hunt_16 at h
  show V yX6_hunt cX6_hunt none 2 61 (0, 0) 0 [some (.ref 16), some (.int p1), none] [] (xof s0 [W_1 a1, W_8, W_11 o11, W_12 a12, W_16 o16, W_17 a17, W_18 o18 j18]) _
  refine x_aload_n dX6_hunt_0 rfl ?_
  refine x_dup dX6_hunt_1 rfl ?_
  refine g_X6_77 rfl dX6_hunt_2 (by decide) rfl rfl ?_
  refine x_iconst (v := 1) dX6_hunt_5 (by decide) ?_
  refine x_iadd dX6_hunt_6 ?_
  refine p_X6_77 (fs' := [_, _, _, _, _, _, _, _, _, _, _, _, _, _, _, _, _, _, _]) (L' := [(1, _), (8, _), (11, _), (12, _), (16, _), (17, _), (18, _)]) rfl dX6_hunt_7 (by decide) rfl (Nat.le_of_ble_eq_true rfl) rfl rfl ?_
  refine x_aload_n dX6_hunt_10 rfl ?_
  refine g_X6_33 rfl dX6_hunt_11 (by decide) rfl rfl ?_
  refine x_bipush (v := 6) dX6_hunt_14 (by decide) ?_
  refine x_ialdK (jn := 6) (v := (a1 6)) dX6_hunt_16 (by decide) rfl (xin_ok (by decide)) (by decide) rfl ?_
  refine x_istore_n (ls' := [_, _, _]) dX6_hunt_17 rfl rfl ?_
  refine x_aload_n dX6_hunt_18 rfl ?_
  refine g_X6_18 rfl dX6_hunt_19 (by decide) rfl rfl ?_
  obtain ⟨q1, hq1, h⟩ := Option.bind_eq_some_iff.mp h
  refine y_callVi (L' := [(1, _), (8, _), (11, _), (12, _), (16, _), (17, _), (18, _)]) mi_X10_looksRight ml_X6_129 im_X10_looksRight se_X10_looksRight (rfl : vwCl[9]? = _) dX6_hunt_22 (fun s1 => v_X10_looksRight_18 s1 _ _ q1 hq1) (by decide) rfl (Nat.le_of_ble_eq_true rfl) rfl (by decide) (Nat.le_of_ble_eq_true rfl) rfl rfl rfl rfl ?_
  refine x_if_eq (tgt := 52) dX6_hunt_25 (by decide) (fun c2 => ?_) (fun c2 => ?_)
  · replace h := xif_p c2 h
    cases h
    exact x_vret dX6_hunt_52 ⟨rfl, rfl, rfl⟩
  · replace h := xif_n c2 h
    refine x_iload_n dX6_hunt_28 rfl ?_
    refine x_if_le (tgt := 52) dX6_hunt_29 (by decide) (fun c3 => ?_) (fun c3 => ?_)
    · replace h := xif_p c3 h
      cases h
      exact x_vret dX6_hunt_52 ⟨rfl, rfl, rfl⟩
    · replace h := xif_n c3 h
      refine x_aload_n dX6_hunt_32 rfl ?_
      refine g_X6_77 rfl dX6_hunt_33 (by decide) rfl rfl ?_
      refine x_iload_n dX6_hunt_36 rfl ?_
      obtain ⟨c4, h⟩ := xck h
      refine x_irem dX6_hunt_37 (xnz_ok c4) ?_
      refine x_if_ne (tgt := 52) dX6_hunt_38 (by decide) (fun c5 => ?_) (fun c5 => ?_)
      · replace h := xif_n c5 h
        cases h
        exact x_vret dX6_hunt_52 ⟨rfl, rfl, rfl⟩
      · replace h := xif_p c5 h
        refine x_aload_n dX6_hunt_41 rfl ?_
        refine x_iconst (v := 0) dX6_hunt_42 (by decide) ?_
        refine p_X6_58 (fs' := [_, _, _, _, _, _, _, _, _, _, _, _, _, _, _, _, _, _, _]) (L' := [(1, _), (8, _), (11, _), (12, _), (16, _), (17, _), (18, _)]) rfl dX6_hunt_43 (by decide) rfl (Nat.le_of_ble_eq_true rfl) rfl rfl ?_
        refine x_aload_n dX6_hunt_46 rfl ?_
        refine x_iconst (v := 1) dX6_hunt_47 (by decide) ?_
        refine x_iload_n dX6_hunt_48 rfl ?_
        obtain ⟨q6, hq6, h⟩ := Option.bind_eq_some_iff.mp h
        refine y_callVv (L' := [(1, _), (8, _), (11, _), (12, _), (16, _), (17, _), (18, _)]) mi_X6_become ml_X6_133 im_X6_become se_X6_become (rfl : vwCl[5]? = _) dX6_hunt_49 (fun s1 => v_X6_become_16 s1 _ _ _ _ _ _ q6 hq6) (by decide) rfl (Nat.le_of_ble_eq_true rfl) rfl (by decide) (Nat.le_of_ble_eq_true rfl) rfl rfl rfl rfl ?_
        cases h
        exact x_vret dX6_hunt_52 ⟨rfl, rfl, rfl⟩
def b_X6_watch_16_78  (a1 : Nat → Int32) (o16 : Nat → Int32) (a17 : Nat → Int32) (t1 : Int32) : Option (((Nat → Int32) × (Nat → Int32))) := (bif xb t1 then (some (upd o16 12 t1, a17)) else none)
set_option maxRecDepth 100000 in
set_option maxHeartbeats 400000 in
theorem vb_X6_watch_16_78 (s0 : XW)  (a1 : Nat → Int32) (o16 : Nat → Int32) (a17 : Nat → Int32) (t1 : Int32) (q : ((Nat → Int32) × (Nat → Int32))) (h : b_X6_watch_16_78 a1 o16 a17 t1 = some q) : V yX6_watch cX6_watch none 0 61 (0, 0) 78 [none, none, none] [.int t1, .ref 16] (xof s0 [W_1 a1, W_16 o16, W_17 a17]) (xq 61 none (xof s0 [W_1 a1, W_16 q.1, W_17 q.2])) := by
  unfold b_X6_watch_16_78 at h
  obtain ⟨c6, h⟩ := xck h
  refine p_X6_71 (fs' := [_, _, _, _, _, _, _, _, _, _, _, _, _, _, _, _, _, _, _]) (L' := [(1, _), (16, _), (17, _)]) rfl dX6_watch_78 (xb_ok c6) (by decide) rfl (Nat.le_of_ble_eq_true rfl) rfl rfl ?_
  cases h
  exact x_vret dX6_watch_81 ⟨rfl, rfl, rfl⟩
def b_X6_watch_16_68  (a1 : Nat → Int32) (o16 : Nat → Int32) (a17 : Nat → Int32) (l2 : Int32) : Option (((Nat → Int32) × (Nat → Int32))) := (if l2 = 0 then (b_X6_watch_16_78 a1 o16 a17 1) else (b_X6_watch_16_78 a1 o16 a17 0))
set_option maxRecDepth 100000 in
set_option maxHeartbeats 400000 in
theorem vb_X6_watch_16_68 (s0 : XW)  (a1 : Nat → Int32) (o16 : Nat → Int32) (a17 : Nat → Int32) (l2 : Int32) (q : ((Nat → Int32) × (Nat → Int32))) (h : b_X6_watch_16_68 a1 o16 a17 l2 = some q) : V yX6_watch cX6_watch none 0 61 (0, 0) 68 [some (.ref 16), none, some (.int l2)] [] (xof s0 [W_1 a1, W_16 o16, W_17 a17]) (xq 61 none (xof s0 [W_1 a1, W_16 q.1, W_17 q.2])) := by
  unfold b_X6_watch_16_68 at h
  refine x_aload_n dX6_watch_68 rfl ?_
  refine x_iload_n dX6_watch_69 rfl ?_
  refine x_if_ne (tgt := 77) dX6_watch_70 (by decide) (fun c5 => ?_) (fun c5 => ?_)
  · replace h := xif_n c5 h
    refine x_iconst (v := 0) dX6_watch_77 (by decide) ?_
    refine V.drop1 (i := 0) (ls' := [_, _, _]) rfl ?_
    refine V.drop1 (i := 2) (ls' := [_, _, _]) rfl ?_
    show V yX6_watch cX6_watch none 0 61 (0, 0) 78 [none, none, none] [.int 0, .ref 16] (xof s0 [W_1 a1, W_16 o16, W_17 a17]) _
    exact vb_X6_watch_16_78 s0 a1 o16 a17 0 q h
  · replace h := xif_p c5 h
    refine x_iconst (v := 1) dX6_watch_73 (by decide) ?_
    refine x_goto (tgt := 78) dX6_watch_74 (by decide) ?_
    refine V.drop1 (i := 0) (ls' := [_, _, _]) rfl ?_
    refine V.drop1 (i := 2) (ls' := [_, _, _]) rfl ?_
    show V yX6_watch cX6_watch none 0 61 (0, 0) 78 [none, none, none] [.int 1, .ref 16] (xof s0 [W_1 a1, W_16 o16, W_17 a17]) _
    exact vb_X6_watch_16_78 s0 a1 o16 a17 1 q h
def b_X6_watch_16_30  (a1 : Nat → Int32) (o16 : Nat → Int32) (a17 : Nat → Int32) (l2 : Int32) (t1 : Int32) : Option (((Nat → Int32) × (Nat → Int32))) := (if t1 < (a1 4) then (some (upd o16 13 t1, a17)) else (if l2 = 0 then (if (o16 12) = 0 then (b_X6_watch_16_68 a1 (upd o16 13 t1) (upd a17 11 (((a17 11) + 1))) l2) else (b_X6_watch_16_68 a1 (upd o16 13 t1) a17 l2)) else (b_X6_watch_16_68 a1 (upd o16 13 t1) a17 l2)))
set_option maxRecDepth 100000 in
set_option maxHeartbeats 400000 in
theorem vb_X6_watch_16_30 (s0 : XW)  (a1 : Nat → Int32) (o16 : Nat → Int32) (a17 : Nat → Int32) (l2 : Int32) (t1 : Int32) (q : ((Nat → Int32) × (Nat → Int32))) (h : b_X6_watch_16_30 a1 o16 a17 l2 t1 = some q) : V yX6_watch cX6_watch none 0 61 (0, 0) 30 [some (.ref 16), none, some (.int l2)] [.int t1, .ref 16] (xof s0 [W_1 a1, W_16 o16, W_17 a17]) (xq 61 none (xof s0 [W_1 a1, W_16 q.1, W_17 q.2])) := by
  unfold b_X6_watch_16_30 at h
  refine p_X6_74 (fs' := [_, _, _, _, _, _, _, _, _, _, _, _, _, _, _, _, _, _, _]) (L' := [(1, _), (16, _), (17, _)]) rfl dX6_watch_30 (by decide) rfl (Nat.le_of_ble_eq_true rfl) rfl rfl ?_
  refine x_aload_n dX6_watch_33 rfl ?_
  refine g_X6_74 rfl dX6_watch_34 (by decide) rfl rfl ?_
  refine x_aload_n dX6_watch_37 rfl ?_
  refine g_X6_33 rfl dX6_watch_38 (by decide) rfl rfl ?_
  refine x_iconst (v := 4) dX6_watch_41 (by decide) ?_
  refine x_ialdK (jn := 4) (v := (a1 4)) dX6_watch_42 (by decide) rfl (xin_ok (by decide)) (by decide) rfl ?_
  refine x_icmp_lt (tgt := 81) dX6_watch_43 (by decide) (fun c3 => ?_) (fun c3 => ?_)
  · replace h := xif_p c3 h
    cases h
    exact x_vret dX6_watch_81 ⟨rfl, rfl, rfl⟩
  · replace h := xif_n c3 h
    refine x_iload_n dX6_watch_46 rfl ?_
    refine x_if_ne (tgt := 68) dX6_watch_47 (by decide) (fun c4 => ?_) (fun c4 => ?_)
    · replace h := xif_n c4 h
      show V yX6_watch cX6_watch none 0 61 (0, 0) 68 [some (.ref 16), none, some (.int l2)] [] (xof s0 [W_1 a1, W_16 (upd o16 13 t1), W_17 a17]) _
      exact vb_X6_watch_16_68 s0 a1 (upd o16 13 t1) a17 l2 q h
    · replace h := xif_p c4 h
      refine x_aload_n dX6_watch_50 rfl ?_
      refine g_X6_71 rfl dX6_watch_51 (by decide) rfl rfl ?_
      refine x_if_ne (tgt := 68) dX6_watch_54 (by decide) (fun c7 => ?_) (fun c7 => ?_)
      · replace h := xif_n c7 h
        show V yX6_watch cX6_watch none 0 61 (0, 0) 68 [some (.ref 16), none, some (.int l2)] [] (xof s0 [W_1 a1, W_16 (upd o16 13 t1), W_17 a17]) _
        exact vb_X6_watch_16_68 s0 a1 (upd o16 13 t1) a17 l2 q h
      · replace h := xif_p c7 h
        refine x_aload_n dX6_watch_57 rfl ?_
        refine g_X6_9 rfl dX6_watch_58 (by decide) rfl rfl ?_
        refine x_bipush (v := 11) dX6_watch_61 (by decide) ?_
        refine x_dup2 dX6_watch_63 rfl rfl ?_
        refine x_ialdK (jn := 11) (v := (a17 11)) dX6_watch_64 (by decide) rfl (xin_ok (by decide)) (by decide) rfl ?_
        refine x_iconst (v := 1) dX6_watch_65 (by decide) ?_
        refine x_iadd dX6_watch_66 ?_
        refine x_iastK (jn := 11) (L' := [(1, _), (16, _), (17, _)]) dX6_watch_67 (by decide) rfl (xin_ok (by decide)) (by decide) rfl ?_
        show V yX6_watch cX6_watch none 0 61 (0, 0) 68 [some (.ref 16), none, some (.int l2)] [] (xof s0 [W_1 a1, W_16 (upd o16 13 t1), W_17 (upd a17 11 (((a17 11) + 1)))]) _
        exact vb_X6_watch_16_68 s0 a1 (upd o16 13 t1) (upd a17 11 (((a17 11) + 1))) l2 q h
def b_X6_watch_16_13  (a1 : Nat → Int32) (o16 : Nat → Int32) (a17 : Nat → Int32) (l1 : Int32) (t0 : Int32) : Option (((Nat → Int32) × (Nat → Int32))) := (if t0 = l1 then (b_X6_watch_16_30 a1 o16 a17 t0 (((o16 13) + 1))) else (b_X6_watch_16_30 a1 o16 a17 t0 1))
set_option maxRecDepth 100000 in
set_option maxHeartbeats 400000 in
theorem vb_X6_watch_16_13 (s0 : XW)  (a1 : Nat → Int32) (o16 : Nat → Int32) (a17 : Nat → Int32) (l1 : Int32) (t0 : Int32) (q : ((Nat → Int32) × (Nat → Int32))) (h : b_X6_watch_16_13 a1 o16 a17 l1 t0 = some q) : V yX6_watch cX6_watch none 0 61 (0, 0) 13 [some (.ref 16), some (.int l1), none] [.int t0] (xof s0 [W_1 a1, W_16 o16, W_17 a17]) (xq 61 none (xof s0 [W_1 a1, W_16 q.1, W_17 q.2])) := by
  unfold b_X6_watch_16_13 at h
  refine x_istore_n (ls' := [_, _, _]) dX6_watch_13 rfl rfl ?_
  refine x_aload_n dX6_watch_14 rfl ?_
  refine x_iload_n dX6_watch_15 rfl ?_
  refine x_iload_n dX6_watch_16 rfl ?_
  refine x_icmp_ne (tgt := 29) dX6_watch_17 (by decide) (fun c2 => ?_) (fun c2 => ?_)
  · replace h := xif_n c2 h
    refine x_iconst (v := 1) dX6_watch_29 (by decide) ?_
    refine V.drop1 (i := 1) (ls' := [_, _, _]) rfl ?_
    show V yX6_watch cX6_watch none 0 61 (0, 0) 30 [some (.ref 16), none, some (.int t0)] [.int 1, .ref 16] (xof s0 [W_1 a1, W_16 o16, W_17 a17]) _
    exact vb_X6_watch_16_30 s0 a1 o16 a17 t0 1 q h
  · replace h := xif_p c2 h
    refine x_aload_n dX6_watch_20 rfl ?_
    refine g_X6_74 rfl dX6_watch_21 (by decide) rfl rfl ?_
    refine x_iconst (v := 1) dX6_watch_24 (by decide) ?_
    refine x_iadd dX6_watch_25 ?_
    refine x_goto (tgt := 30) dX6_watch_26 (by decide) ?_
    refine V.drop1 (i := 1) (ls' := [_, _, _]) rfl ?_
    show V yX6_watch cX6_watch none 0 61 (0, 0) 30 [some (.ref 16), none, some (.int t0)] [.int (((o16 13) + 1)), .ref 16] (xof s0 [W_1 a1, W_16 o16, W_17 a17]) _
    exact vb_X6_watch_16_30 s0 a1 o16 a17 t0 (((o16 13) + 1)) q h
def f_X6_watch_16 (a1 : Nat → Int32) (o16 : Nat → Int32) (a17 : Nat → Int32) (p1 : Int32) : Option (((Nat → Int32) × (Nat → Int32))) := (if (o16 7) = 2 then (b_X6_watch_16_13 a1 o16 a17 p1 1) else (b_X6_watch_16_13 a1 o16 a17 p1 0))
set_option maxRecDepth 100000 in
set_option maxHeartbeats 400000 in
theorem v_X6_watch_16 (s0 : XW) (a1 : Nat → Int32) (o16 : Nat → Int32) (a17 : Nat → Int32) (p1 : Int32) (q : ((Nat → Int32) × (Nat → Int32))) (h : f_X6_watch_16 a1 o16 a17 p1 = some q) : C_X6_watch 0 61 [.ref 16, .int p1] (xof s0 [W_1 a1, W_16 o16, W_17 a17]) none (xof s0 [W_1 a1, W_16 q.1, W_17 q.2]) := by
  unfold f_X6_watch_16 at h
  show V yX6_watch cX6_watch none 0 61 (0, 0) 0 [some (.ref 16), some (.int p1), none] [] (xof s0 [W_1 a1, W_16 o16, W_17 a17]) _
  refine x_aload_n dX6_watch_0 rfl ?_
  refine g_X6_54 rfl dX6_watch_1 (by decide) rfl rfl ?_
  refine x_iconst (v := 2) dX6_watch_4 (by decide) ?_
  refine x_icmp_ne (tgt := 12) dX6_watch_5 (by decide) (fun c1 => ?_) (fun c1 => ?_)
  · replace h := xif_n c1 h
    refine x_iconst (v := 0) dX6_watch_12 (by decide) ?_
    show V yX6_watch cX6_watch none 0 61 (0, 0) 13 [some (.ref 16), some (.int p1), none] [.int 0] (xof s0 [W_1 a1, W_16 o16, W_17 a17]) _
    exact vb_X6_watch_16_13 s0 a1 o16 a17 p1 0 q h
  · replace h := xif_p c1 h
    refine x_iconst (v := 1) dX6_watch_8 (by decide) ?_
    refine x_goto (tgt := 13) dX6_watch_9 (by decide) ?_
    show V yX6_watch cX6_watch none 0 61 (0, 0) 13 [some (.ref 16), some (.int p1), none] [.int 1] (xof s0 [W_1 a1, W_16 o16, W_17 a17]) _
    exact vb_X6_watch_16_13 s0 a1 o16 a17 p1 1 q h
def f_X6_loadBits_16 (a1 : Nat → Int32) (o16 : Nat → Int32)  : Option Int32 := (some ((8 * (a1 0))))
set_option maxRecDepth 100000 in
set_option maxHeartbeats 400000 in
theorem v_X6_loadBits_16 (s0 : XW) (a1 : Nat → Int32) (o16 : Nat → Int32)  (q : Int32) (h : f_X6_loadBits_16 a1 o16 = some q) : C_X6_loadBits 0 61 [.ref 16] (xof s0 [W_1 a1, W_16 o16]) (some (.int q)) (xof s0 [W_1 a1, W_16 o16]) := by
  unfold f_X6_loadBits_16 at h
  show V yX6_loadBits cX6_loadBits (some .int) 0 61 (0, 0) 0 [some (.ref 16)] [] (xof s0 [W_1 a1, W_16 o16]) _
  refine x_bipush (v := 8) dX6_loadBits_0 (by decide) ?_
  refine x_aload_n dX6_loadBits_2 rfl ?_
  refine g_X6_33 rfl dX6_loadBits_3 (by decide) rfl rfl ?_
  refine x_iconst (v := 0) dX6_loadBits_6 (by decide) ?_
  refine x_ialdK (jn := 0) (v := (a1 0)) dX6_loadBits_7 (by decide) rfl (xin_ok (by decide)) (by decide) rfl ?_
  refine x_imul dX6_loadBits_8 ?_
  cases h
  exact x_iret dX6_loadBits_9 ⟨rfl, rfl, rfl⟩
def f_X2_oldest_19 (j19 : Int64)  : Option Int32 := (some ((Int64.toInt32 (xul j19 42))))
set_option maxRecDepth 100000 in
set_option maxHeartbeats 400000 in
theorem v_X2_oldest_19 (s0 : XW) (j19 : Int64)  (q : Int32) (h : f_X2_oldest_19 j19 = some q) : C_X2_oldest 0 61 [.ref 19] (xof s0 [W_19 j19]) (some (.int q)) (xof s0 [W_19 j19]) := by
  unfold f_X2_oldest_19 at h
  show V yX2_oldest cX2_oldest (some .int) 0 61 (0, 0) 0 [some (.ref 19)] [] (xof s0 [W_19 j19]) _
  refine x_aload_n dX2_oldest_0 rfl ?_
  refine g_X2_9 rfl dX2_oldest_1 (by decide) rfl rfl ?_
  refine x_bipush (v := 42) dX2_oldest_4 (by decide) ?_
  refine x_lushr dX2_oldest_6 ?_
  refine x_l2i dX2_oldest_7 ?_
  cases h
  exact x_iret dX2_oldest_8 ⟨rfl, rfl, rfl⟩
def f_X2_push_19 (j19 : Int64) (p1 : Int32) : Option Int64 := (some ((((j19 <<< (Int32.toInt64 1 &&& 63)) ||| (Int32.toInt64 p1)) &&& 8796093022207)))
set_option maxRecDepth 100000 in
set_option maxHeartbeats 400000 in
theorem v_X2_push_19 (s0 : XW) (j19 : Int64) (p1 : Int32) (q : Int64) (h : f_X2_push_19 j19 p1 = some q) : C_X2_push 0 61 [.ref 19, .int p1] (xof s0 [W_19 j19]) none (xof s0 [W_19 q]) := by
  unfold f_X2_push_19 at h
  show V yX2_push cX2_push none 0 61 (0, 0) 0 [some (.ref 19), some (.int p1)] [] (xof s0 [W_19 j19]) _
  refine x_aload_n dX2_push_0 rfl ?_
  refine x_aload_n dX2_push_1 rfl ?_
  refine g_X2_9 rfl dX2_push_2 (by decide) rfl rfl ?_
  refine x_iconst (v := 1) dX2_push_5 (by decide) ?_
  refine x_lshl dX2_push_6 ?_
  refine x_iload_n dX2_push_7 rfl ?_
  refine x_i2l dX2_push_8 ?_
  refine x_lor dX2_push_9 ?_
  refine x_ldc2 dX2_push_10 cn_X2_17 ?_
  refine x_land dX2_push_13 ?_
  refine p_X2_9 (fs' := [_]) (L' := [(19, _)]) rfl dX2_push_14 (by decide) rfl (Nat.le_of_ble_eq_true rfl) rfl rfl ?_
  cases h
  exact x_vret dX2_push_17 ⟨rfl, rfl, rfl⟩
def l_X8_isLoadLike_4_20_37 (n : Nat) (o4 : Nat → Int32) (a7 : Nat → Int32) (a20 : Nat → Int32) (l3 : Int32) (l4 : Int32) (l5 : Int32) : Nat → (Int32) → Option (Int32 ⊕ Int32)
  | 0, _ => none
  | k + 1, l6 => (if l4 ≤ l6 then (some (Sum.inr l6)) else (bif xin (l5 + l6) 3072 then (bif xin (l3 + l6) 48 then (if (a7 (Int32.toNatClampNeg (l5 + l6))) = (a20 (Int32.toNatClampNeg (l3 + l6))) then (l_X8_isLoadLike_4_20_37 n o4 a7 a20 l3 l4 l5 k ((l6 + 1))) else (some (Sum.inl 0))) else none) else none))
set_option maxRecDepth 100000 in
set_option maxHeartbeats 400000 in
theorem lv_X8_isLoadLike_4_20_37 (s0 : XW) (n : Nat) (o4 : Nat → Int32) (a7 : Nat → Int32) (a20 : Nat → Int32) (l3 : Int32) (l4 : Int32) (l5 : Int32) (Q : Nat → Option Value → XW → Prop) : ∀ (k : Nat) (l6 : Int32) (o : Int32 ⊕ Int32), l_X8_isLoadLike_4_20_37 n o4 a7 a20 l3 l4 l5 k l6 = some o → ((∀ z, o = Sum.inl z → Q 61 (some (.int z)) (xof s0 [W_4 o4, W_7 a7, W_20 a20])) ∧ (∀ z, o = Sum.inr z → V yX8_isLoadLike cX8_isLoadLike (some .boolean) 0 61 (0, 0) 71 [none, none, none, none, none, none, none] [] (xof s0 [W_4 o4, W_7 a7, W_20 a20]) Q)) → V yX8_isLoadLike cX8_isLoadLike (some .boolean) 0 61 (0, 0) 37 [some (.ref 4), none, some (.ref 20), some (.int l3), some (.int l4), some (.int l5), some (.int l6)] [] (xof s0 [W_4 o4, W_7 a7, W_20 a20]) Q := by
  intro k
  induction k with
  | zero =>
    intro _ _ h
    simp [l_X8_isLoadLike_4_20_37] at h
  | succ k ih =>
    intro l6 o h hk
    rw [l_X8_isLoadLike_4_20_37] at h
    refine x_iload dX8_isLoadLike_37 rfl ?_
    refine x_iload dX8_isLoadLike_39 rfl ?_
    refine x_icmp_ge (tgt := 71) dX8_isLoadLike_41 (by decide) (fun c4 => ?_) (fun c4 => ?_)
    · replace h := xif_p c4 h
      refine V.drop1 (i := 0) (ls' := [_, _, _, _, _, _, _]) rfl ?_
      refine V.drop1 (i := 2) (ls' := [_, _, _, _, _, _, _]) rfl ?_
      refine V.drop1 (i := 3) (ls' := [_, _, _, _, _, _, _]) rfl ?_
      refine V.drop1 (i := 4) (ls' := [_, _, _, _, _, _, _]) rfl ?_
      refine V.drop1 (i := 5) (ls' := [_, _, _, _, _, _, _]) rfl ?_
      refine V.drop1 (i := 6) (ls' := [_, _, _, _, _, _, _]) rfl ?_
      show V yX8_isLoadLike cX8_isLoadLike (some .boolean) 0 61 (0, 0) 71 [none, none, none, none, none, none, none] [] (xof s0 [W_4 o4, W_7 a7, W_20 a20]) _
      cases h
      exact hk.2 l6 rfl
    · replace h := xif_n c4 h
      refine x_aload_n dX8_isLoadLike_44 rfl ?_
      refine g_X8_22 rfl dX8_isLoadLike_45 (by decide) rfl rfl ?_
      refine x_iload dX8_isLoadLike_48 rfl ?_
      refine x_iload dX8_isLoadLike_50 rfl ?_
      refine x_iadd dX8_isLoadLike_52 ?_
      obtain ⟨c5, h⟩ := xck h
      refine x_baldK (jn := (Int32.toNatClampNeg (l5 + l6))) (v := (a7 (Int32.toNatClampNeg (l5 + l6)))) dX8_isLoadLike_53 (by decide) rfl (xin_ok c5) rfl rfl ?_
      refine x_aload_n dX8_isLoadLike_54 rfl ?_
      refine x_iload_n dX8_isLoadLike_55 rfl ?_
      refine x_iload dX8_isLoadLike_56 rfl ?_
      refine x_iadd dX8_isLoadLike_58 ?_
      obtain ⟨c6, h⟩ := xck h
      refine x_baldK (jn := (Int32.toNatClampNeg (l3 + l6))) (v := (a20 (Int32.toNatClampNeg (l3 + l6)))) dX8_isLoadLike_59 (by decide) rfl (xin_ok c6) rfl rfl ?_
      refine x_icmp_eq (tgt := 65) dX8_isLoadLike_60 (by decide) (fun c7 => ?_) (fun c7 => ?_)
      · replace h := xif_p c7 h
        refine x_iinc (v := l6 + 1) (ls' := [_, _, _, _, _, _, _]) dX8_isLoadLike_65 rfl rfl rfl rfl ?_
        refine x_goto (tgt := 37) dX8_isLoadLike_68 (by decide) ?_
        show V yX8_isLoadLike cX8_isLoadLike (some .boolean) 0 61 (0, 0) 37 [some (.ref 4), none, some (.ref 20), some (.int l3), some (.int l4), some (.int l5), some (.int ((l6 + 1)))] [] (xof s0 [W_4 o4, W_7 a7, W_20 a20]) _
        exact ih ((l6 + 1)) _ h hk
      · replace h := xif_n c7 h
        refine x_iconst (v := 0) dX8_isLoadLike_63 (by decide) ?_
        cases h
        exact x_zret dX8_isLoadLike_64 (Or.inl rfl) (hk.1 0 rfl)
def f_X8_isLoadLike_4_20 (n : Nat) (o4 : Nat → Int32) (a7 : Nat → Int32) (a20 : Nat → Int32) (p1 : Int32) (p3 : Int32) (p4 : Int32) : Option Int32 := (if p3 < 0 then (some 0) else (if (48 - p3) < p4 then (some 0) else (if p4 ≤ (3072 - (p1 * 48)) then (Option.bind (l_X8_isLoadLike_4_20_37 n o4 a7 a20 p3 p4 ((p1 * 48)) n 0) (fun u8 => Sum.elim (fun z9 => some z9) (fun z9 => (some 1)) u8)) else (some 0))))
set_option maxRecDepth 100000 in
set_option maxHeartbeats 400000 in
theorem v_X8_isLoadLike_4_20 (s0 : XW) (n : Nat) (o4 : Nat → Int32) (a7 : Nat → Int32) (a20 : Nat → Int32) (p1 : Int32) (p3 : Int32) (p4 : Int32) (q : Int32) (h : f_X8_isLoadLike_4_20 n o4 a7 a20 p1 p3 p4 = some q) : C_X8_isLoadLike 0 61 [.ref 4, .int p1, .ref 20, .int p3, .int p4] (xof s0 [W_4 o4, W_7 a7, W_20 a20]) (some (.int q)) (xof s0 [W_4 o4, W_7 a7, W_20 a20]) := by
  unfold f_X8_isLoadLike_4_20 at h
  show V yX8_isLoadLike cX8_isLoadLike (some .boolean) 0 61 (0, 0) 0 [some (.ref 4), some (.int p1), some (.ref 20), some (.int p3), some (.int p4), none, none] [] (xof s0 [W_4 o4, W_7 a7, W_20 a20]) _
  refine x_iload_n dX8_isLoadLike_0 rfl ?_
  refine x_bipush (v := 48) dX8_isLoadLike_1 (by decide) ?_
  refine x_imul dX8_isLoadLike_3 ?_
  refine x_istore (ls' := [_, _, _, _, _, _, _]) dX8_isLoadLike_4 rfl rfl ?_
  refine x_iload_n dX8_isLoadLike_6 rfl ?_
  refine x_if_lt (tgt := 32) dX8_isLoadLike_7 (by decide) (fun c1 => ?_) (fun c1 => ?_)
  · replace h := xif_p c1 h
    refine x_iconst (v := 0) dX8_isLoadLike_32 (by decide) ?_
    cases h
    exact x_zret dX8_isLoadLike_33 (Or.inl rfl) ⟨rfl, rfl, rfl⟩
  · replace h := xif_n c1 h
    refine x_iload dX8_isLoadLike_10 rfl ?_
    refine x_aload_n dX8_isLoadLike_12 rfl ?_
    refine x_alen (v := 48) dX8_isLoadLike_13 (by decide) rfl (by decide) rfl ?_
    refine x_iload_n dX8_isLoadLike_14 rfl ?_
    refine x_isub dX8_isLoadLike_15 ?_
    refine x_icmp_gt (tgt := 32) dX8_isLoadLike_16 (by decide) (fun c2 => ?_) (fun c2 => ?_)
    · replace h := xif_p c2 h
      refine x_iconst (v := 0) dX8_isLoadLike_32 (by decide) ?_
      cases h
      exact x_zret dX8_isLoadLike_33 (Or.inl rfl) ⟨rfl, rfl, rfl⟩
    · replace h := xif_n c2 h
      refine x_iload dX8_isLoadLike_19 rfl ?_
      refine x_aload_n dX8_isLoadLike_21 rfl ?_
      refine g_X8_22 rfl dX8_isLoadLike_22 (by decide) rfl rfl ?_
      refine x_alen (v := 3072) dX8_isLoadLike_25 (by decide) rfl (by decide) rfl ?_
      refine x_iload dX8_isLoadLike_26 rfl ?_
      refine x_isub dX8_isLoadLike_28 ?_
      refine x_icmp_le (tgt := 34) dX8_isLoadLike_29 (by decide) (fun c3 => ?_) (fun c3 => ?_)
      · replace h := xif_p c3 h
        refine x_iconst (v := 0) dX8_isLoadLike_34 (by decide) ?_
        refine x_istore (ls' := [_, _, _, _, _, _, _]) dX8_isLoadLike_35 rfl rfl ?_
        refine V.drop1 (i := 1) (ls' := [_, _, _, _, _, _, _]) rfl ?_
        obtain ⟨u8, hu8, h⟩ := Option.bind_eq_some_iff.mp h
        show V yX8_isLoadLike cX8_isLoadLike (some .boolean) 0 61 (0, 0) 37 [some (.ref 4), none, some (.ref 20), some (.int p3), some (.int p4), some (.int ((p1 * 48))), some (.int 0)] [] (xof s0 [W_4 o4, W_7 a7, W_20 a20]) _
        refine lv_X8_isLoadLike_4_20_37 s0 _ o4 a7 a20 p3 p4 ((p1 * 48)) _ n 0 _ hu8 ⟨fun z9 hz => ?_, fun z9 hz => ?_⟩
        · subst hz
          replace h := xsl h
          cases h
          exact ⟨rfl, rfl, rfl⟩
        subst hz
        replace h := xsr h
        refine x_iconst (v := 1) dX8_isLoadLike_71 (by decide) ?_
        cases h
        exact x_zret dX8_isLoadLike_72 (Or.inr rfl) ⟨rfl, rfl, rfl⟩
      · replace h := xif_n c3 h
        refine x_iconst (v := 0) dX8_isLoadLike_32 (by decide) ?_
        cases h
        exact x_zret dX8_isLoadLike_33 (Or.inl rfl) ⟨rfl, rfl, rfl⟩
def l_X8_firstLike_4_20_3 (n : Nat) (o4 : Nat → Int32) (a6 : Nat → Int32) (a7 : Nat → Int32) (a20 : Nat → Int32) (l1 : Int32) (l3 : Int32) (l4 : Int32) : Nat → (Int32) → Option (Int32 ⊕ Int32)
  | 0, _ => none
  | k + 1, l5 => (if (o4 3) ≤ l5 then (some (Sum.inr l5)) else (if 64 ≤ l5 then (some (Sum.inr l5)) else (bif xin l5 64 then (if (a6 (Int32.toNatClampNeg l5)) = l1 then (Option.bind (f_X8_isLoadLike_4_20 n o4 a7 a20 l5 l3 l4) (fun q5 => (if q5 = 0 then (l_X8_firstLike_4_20_3 n o4 a6 a7 a20 l1 l3 l4 k ((l5 + 1))) else (some (Sum.inl l5))))) else (l_X8_firstLike_4_20_3 n o4 a6 a7 a20 l1 l3 l4 k ((l5 + 1)))) else none)))
set_option maxRecDepth 100000 in
set_option maxHeartbeats 400000 in
theorem lv_X8_firstLike_4_20_3 (s0 : XW) (n : Nat) (o4 : Nat → Int32) (a6 : Nat → Int32) (a7 : Nat → Int32) (a20 : Nat → Int32) (l1 : Int32) (l3 : Int32) (l4 : Int32) (Q : Nat → Option Value → XW → Prop) : ∀ (k : Nat) (l5 : Int32) (o : Int32 ⊕ Int32), l_X8_firstLike_4_20_3 n o4 a6 a7 a20 l1 l3 l4 k l5 = some o → ((∀ z, o = Sum.inl z → Q 61 (some (.int z)) (xof s0 [W_4 o4, W_6 a6, W_7 a7, W_20 a20])) ∧ (∀ z, o = Sum.inr z → V yX8_firstLike cX8_firstLike (some .int) 1 61 (0, 0) 55 [none, none, none, none, none, none] [] (xof s0 [W_4 o4, W_6 a6, W_7 a7, W_20 a20]) Q)) → V yX8_firstLike cX8_firstLike (some .int) 1 61 (0, 0) 3 [some (.ref 4), some (.int l1), some (.ref 20), some (.int l3), some (.int l4), some (.int l5)] [] (xof s0 [W_4 o4, W_6 a6, W_7 a7, W_20 a20]) Q := by
  intro k
  induction k with
  | zero =>
    intro _ _ h
    simp [l_X8_firstLike_4_20_3] at h
  | succ k ih =>
    intro l5 o h hk
    rw [l_X8_firstLike_4_20_3] at h
    refine x_iload dX8_firstLike_3 rfl ?_
    refine x_aload_n dX8_firstLike_5 rfl ?_
    refine g_X8_26 rfl dX8_firstLike_6 (by decide) rfl rfl ?_
    refine x_icmp_ge (tgt := 55) dX8_firstLike_9 (by decide) (fun c1 => ?_) (fun c1 => ?_)
    · replace h := xif_p c1 h
      refine V.drop1 (i := 0) (ls' := [_, _, _, _, _, _]) rfl ?_
      refine V.drop1 (i := 1) (ls' := [_, _, _, _, _, _]) rfl ?_
      refine V.drop1 (i := 2) (ls' := [_, _, _, _, _, _]) rfl ?_
      refine V.drop1 (i := 3) (ls' := [_, _, _, _, _, _]) rfl ?_
      refine V.drop1 (i := 4) (ls' := [_, _, _, _, _, _]) rfl ?_
      refine V.drop1 (i := 5) (ls' := [_, _, _, _, _, _]) rfl ?_
      show V yX8_firstLike cX8_firstLike (some .int) 1 61 (0, 0) 55 [none, none, none, none, none, none] [] (xof s0 [W_4 o4, W_6 a6, W_7 a7, W_20 a20]) _
      cases h
      exact hk.2 l5 rfl
    · replace h := xif_n c1 h
      refine x_iload dX8_firstLike_12 rfl ?_
      refine x_aload_n dX8_firstLike_14 rfl ?_
      refine g_X8_18 rfl dX8_firstLike_15 (by decide) rfl rfl ?_
      refine x_alen (v := 64) dX8_firstLike_18 (by decide) rfl (by decide) rfl ?_
      refine x_icmp_ge (tgt := 55) dX8_firstLike_19 (by decide) (fun c2 => ?_) (fun c2 => ?_)
      · replace h := xif_p c2 h
        refine V.drop1 (i := 0) (ls' := [_, _, _, _, _, _]) rfl ?_
        refine V.drop1 (i := 1) (ls' := [_, _, _, _, _, _]) rfl ?_
        refine V.drop1 (i := 2) (ls' := [_, _, _, _, _, _]) rfl ?_
        refine V.drop1 (i := 3) (ls' := [_, _, _, _, _, _]) rfl ?_
        refine V.drop1 (i := 4) (ls' := [_, _, _, _, _, _]) rfl ?_
        refine V.drop1 (i := 5) (ls' := [_, _, _, _, _, _]) rfl ?_
        show V yX8_firstLike cX8_firstLike (some .int) 1 61 (0, 0) 55 [none, none, none, none, none, none] [] (xof s0 [W_4 o4, W_6 a6, W_7 a7, W_20 a20]) _
        cases h
        exact hk.2 l5 rfl
      · replace h := xif_n c2 h
        refine x_aload_n dX8_firstLike_22 rfl ?_
        refine g_X8_18 rfl dX8_firstLike_23 (by decide) rfl rfl ?_
        refine x_iload dX8_firstLike_26 rfl ?_
        obtain ⟨c3, h⟩ := xck h
        refine x_ialdK (jn := (Int32.toNatClampNeg l5)) (v := (a6 (Int32.toNatClampNeg l5))) dX8_firstLike_28 (by decide) rfl (xin_ok c3) rfl rfl ?_
        refine x_iload_n dX8_firstLike_29 rfl ?_
        refine x_icmp_ne (tgt := 49) dX8_firstLike_30 (by decide) (fun c4 => ?_) (fun c4 => ?_)
        · replace h := xif_n c4 h
          refine x_iinc (v := l5 + 1) (ls' := [_, _, _, _, _, _]) dX8_firstLike_49 rfl rfl rfl rfl ?_
          refine x_goto (tgt := 3) dX8_firstLike_52 (by decide) ?_
          show V yX8_firstLike cX8_firstLike (some .int) 1 61 (0, 0) 3 [some (.ref 4), some (.int l1), some (.ref 20), some (.int l3), some (.int l4), some (.int ((l5 + 1)))] [] (xof s0 [W_4 o4, W_6 a6, W_7 a7, W_20 a20]) _
          exact ih ((l5 + 1)) _ h hk
        · replace h := xif_p c4 h
          refine x_aload_n dX8_firstLike_33 rfl ?_
          refine x_iload dX8_firstLike_34 rfl ?_
          refine x_aload_n dX8_firstLike_36 rfl ?_
          refine x_iload_n dX8_firstLike_37 rfl ?_
          refine x_iload dX8_firstLike_38 rfl ?_
          obtain ⟨q5, hq5, h⟩ := Option.bind_eq_some_iff.mp h
          refine y_callVi (L' := [(4, _), (6, _), (7, _), (20, _)]) mi_X8_isLoadLike ml_X8_60 im_X8_isLoadLike se_X8_isLoadLike (rfl : vwCl[7]? = _) dX8_firstLike_40 (fun s1 => v_X8_isLoadLike_4_20 s1 n _ _ _ _ _ _ q5 hq5) (by decide) rfl (Nat.le_of_ble_eq_true rfl) rfl (by decide) (Nat.le_of_ble_eq_true rfl) rfl rfl rfl rfl ?_
          refine x_if_eq (tgt := 49) dX8_firstLike_43 (by decide) (fun c6 => ?_) (fun c6 => ?_)
          · replace h := xif_p c6 h
            refine x_iinc (v := l5 + 1) (ls' := [_, _, _, _, _, _]) dX8_firstLike_49 rfl rfl rfl rfl ?_
            refine x_goto (tgt := 3) dX8_firstLike_52 (by decide) ?_
            show V yX8_firstLike cX8_firstLike (some .int) 1 61 (0, 0) 3 [some (.ref 4), some (.int l1), some (.ref 20), some (.int l3), some (.int l4), some (.int ((l5 + 1)))] [] (xof s0 [W_4 o4, W_6 a6, W_7 a7, W_20 a20]) _
            exact ih ((l5 + 1)) _ h hk
          · replace h := xif_n c6 h
            refine x_iload dX8_firstLike_46 rfl ?_
            cases h
            exact x_iret dX8_firstLike_48 (hk.1 l5 rfl)
def f_X8_firstLike_4_20 (n : Nat) (o4 : Nat → Int32) (a6 : Nat → Int32) (a7 : Nat → Int32) (a20 : Nat → Int32) (p1 : Int32) (p3 : Int32) (p4 : Int32) : Option Int32 := (Option.bind (l_X8_firstLike_4_20_3 n o4 a6 a7 a20 p1 p3 p4 n 0) (fun u7 => Sum.elim (fun z8 => some z8) (fun z8 => (some ((-1)))) u7))
set_option maxRecDepth 100000 in
set_option maxHeartbeats 400000 in
theorem v_X8_firstLike_4_20 (s0 : XW) (n : Nat) (o4 : Nat → Int32) (a6 : Nat → Int32) (a7 : Nat → Int32) (a20 : Nat → Int32) (p1 : Int32) (p3 : Int32) (p4 : Int32) (q : Int32) (h : f_X8_firstLike_4_20 n o4 a6 a7 a20 p1 p3 p4 = some q) : C_X8_firstLike 1 61 [.ref 4, .int p1, .ref 20, .int p3, .int p4] (xof s0 [W_4 o4, W_6 a6, W_7 a7, W_20 a20]) (some (.int q)) (xof s0 [W_4 o4, W_6 a6, W_7 a7, W_20 a20]) := by
  unfold f_X8_firstLike_4_20 at h
  show V yX8_firstLike cX8_firstLike (some .int) 1 61 (0, 0) 0 [some (.ref 4), some (.int p1), some (.ref 20), some (.int p3), some (.int p4), none] [] (xof s0 [W_4 o4, W_6 a6, W_7 a7, W_20 a20]) _
  refine x_iconst (v := 0) dX8_firstLike_0 (by decide) ?_
  refine x_istore (ls' := [_, _, _, _, _, _]) dX8_firstLike_1 rfl rfl ?_
  obtain ⟨u7, hu7, h⟩ := Option.bind_eq_some_iff.mp h
  show V yX8_firstLike cX8_firstLike (some .int) 1 61 (0, 0) 3 [some (.ref 4), some (.int p1), some (.ref 20), some (.int p3), some (.int p4), some (.int 0)] [] (xof s0 [W_4 o4, W_6 a6, W_7 a7, W_20 a20]) _
  refine lv_X8_firstLike_4_20_3 s0 _ o4 a6 a7 a20 p1 p3 p4 _ n 0 _ hu7 ⟨fun z8 hz => ?_, fun z8 hz => ?_⟩
  · subst hz
    replace h := xsl h
    cases h
    exact ⟨rfl, rfl, rfl⟩
  subst hz
  replace h := xsr h
  refine x_iconst (v := -1) dX8_firstLike_55 (by decide) ?_
  cases h
  exact x_iret dX8_firstLike_56 ⟨rfl, rfl, rfl⟩
def b_X7_add_9_77  (o9 : Nat → Int32) (a10 : Nat → Int32) (t1 : Int32) : Option (((Nat → Int32) × (Nat → Int32))) := (some (upd (upd o9 2 (((o9 2) + 1))) 3 t1, a10))
set_option maxRecDepth 100000 in
set_option maxHeartbeats 400000 in
theorem vb_X7_add_9_77 (s0 : XW)  (o9 : Nat → Int32) (a10 : Nat → Int32) (t1 : Int32) (q : ((Nat → Int32) × (Nat → Int32))) (h : b_X7_add_9_77 o9 a10 t1 = some q) : V yX7_add cX7_add none 0 61 (0, 0) 77 [some (.ref 9), none, none, none, none] [.int t1, .ref 9] (xof s0 [W_9 o9, W_10 a10]) (xq 61 none (xof s0 [W_9 q.1, W_10 q.2])) := by
  unfold b_X7_add_9_77 at h
  refine p_X7_26 (fs' := [_, _, _, _]) (L' := [(9, _), (10, _)]) rfl dX7_add_77 (by decide) rfl (Nat.le_of_ble_eq_true rfl) rfl rfl ?_
  refine x_aload_n dX7_add_80 rfl ?_
  refine x_dup dX7_add_81 rfl ?_
  refine g_X7_23 rfl dX7_add_82 (by decide) rfl rfl ?_
  refine x_iconst (v := 1) dX7_add_85 (by decide) ?_
  refine x_iadd dX7_add_86 ?_
  refine p_X7_23 (fs' := [_, _, _, _]) (L' := [(9, _), (10, _)]) rfl dX7_add_87 (by decide) rfl (Nat.le_of_ble_eq_true rfl) rfl rfl ?_
  cases h
  exact x_vret dX7_add_90 ⟨rfl, rfl, rfl⟩
def b_X7_add_9_53  (o9 : Nat → Int32) (a10 : Nat → Int32)  : Option (((Nat → Int32) × (Nat → Int32))) := (if (o9 0) ≤ ((o9 3) + 1) then (b_X7_add_9_77 o9 a10 0) else (b_X7_add_9_77 o9 a10 (((o9 3) + 1))))
set_option maxRecDepth 100000 in
set_option maxHeartbeats 400000 in
theorem vb_X7_add_9_53 (s0 : XW)  (o9 : Nat → Int32) (a10 : Nat → Int32)  (q : ((Nat → Int32) × (Nat → Int32))) (h : b_X7_add_9_53 o9 a10 = some q) : V yX7_add cX7_add none 0 61 (0, 0) 53 [some (.ref 9), none, none, none, none] [] (xof s0 [W_9 o9, W_10 a10]) (xq 61 none (xof s0 [W_9 q.1, W_10 q.2])) := by
  unfold b_X7_add_9_53 at h
  refine x_aload_n dX7_add_53 rfl ?_
  refine x_aload_n dX7_add_54 rfl ?_
  refine g_X7_26 rfl dX7_add_55 (by decide) rfl rfl ?_
  refine x_iconst (v := 1) dX7_add_58 (by decide) ?_
  refine x_iadd dX7_add_59 ?_
  refine x_aload_n dX7_add_60 rfl ?_
  refine g_X7_13 rfl dX7_add_61 (by decide) rfl rfl ?_
  refine x_icmp_ge (tgt := 76) dX7_add_64 (by decide) (fun c2 => ?_) (fun c2 => ?_)
  · replace h := xif_p c2 h
    refine x_iconst (v := 0) dX7_add_76 (by decide) ?_
    show V yX7_add cX7_add none 0 61 (0, 0) 77 [some (.ref 9), none, none, none, none] [.int 0, .ref 9] (xof s0 [W_9 o9, W_10 a10]) _
    exact vb_X7_add_9_77 s0 o9 a10 0 q h
  · replace h := xif_n c2 h
    refine x_aload_n dX7_add_67 rfl ?_
    refine g_X7_26 rfl dX7_add_68 (by decide) rfl rfl ?_
    refine x_iconst (v := 1) dX7_add_71 (by decide) ?_
    refine x_iadd dX7_add_72 ?_
    refine x_goto (tgt := 77) dX7_add_73 (by decide) ?_
    show V yX7_add cX7_add none 0 61 (0, 0) 77 [some (.ref 9), none, none, none, none] [.int (((o9 3) + 1)), .ref 9] (xof s0 [W_9 o9, W_10 a10]) _
    exact vb_X7_add_9_77 s0 o9 a10 (((o9 3) + 1)) q h
def f_X7_add_9 (o9 : Nat → Int32) (a10 : Nat → Int32) (p1 : Int32) (p2 : Int32) (p3 : Int32) : Option (((Nat → Int32) × (Nat → Int32))) := (if (3 * (o9 3)) < 0 then (b_X7_add_9_53 o9 a10) else (if 36 ≤ ((3 * (o9 3)) + 2) then (b_X7_add_9_53 o9 a10) else (bif xin (3 * (o9 3)) 36 then (bif xin ((3 * (o9 3)) + 1) 36 then (bif xin ((3 * (o9 3)) + 2) 36 then (b_X7_add_9_53 o9 (upd (upd (upd a10 ((Int32.toNatClampNeg (3 * (o9 3)))) p1) ((Int32.toNatClampNeg ((3 * (o9 3)) + 1))) p2) ((Int32.toNatClampNeg ((3 * (o9 3)) + 2))) p3)) else none) else none) else none)))
set_option maxRecDepth 100000 in
set_option maxHeartbeats 400000 in
theorem v_X7_add_9 (s0 : XW) (o9 : Nat → Int32) (a10 : Nat → Int32) (p1 : Int32) (p2 : Int32) (p3 : Int32) (q : ((Nat → Int32) × (Nat → Int32))) (h : f_X7_add_9 o9 a10 p1 p2 p3 = some q) : C_X7_add 0 61 [.ref 9, .int p1, .int p2, .int p3] (xof s0 [W_9 o9, W_10 a10]) none (xof s0 [W_9 q.1, W_10 q.2]) := by
  unfold f_X7_add_9 at h
  show V yX7_add cX7_add none 0 61 (0, 0) 0 [some (.ref 9), some (.int p1), some (.int p2), some (.int p3), none] [] (xof s0 [W_9 o9, W_10 a10]) _
  refine x_iconst (v := 3) dX7_add_0 (by decide) ?_
  refine x_aload_n dX7_add_1 rfl ?_
  refine g_X7_26 rfl dX7_add_2 (by decide) rfl rfl ?_
  refine x_imul dX7_add_5 ?_
  refine x_istore (ls' := [_, _, _, _, _]) dX7_add_6 rfl rfl ?_
  refine x_iload dX7_add_8 rfl ?_
  refine x_if_lt (tgt := 53) dX7_add_10 (by decide) (fun c1 => ?_) (fun c1 => ?_)
  · replace h := xif_p c1 h
    refine V.drop1 (i := 1) (ls' := [_, _, _, _, _]) rfl ?_
    refine V.drop1 (i := 2) (ls' := [_, _, _, _, _]) rfl ?_
    refine V.drop1 (i := 3) (ls' := [_, _, _, _, _]) rfl ?_
    refine V.drop1 (i := 4) (ls' := [_, _, _, _, _]) rfl ?_
    show V yX7_add cX7_add none 0 61 (0, 0) 53 [some (.ref 9), none, none, none, none] [] (xof s0 [W_9 o9, W_10 a10]) _
    exact vb_X7_add_9_53 s0 o9 a10 q h
  · replace h := xif_n c1 h
    refine x_iload dX7_add_13 rfl ?_
    refine x_iconst (v := 2) dX7_add_15 (by decide) ?_
    refine x_iadd dX7_add_16 ?_
    refine x_aload_n dX7_add_17 rfl ?_
    refine g_X7_19 rfl dX7_add_18 (by decide) rfl rfl ?_
    refine x_alen (v := 36) dX7_add_21 (by decide) rfl (by decide) rfl ?_
    refine x_icmp_ge (tgt := 53) dX7_add_22 (by decide) (fun c3 => ?_) (fun c3 => ?_)
    · replace h := xif_p c3 h
      refine V.drop1 (i := 1) (ls' := [_, _, _, _, _]) rfl ?_
      refine V.drop1 (i := 2) (ls' := [_, _, _, _, _]) rfl ?_
      refine V.drop1 (i := 3) (ls' := [_, _, _, _, _]) rfl ?_
      refine V.drop1 (i := 4) (ls' := [_, _, _, _, _]) rfl ?_
      show V yX7_add cX7_add none 0 61 (0, 0) 53 [some (.ref 9), none, none, none, none] [] (xof s0 [W_9 o9, W_10 a10]) _
      exact vb_X7_add_9_53 s0 o9 a10 q h
    · replace h := xif_n c3 h
      refine x_aload_n dX7_add_25 rfl ?_
      refine g_X7_19 rfl dX7_add_26 (by decide) rfl rfl ?_
      refine x_iload dX7_add_29 rfl ?_
      refine x_iload_n dX7_add_31 rfl ?_
      obtain ⟨c4, h⟩ := xck h
      refine x_iastK (jn := (Int32.toNatClampNeg (3 * (o9 3)))) (L' := [(9, _), (10, _)]) dX7_add_32 (by decide) rfl (xin_ok c4) rfl rfl ?_
      refine x_aload_n dX7_add_33 rfl ?_
      refine g_X7_19 rfl dX7_add_34 (by decide) rfl rfl ?_
      refine x_iload dX7_add_37 rfl ?_
      refine x_iconst (v := 1) dX7_add_39 (by decide) ?_
      refine x_iadd dX7_add_40 ?_
      refine x_iload_n dX7_add_41 rfl ?_
      obtain ⟨c5, h⟩ := xck h
      refine x_iastK (jn := (Int32.toNatClampNeg ((3 * (o9 3)) + 1))) (L' := [(9, _), (10, _)]) dX7_add_42 (by decide) rfl (xin_ok c5) rfl rfl ?_
      refine x_aload_n dX7_add_43 rfl ?_
      refine g_X7_19 rfl dX7_add_44 (by decide) rfl rfl ?_
      refine x_iload dX7_add_47 rfl ?_
      refine x_iconst (v := 2) dX7_add_49 (by decide) ?_
      refine x_iadd dX7_add_50 ?_
      refine x_iload_n dX7_add_51 rfl ?_
      obtain ⟨c6, h⟩ := xck h
      refine x_iastK (jn := (Int32.toNatClampNeg ((3 * (o9 3)) + 2))) (L' := [(9, _), (10, _)]) dX7_add_52 (by decide) rfl (xin_ok c6) rfl rfl ?_
      refine V.drop1 (i := 1) (ls' := [_, _, _, _, _]) rfl ?_
      refine V.drop1 (i := 2) (ls' := [_, _, _, _, _]) rfl ?_
      refine V.drop1 (i := 3) (ls' := [_, _, _, _, _]) rfl ?_
      refine V.drop1 (i := 4) (ls' := [_, _, _, _, _]) rfl ?_
      show V yX7_add cX7_add none 0 61 (0, 0) 53 [some (.ref 9), none, none, none, none] [] (xof s0 [W_9 o9, W_10 (upd (upd (upd a10 ((Int32.toNatClampNeg (3 * (o9 3)))) p1) ((Int32.toNatClampNeg ((3 * (o9 3)) + 1))) p2) ((Int32.toNatClampNeg ((3 * (o9 3)) + 2))) p3)]) _
      exact vb_X7_add_9_53 s0 o9 (upd (upd (upd a10 ((Int32.toNatClampNeg (3 * (o9 3)))) p1) ((Int32.toNatClampNeg ((3 * (o9 3)) + 1))) p2) ((Int32.toNatClampNeg ((3 * (o9 3)) + 2))) p3) q h
