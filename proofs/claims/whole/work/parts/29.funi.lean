def f_X6_carry_21 (n : Nat) (o4 : Nat → Int32) (a6 : Nat → Int32) (a7 : Nat → Int32) (o21 : Nat → Int32) (a22 : Nat → Int32) (a23 : Nat → Int32) (j25 : Int64) (a26 : Nat → Int32) (p1 : Int32) : Option (((Nat → Int32) × (Nat → Int32) × (Int64) × (Nat → Int32))) := (Option.bind (f_X2_oldest_25 j25) (fun q1 => (Option.bind (f_X2_push_25 j25 p1) (fun q2 => (if 48 ≤ (xus (o21 15) 3) then (b_X6_carry_21_51 n o4 a6 a7 o21 a22 a23 q2 a26) else (bif xin (xus (o21 15) 3) 48 then (bif xin (xus (o21 15) 3) 48 then (b_X6_carry_21_51 n o4 a6 a7 o21 a22 a23 q2 (upd a26 ((Int32.toNatClampNeg (xus (o21 15) 3))) ((vp_nar .byte (Int8.toInt32 (Int32.toInt8 (((a26 (Int32.toNatClampNeg (xus (o21 15) 3))) <<< (1 &&& 31)) ||| (p1 ^^^ q1)))))))) else none) else none))))))
set_option maxRecDepth 100000 in
set_option maxHeartbeats 400000 in
theorem v_X6_carry_21 (s0 : XW) (n : Nat) (o4 : Nat → Int32) (a6 : Nat → Int32) (a7 : Nat → Int32) (o21 : Nat → Int32) (a22 : Nat → Int32) (a23 : Nat → Int32) (j25 : Int64) (a26 : Nat → Int32) (p1 : Int32) (q : ((Nat → Int32) × (Nat → Int32) × (Int64) × (Nat → Int32))) (h : f_X6_carry_21 n o4 a6 a7 o21 a22 a23 j25 a26 p1 = some q) : C_X6_carry 3 61 [.ref 21, .int p1] (xof s0 [W_4 o4, W_6 a6, W_7 a7, W_21 o21, W_22 a22, W_23 a23, W_25 j25, W_26 a26]) none (xof s0 [W_4 o4, W_6 a6, W_7 a7, W_21 q.1, W_22 a22, W_23 q.2.1, W_25 q.2.2.1, W_26 q.2.2.2]) := by
  unfold f_X6_carry_21 at h
  show V yX6_carry cX6_carry none 3 61 (0, 0) 0 [some (.ref 21), some (.int p1), none, none] [] (xof s0 [W_4 o4, W_6 a6, W_7 a7, W_21 o21, W_22 a22, W_23 a23, W_25 j25, W_26 a26]) _
  refine x_iload_n dX6_carry_0 rfl ?_
  refine x_aload_n dX6_carry_1 rfl ?_
  refine g_X6_25 rfl dX6_carry_2 (by decide) rfl rfl ?_
  obtain ⟨q1, hq1, h⟩ := Option.bind_eq_some_iff.mp h
  refine y_callVi (L' := [(4, _), (6, _), (7, _), (21, _), (22, _), (23, _), (25, _), (26, _)]) mi_X2_oldest ml_X6_109 im_X2_oldest se_X2_oldest (rfl : vwCl[1]? = _) dX6_carry_5 (fun s1 => v_X2_oldest_25 s1 _ q1 hq1) (by decide) rfl (Nat.le_of_ble_eq_true rfl) rfl (by decide) (Nat.le_of_ble_eq_true rfl) rfl rfl rfl rfl ?_
  refine x_ixor dX6_carry_8 ?_
  refine x_istore_n (ls' := [_, _, _, _]) dX6_carry_9 rfl rfl ?_
  refine x_aload_n dX6_carry_10 rfl ?_
  refine g_X6_25 rfl dX6_carry_11 (by decide) rfl rfl ?_
  refine x_iload_n dX6_carry_14 rfl ?_
  obtain ⟨q2, hq2, h⟩ := Option.bind_eq_some_iff.mp h
  refine y_callVv (L' := [(4, _), (6, _), (7, _), (21, _), (22, _), (23, _), (25, _), (26, _)]) mi_X2_push ml_X6_137 im_X2_push se_X2_push (rfl : vwCl[1]? = _) dX6_carry_15 (fun s1 => v_X2_push_25 s1 _ _ q2 hq2) (by decide) rfl (Nat.le_of_ble_eq_true rfl) rfl (by decide) (Nat.le_of_ble_eq_true rfl) rfl rfl rfl rfl ?_
  refine x_aload_n dX6_carry_18 rfl ?_
  refine g_X6_80 rfl dX6_carry_19 (by decide) rfl rfl ?_
  refine x_iconst (v := 3) dX6_carry_22 (by decide) ?_
  refine x_iushr dX6_carry_23 ?_
  refine x_istore_n (ls' := [_, _, _, _]) dX6_carry_24 rfl rfl ?_
  refine x_iload_n dX6_carry_25 rfl ?_
  refine x_aload_n dX6_carry_26 rfl ?_
  refine g_X6_29 rfl dX6_carry_27 (by decide) rfl rfl ?_
  refine x_alen (v := 48) dX6_carry_30 (by decide) rfl (by decide) rfl ?_
  refine x_icmp_ge (tgt := 51) dX6_carry_31 (by decide) (fun c3 => ?_) (fun c3 => ?_)
  · replace h := xif_p c3 h
    refine V.drop1 (i := 1) (ls' := [_, _, _, _]) rfl ?_
    refine V.drop1 (i := 2) (ls' := [_, _, _, _]) rfl ?_
    refine V.drop1 (i := 3) (ls' := [_, _, _, _]) rfl ?_
    show V yX6_carry cX6_carry none 3 61 (0, 0) 51 [some (.ref 21), none, none, none] [] (xof s0 [W_4 o4, W_6 a6, W_7 a7, W_21 o21, W_22 a22, W_23 a23, W_25 q2, W_26 a26]) _
    exact vb_X6_carry_21_51 s0 n o4 a6 a7 o21 a22 a23 q2 a26 q h
  · replace h := xif_n c3 h
    refine x_aload_n dX6_carry_34 rfl ?_
    refine g_X6_29 rfl dX6_carry_35 (by decide) rfl rfl ?_
    refine x_iload_n dX6_carry_38 rfl ?_
    refine x_aload_n dX6_carry_39 rfl ?_
    refine g_X6_29 rfl dX6_carry_40 (by decide) rfl rfl ?_
    refine x_iload_n dX6_carry_43 rfl ?_
    obtain ⟨c7, h⟩ := xck h
    refine x_baldK (jn := (Int32.toNatClampNeg (xus (o21 15) 3))) (v := (a26 (Int32.toNatClampNeg (xus (o21 15) 3)))) dX6_carry_44 (by decide) rfl (xin_ok c7) rfl rfl ?_
    refine x_iconst (v := 1) dX6_carry_45 (by decide) ?_
    refine x_ishl dX6_carry_46 ?_
    refine x_iload_n dX6_carry_47 rfl ?_
    refine x_ior dX6_carry_48 ?_
    refine x_i2b dX6_carry_49 ?_
    obtain ⟨c8, h⟩ := xck h
    refine x_bastK (jn := (Int32.toNatClampNeg (xus (o21 15) 3))) (L' := [(4, _), (6, _), (7, _), (21, _), (22, _), (23, _), (25, _), (26, _)]) dX6_carry_50 (by decide) rfl (xin_ok c8) rfl rfl ?_
    refine V.drop1 (i := 1) (ls' := [_, _, _, _]) rfl ?_
    refine V.drop1 (i := 2) (ls' := [_, _, _, _]) rfl ?_
    refine V.drop1 (i := 3) (ls' := [_, _, _, _]) rfl ?_
    show V yX6_carry cX6_carry none 3 61 (0, 0) 51 [some (.ref 21), none, none, none] [] (xof s0 [W_4 o4, W_6 a6, W_7 a7, W_21 o21, W_22 a22, W_23 a23, W_25 q2, W_26 (upd a26 ((Int32.toNatClampNeg (xus (o21 15) 3))) ((vp_nar .byte (Int8.toInt32 (Int32.toInt8 (((a26 (Int32.toNatClampNeg (xus (o21 15) 3))) <<< (1 &&& 31)) ||| (p1 ^^^ q1)))))))]) _
    exact vb_X6_carry_21_51 s0 n o4 a6 a7 o21 a22 a23 q2 (upd a26 ((Int32.toNatClampNeg (xus (o21 15) 3))) ((vp_nar .byte (Int8.toInt32 (Int32.toInt8 (((a26 (Int32.toNatClampNeg (xus (o21 15) 3))) <<< (1 &&& 31)) ||| (p1 ^^^ q1))))))) q h
def f_X10_syndromeNow_24 (o24 : Nat → Int32) (j24 : Int64)  : Option Int32 := (some (((o24 1) ^^^ 85)))
set_option maxRecDepth 100000 in
set_option maxHeartbeats 400000 in
theorem v_X10_syndromeNow_24 (s0 : XW) (o24 : Nat → Int32) (j24 : Int64)  (q : Int32) (h : f_X10_syndromeNow_24 o24 j24 = some q) : C_X10_syndromeNow 0 61 [.ref 24] (xof s0 [W_24 o24 j24]) (some (.int q)) (xof s0 [W_24 o24 j24]) := by
  unfold f_X10_syndromeNow_24 at h
  show V yX10_syndromeNow cX10_syndromeNow (some .int) 0 61 (0, 0) 0 [some (.ref 24)] [] (xof s0 [W_24 o24 j24]) _
  refine x_aload_n dX10_syndromeNow_0 rfl ?_
  refine g_X10_15 rfl dX10_syndromeNow_1 (by decide) rfl rfl ?_
  refine x_bipush (v := 85) dX10_syndromeNow_4 (by decide) ?_
  refine x_ixor dX10_syndromeNow_6 ?_
  cases h
  exact x_iret dX10_syndromeNow_7 ⟨rfl, rfl, rfl⟩
def f_X10_headerNow_24 (o24 : Nat → Int32) (j24 : Int64)  : Option Int32 := (some ((Int64.toInt32 (xul j24 8))))
set_option maxRecDepth 100000 in
set_option maxHeartbeats 400000 in
theorem v_X10_headerNow_24 (s0 : XW) (o24 : Nat → Int32) (j24 : Int64)  (q : Int32) (h : f_X10_headerNow_24 o24 j24 = some q) : C_X10_headerNow 0 61 [.ref 24] (xof s0 [W_24 o24 j24]) (some (.int q)) (xof s0 [W_24 o24 j24]) := by
  unfold f_X10_headerNow_24 at h
  show V yX10_headerNow cX10_headerNow (some .int) 0 61 (0, 0) 0 [some (.ref 24)] [] (xof s0 [W_24 o24 j24]) _
  refine x_aload_n dX10_headerNow_0 rfl ?_
  refine g_X10_9 rfl dX10_headerNow_1 (by decide) rfl rfl ?_
  refine x_bipush (v := 8) dX10_headerNow_4 (by decide) ?_
  refine x_lushr dX10_headerNow_6 ?_
  refine x_l2i dX10_headerNow_7 ?_
  cases h
  exact x_iret dX10_headerNow_8 ⟨rfl, rfl, rfl⟩
def b_X6_acceptRight_21_47  (o21 : Nat → Int32) (a22 : Nat → Int32) (a23 : Nat → Int32)  : Option (((Int32) × (Nat → Int32) × (Nat → Int32))) := (if (o21 7) = 2 then (some (0, upd (upd (upd o21 9 0) 10 1) 11 1, a23)) else (some (0, o21, a23)))
set_option maxRecDepth 100000 in
set_option maxHeartbeats 400000 in
theorem vb_X6_acceptRight_21_47 (s0 : XW)  (o21 : Nat → Int32) (a22 : Nat → Int32) (a23 : Nat → Int32)  (q : ((Int32) × (Nat → Int32) × (Nat → Int32))) (h : b_X6_acceptRight_21_47 o21 a22 a23 = some q) : V yX6_acceptRight cX6_acceptRight (some .int) 1 61 (0, 0) 47 [some (.ref 21), none] [] (xof s0 [W_21 o21, W_22 a22, W_23 a23]) (xq 61 (some (.int q.1)) (xof s0 [W_21 q.2.1, W_22 a22, W_23 q.2.2])) := by
  unfold b_X6_acceptRight_21_47 at h
  refine x_aload_n dX6_acceptRight_47 rfl ?_
  refine g_X6_54 rfl dX6_acceptRight_48 (by decide) rfl rfl ?_
  refine x_iconst (v := 2) dX6_acceptRight_51 (by decide) ?_
  refine x_icmp_ne (tgt := 70) dX6_acceptRight_52 (by decide) (fun c2 => ?_) (fun c2 => ?_)
  · replace h := xif_n c2 h
    refine x_iconst (v := 0) dX6_acceptRight_70 (by decide) ?_
    cases h
    exact x_iret dX6_acceptRight_71 ⟨rfl, rfl, rfl⟩
  · replace h := xif_p c2 h
    refine x_aload_n dX6_acceptRight_55 rfl ?_
    refine x_iconst (v := 0) dX6_acceptRight_56 (by decide) ?_
    refine p_X6_61 (fs' := [_, _, _, _, _, _, _, _, _, _, _, _, _, _, _, _, _, _, _]) (L' := [(21, _), (22, _), (23, _)]) rfl dX6_acceptRight_57 (by decide) rfl (Nat.le_of_ble_eq_true rfl) rfl rfl ?_
    refine x_aload_n dX6_acceptRight_60 rfl ?_
    refine x_iconst (v := 1) dX6_acceptRight_61 (by decide) ?_
    refine p_X6_64 (fs' := [_, _, _, _, _, _, _, _, _, _, _, _, _, _, _, _, _, _, _]) (L' := [(21, _), (22, _), (23, _)]) rfl dX6_acceptRight_62 (by decide) rfl (Nat.le_of_ble_eq_true rfl) rfl rfl ?_
    refine x_aload_n dX6_acceptRight_65 rfl ?_
    refine x_iconst (v := 1) dX6_acceptRight_66 (by decide) ?_
    refine p_X6_67 (fs' := [_, _, _, _, _, _, _, _, _, _, _, _, _, _, _, _, _, _, _]) (L' := [(21, _), (22, _), (23, _)]) rfl dX6_acceptRight_67 (Or.inr rfl) (by decide) rfl (Nat.le_of_ble_eq_true rfl) rfl rfl ?_
    refine x_iconst (v := 0) dX6_acceptRight_70 (by decide) ?_
    cases h
    exact x_iret dX6_acceptRight_71 ⟨rfl, rfl, rfl⟩
def f_X6_acceptRight_21 (o21 : Nat → Int32) (a22 : Nat → Int32) (a23 : Nat → Int32) (p1 : Int32) : Option (((Int32) × (Nat → Int32) × (Nat → Int32))) := (if (o21 7) = 1 then (if ((o21 8) + 1) < (a22 2) then (b_X6_acceptRight_21_47 (upd o21 8 (((o21 8) + 1))) a22 (upd a23 0 (((a23 0) + 1)))) else (Option.bind (f_X6_become_21 (upd o21 8 (((o21 8) + 1))) (upd a23 0 (((a23 0) + 1))) 2 p1) (fun q4 => (b_X6_acceptRight_21_47 q4.1 a22 q4.2)))) else (b_X6_acceptRight_21_47 o21 a22 (upd a23 0 (((a23 0) + 1)))))
set_option maxRecDepth 100000 in
set_option maxHeartbeats 400000 in
theorem v_X6_acceptRight_21 (s0 : XW) (o21 : Nat → Int32) (a22 : Nat → Int32) (a23 : Nat → Int32) (p1 : Int32) (q : ((Int32) × (Nat → Int32) × (Nat → Int32))) (h : f_X6_acceptRight_21 o21 a22 a23 p1 = some q) : C_X6_acceptRight 1 61 [.ref 21, .int p1] (xof s0 [W_21 o21, W_22 a22, W_23 a23]) (some (.int q.1)) (xof s0 [W_21 q.2.1, W_22 a22, W_23 q.2.2]) := by
  unfold f_X6_acceptRight_21 at h
  show V yX6_acceptRight cX6_acceptRight (some .int) 1 61 (0, 0) 0 [some (.ref 21), some (.int p1)] [] (xof s0 [W_21 o21, W_22 a22, W_23 a23]) _
  refine x_aload_n dX6_acceptRight_0 rfl ?_
  refine g_X6_9 rfl dX6_acceptRight_1 (by decide) rfl rfl ?_
  refine x_iconst (v := 0) dX6_acceptRight_4 (by decide) ?_
  refine x_dup2 dX6_acceptRight_5 rfl rfl ?_
  refine x_ialdK (jn := 0) (v := (a23 0)) dX6_acceptRight_6 (by decide) rfl (xin_ok (by decide)) (by decide) rfl ?_
  refine x_iconst (v := 1) dX6_acceptRight_7 (by decide) ?_
  refine x_iadd dX6_acceptRight_8 ?_
  refine x_iastK (jn := 0) (L' := [(21, _), (22, _), (23, _)]) dX6_acceptRight_9 (by decide) rfl (xin_ok (by decide)) (by decide) rfl ?_
  refine x_aload_n dX6_acceptRight_10 rfl ?_
  refine g_X6_54 rfl dX6_acceptRight_11 (by decide) rfl rfl ?_
  refine x_iconst (v := 1) dX6_acceptRight_14 (by decide) ?_
  refine x_icmp_ne (tgt := 47) dX6_acceptRight_15 (by decide) (fun c1 => ?_) (fun c1 => ?_)
  · replace h := xif_n c1 h
    refine V.drop1 (i := 1) (ls' := [_, _]) rfl ?_
    show V yX6_acceptRight cX6_acceptRight (some .int) 1 61 (0, 0) 47 [some (.ref 21), none] [] (xof s0 [W_21 o21, W_22 a22, W_23 (upd a23 0 (((a23 0) + 1)))]) _
    exact vb_X6_acceptRight_21_47 s0 o21 a22 (upd a23 0 (((a23 0) + 1))) q h
  · replace h := xif_p c1 h
    refine x_aload_n dX6_acceptRight_18 rfl ?_
    refine x_dup dX6_acceptRight_19 rfl ?_
    refine g_X6_58 rfl dX6_acceptRight_20 (by decide) rfl rfl ?_
    refine x_iconst (v := 1) dX6_acceptRight_23 (by decide) ?_
    refine x_iadd dX6_acceptRight_24 ?_
    refine p_X6_58 (fs' := [_, _, _, _, _, _, _, _, _, _, _, _, _, _, _, _, _, _, _]) (L' := [(21, _), (22, _), (23, _)]) rfl dX6_acceptRight_25 (by decide) rfl (Nat.le_of_ble_eq_true rfl) rfl rfl ?_
    refine x_aload_n dX6_acceptRight_28 rfl ?_
    refine g_X6_58 rfl dX6_acceptRight_29 (by decide) rfl rfl ?_
    refine x_aload_n dX6_acceptRight_32 rfl ?_
    refine g_X6_33 rfl dX6_acceptRight_33 (by decide) rfl rfl ?_
    refine x_iconst (v := 2) dX6_acceptRight_36 (by decide) ?_
    refine x_ialdK (jn := 2) (v := (a22 2)) dX6_acceptRight_37 (by decide) rfl (xin_ok (by decide)) (by decide) rfl ?_
    refine x_icmp_lt (tgt := 47) dX6_acceptRight_38 (by decide) (fun c3 => ?_) (fun c3 => ?_)
    · replace h := xif_p c3 h
      refine V.drop1 (i := 1) (ls' := [_, _]) rfl ?_
      show V yX6_acceptRight cX6_acceptRight (some .int) 1 61 (0, 0) 47 [some (.ref 21), none] [] (xof s0 [W_21 (upd o21 8 (((o21 8) + 1))), W_22 a22, W_23 (upd a23 0 (((a23 0) + 1)))]) _
      exact vb_X6_acceptRight_21_47 s0 (upd o21 8 (((o21 8) + 1))) a22 (upd a23 0 (((a23 0) + 1))) q h
    · replace h := xif_n c3 h
      refine x_aload_n dX6_acceptRight_41 rfl ?_
      refine x_iconst (v := 2) dX6_acceptRight_42 (by decide) ?_
      refine x_iload_n dX6_acceptRight_43 rfl ?_
      obtain ⟨q4, hq4, h⟩ := Option.bind_eq_some_iff.mp h
      refine y_callVv (L' := [(21, _), (22, _), (23, _)]) mi_X6_become ml_X6_133 im_X6_become se_X6_become (rfl : vwCl[5]? = _) dX6_acceptRight_44 (fun s1 => v_X6_become_21 s1 _ _ _ _ q4 hq4) (by decide) rfl (Nat.le_of_ble_eq_true rfl) rfl (by decide) (Nat.le_of_ble_eq_true rfl) rfl rfl rfl rfl ?_
      refine V.drop1 (i := 1) (ls' := [_, _]) rfl ?_
      show V yX6_acceptRight cX6_acceptRight (some .int) 1 61 (0, 0) 47 [some (.ref 21), none] [] (xof s0 [W_21 q4.1, W_22 a22, W_23 q4.2]) _
      exact vb_X6_acceptRight_21_47 s0 q4.1 a22 q4.2 q h
def b_X6_faceWrong_21_39 (n : Nat) (o21 : Nat → Int32) (a22 : Nat → Int32) (a23 : Nat → Int32) (l2 : Int32) : Option (((Int32) × (Nat → Int32) × (Nat → Int32))) := (Option.bind (f_X6_become_21 o21 a23 0 l2) (fun q3 => (some (3, q3.1, q3.2))))
set_option maxRecDepth 100000 in
set_option maxHeartbeats 400000 in
theorem vb_X6_faceWrong_21_39 (s0 : XW) (n : Nat) (o21 : Nat → Int32) (a22 : Nat → Int32) (a23 : Nat → Int32) (l2 : Int32) (q : ((Int32) × (Nat → Int32) × (Nat → Int32))) (h : b_X6_faceWrong_21_39 n o21 a22 a23 l2 = some q) : V yX6_faceWrong cX6_faceWrong (some .int) 2 61 (0, 0) 39 [some (.ref 21), none, some (.int l2), none, none] [] (xof s0 [W_21 o21, W_22 a22, W_23 a23]) (xq 61 (some (.int q.1)) (xof s0 [W_21 q.2.1, W_22 a22, W_23 q.2.2])) := by
  unfold b_X6_faceWrong_21_39 at h
  refine x_aload_n dX6_faceWrong_39 rfl ?_
  refine x_iconst (v := 0) dX6_faceWrong_40 (by decide) ?_
  refine x_iload_n dX6_faceWrong_41 rfl ?_
  obtain ⟨q3, hq3, h⟩ := Option.bind_eq_some_iff.mp h
  refine y_callVv (L' := [(21, _), (22, _), (23, _)]) mi_X6_become ml_X6_133 im_X6_become se_X6_become (rfl : vwCl[5]? = _) dX6_faceWrong_42 (fun s1 => v_X6_become_21 s1 _ _ _ _ q3 hq3) (by decide) rfl (Nat.le_of_ble_eq_true rfl) rfl (by decide) (Nat.le_of_ble_eq_true rfl) rfl rfl rfl rfl ?_
  refine x_iconst (v := 3) dX6_faceWrong_45 (by decide) ?_
  cases h
  exact x_iret dX6_faceWrong_46 ⟨rfl, rfl, rfl⟩
def b_X6_faceWrong_21_83 (n : Nat) (o21 : Nat → Int32) (a22 : Nat → Int32) (a23 : Nat → Int32) (t0 : Int32) : Option (((Int32) × (Nat → Int32) × (Nat → Int32))) := (if t0 = (-1) then (some (2, upd o21 10 0, upd a23 2 (((a23 2) + 1)))) else (Option.bind (f_X1_mendedHeader ((o21 16)) t0) (fun q8 => (some (1, upd (upd (upd (upd o21 10 0) 11 1) 16 q8) 17 1, upd a23 1 (((a23 1) + 1)))))))
set_option maxRecDepth 100000 in
set_option maxHeartbeats 400000 in
theorem vb_X6_faceWrong_21_83 (s0 : XW) (n : Nat) (o21 : Nat → Int32) (a22 : Nat → Int32) (a23 : Nat → Int32) (t0 : Int32) (q : ((Int32) × (Nat → Int32) × (Nat → Int32))) (h : b_X6_faceWrong_21_83 n o21 a22 a23 t0 = some q) : V yX6_faceWrong cX6_faceWrong (some .int) 2 61 (0, 0) 83 [some (.ref 21), none, none, none, none] [.int t0] (xof s0 [W_21 o21, W_22 a22, W_23 a23]) (xq 61 (some (.int q.1)) (xof s0 [W_21 q.2.1, W_22 a22, W_23 q.2.2])) := by
  unfold b_X6_faceWrong_21_83 at h
  refine x_istore (ls' := [_, _, _, _, _]) dX6_faceWrong_83 rfl rfl ?_
  refine x_aload_n dX6_faceWrong_85 rfl ?_
  refine x_iconst (v := 0) dX6_faceWrong_86 (by decide) ?_
  refine p_X6_64 (fs' := [_, _, _, _, _, _, _, _, _, _, _, _, _, _, _, _, _, _, _]) (L' := [(21, _), (22, _), (23, _)]) rfl dX6_faceWrong_87 (by decide) rfl (Nat.le_of_ble_eq_true rfl) rfl rfl ?_
  refine x_iload dX6_faceWrong_90 rfl ?_
  refine x_iconst (v := -1) dX6_faceWrong_92 (by decide) ?_
  refine x_icmp_ne (tgt := 108) dX6_faceWrong_93 (by decide) (fun c7 => ?_) (fun c7 => ?_)
  · replace h := xif_n c7 h
    refine x_aload_n dX6_faceWrong_108 rfl ?_
    refine x_aload_n dX6_faceWrong_109 rfl ?_
    refine g_X6_96 rfl dX6_faceWrong_110 (by decide) rfl rfl ?_
    refine x_iload dX6_faceWrong_113 rfl ?_
    obtain ⟨q8, hq8, h⟩ := Option.bind_eq_some_iff.mp h
    refine y_callSi (L' := [(21, _), (22, _), (23, _)]) mi_X1_mendedHeader ml_X6_182 st_X1_mendedHeader dX6_faceWrong_115 (fun s1 => v_X1_mendedHeader 61 s1 _ _ q8 hq8) (Nat.le_of_ble_eq_true rfl) rfl (by decide) (Nat.le_of_ble_eq_true rfl) rfl rfl rfl rfl ?_
    refine p_X6_96 (fs' := [_, _, _, _, _, _, _, _, _, _, _, _, _, _, _, _, _, _, _]) (L' := [(21, _), (22, _), (23, _)]) rfl dX6_faceWrong_118 (by decide) rfl (Nat.le_of_ble_eq_true rfl) rfl rfl ?_
    refine x_aload_n dX6_faceWrong_121 rfl ?_
    refine x_iconst (v := 1) dX6_faceWrong_122 (by decide) ?_
    refine p_X6_99 (fs' := [_, _, _, _, _, _, _, _, _, _, _, _, _, _, _, _, _, _, _]) (L' := [(21, _), (22, _), (23, _)]) rfl dX6_faceWrong_123 (by decide) rfl (Nat.le_of_ble_eq_true rfl) rfl rfl ?_
    refine x_aload_n dX6_faceWrong_126 rfl ?_
    refine g_X6_9 rfl dX6_faceWrong_127 (by decide) rfl rfl ?_
    refine x_iconst (v := 1) dX6_faceWrong_130 (by decide) ?_
    refine x_dup2 dX6_faceWrong_131 rfl rfl ?_
    refine x_ialdK (jn := 1) (v := (a23 1)) dX6_faceWrong_132 (by decide) rfl (xin_ok (by decide)) (by decide) rfl ?_
    refine x_iconst (v := 1) dX6_faceWrong_133 (by decide) ?_
    refine x_iadd dX6_faceWrong_134 ?_
    refine x_iastK (jn := 1) (L' := [(21, _), (22, _), (23, _)]) dX6_faceWrong_135 (by decide) rfl (xin_ok (by decide)) (by decide) rfl ?_
    refine x_aload_n dX6_faceWrong_136 rfl ?_
    refine x_iconst (v := 1) dX6_faceWrong_137 (by decide) ?_
    refine p_X6_67 (fs' := [_, _, _, _, _, _, _, _, _, _, _, _, _, _, _, _, _, _, _]) (L' := [(21, _), (22, _), (23, _)]) rfl dX6_faceWrong_138 (Or.inr rfl) (by decide) rfl (Nat.le_of_ble_eq_true rfl) rfl rfl ?_
    refine x_iconst (v := 1) dX6_faceWrong_141 (by decide) ?_
    cases h
    exact x_iret dX6_faceWrong_142 ⟨rfl, rfl, rfl⟩
  · replace h := xif_p c7 h
    refine x_aload_n dX6_faceWrong_96 rfl ?_
    refine g_X6_9 rfl dX6_faceWrong_97 (by decide) rfl rfl ?_
    refine x_iconst (v := 2) dX6_faceWrong_100 (by decide) ?_
    refine x_dup2 dX6_faceWrong_101 rfl rfl ?_
    refine x_ialdK (jn := 2) (v := (a23 2)) dX6_faceWrong_102 (by decide) rfl (xin_ok (by decide)) (by decide) rfl ?_
    refine x_iconst (v := 1) dX6_faceWrong_103 (by decide) ?_
    refine x_iadd dX6_faceWrong_104 ?_
    refine x_iastK (jn := 2) (L' := [(21, _), (22, _), (23, _)]) dX6_faceWrong_105 (by decide) rfl (xin_ok (by decide)) (by decide) rfl ?_
    refine x_iconst (v := 2) dX6_faceWrong_106 (by decide) ?_
    cases h
    exact x_iret dX6_faceWrong_107 ⟨rfl, rfl, rfl⟩
def b_X6_faceWrong_21_70 (n : Nat) (o21 : Nat → Int32) (a22 : Nat → Int32) (a23 : Nat → Int32) (l1 : Int32) (t0 : Int32) : Option (((Int32) × (Nat → Int32) × (Nat → Int32))) := (if t0 = 0 then (b_X6_faceWrong_21_83 n o21 a22 a23 ((-1))) else (Option.bind (f_X1_bitOf n l1) (fun q9 => (b_X6_faceWrong_21_83 n o21 a22 a23 q9))))
set_option maxRecDepth 100000 in
set_option maxHeartbeats 400000 in
theorem vb_X6_faceWrong_21_70 (s0 : XW) (n : Nat) (o21 : Nat → Int32) (a22 : Nat → Int32) (a23 : Nat → Int32) (l1 : Int32) (t0 : Int32) (q : ((Int32) × (Nat → Int32) × (Nat → Int32))) (h : b_X6_faceWrong_21_70 n o21 a22 a23 l1 t0 = some q) : V yX6_faceWrong cX6_faceWrong (some .int) 2 61 (0, 0) 70 [some (.ref 21), some (.int l1), none, none, none] [.int t0] (xof s0 [W_21 o21, W_22 a22, W_23 a23]) (xq 61 (some (.int q.1)) (xof s0 [W_21 q.2.1, W_22 a22, W_23 q.2.2])) := by
  unfold b_X6_faceWrong_21_70 at h
  refine x_istore_n (ls' := [_, _, _, _, _]) dX6_faceWrong_70 rfl rfl ?_
  refine x_iload_n dX6_faceWrong_71 rfl ?_
  refine x_if_eq (tgt := 82) dX6_faceWrong_72 (by decide) (fun c6 => ?_) (fun c6 => ?_)
  · replace h := xif_p c6 h
    refine x_iconst (v := -1) dX6_faceWrong_82 (by decide) ?_
    refine V.drop1 (i := 1) (ls' := [_, _, _, _, _]) rfl ?_
    refine V.drop1 (i := 3) (ls' := [_, _, _, _, _]) rfl ?_
    show V yX6_faceWrong cX6_faceWrong (some .int) 2 61 (0, 0) 83 [some (.ref 21), none, none, none, none] [.int ((-1))] (xof s0 [W_21 o21, W_22 a22, W_23 a23]) _
    exact vb_X6_faceWrong_21_83 s0 n o21 a22 a23 ((-1)) q h
  · replace h := xif_n c6 h
    refine x_iload_n dX6_faceWrong_75 rfl ?_
    obtain ⟨q9, hq9, h⟩ := Option.bind_eq_some_iff.mp h
    refine y_callSi (L' := [(21, _), (22, _), (23, _)]) mi_X1_bitOf ml_X6_177 st_X1_bitOf dX6_faceWrong_76 (fun s1 => v_X1_bitOf 61 s1 n _ q9 hq9) (Nat.le_of_ble_eq_true rfl) rfl (by decide) (Nat.le_of_ble_eq_true rfl) rfl rfl rfl rfl ?_
    refine x_goto (tgt := 83) dX6_faceWrong_79 (by decide) ?_
    refine V.drop1 (i := 1) (ls' := [_, _, _, _, _]) rfl ?_
    refine V.drop1 (i := 3) (ls' := [_, _, _, _, _]) rfl ?_
    show V yX6_faceWrong cX6_faceWrong (some .int) 2 61 (0, 0) 83 [some (.ref 21), none, none, none, none] [.int q9] (xof s0 [W_21 o21, W_22 a22, W_23 a23]) _
    exact vb_X6_faceWrong_21_83 s0 n o21 a22 a23 q9 q h
def b_X6_faceWrong_21_69 (n : Nat) (o21 : Nat → Int32) (a22 : Nat → Int32) (a23 : Nat → Int32) (l1 : Int32) : Option (((Int32) × (Nat → Int32) × (Nat → Int32))) := (b_X6_faceWrong_21_70 n o21 a22 a23 l1 0)
set_option maxRecDepth 100000 in
set_option maxHeartbeats 400000 in
theorem vb_X6_faceWrong_21_69 (s0 : XW) (n : Nat) (o21 : Nat → Int32) (a22 : Nat → Int32) (a23 : Nat → Int32) (l1 : Int32) (q : ((Int32) × (Nat → Int32) × (Nat → Int32))) (h : b_X6_faceWrong_21_69 n o21 a22 a23 l1 = some q) : V yX6_faceWrong cX6_faceWrong (some .int) 2 61 (0, 0) 69 [some (.ref 21), some (.int l1), none, none, none] [] (xof s0 [W_21 o21, W_22 a22, W_23 a23]) (xq 61 (some (.int q.1)) (xof s0 [W_21 q.2.1, W_22 a22, W_23 q.2.2])) := by
  unfold b_X6_faceWrong_21_69 at h
  refine x_iconst (v := 0) dX6_faceWrong_69 (by decide) ?_
  show V yX6_faceWrong cX6_faceWrong (some .int) 2 61 (0, 0) 70 [some (.ref 21), some (.int l1), none, none, none] [.int 0] (xof s0 [W_21 o21, W_22 a22, W_23 a23]) _
  exact vb_X6_faceWrong_21_70 s0 n o21 a22 a23 l1 0 q h
def b_X6_faceWrong_21_18 (n : Nat) (o21 : Nat → Int32) (a22 : Nat → Int32) (a23 : Nat → Int32) (l1 : Int32) (l2 : Int32) : Option (((Int32) × (Nat → Int32) × (Nat → Int32))) := (if (o21 7) = 1 then (b_X6_faceWrong_21_39 n o21 a22 a23 l2) else (if (o21 9) < (a22 1) then (if (o21 10) = 1 then (if (a22 3) = 1 then (b_X6_faceWrong_21_70 n o21 a22 a23 l1 1) else (b_X6_faceWrong_21_69 n o21 a22 a23 l1)) else (b_X6_faceWrong_21_69 n o21 a22 a23 l1)) else (b_X6_faceWrong_21_39 n o21 a22 a23 l2)))
set_option maxRecDepth 100000 in
set_option maxHeartbeats 400000 in
theorem vb_X6_faceWrong_21_18 (s0 : XW) (n : Nat) (o21 : Nat → Int32) (a22 : Nat → Int32) (a23 : Nat → Int32) (l1 : Int32) (l2 : Int32) (q : ((Int32) × (Nat → Int32) × (Nat → Int32))) (h : b_X6_faceWrong_21_18 n o21 a22 a23 l1 l2 = some q) : V yX6_faceWrong cX6_faceWrong (some .int) 2 61 (0, 0) 18 [some (.ref 21), some (.int l1), some (.int l2), none, none] [] (xof s0 [W_21 o21, W_22 a22, W_23 a23]) (xq 61 (some (.int q.1)) (xof s0 [W_21 q.2.1, W_22 a22, W_23 q.2.2])) := by
  unfold b_X6_faceWrong_21_18 at h
  refine x_aload_n dX6_faceWrong_18 rfl ?_
  refine g_X6_54 rfl dX6_faceWrong_19 (by decide) rfl rfl ?_
  refine x_iconst (v := 1) dX6_faceWrong_22 (by decide) ?_
  refine x_icmp_eq (tgt := 39) dX6_faceWrong_23 (by decide) (fun c2 => ?_) (fun c2 => ?_)
  · replace h := xif_p c2 h
    refine V.drop1 (i := 1) (ls' := [_, _, _, _, _]) rfl ?_
    show V yX6_faceWrong cX6_faceWrong (some .int) 2 61 (0, 0) 39 [some (.ref 21), none, some (.int l2), none, none] [] (xof s0 [W_21 o21, W_22 a22, W_23 a23]) _
    exact vb_X6_faceWrong_21_39 s0 n o21 a22 a23 l2 q h
  · replace h := xif_n c2 h
    refine x_aload_n dX6_faceWrong_26 rfl ?_
    refine g_X6_61 rfl dX6_faceWrong_27 (by decide) rfl rfl ?_
    refine x_aload_n dX6_faceWrong_30 rfl ?_
    refine g_X6_33 rfl dX6_faceWrong_31 (by decide) rfl rfl ?_
    refine x_iconst (v := 1) dX6_faceWrong_34 (by decide) ?_
    refine x_ialdK (jn := 1) (v := (a22 1)) dX6_faceWrong_35 (by decide) rfl (xin_ok (by decide)) (by decide) rfl ?_
    refine x_icmp_lt (tgt := 47) dX6_faceWrong_36 (by decide) (fun c4 => ?_) (fun c4 => ?_)
    · replace h := xif_p c4 h
      refine x_aload_n dX6_faceWrong_47 rfl ?_
      refine g_X6_64 rfl dX6_faceWrong_48 (by decide) rfl rfl ?_
      refine x_iconst (v := 1) dX6_faceWrong_51 (by decide) ?_
      refine x_icmp_ne (tgt := 69) dX6_faceWrong_52 (by decide) (fun c5 => ?_) (fun c5 => ?_)
      · replace h := xif_n c5 h
        refine V.drop1 (i := 2) (ls' := [_, _, _, _, _]) rfl ?_
        show V yX6_faceWrong cX6_faceWrong (some .int) 2 61 (0, 0) 69 [some (.ref 21), some (.int l1), none, none, none] [] (xof s0 [W_21 o21, W_22 a22, W_23 a23]) _
        exact vb_X6_faceWrong_21_69 s0 n o21 a22 a23 l1 q h
      · replace h := xif_p c5 h
        refine x_aload_n dX6_faceWrong_55 rfl ?_
        refine g_X6_33 rfl dX6_faceWrong_56 (by decide) rfl rfl ?_
        refine x_iconst (v := 3) dX6_faceWrong_59 (by decide) ?_
        refine x_ialdK (jn := 3) (v := (a22 3)) dX6_faceWrong_60 (by decide) rfl (xin_ok (by decide)) (by decide) rfl ?_
        refine x_iconst (v := 1) dX6_faceWrong_61 (by decide) ?_
        refine x_icmp_ne (tgt := 69) dX6_faceWrong_62 (by decide) (fun c10 => ?_) (fun c10 => ?_)
        · replace h := xif_n c10 h
          refine V.drop1 (i := 2) (ls' := [_, _, _, _, _]) rfl ?_
          show V yX6_faceWrong cX6_faceWrong (some .int) 2 61 (0, 0) 69 [some (.ref 21), some (.int l1), none, none, none] [] (xof s0 [W_21 o21, W_22 a22, W_23 a23]) _
          exact vb_X6_faceWrong_21_69 s0 n o21 a22 a23 l1 q h
        · replace h := xif_p c10 h
          refine x_iconst (v := 1) dX6_faceWrong_65 (by decide) ?_
          refine x_goto (tgt := 70) dX6_faceWrong_66 (by decide) ?_
          refine V.drop1 (i := 2) (ls' := [_, _, _, _, _]) rfl ?_
          show V yX6_faceWrong cX6_faceWrong (some .int) 2 61 (0, 0) 70 [some (.ref 21), some (.int l1), none, none, none] [.int 1] (xof s0 [W_21 o21, W_22 a22, W_23 a23]) _
          exact vb_X6_faceWrong_21_70 s0 n o21 a22 a23 l1 1 q h
    · replace h := xif_n c4 h
      refine V.drop1 (i := 1) (ls' := [_, _, _, _, _]) rfl ?_
      show V yX6_faceWrong cX6_faceWrong (some .int) 2 61 (0, 0) 39 [some (.ref 21), none, some (.int l2), none, none] [] (xof s0 [W_21 o21, W_22 a22, W_23 a23]) _
      exact vb_X6_faceWrong_21_39 s0 n o21 a22 a23 l2 q h
def f_X6_faceWrong_21 (n : Nat) (o21 : Nat → Int32) (a22 : Nat → Int32) (a23 : Nat → Int32) (p1 : Int32) (p2 : Int32) : Option (((Int32) × (Nat → Int32) × (Nat → Int32))) := (if (o21 7) = 2 then (b_X6_faceWrong_21_18 n (upd o21 9 (((o21 9) + 1))) a22 a23 p1 p2) else (b_X6_faceWrong_21_18 n o21 a22 a23 p1 p2))
set_option maxRecDepth 100000 in
set_option maxHeartbeats 400000 in
theorem v_X6_faceWrong_21 (s0 : XW) (n : Nat) (o21 : Nat → Int32) (a22 : Nat → Int32) (a23 : Nat → Int32) (p1 : Int32) (p2 : Int32) (q : ((Int32) × (Nat → Int32) × (Nat → Int32))) (h : f_X6_faceWrong_21 n o21 a22 a23 p1 p2 = some q) : C_X6_faceWrong 2 61 [.ref 21, .int p1, .int p2] (xof s0 [W_21 o21, W_22 a22, W_23 a23]) (some (.int q.1)) (xof s0 [W_21 q.2.1, W_22 a22, W_23 q.2.2]) := by
  unfold f_X6_faceWrong_21 at h
  show V yX6_faceWrong cX6_faceWrong (some .int) 2 61 (0, 0) 0 [some (.ref 21), some (.int p1), some (.int p2), none, none] [] (xof s0 [W_21 o21, W_22 a22, W_23 a23]) _
  refine x_aload_n dX6_faceWrong_0 rfl ?_
  refine g_X6_54 rfl dX6_faceWrong_1 (by decide) rfl rfl ?_
  refine x_iconst (v := 2) dX6_faceWrong_4 (by decide) ?_
  refine x_icmp_ne (tgt := 18) dX6_faceWrong_5 (by decide) (fun c1 => ?_) (fun c1 => ?_)
  · replace h := xif_n c1 h
    show V yX6_faceWrong cX6_faceWrong (some .int) 2 61 (0, 0) 18 [some (.ref 21), some (.int p1), some (.int p2), none, none] [] (xof s0 [W_21 o21, W_22 a22, W_23 a23]) _
    exact vb_X6_faceWrong_21_18 s0 n o21 a22 a23 p1 p2 q h
  · replace h := xif_p c1 h
    refine x_aload_n dX6_faceWrong_8 rfl ?_
    refine x_dup dX6_faceWrong_9 rfl ?_
    refine g_X6_61 rfl dX6_faceWrong_10 (by decide) rfl rfl ?_
    refine x_iconst (v := 1) dX6_faceWrong_13 (by decide) ?_
    refine x_iadd dX6_faceWrong_14 ?_
    refine p_X6_61 (fs' := [_, _, _, _, _, _, _, _, _, _, _, _, _, _, _, _, _, _, _]) (L' := [(21, _), (22, _), (23, _)]) rfl dX6_faceWrong_15 (by decide) rfl (Nat.le_of_ble_eq_true rfl) rfl rfl ?_
    show V yX6_faceWrong cX6_faceWrong (some .int) 2 61 (0, 0) 18 [some (.ref 21), some (.int p1), some (.int p2), none, none] [] (xof s0 [W_21 (upd o21 9 (((o21 9) + 1))), W_22 a22, W_23 a23]) _
    exact vb_X6_faceWrong_21_18 s0 n (upd o21 9 (((o21 9) + 1))) a22 a23 p1 p2 q h
def b_X6_judge_21_55 (n : Nat) (o21 : Nat → Int32) (a22 : Nat → Int32) (a23 : Nat → Int32) (o24 : Nat → Int32) (j24 : Int64) (l2 : Int32) (t0 : Int32) : Option (((Nat → Int32) × (Nat → Int32))) := (some (o21, upd a23 8 (((a23 8) + 1))))
set_option maxRecDepth 100000 in
set_option maxHeartbeats 400000 in
theorem vb_X6_judge_21_55 (s0 : XW) (n : Nat) (o21 : Nat → Int32) (a22 : Nat → Int32) (a23 : Nat → Int32) (o24 : Nat → Int32) (j24 : Int64) (l2 : Int32) (t0 : Int32) (q : ((Nat → Int32) × (Nat → Int32))) (h : b_X6_judge_21_55 n o21 a22 a23 o24 j24 l2 t0 = some q) : V yX6_judge cX6_judge none 3 61 (0, 0) 55 [some (.ref 21), none, some (.int l2), none] [.int t0] (xof s0 [W_21 o21, W_22 a22, W_23 a23, W_24 o24 j24]) (xq 61 none (xof s0 [W_21 q.1, W_22 a22, W_23 q.2, W_24 o24 j24])) := by
  unfold b_X6_judge_21_55 at h
  refine x_istore_n (ls' := [_, _, _, _]) dX6_judge_55 rfl rfl ?_
  refine x_aload_n dX6_judge_56 rfl ?_
  refine g_X6_9 rfl dX6_judge_57 (by decide) rfl rfl ?_
  refine x_bipush (v := 8) dX6_judge_60 (by decide) ?_
  refine x_dup2 dX6_judge_62 rfl rfl ?_
  refine x_ialdK (jn := 8) (v := (a23 8)) dX6_judge_63 (by decide) rfl (xin_ok (by decide)) (by decide) rfl ?_
  refine x_iconst (v := 1) dX6_judge_64 (by decide) ?_
  refine x_iadd dX6_judge_65 ?_
  refine x_iastK (jn := 8) (L' := [(21, _), (22, _), (23, _), (24, _)]) dX6_judge_66 (by decide) rfl (xin_ok (by decide)) (by decide) rfl ?_
  refine x_aload_n dX6_judge_67 rfl ?_
  refine g_X6_40 rfl dX6_judge_68 (by decide) rfl rfl ?_
  refine x_ifnullN (tgt := 90) dX6_judge_71 (by decide) ?_
  cases h
  exact x_vret dX6_judge_90 ⟨rfl, rfl, rfl⟩
def f_X6_judge_21 (n : Nat) (o21 : Nat → Int32) (a22 : Nat → Int32) (a23 : Nat → Int32) (o24 : Nat → Int32) (j24 : Int64) (p1 : Int32) : Option (((Nat → Int32) × (Nat → Int32))) := (Option.bind (f_X10_syndromeNow_24 o24 j24) (fun q1 => (Option.bind (f_X10_headerNow_24 o24 j24) (fun q2 => (if q1 = 0 then (Option.bind (f_X6_acceptRight_21 (upd (upd (upd (upd o21 15 0) 16 q2) 17 0) 18 ((p1 - 40))) a22 a23 p1) (fun q5 => (b_X6_judge_21_55 n q5.2.1 a22 q5.2.2 o24 j24 q1 q5.1))) else (Option.bind (f_X6_faceWrong_21 n (upd (upd (upd (upd o21 15 0) 16 q2) 17 0) 18 ((p1 - 40))) a22 a23 q1 p1) (fun q4 => (b_X6_judge_21_55 n q4.2.1 a22 q4.2.2 o24 j24 q1 q4.1))))))))
set_option maxRecDepth 100000 in
set_option maxHeartbeats 400000 in
theorem v_X6_judge_21 (s0 : XW) (n : Nat) (o21 : Nat → Int32) (a22 : Nat → Int32) (a23 : Nat → Int32) (o24 : Nat → Int32) (j24 : Int64) (p1 : Int32) (q : ((Nat → Int32) × (Nat → Int32))) (h : f_X6_judge_21 n o21 a22 a23 o24 j24 p1 = some q) : C_X6_judge 3 61 [.ref 21, .int p1] (xof s0 [W_21 o21, W_22 a22, W_23 a23, W_24 o24 j24]) none (xof s0 [W_21 q.1, W_22 a22, W_23 q.2, W_24 o24 j24]) := by
  unfold f_X6_judge_21 at h
  show V yX6_judge cX6_judge none 3 61 (0, 0) 0 [some (.ref 21), some (.int p1), none, none] [] (xof s0 [W_21 o21, W_22 a22, W_23 a23, W_24 o24 j24]) _
  refine x_aload_n dX6_judge_0 rfl ?_
  refine x_iconst (v := 0) dX6_judge_1 (by decide) ?_
  refine p_X6_80 (fs' := [_, _, _, _, _, _, _, _, _, _, _, _, _, _, _, _, _, _, _]) (L' := [(21, _), (22, _), (23, _), (24, _)]) rfl dX6_judge_2 (by decide) rfl (Nat.le_of_ble_eq_true rfl) rfl rfl ?_
  refine x_aload_n dX6_judge_5 rfl ?_
  refine g_X6_18 rfl dX6_judge_6 (by decide) rfl rfl ?_
  obtain ⟨q1, hq1, h⟩ := Option.bind_eq_some_iff.mp h
  refine y_callVi (L' := [(21, _), (22, _), (23, _), (24, _)]) mi_X10_syndromeNow ml_X6_153 im_X10_syndromeNow se_X10_syndromeNow (rfl : vwCl[9]? = _) dX6_judge_9 (fun s1 => v_X10_syndromeNow_24 s1 _ _ q1 hq1) (by decide) rfl (Nat.le_of_ble_eq_true rfl) rfl (by decide) (Nat.le_of_ble_eq_true rfl) rfl rfl rfl rfl ?_
  refine x_istore_n (ls' := [_, _, _, _]) dX6_judge_12 rfl rfl ?_
  refine x_aload_n dX6_judge_13 rfl ?_
  refine x_aload_n dX6_judge_14 rfl ?_
  refine g_X6_18 rfl dX6_judge_15 (by decide) rfl rfl ?_
  obtain ⟨q2, hq2, h⟩ := Option.bind_eq_some_iff.mp h
  refine y_callVi (L' := [(21, _), (22, _), (23, _), (24, _)]) mi_X10_headerNow ml_X6_156 im_X10_headerNow se_X10_headerNow (rfl : vwCl[9]? = _) dX6_judge_18 (fun s1 => v_X10_headerNow_24 s1 _ _ q2 hq2) (by decide) rfl (Nat.le_of_ble_eq_true rfl) rfl (by decide) (Nat.le_of_ble_eq_true rfl) rfl rfl rfl rfl ?_
  refine p_X6_96 (fs' := [_, _, _, _, _, _, _, _, _, _, _, _, _, _, _, _, _, _, _]) (L' := [(21, _), (22, _), (23, _), (24, _)]) rfl dX6_judge_21 (by decide) rfl (Nat.le_of_ble_eq_true rfl) rfl rfl ?_
  refine x_aload_n dX6_judge_24 rfl ?_
  refine x_iconst (v := 0) dX6_judge_25 (by decide) ?_
  refine p_X6_99 (fs' := [_, _, _, _, _, _, _, _, _, _, _, _, _, _, _, _, _, _, _]) (L' := [(21, _), (22, _), (23, _), (24, _)]) rfl dX6_judge_26 (by decide) rfl (Nat.le_of_ble_eq_true rfl) rfl rfl ?_
  refine x_aload_n dX6_judge_29 rfl ?_
  refine x_iload_n dX6_judge_30 rfl ?_
  refine x_bipush (v := 40) dX6_judge_31 (by decide) ?_
  refine x_isub dX6_judge_33 ?_
  refine p_X6_102 (fs' := [_, _, _, _, _, _, _, _, _, _, _, _, _, _, _, _, _, _, _]) (L' := [(21, _), (22, _), (23, _), (24, _)]) rfl dX6_judge_34 (by decide) rfl (Nat.le_of_ble_eq_true rfl) rfl rfl ?_
  refine x_iload_n dX6_judge_37 rfl ?_
  refine x_if_ne (tgt := 49) dX6_judge_38 (by decide) (fun c3 => ?_) (fun c3 => ?_)
  · replace h := xif_n c3 h
    refine x_aload_n dX6_judge_49 rfl ?_
    refine x_iload_n dX6_judge_50 rfl ?_
    refine x_iload_n dX6_judge_51 rfl ?_
    obtain ⟨q4, hq4, h⟩ := Option.bind_eq_some_iff.mp h
    refine y_callVi (L' := [(21, _), (22, _), (23, _), (24, _)]) mi_X6_faceWrong ml_X6_163 im_X6_faceWrong se_X6_faceWrong (rfl : vwCl[5]? = _) dX6_judge_52 (fun s1 => v_X6_faceWrong_21 s1 n _ _ _ _ _ q4 hq4) (by decide) rfl (Nat.le_of_ble_eq_true rfl) rfl (by decide) (Nat.le_of_ble_eq_true rfl) rfl rfl rfl rfl ?_
    refine V.drop1 (i := 1) (ls' := [_, _, _, _]) rfl ?_
    show V yX6_judge cX6_judge none 3 61 (0, 0) 55 [some (.ref 21), none, some (.int q1), none] [.int q4.1] (xof s0 [W_21 q4.2.1, W_22 a22, W_23 q4.2.2, W_24 o24 j24]) _
    exact vb_X6_judge_21_55 s0 n q4.2.1 a22 q4.2.2 o24 j24 q1 q4.1 q h
  · replace h := xif_p c3 h
    refine x_aload_n dX6_judge_41 rfl ?_
    refine x_iload_n dX6_judge_42 rfl ?_
    obtain ⟨q5, hq5, h⟩ := Option.bind_eq_some_iff.mp h
    refine y_callVi (L' := [(21, _), (22, _), (23, _), (24, _)]) mi_X6_acceptRight ml_X6_159 im_X6_acceptRight se_X6_acceptRight (rfl : vwCl[5]? = _) dX6_judge_43 (fun s1 => v_X6_acceptRight_21 s1 _ _ _ _ q5 hq5) (by decide) rfl (Nat.le_of_ble_eq_true rfl) rfl (by decide) (Nat.le_of_ble_eq_true rfl) rfl rfl rfl rfl ?_
    refine x_goto (tgt := 55) dX6_judge_46 (by decide) ?_
    refine V.drop1 (i := 1) (ls' := [_, _, _, _]) rfl ?_
    show V yX6_judge cX6_judge none 3 61 (0, 0) 55 [some (.ref 21), none, some (.int q1), none] [.int q5.1] (xof s0 [W_21 q5.2.1, W_22 a22, W_23 q5.2.2, W_24 o24 j24]) _
    exact vb_X6_judge_21_55 s0 n q5.2.1 a22 q5.2.2 o24 j24 q1 q5.1 q h
def b_X6_receive_21_116 (n : Nat) (o4 : Nat → Int32) (a6 : Nat → Int32) (a7 : Nat → Int32) (o21 : Nat → Int32) (a22 : Nat → Int32) (a23 : Nat → Int32) (o24 : Nat → Int32) (j24 : Int64) (j25 : Int64) (a26 : Nat → Int32) (t1 : Int32) : Option (((Nat → Int32) × (Nat → Int32) × (Nat → Int32) × (Int64) × (Int64) × (Nat → Int32))) := (Option.bind (f_X6_watch_21 o21 a22 a23 t1) (fun q11 => (some (q11.1, q11.2, o24, j24, j25, a26))))
set_option maxRecDepth 100000 in
set_option maxHeartbeats 400000 in
theorem vb_X6_receive_21_116 (s0 : XW) (n : Nat) (o4 : Nat → Int32) (a6 : Nat → Int32) (a7 : Nat → Int32) (o21 : Nat → Int32) (a22 : Nat → Int32) (a23 : Nat → Int32) (o24 : Nat → Int32) (j24 : Int64) (j25 : Int64) (a26 : Nat → Int32) (t1 : Int32) (q : ((Nat → Int32) × (Nat → Int32) × (Nat → Int32) × (Int64) × (Int64) × (Nat → Int32))) (h : b_X6_receive_21_116 n o4 a6 a7 o21 a22 a23 o24 j24 j25 a26 t1 = some q) : V yX6_receive cX6_receive none 4 61 (0, 0) 116 [none, none, none, none] [.int t1, .ref 21] (xof s0 [W_4 o4, W_6 a6, W_7 a7, W_21 o21, W_22 a22, W_23 a23, W_24 o24 j24, W_25 j25, W_26 a26]) (xq 61 none (xof s0 [W_4 o4, W_6 a6, W_7 a7, W_21 q.1, W_22 a22, W_23 q.2.1, W_24 q.2.2.1 q.2.2.2.1, W_25 q.2.2.2.2.1, W_26 q.2.2.2.2.2])) := by
  unfold b_X6_receive_21_116 at h
  obtain ⟨q11, hq11, h⟩ := Option.bind_eq_some_iff.mp h
  refine y_callVv (L' := [(4, _), (6, _), (7, _), (21, _), (22, _), (23, _), (24, _), (25, _), (26, _)]) mi_X6_watch ml_X6_125 im_X6_watch se_X6_watch (rfl : vwCl[5]? = _) dX6_receive_116 (fun s1 => v_X6_watch_21 s1 _ _ _ _ q11 hq11) (by decide) rfl (Nat.le_of_ble_eq_true rfl) rfl (by decide) (Nat.le_of_ble_eq_true rfl) rfl rfl rfl rfl ?_
  cases h
  exact x_vret dX6_receive_119 ⟨rfl, rfl, rfl⟩
def b_X6_receive_21_105 (n : Nat) (o4 : Nat → Int32) (a6 : Nat → Int32) (a7 : Nat → Int32) (o21 : Nat → Int32) (a22 : Nat → Int32) (a23 : Nat → Int32) (o24 : Nat → Int32) (j24 : Int64) (j25 : Int64) (a26 : Nat → Int32) (l3 : Int32) : Option (((Nat → Int32) × (Nat → Int32) × (Nat → Int32) × (Int64) × (Int64) × (Nat → Int32))) := (if l3 = 2 then (b_X6_receive_21_116 n o4 a6 a7 o21 a22 a23 o24 j24 j25 a26 1) else (b_X6_receive_21_116 n o4 a6 a7 o21 a22 a23 o24 j24 j25 a26 0))
set_option maxRecDepth 100000 in
set_option maxHeartbeats 400000 in
theorem vb_X6_receive_21_105 (s0 : XW) (n : Nat) (o4 : Nat → Int32) (a6 : Nat → Int32) (a7 : Nat → Int32) (o21 : Nat → Int32) (a22 : Nat → Int32) (a23 : Nat → Int32) (o24 : Nat → Int32) (j24 : Int64) (j25 : Int64) (a26 : Nat → Int32) (l3 : Int32) (q : ((Nat → Int32) × (Nat → Int32) × (Nat → Int32) × (Int64) × (Int64) × (Nat → Int32))) (h : b_X6_receive_21_105 n o4 a6 a7 o21 a22 a23 o24 j24 j25 a26 l3 = some q) : V yX6_receive cX6_receive none 4 61 (0, 0) 105 [some (.ref 21), none, none, some (.int l3)] [] (xof s0 [W_4 o4, W_6 a6, W_7 a7, W_21 o21, W_22 a22, W_23 a23, W_24 o24 j24, W_25 j25, W_26 a26]) (xq 61 none (xof s0 [W_4 o4, W_6 a6, W_7 a7, W_21 q.1, W_22 a22, W_23 q.2.1, W_24 q.2.2.1 q.2.2.2.1, W_25 q.2.2.2.2.1, W_26 q.2.2.2.2.2])) := by
  unfold b_X6_receive_21_105 at h
  refine x_aload_n dX6_receive_105 rfl ?_
  refine x_iload_n dX6_receive_106 rfl ?_
  refine x_iconst (v := 2) dX6_receive_107 (by decide) ?_
  refine x_icmp_ne (tgt := 115) dX6_receive_108 (by decide) (fun c10 => ?_) (fun c10 => ?_)
  · replace h := xif_n c10 h
    refine x_iconst (v := 0) dX6_receive_115 (by decide) ?_
    refine V.drop1 (i := 0) (ls' := [_, _, _, _]) rfl ?_
    refine V.drop1 (i := 3) (ls' := [_, _, _, _]) rfl ?_
    show V yX6_receive cX6_receive none 4 61 (0, 0) 116 [none, none, none, none] [.int 0, .ref 21] (xof s0 [W_4 o4, W_6 a6, W_7 a7, W_21 o21, W_22 a22, W_23 a23, W_24 o24 j24, W_25 j25, W_26 a26]) _
    exact vb_X6_receive_21_116 s0 n o4 a6 a7 o21 a22 a23 o24 j24 j25 a26 0 q h
  · replace h := xif_p c10 h
    refine x_iconst (v := 1) dX6_receive_111 (by decide) ?_
    refine x_goto (tgt := 116) dX6_receive_112 (by decide) ?_
    refine V.drop1 (i := 0) (ls' := [_, _, _, _]) rfl ?_
    refine V.drop1 (i := 3) (ls' := [_, _, _, _]) rfl ?_
    show V yX6_receive cX6_receive none 4 61 (0, 0) 116 [none, none, none, none] [.int 1, .ref 21] (xof s0 [W_4 o4, W_6 a6, W_7 a7, W_21 o21, W_22 a22, W_23 a23, W_24 o24 j24, W_25 j25, W_26 a26]) _
    exact vb_X6_receive_21_116 s0 n o4 a6 a7 o21 a22 a23 o24 j24 j25 a26 1 q h
def b_X6_receive_21_52 (n : Nat) (o4 : Nat → Int32) (a6 : Nat → Int32) (a7 : Nat → Int32) (o21 : Nat → Int32) (a22 : Nat → Int32) (a23 : Nat → Int32) (o24 : Nat → Int32) (j24 : Int64) (j25 : Int64) (a26 : Nat → Int32) (l1 : Int32) (l2 : Int32) (l3 : Int32) (t1 : Int32) : Option (((Nat → Int32) × (Nat → Int32) × (Nat → Int32) × (Int64) × (Int64) × (Nat → Int32))) := (bif xin t1 14 then (bif xin t1 14 then (Option.bind (f_X6_loadBits_21 o21 a22) (fun q6 => (if q6 ≤ (o21 15) then (Option.bind (f_X6_loadBits_21 (upd o21 15 (((o21 15) + 1))) a22) (fun q8 => (if (((o21 15) + 1) - q8) = 40 then (Option.bind (f_X6_judge_21 n (upd o21 15 (((o21 15) + 1))) a22 (upd a23 ((Int32.toNatClampNeg t1)) (((a23 (Int32.toNatClampNeg t1)) + 1))) o24 j24 l2) (fun q12 => (b_X6_receive_21_105 n o4 a6 a7 q12.1 a22 q12.2 o24 j24 j25 a26 l3))) else (b_X6_receive_21_105 n o4 a6 a7 (upd o21 15 (((o21 15) + 1))) a22 (upd a23 ((Int32.toNatClampNeg t1)) (((a23 (Int32.toNatClampNeg t1)) + 1))) o24 j24 j25 a26 l3)))) else (Option.bind (f_X6_carry_21 n o4 a6 a7 o21 a22 (upd a23 ((Int32.toNatClampNeg t1)) (((a23 (Int32.toNatClampNeg t1)) + 1))) j25 a26 l1) (fun q13 => (b_X6_receive_21_105 n o4 a6 a7 q13.1 a22 q13.2.1 o24 j24 q13.2.2.1 q13.2.2.2 l3)))))) else none) else none)
set_option maxRecDepth 100000 in
set_option maxHeartbeats 400000 in
theorem vb_X6_receive_21_52 (s0 : XW) (n : Nat) (o4 : Nat → Int32) (a6 : Nat → Int32) (a7 : Nat → Int32) (o21 : Nat → Int32) (a22 : Nat → Int32) (a23 : Nat → Int32) (o24 : Nat → Int32) (j24 : Int64) (j25 : Int64) (a26 : Nat → Int32) (l1 : Int32) (l2 : Int32) (l3 : Int32) (t1 : Int32) (q : ((Nat → Int32) × (Nat → Int32) × (Nat → Int32) × (Int64) × (Int64) × (Nat → Int32))) (h : b_X6_receive_21_52 n o4 a6 a7 o21 a22 a23 o24 j24 j25 a26 l1 l2 l3 t1 = some q) : V yX6_receive cX6_receive none 4 61 (0, 0) 52 [some (.ref 21), some (.int l1), some (.int l2), some (.int l3)] [.int t1, .ref 23] (xof s0 [W_4 o4, W_6 a6, W_7 a7, W_21 o21, W_22 a22, W_23 a23, W_24 o24 j24, W_25 j25, W_26 a26]) (xq 61 none (xof s0 [W_4 o4, W_6 a6, W_7 a7, W_21 q.1, W_22 a22, W_23 q.2.1, W_24 q.2.2.1 q.2.2.2.1, W_25 q.2.2.2.2.1, W_26 q.2.2.2.2.2])) := by
  unfold b_X6_receive_21_52 at h
  refine x_dup2 dX6_receive_52 rfl rfl ?_
  obtain ⟨c4, h⟩ := xck h
  refine x_ialdK (jn := (Int32.toNatClampNeg t1)) (v := (a23 (Int32.toNatClampNeg t1))) dX6_receive_53 (by decide) rfl (xin_ok c4) rfl rfl ?_
  refine x_iconst (v := 1) dX6_receive_54 (by decide) ?_
  refine x_iadd dX6_receive_55 ?_
  obtain ⟨c5, h⟩ := xck h
  refine x_iastK (jn := (Int32.toNatClampNeg t1)) (L' := [(4, _), (6, _), (7, _), (21, _), (22, _), (23, _), (24, _), (25, _), (26, _)]) dX6_receive_56 (by decide) rfl (xin_ok c5) rfl rfl ?_
  refine x_aload_n dX6_receive_57 rfl ?_
  refine g_X6_80 rfl dX6_receive_58 (by decide) rfl rfl ?_
  refine x_aload_n dX6_receive_61 rfl ?_
  obtain ⟨q6, hq6, h⟩ := Option.bind_eq_some_iff.mp h
  refine y_callVi (L' := [(4, _), (6, _), (7, _), (21, _), (22, _), (23, _), (24, _), (25, _), (26, _)]) mi_X6_loadBits ml_X6_105 im_X6_loadBits se_X6_loadBits (rfl : vwCl[5]? = _) dX6_receive_62 (fun s1 => v_X6_loadBits_21 s1 _ _ q6 hq6) (by decide) rfl (Nat.le_of_ble_eq_true rfl) rfl (by decide) (Nat.le_of_ble_eq_true rfl) rfl rfl rfl rfl ?_
  refine x_icmp_ge (tgt := 76) dX6_receive_65 (by decide) (fun c7 => ?_) (fun c7 => ?_)
  · replace h := xif_p c7 h
    refine x_aload_n dX6_receive_76 rfl ?_
    refine x_dup dX6_receive_77 rfl ?_
    refine g_X6_80 rfl dX6_receive_78 (by decide) rfl rfl ?_
    refine x_iconst (v := 1) dX6_receive_81 (by decide) ?_
    refine x_iadd dX6_receive_82 ?_
    refine p_X6_80 (fs' := [_, _, _, _, _, _, _, _, _, _, _, _, _, _, _, _, _, _, _]) (L' := [(4, _), (6, _), (7, _), (21, _), (22, _), (23, _), (24, _), (25, _), (26, _)]) rfl dX6_receive_83 (by decide) rfl (Nat.le_of_ble_eq_true rfl) rfl rfl ?_
    refine x_aload_n dX6_receive_86 rfl ?_
    refine g_X6_80 rfl dX6_receive_87 (by decide) rfl rfl ?_
    refine x_aload_n dX6_receive_90 rfl ?_
    obtain ⟨q8, hq8, h⟩ := Option.bind_eq_some_iff.mp h
    refine y_callVi (L' := [(4, _), (6, _), (7, _), (21, _), (22, _), (23, _), (24, _), (25, _), (26, _)]) mi_X6_loadBits ml_X6_105 im_X6_loadBits se_X6_loadBits (rfl : vwCl[5]? = _) dX6_receive_91 (fun s1 => v_X6_loadBits_21 s1 _ _ q8 hq8) (by decide) rfl (Nat.le_of_ble_eq_true rfl) rfl (by decide) (Nat.le_of_ble_eq_true rfl) rfl rfl rfl rfl ?_
    refine x_isub dX6_receive_94 ?_
    refine x_bipush (v := 40) dX6_receive_95 (by decide) ?_
    refine x_icmp_ne (tgt := 105) dX6_receive_97 (by decide) (fun c9 => ?_) (fun c9 => ?_)
    · replace h := xif_n c9 h
      refine V.drop1 (i := 1) (ls' := [_, _, _, _]) rfl ?_
      refine V.drop1 (i := 2) (ls' := [_, _, _, _]) rfl ?_
      show V yX6_receive cX6_receive none 4 61 (0, 0) 105 [some (.ref 21), none, none, some (.int l3)] [] (xof s0 [W_4 o4, W_6 a6, W_7 a7, W_21 (upd o21 15 (((o21 15) + 1))), W_22 a22, W_23 (upd a23 ((Int32.toNatClampNeg t1)) (((a23 (Int32.toNatClampNeg t1)) + 1))), W_24 o24 j24, W_25 j25, W_26 a26]) _
      exact vb_X6_receive_21_105 s0 n o4 a6 a7 (upd o21 15 (((o21 15) + 1))) a22 (upd a23 ((Int32.toNatClampNeg t1)) (((a23 (Int32.toNatClampNeg t1)) + 1))) o24 j24 j25 a26 l3 q h
    · replace h := xif_p c9 h
      refine x_aload_n dX6_receive_100 rfl ?_
      refine x_iload_n dX6_receive_101 rfl ?_
      obtain ⟨q12, hq12, h⟩ := Option.bind_eq_some_iff.mp h
      refine y_callVv (L' := [(4, _), (6, _), (7, _), (21, _), (22, _), (23, _), (24, _), (25, _), (26, _)]) mi_X6_judge ml_X6_122 im_X6_judge se_X6_judge (rfl : vwCl[5]? = _) dX6_receive_102 (fun s1 => v_X6_judge_21 s1 n _ _ _ _ _ _ q12 hq12) (by decide) rfl (Nat.le_of_ble_eq_true rfl) rfl (by decide) (Nat.le_of_ble_eq_true rfl) rfl rfl rfl rfl ?_
      refine V.drop1 (i := 1) (ls' := [_, _, _, _]) rfl ?_
      refine V.drop1 (i := 2) (ls' := [_, _, _, _]) rfl ?_
      show V yX6_receive cX6_receive none 4 61 (0, 0) 105 [some (.ref 21), none, none, some (.int l3)] [] (xof s0 [W_4 o4, W_6 a6, W_7 a7, W_21 q12.1, W_22 a22, W_23 q12.2, W_24 o24 j24, W_25 j25, W_26 a26]) _
      exact vb_X6_receive_21_105 s0 n o4 a6 a7 q12.1 a22 q12.2 o24 j24 j25 a26 l3 q h
  · replace h := xif_n c7 h
    refine x_aload_n dX6_receive_68 rfl ?_
    refine x_iload_n dX6_receive_69 rfl ?_
    obtain ⟨q13, hq13, h⟩ := Option.bind_eq_some_iff.mp h
    refine y_callVv (L' := [(4, _), (6, _), (7, _), (21, _), (22, _), (23, _), (24, _), (25, _), (26, _)]) mi_X6_carry ml_X6_119 im_X6_carry se_X6_carry (rfl : vwCl[5]? = _) dX6_receive_70 (fun s1 => v_X6_carry_21 s1 n _ _ _ _ _ _ _ _ _ q13 hq13) (by decide) rfl (Nat.le_of_ble_eq_true rfl) rfl (by decide) (Nat.le_of_ble_eq_true rfl) rfl rfl rfl rfl ?_
    refine x_goto (tgt := 105) dX6_receive_73 (by decide) ?_
    refine V.drop1 (i := 1) (ls' := [_, _, _, _]) rfl ?_
    refine V.drop1 (i := 2) (ls' := [_, _, _, _]) rfl ?_
    show V yX6_receive cX6_receive none 4 61 (0, 0) 105 [some (.ref 21), none, none, some (.int l3)] [] (xof s0 [W_4 o4, W_6 a6, W_7 a7, W_21 q13.1, W_22 a22, W_23 q13.2.1, W_24 o24 j24, W_25 q13.2.2.1, W_26 q13.2.2.2]) _
    exact vb_X6_receive_21_105 s0 n o4 a6 a7 q13.1 a22 q13.2.1 o24 j24 q13.2.2.1 q13.2.2.2 l3 q h
def f_X6_receive_21 (n : Nat) (o4 : Nat → Int32) (a6 : Nat → Int32) (a7 : Nat → Int32) (o21 : Nat → Int32) (a22 : Nat → Int32) (a23 : Nat → Int32) (o24 : Nat → Int32) (j24 : Int64) (j25 : Int64) (a26 : Nat → Int32) (p1 : Int32) (p2 : Int32) : Option (((Nat → Int32) × (Nat → Int32) × (Nat → Int32) × (Int64) × (Int64) × (Nat → Int32))) := (Option.bind (f_X10_push_24 o24 j24 p1) (fun q1 => (if (o21 7) = 0 then (Option.bind (f_X6_hunt_21 o21 a22 (upd a23 6 (((a23 6) + 1))) q1.1 q1.2 p2) (fun q14 => (b_X6_receive_21_105 n o4 a6 a7 q14.1 a22 q14.2 q1.1 q1.2 j25 a26 ((o21 7))))) else (if (o21 7) = 1 then (b_X6_receive_21_52 n o4 a6 a7 o21 a22 a23 q1.1 q1.2 j25 a26 p1 p2 ((o21 7)) 12) else (b_X6_receive_21_52 n o4 a6 a7 o21 a22 a23 q1.1 q1.2 j25 a26 p1 p2 ((o21 7)) 13)))))
set_option maxRecDepth 100000 in
set_option maxHeartbeats 400000 in
theorem v_X6_receive_21 (s0 : XW) (n : Nat) (o4 : Nat → Int32) (a6 : Nat → Int32) (a7 : Nat → Int32) (o21 : Nat → Int32) (a22 : Nat → Int32) (a23 : Nat → Int32) (o24 : Nat → Int32) (j24 : Int64) (j25 : Int64) (a26 : Nat → Int32) (p1 : Int32) (p2 : Int32) (q : ((Nat → Int32) × (Nat → Int32) × (Nat → Int32) × (Int64) × (Int64) × (Nat → Int32))) (h : f_X6_receive_21 n o4 a6 a7 o21 a22 a23 o24 j24 j25 a26 p1 p2 = some q) : C_X6_receive 4 61 [.ref 21, .int p1, .int p2] (xof s0 [W_4 o4, W_6 a6, W_7 a7, W_21 o21, W_22 a22, W_23 a23, W_24 o24 j24, W_25 j25, W_26 a26]) none (xof s0 [W_4 o4, W_6 a6, W_7 a7, W_21 q.1, W_22 a22, W_23 q.2.1, W_24 q.2.2.1 q.2.2.2.1, W_25 q.2.2.2.2.1, W_26 q.2.2.2.2.2]) := by
  unfold f_X6_receive_21 at h
  show V yX6_receive cX6_receive none 4 61 (0, 0) 0 [some (.ref 21), some (.int p1), some (.int p2), none] [] (xof s0 [W_4 o4, W_6 a6, W_7 a7, W_21 o21, W_22 a22, W_23 a23, W_24 o24 j24, W_25 j25, W_26 a26]) _
  refine x_aload_n dX6_receive_0 rfl ?_
  refine g_X6_54 rfl dX6_receive_1 (by decide) rfl rfl ?_
  refine x_istore_n (ls' := [_, _, _, _]) dX6_receive_4 rfl rfl ?_
  refine x_aload_n dX6_receive_5 rfl ?_
  refine g_X6_18 rfl dX6_receive_6 (by decide) rfl rfl ?_
  refine x_iload_n dX6_receive_9 rfl ?_
  obtain ⟨q1, hq1, h⟩ := Option.bind_eq_some_iff.mp h
  refine y_callVv (L' := [(4, _), (6, _), (7, _), (21, _), (22, _), (23, _), (24, _), (25, _), (26, _)]) mi_X10_push ml_X6_112 im_X10_push se_X10_push (rfl : vwCl[9]? = _) dX6_receive_10 (fun s1 => v_X10_push_24 s1 _ _ _ q1 hq1) (by decide) rfl (Nat.le_of_ble_eq_true rfl) rfl (by decide) (Nat.le_of_ble_eq_true rfl) rfl rfl rfl rfl ?_
  refine x_iload_n dX6_receive_13 rfl ?_
  refine x_if_ne (tgt := 36) dX6_receive_14 (by decide) (fun c2 => ?_) (fun c2 => ?_)
  · replace h := xif_n c2 h
    refine x_aload_n dX6_receive_36 rfl ?_
    refine g_X6_9 rfl dX6_receive_37 (by decide) rfl rfl ?_
    refine x_iload_n dX6_receive_40 rfl ?_
    refine x_iconst (v := 1) dX6_receive_41 (by decide) ?_
    refine x_icmp_ne (tgt := 50) dX6_receive_42 (by decide) (fun c3 => ?_) (fun c3 => ?_)
    · replace h := xif_n c3 h
      refine x_bipush (v := 13) dX6_receive_50 (by decide) ?_
      show V yX6_receive cX6_receive none 4 61 (0, 0) 52 [some (.ref 21), some (.int p1), some (.int p2), some (.int ((o21 7)))] [.int 13, .ref 23] (xof s0 [W_4 o4, W_6 a6, W_7 a7, W_21 o21, W_22 a22, W_23 a23, W_24 q1.1 q1.2, W_25 j25, W_26 a26]) _
      exact vb_X6_receive_21_52 s0 n o4 a6 a7 o21 a22 a23 q1.1 q1.2 j25 a26 p1 p2 ((o21 7)) 13 q h
    · replace h := xif_p c3 h
      refine x_bipush (v := 12) dX6_receive_45 (by decide) ?_
      refine x_goto (tgt := 52) dX6_receive_47 (by decide) ?_
      show V yX6_receive cX6_receive none 4 61 (0, 0) 52 [some (.ref 21), some (.int p1), some (.int p2), some (.int ((o21 7)))] [.int 12, .ref 23] (xof s0 [W_4 o4, W_6 a6, W_7 a7, W_21 o21, W_22 a22, W_23 a23, W_24 q1.1 q1.2, W_25 j25, W_26 a26]) _
      exact vb_X6_receive_21_52 s0 n o4 a6 a7 o21 a22 a23 q1.1 q1.2 j25 a26 p1 p2 ((o21 7)) 12 q h
  · replace h := xif_p c2 h
    refine x_aload_n dX6_receive_17 rfl ?_
    refine g_X6_9 rfl dX6_receive_18 (by decide) rfl rfl ?_
    refine x_bipush (v := 6) dX6_receive_21 (by decide) ?_
    refine x_dup2 dX6_receive_23 rfl rfl ?_
    refine x_ialdK (jn := 6) (v := (a23 6)) dX6_receive_24 (by decide) rfl (xin_ok (by decide)) (by decide) rfl ?_
    refine x_iconst (v := 1) dX6_receive_25 (by decide) ?_
    refine x_iadd dX6_receive_26 ?_
    refine x_iastK (jn := 6) (L' := [(4, _), (6, _), (7, _), (21, _), (22, _), (23, _), (24, _), (25, _), (26, _)]) dX6_receive_27 (by decide) rfl (xin_ok (by decide)) (by decide) rfl ?_
    refine x_aload_n dX6_receive_28 rfl ?_
    refine x_iload_n dX6_receive_29 rfl ?_
    obtain ⟨q14, hq14, h⟩ := Option.bind_eq_some_iff.mp h
    refine y_callVv (L' := [(4, _), (6, _), (7, _), (21, _), (22, _), (23, _), (24, _), (25, _), (26, _)]) mi_X6_hunt ml_X6_116 im_X6_hunt se_X6_hunt (rfl : vwCl[5]? = _) dX6_receive_30 (fun s1 => v_X6_hunt_21 s1 _ _ _ _ _ _ q14 hq14) (by decide) rfl (Nat.le_of_ble_eq_true rfl) rfl (by decide) (Nat.le_of_ble_eq_true rfl) rfl rfl rfl rfl ?_
    refine x_goto (tgt := 105) dX6_receive_33 (by decide) ?_
    refine V.drop1 (i := 1) (ls' := [_, _, _, _]) rfl ?_
    refine V.drop1 (i := 2) (ls' := [_, _, _, _]) rfl ?_
    show V yX6_receive cX6_receive none 4 61 (0, 0) 105 [some (.ref 21), none, none, some (.int ((o21 7)))] [] (xof s0 [W_4 o4, W_6 a6, W_7 a7, W_21 q14.1, W_22 a22, W_23 q14.2, W_24 q1.1 q1.2, W_25 j25, W_26 a26]) _
    exact vb_X6_receive_21_105 s0 n o4 a6 a7 q14.1 a22 q14.2 q1.1 q1.2 j25 a26 ((o21 7)) q h
def l_X11_advance_0_21_9 (n : Nat) (o2 : Nat → Int32) (a3 : Nat → Int32) (o4 : Nat → Int32) (a6 : Nat → Int32) (a7 : Nat → Int32) (a22 : Nat → Int32) (l2 : Int32) (l3 : Int32) : Nat → (Int32) → (Nat → Int32) → (Nat → Int32) → (Nat → Int32) → (Int64) → (Int64) → (Nat → Int32) → Option (((Int32) × (Nat → Int32) × (Nat → Int32) × (Nat → Int32) × (Int64) × (Int64) × (Nat → Int32)))
  | 0, _, _, _, _, _, _, _ => none
  | k + 1, l4, o21, a23, o24, j24, j25, a26 => (if l2 ≤ l4 then (some (l4, o21, a23, o24, j24, j25, a26)) else (Option.bind (f_X4_bitAt_2 o2 a3 l4) (fun q2 => (if l4 = l3 then (Option.bind (f_X6_receive_21 n o4 a6 a7 o21 a22 a23 o24 j24 j25 a26 ((1 - q2)) ((l4 + 1))) (fun q5 => (l_X11_advance_0_21_9 n o2 a3 o4 a6 a7 a22 l2 l3 k ((l4 + 1)) q5.1 q5.2.1 q5.2.2.1 q5.2.2.2.1 q5.2.2.2.2.1 q5.2.2.2.2.2))) else (Option.bind (f_X6_receive_21 n o4 a6 a7 o21 a22 a23 o24 j24 j25 a26 q2 ((l4 + 1))) (fun q4 => (l_X11_advance_0_21_9 n o2 a3 o4 a6 a7 a22 l2 l3 k ((l4 + 1)) q4.1 q4.2.1 q4.2.2.1 q4.2.2.2.1 q4.2.2.2.2.1 q4.2.2.2.2.2)))))))
set_option maxRecDepth 100000 in
set_option maxHeartbeats 400000 in
theorem lv_X11_advance_0_21_9 (s0 : XW) (n : Nat) (o2 : Nat → Int32) (a3 : Nat → Int32) (o4 : Nat → Int32) (a6 : Nat → Int32) (a7 : Nat → Int32) (a22 : Nat → Int32) (l2 : Int32) (l3 : Int32) (Q : Nat → Option Value → XW → Prop) : ∀ (k : Nat) (l4 : Int32) (o21 : Nat → Int32) (a23 : Nat → Int32) (o24 : Nat → Int32) (j24 : Int64) (j25 : Int64) (a26 : Nat → Int32) (o : ((Int32) × (Nat → Int32) × (Nat → Int32) × (Nat → Int32) × (Int64) × (Int64) × (Nat → Int32))), l_X11_advance_0_21_9 n o2 a3 o4 a6 a7 a22 l2 l3 k l4 o21 a23 o24 j24 j25 a26 = some o → (V yX11_advance cX11_advance none 5 61 (0, 0) 55 [none, none, none, none, none, none] [] (xof s0 [W_0, W_2 o2, W_3 a3, W_4 o4, W_6 a6, W_7 a7, W_21 o.2.1, W_22 a22, W_23 o.2.2.1, W_24 o.2.2.2.1 o.2.2.2.2.1, W_25 o.2.2.2.2.2.1, W_26 o.2.2.2.2.2.2]) Q) → V yX11_advance cX11_advance none 5 61 (0, 0) 9 [some (.ref 0), some (.ref 21), some (.int l2), some (.int l3), some (.int l4), none] [] (xof s0 [W_0, W_2 o2, W_3 a3, W_4 o4, W_6 a6, W_7 a7, W_21 o21, W_22 a22, W_23 a23, W_24 o24 j24, W_25 j25, W_26 a26]) Q := by
  intro k
  induction k with
  | zero =>
    intro _ _ _ _ _ _ _ _ h
    simp [l_X11_advance_0_21_9] at h
  | succ k ih =>
    intro l4 o21 a23 o24 j24 j25 a26 o h hk
    rw [l_X11_advance_0_21_9] at h
    refine x_iload dX11_advance_9 rfl ?_
    refine x_iload_n dX11_advance_11 rfl ?_
    refine x_icmp_ge (tgt := 55) dX11_advance_12 (by decide) (fun c1 => ?_) (fun c1 => ?_)
    · replace h := xif_p c1 h
      refine V.drop1 (i := 0) (ls' := [_, _, _, _, _, _]) rfl ?_
      refine V.drop1 (i := 1) (ls' := [_, _, _, _, _, _]) rfl ?_
      refine V.drop1 (i := 2) (ls' := [_, _, _, _, _, _]) rfl ?_
      refine V.drop1 (i := 3) (ls' := [_, _, _, _, _, _]) rfl ?_
      refine V.drop1 (i := 4) (ls' := [_, _, _, _, _, _]) rfl ?_
      show V yX11_advance cX11_advance none 5 61 (0, 0) 55 [none, none, none, none, none, none] [] (xof s0 [W_0, W_2 o2, W_3 a3, W_4 o4, W_6 a6, W_7 a7, W_21 o21, W_22 a22, W_23 a23, W_24 o24 j24, W_25 j25, W_26 a26]) _
      cases h
      exact hk
    · replace h := xif_n c1 h
      refine x_aload_n dX11_advance_15 rfl ?_
      refine g_X11_24 rfl dX11_advance_16 (by decide) rfl rfl ?_
      refine x_iload dX11_advance_19 rfl ?_
      obtain ⟨q2, hq2, h⟩ := Option.bind_eq_some_iff.mp h
      refine y_callVi (L' := [(0, _), (2, _), (3, _), (4, _), (6, _), (7, _), (21, _), (22, _), (23, _), (24, _), (25, _), (26, _)]) mi_X4_bitAt ml_X11_131 im_X4_bitAt se_X4_bitAt (rfl : vwCl[3]? = _) dX11_advance_21 (fun s1 => v_X4_bitAt_2 s1 _ _ _ q2 hq2) (by decide) rfl (Nat.le_of_ble_eq_true rfl) rfl (by decide) (Nat.le_of_ble_eq_true rfl) rfl rfl rfl rfl ?_
      refine x_istore (ls' := [_, _, _, _, _, _]) dX11_advance_24 rfl rfl ?_
      refine x_aload_n dX11_advance_26 rfl ?_
      refine x_iload dX11_advance_27 rfl ?_
      refine x_iload_n dX11_advance_29 rfl ?_
      refine x_icmp_ne (tgt := 40) dX11_advance_30 (by decide) (fun c3 => ?_) (fun c3 => ?_)
      · replace h := xif_n c3 h
        refine x_iload dX11_advance_40 rfl ?_
        refine x_iload dX11_advance_42 rfl ?_
        refine x_iconst (v := 1) dX11_advance_44 (by decide) ?_
        refine x_iadd dX11_advance_45 ?_
        obtain ⟨q4, hq4, h⟩ := Option.bind_eq_some_iff.mp h
        refine y_callVv (L' := [(0, _), (2, _), (3, _), (4, _), (6, _), (7, _), (21, _), (22, _), (23, _), (24, _), (25, _), (26, _)]) mi_X6_receive ml_X11_271 im_X6_receive se_X6_receive (rfl : vwCl[5]? = _) dX11_advance_46 (fun s1 => v_X6_receive_21 s1 n _ _ _ _ _ _ _ _ _ _ _ _ q4 hq4) (by decide) rfl (Nat.le_of_ble_eq_true rfl) rfl (by decide) (Nat.le_of_ble_eq_true rfl) rfl rfl rfl rfl ?_
        refine x_iinc (v := l4 + 1) (ls' := [_, _, _, _, _, _]) dX11_advance_49 rfl rfl rfl rfl ?_
        refine x_goto (tgt := 9) dX11_advance_52 (by decide) ?_
        refine V.drop1 (i := 5) (ls' := [_, _, _, _, _, _]) rfl ?_
        show V yX11_advance cX11_advance none 5 61 (0, 0) 9 [some (.ref 0), some (.ref 21), some (.int l2), some (.int l3), some (.int ((l4 + 1))), none] [] (xof s0 [W_0, W_2 o2, W_3 a3, W_4 o4, W_6 a6, W_7 a7, W_21 q4.1, W_22 a22, W_23 q4.2.1, W_24 q4.2.2.1 q4.2.2.2.1, W_25 q4.2.2.2.2.1, W_26 q4.2.2.2.2.2]) _
        exact ih ((l4 + 1)) q4.1 q4.2.1 q4.2.2.1 q4.2.2.2.1 q4.2.2.2.2.1 q4.2.2.2.2.2 _ h hk
      · replace h := xif_p c3 h
        refine x_iconst (v := 1) dX11_advance_33 (by decide) ?_
        refine x_iload dX11_advance_34 rfl ?_
        refine x_isub dX11_advance_36 ?_
        refine x_goto (tgt := 42) dX11_advance_37 (by decide) ?_
        refine x_iload dX11_advance_42 rfl ?_
        refine x_iconst (v := 1) dX11_advance_44 (by decide) ?_
        refine x_iadd dX11_advance_45 ?_
        obtain ⟨q5, hq5, h⟩ := Option.bind_eq_some_iff.mp h
        refine y_callVv (L' := [(0, _), (2, _), (3, _), (4, _), (6, _), (7, _), (21, _), (22, _), (23, _), (24, _), (25, _), (26, _)]) mi_X6_receive ml_X11_271 im_X6_receive se_X6_receive (rfl : vwCl[5]? = _) dX11_advance_46 (fun s1 => v_X6_receive_21 s1 n _ _ _ _ _ _ _ _ _ _ _ _ q5 hq5) (by decide) rfl (Nat.le_of_ble_eq_true rfl) rfl (by decide) (Nat.le_of_ble_eq_true rfl) rfl rfl rfl rfl ?_
        refine x_iinc (v := l4 + 1) (ls' := [_, _, _, _, _, _]) dX11_advance_49 rfl rfl rfl rfl ?_
        refine x_goto (tgt := 9) dX11_advance_52 (by decide) ?_
        refine V.drop1 (i := 5) (ls' := [_, _, _, _, _, _]) rfl ?_
        show V yX11_advance cX11_advance none 5 61 (0, 0) 9 [some (.ref 0), some (.ref 21), some (.int l2), some (.int l3), some (.int ((l4 + 1))), none] [] (xof s0 [W_0, W_2 o2, W_3 a3, W_4 o4, W_6 a6, W_7 a7, W_21 q5.1, W_22 a22, W_23 q5.2.1, W_24 q5.2.2.1 q5.2.2.2.1, W_25 q5.2.2.2.2.1, W_26 q5.2.2.2.2.2]) _
        exact ih ((l4 + 1)) q5.1 q5.2.1 q5.2.2.1 q5.2.2.2.1 q5.2.2.2.2.1 q5.2.2.2.2.2 _ h hk
def f_X11_advance_0_21 (n : Nat) (o2 : Nat → Int32) (a3 : Nat → Int32) (o4 : Nat → Int32) (a6 : Nat → Int32) (a7 : Nat → Int32) (o21 : Nat → Int32) (a22 : Nat → Int32) (a23 : Nat → Int32) (o24 : Nat → Int32) (j24 : Int64) (j25 : Int64) (a26 : Nat → Int32) (p2 : Int32) (p3 : Int32) : Option (((Nat → Int32) × (Nat → Int32) × (Nat → Int32) × (Int64) × (Int64) × (Nat → Int32))) := (Option.bind (l_X11_advance_0_21_9 n o2 a3 o4 a6 a7 a22 p2 p3 n ((o2 2)) o21 a23 o24 j24 j25 a26) (fun u6 => (some (u6.2.1, u6.2.2.1, u6.2.2.2.1, u6.2.2.2.2.1, u6.2.2.2.2.2.1, u6.2.2.2.2.2.2))))
set_option maxRecDepth 100000 in
set_option maxHeartbeats 400000 in
theorem v_X11_advance_0_21 (s0 : XW) (n : Nat) (o2 : Nat → Int32) (a3 : Nat → Int32) (o4 : Nat → Int32) (a6 : Nat → Int32) (a7 : Nat → Int32) (o21 : Nat → Int32) (a22 : Nat → Int32) (a23 : Nat → Int32) (o24 : Nat → Int32) (j24 : Int64) (j25 : Int64) (a26 : Nat → Int32) (p2 : Int32) (p3 : Int32) (q : ((Nat → Int32) × (Nat → Int32) × (Nat → Int32) × (Int64) × (Int64) × (Nat → Int32))) (h : f_X11_advance_0_21 n o2 a3 o4 a6 a7 o21 a22 a23 o24 j24 j25 a26 p2 p3 = some q) : C_X11_advance 5 61 [.ref 0, .ref 21, .int p2, .int p3] (xof s0 [W_0, W_2 o2, W_3 a3, W_4 o4, W_6 a6, W_7 a7, W_21 o21, W_22 a22, W_23 a23, W_24 o24 j24, W_25 j25, W_26 a26]) none (xof s0 [W_0, W_2 o2, W_3 a3, W_4 o4, W_6 a6, W_7 a7, W_21 q.1, W_22 a22, W_23 q.2.1, W_24 q.2.2.1 q.2.2.2.1, W_25 q.2.2.2.2.1, W_26 q.2.2.2.2.2]) := by
  unfold f_X11_advance_0_21 at h
  show V yX11_advance cX11_advance none 5 61 (0, 0) 0 [some (.ref 0), some (.ref 21), some (.int p2), some (.int p3), none, none] [] (xof s0 [W_0, W_2 o2, W_3 a3, W_4 o4, W_6 a6, W_7 a7, W_21 o21, W_22 a22, W_23 a23, W_24 o24 j24, W_25 j25, W_26 a26]) _
  refine x_aload_n dX11_advance_0 rfl ?_
  refine g_X11_24 rfl dX11_advance_1 (by decide) rfl rfl ?_
  refine g_X11_125 rfl dX11_advance_4 (by decide) rfl rfl ?_
  refine x_istore (ls' := [_, _, _, _, _, _]) dX11_advance_7 rfl rfl ?_
  obtain ⟨u6, hu6, h⟩ := Option.bind_eq_some_iff.mp h
  show V yX11_advance cX11_advance none 5 61 (0, 0) 9 [some (.ref 0), some (.ref 21), some (.int p2), some (.int p3), some (.int ((o2 2))), none] [] (xof s0 [W_0, W_2 o2, W_3 a3, W_4 o4, W_6 a6, W_7 a7, W_21 o21, W_22 a22, W_23 a23, W_24 o24 j24, W_25 j25, W_26 a26]) _
  refine lv_X11_advance_0_21_9 s0 _ o2 a3 o4 a6 a7 a22 p2 p3 _ n ((o2 2)) o21 a23 o24 j24 j25 a26 _ hu6 ?_
  cases h
  exact x_vret dX11_advance_55 ⟨rfl, rfl, rfl⟩
def f_X11_look_0 (n : Nat) (a1 : Nat → Int32) (o2 : Nat → Int32) (a3 : Nat → Int32) (o4 : Nat → Int32) (a6 : Nat → Int32) (a7 : Nat → Int32) (o16 : Nat → Int32) (a17 : Nat → Int32) (o18 : Nat → Int32) (j18 : Int64) (j19 : Int64) (a20 : Nat → Int32) (o21 : Nat → Int32) (a22 : Nat → Int32) (a23 : Nat → Int32) (o24 : Nat → Int32) (j24 : Int64) (j25 : Int64) (a26 : Nat → Int32) (p1 : Int32) : Option (((Int32) × (Nat → Int32) × (Nat → Int32) × (Nat → Int32) × (Nat → Int32) × (Int64) × (Int64) × (Nat → Int32))) := (Option.bind (f_X11_isWithin p1 0 9600) (fun q1 => (if q1 = 0 then (some ((-3), o21, a22, a23, o24, j24, j25, a26)) else (Option.bind (f_X6_mirror_21_16 a1 o16 a17 o18 j18 j19 a20 o21 a22 a23 o24 j24 j25 a26) (fun q3 => (Option.bind (f_X11_endOf_0 o2 p1) (fun q4 => (Option.bind (f_X11_advance_0_21 n o2 a3 o4 a6 a7 q3.1 q3.2.1 q3.2.2.1 q3.2.2.2.1 q3.2.2.2.2.1 q3.2.2.2.2.2.1 q3.2.2.2.2.2.2 q4 ((-1))) (fun q5 => (some ((q5.1 7), q5.1, q3.2.1, q5.2.1, q5.2.2.1, q5.2.2.2.1, q5.2.2.2.2.1, q5.2.2.2.2.2)))))))))))
set_option maxRecDepth 100000 in
set_option maxHeartbeats 400000 in
theorem v_X11_look_0 (s0 : XW) (n : Nat) (a1 : Nat → Int32) (o2 : Nat → Int32) (a3 : Nat → Int32) (o4 : Nat → Int32) (a6 : Nat → Int32) (a7 : Nat → Int32) (o16 : Nat → Int32) (a17 : Nat → Int32) (o18 : Nat → Int32) (j18 : Int64) (j19 : Int64) (a20 : Nat → Int32) (o21 : Nat → Int32) (a22 : Nat → Int32) (a23 : Nat → Int32) (o24 : Nat → Int32) (j24 : Int64) (j25 : Int64) (a26 : Nat → Int32) (p1 : Int32) (q : ((Int32) × (Nat → Int32) × (Nat → Int32) × (Nat → Int32) × (Nat → Int32) × (Int64) × (Int64) × (Nat → Int32))) (h : f_X11_look_0 n a1 o2 a3 o4 a6 a7 o16 a17 o18 j18 j19 a20 o21 a22 a23 o24 j24 j25 a26 p1 = some q) : C_X11_look 6 61 [.ref 0, .int p1] (xof s0 [W_0, W_1 a1, W_2 o2, W_3 a3, W_4 o4, W_6 a6, W_7 a7, W_16 o16, W_17 a17, W_18 o18 j18, W_19 j19, W_20 a20, W_21 o21, W_22 a22, W_23 a23, W_24 o24 j24, W_25 j25, W_26 a26]) (some (.int q.1)) (xof s0 [W_0, W_1 a1, W_2 o2, W_3 a3, W_4 o4, W_6 a6, W_7 a7, W_16 o16, W_17 a17, W_18 o18 j18, W_19 j19, W_20 a20, W_21 q.2.1, W_22 q.2.2.1, W_23 q.2.2.2.1, W_24 q.2.2.2.2.1 q.2.2.2.2.2.1, W_25 q.2.2.2.2.2.2.1, W_26 q.2.2.2.2.2.2.2]) := by
  unfold f_X11_look_0 at h
  show V yX11_look cX11_look (some .int) 6 61 (0, 0) 0 [some (.ref 0), some (.int p1)] [] (xof s0 [W_0, W_1 a1, W_2 o2, W_3 a3, W_4 o4, W_6 a6, W_7 a7, W_16 o16, W_17 a17, W_18 o18 j18, W_19 j19, W_20 a20, W_21 o21, W_22 a22, W_23 a23, W_24 o24 j24, W_25 j25, W_26 a26]) _
  refine x_iload_n dX11_look_0 rfl ?_
  refine x_iconst (v := 0) dX11_look_1 (by decide) ?_
  refine x_sipush (v := 9600) dX11_look_2 (by decide) ?_
  obtain ⟨q1, hq1, h⟩ := Option.bind_eq_some_iff.mp h
  refine y_callSi (L' := [(0, _), (1, _), (2, _), (3, _), (4, _), (6, _), (7, _), (16, _), (17, _), (18, _), (19, _), (20, _), (21, _), (22, _), (23, _), (24, _), (25, _), (26, _)]) mi_X11_isWithin ml_X11_100 st_X11_isWithin dX11_look_5 (fun s1 => v_X11_isWithin 61 s1 _ _ _ q1 hq1) (Nat.le_of_ble_eq_true rfl) rfl (by decide) (Nat.le_of_ble_eq_true rfl) rfl rfl rfl rfl ?_
  refine x_if_ne (tgt := 14) dX11_look_8 (by decide) (fun c2 => ?_) (fun c2 => ?_)
  · replace h := xif_n c2 h
    refine x_aload_n dX11_look_14 rfl ?_
    refine g_X11_51 rfl dX11_look_15 (by decide) rfl rfl ?_
    refine x_aload_n dX11_look_18 rfl ?_
    refine g_X11_47 rfl dX11_look_19 (by decide) rfl rfl ?_
    obtain ⟨q3, hq3, h⟩ := Option.bind_eq_some_iff.mp h
    refine y_callVv (L' := [(0, _), (1, _), (2, _), (3, _), (4, _), (6, _), (7, _), (16, _), (17, _), (18, _), (19, _), (20, _), (21, _), (22, _), (23, _), (24, _), (25, _), (26, _)]) mi_X6_mirror ml_X11_267 im_X6_mirror se_X6_mirror (rfl : vwCl[5]? = _) dX11_look_22 (fun s1 => v_X6_mirror_21_16 s1 _ _ _ _ _ _ _ _ _ _ _ _ _ _ q3 hq3) (by decide) rfl (Nat.le_of_ble_eq_true rfl) rfl (by decide) (Nat.le_of_ble_eq_true rfl) rfl rfl rfl rfl ?_
    refine x_aload_n dX11_look_25 rfl ?_
    refine x_aload_n dX11_look_26 rfl ?_
    refine g_X11_51 rfl dX11_look_27 (by decide) rfl rfl ?_
    refine x_aload_n dX11_look_30 rfl ?_
    refine x_iload_n dX11_look_31 rfl ?_
    obtain ⟨q4, hq4, h⟩ := Option.bind_eq_some_iff.mp h
    refine y_callVi (L' := [(0, _), (1, _), (2, _), (3, _), (4, _), (6, _), (7, _), (16, _), (17, _), (18, _), (19, _), (20, _), (21, _), (22, _), (23, _), (24, _), (25, _), (26, _)]) mi_X11_endOf ml_X11_161 im_X11_endOf se_X11_endOf (rfl : vwCl[10]? = _) dX11_look_32 (fun s1 => v_X11_endOf_0 s1 _ _ q4 hq4) (by decide) rfl (Nat.le_of_ble_eq_true rfl) rfl (by decide) (Nat.le_of_ble_eq_true rfl) rfl rfl rfl rfl ?_
    refine x_iconst (v := -1) dX11_look_35 (by decide) ?_
    obtain ⟨q5, hq5, h⟩ := Option.bind_eq_some_iff.mp h
    refine y_callVv (L' := [(0, _), (1, _), (2, _), (3, _), (4, _), (6, _), (7, _), (16, _), (17, _), (18, _), (19, _), (20, _), (21, _), (22, _), (23, _), (24, _), (25, _), (26, _)]) mi_X11_advance ml_X11_164 im_X11_advance se_X11_advance (rfl : vwCl[10]? = _) dX11_look_36 (fun s1 => v_X11_advance_0_21 s1 n _ _ _ _ _ _ _ _ _ _ _ _ _ _ q5 hq5) (by decide) rfl (Nat.le_of_ble_eq_true rfl) rfl (by decide) (Nat.le_of_ble_eq_true rfl) rfl rfl rfl rfl ?_
    refine x_aload_n dX11_look_39 rfl ?_
    refine g_X11_51 rfl dX11_look_40 (by decide) rfl rfl ?_
    refine g_X11_168 rfl dX11_look_43 (by decide) rfl rfl ?_
    cases h
    exact x_iret dX11_look_46 ⟨rfl, rfl, rfl⟩
  · replace h := xif_p c2 h
    refine x_bipush (v := -3) dX11_look_11 (by decide) ?_
    cases h
    exact x_iret dX11_look_13 ⟨rfl, rfl, rfl⟩
def l_X11_until_0_44 (n : Nat) (a1 : Nat → Int32) (o2 : Nat → Int32) (a3 : Nat → Int32) (o4 : Nat → Int32) (a6 : Nat → Int32) (a7 : Nat → Int32) (o16 : Nat → Int32) (a17 : Nat → Int32) (o18 : Nat → Int32) (j18 : Int64) (j19 : Int64) (a20 : Nat → Int32) (a22 : Nat → Int32) (l1 : Int32) : Nat → (Int32) → (Nat → Int32) → (Nat → Int32) → (Nat → Int32) → (Int64) → (Int64) → (Nat → Int32) → Option ((((Int32) × (Nat → Int32) × (Nat → Int32) × (Nat → Int32) × (Nat → Int32) × (Int64) × (Int64) × (Nat → Int32))) ⊕ (((Int32) × (Nat → Int32) × (Nat → Int32) × (Nat → Int32) × (Int64) × (Int64) × (Nat → Int32))))
  | 0, _, _, _, _, _, _, _ => none
  | k + 1, l2, o21, a23, o24, j24, j25, a26 => (if (o2 1) ≤ l2 then (some (Sum.inr (l2, o21, a23, o24, j24, j25, a26))) else (Option.bind (f_X4_bitAt_2 o2 a3 l2) (fun q6 => (Option.bind (f_X6_receive_21 n o4 a6 a7 o21 a22 a23 o24 j24 j25 a26 q6 ((l2 + 1))) (fun q7 => (if (q7.1 7) = l1 then (some (Sum.inl (((l2 + 1) - (o2 2)), q7.1, a22, q7.2.1, q7.2.2.1, q7.2.2.2.1, q7.2.2.2.2.1, q7.2.2.2.2.2))) else (l_X11_until_0_44 n a1 o2 a3 o4 a6 a7 o16 a17 o18 j18 j19 a20 a22 l1 k ((l2 + 1)) q7.1 q7.2.1 q7.2.2.1 q7.2.2.2.1 q7.2.2.2.2.1 q7.2.2.2.2.2)))))))
set_option maxRecDepth 100000 in
set_option maxHeartbeats 400000 in
theorem lv_X11_until_0_44 (s0 : XW) (n : Nat) (a1 : Nat → Int32) (o2 : Nat → Int32) (a3 : Nat → Int32) (o4 : Nat → Int32) (a6 : Nat → Int32) (a7 : Nat → Int32) (o16 : Nat → Int32) (a17 : Nat → Int32) (o18 : Nat → Int32) (j18 : Int64) (j19 : Int64) (a20 : Nat → Int32) (a22 : Nat → Int32) (l1 : Int32) (Q : Nat → Option Value → XW → Prop) : ∀ (k : Nat) (l2 : Int32) (o21 : Nat → Int32) (a23 : Nat → Int32) (o24 : Nat → Int32) (j24 : Int64) (j25 : Int64) (a26 : Nat → Int32) (o : (((Int32) × (Nat → Int32) × (Nat → Int32) × (Nat → Int32) × (Nat → Int32) × (Int64) × (Int64) × (Nat → Int32))) ⊕ (((Int32) × (Nat → Int32) × (Nat → Int32) × (Nat → Int32) × (Int64) × (Int64) × (Nat → Int32)))), l_X11_until_0_44 n a1 o2 a3 o4 a6 a7 o16 a17 o18 j18 j19 a20 a22 l1 k l2 o21 a23 o24 j24 j25 a26 = some o → ((∀ z, o = Sum.inl z → Q 61 (some (.int z.1)) (xof s0 [W_0, W_1 a1, W_2 o2, W_3 a3, W_4 o4, W_6 a6, W_7 a7, W_16 o16, W_17 a17, W_18 o18 j18, W_19 j19, W_20 a20, W_21 z.2.1, W_22 z.2.2.1, W_23 z.2.2.2.1, W_24 z.2.2.2.2.1 z.2.2.2.2.2.1, W_25 z.2.2.2.2.2.2.1, W_26 z.2.2.2.2.2.2.2])) ∧ (∀ z, o = Sum.inr z → V yX11_until cX11_until (some .int) 5 61 (0, 0) 102 [none, none, none] [] (xof s0 [W_0, W_1 a1, W_2 o2, W_3 a3, W_4 o4, W_6 a6, W_7 a7, W_16 o16, W_17 a17, W_18 o18 j18, W_19 j19, W_20 a20, W_21 z.2.1, W_22 a22, W_23 z.2.2.1, W_24 z.2.2.2.1 z.2.2.2.2.1, W_25 z.2.2.2.2.2.1, W_26 z.2.2.2.2.2.2]) Q)) → V yX11_until cX11_until (some .int) 5 61 (0, 0) 44 [some (.ref 0), some (.int l1), some (.int l2)] [] (xof s0 [W_0, W_1 a1, W_2 o2, W_3 a3, W_4 o4, W_6 a6, W_7 a7, W_16 o16, W_17 a17, W_18 o18 j18, W_19 j19, W_20 a20, W_21 o21, W_22 a22, W_23 a23, W_24 o24 j24, W_25 j25, W_26 a26]) Q := by
  intro k
  induction k with
  | zero =>
    intro _ _ _ _ _ _ _ _ h
    simp [l_X11_until_0_44] at h
  | succ k ih =>
    intro l2 o21 a23 o24 j24 j25 a26 o h hk
    rw [l_X11_until_0_44] at h
    refine x_iload_n dX11_until_44 rfl ?_
    refine x_aload_n dX11_until_45 rfl ?_
    refine g_X11_24 rfl dX11_until_46 (by decide) rfl rfl ?_
    refine g_X11_96 rfl dX11_until_49 (by decide) rfl rfl ?_
    refine x_icmp_ge (tgt := 102) dX11_until_52 (by decide) (fun c5 => ?_) (fun c5 => ?_)
    · replace h := xif_p c5 h
      refine V.drop1 (i := 0) (ls' := [_, _, _]) rfl ?_
      refine V.drop1 (i := 1) (ls' := [_, _, _]) rfl ?_
      refine V.drop1 (i := 2) (ls' := [_, _, _]) rfl ?_
      show V yX11_until cX11_until (some .int) 5 61 (0, 0) 102 [none, none, none] [] (xof s0 [W_0, W_1 a1, W_2 o2, W_3 a3, W_4 o4, W_6 a6, W_7 a7, W_16 o16, W_17 a17, W_18 o18 j18, W_19 j19, W_20 a20, W_21 o21, W_22 a22, W_23 a23, W_24 o24 j24, W_25 j25, W_26 a26]) _
      cases h
      exact hk.2 (l2, o21, a23, o24, j24, j25, a26) rfl
    · replace h := xif_n c5 h
      refine x_aload_n dX11_until_55 rfl ?_
      refine g_X11_51 rfl dX11_until_56 (by decide) rfl rfl ?_
      refine x_aload_n dX11_until_59 rfl ?_
      refine g_X11_24 rfl dX11_until_60 (by decide) rfl rfl ?_
      refine x_iload_n dX11_until_63 rfl ?_
      obtain ⟨q6, hq6, h⟩ := Option.bind_eq_some_iff.mp h
      refine y_callVi (L' := [(0, _), (1, _), (2, _), (3, _), (4, _), (6, _), (7, _), (16, _), (17, _), (18, _), (19, _), (20, _), (21, _), (22, _), (23, _), (24, _), (25, _), (26, _)]) mi_X4_bitAt ml_X11_131 im_X4_bitAt se_X4_bitAt (rfl : vwCl[3]? = _) dX11_until_64 (fun s1 => v_X4_bitAt_2 s1 _ _ _ q6 hq6) (by decide) rfl (Nat.le_of_ble_eq_true rfl) rfl (by decide) (Nat.le_of_ble_eq_true rfl) rfl rfl rfl rfl ?_
      refine x_iload_n dX11_until_67 rfl ?_
      refine x_iconst (v := 1) dX11_until_68 (by decide) ?_
      refine x_iadd dX11_until_69 ?_
      obtain ⟨q7, hq7, h⟩ := Option.bind_eq_some_iff.mp h
      refine y_callVv (L' := [(0, _), (1, _), (2, _), (3, _), (4, _), (6, _), (7, _), (16, _), (17, _), (18, _), (19, _), (20, _), (21, _), (22, _), (23, _), (24, _), (25, _), (26, _)]) mi_X6_receive ml_X11_271 im_X6_receive se_X6_receive (rfl : vwCl[5]? = _) dX11_until_70 (fun s1 => v_X6_receive_21 s1 n _ _ _ _ _ _ _ _ _ _ _ _ q7 hq7) (by decide) rfl (Nat.le_of_ble_eq_true rfl) rfl (by decide) (Nat.le_of_ble_eq_true rfl) rfl rfl rfl rfl ?_
      refine x_aload_n dX11_until_73 rfl ?_
      refine g_X11_51 rfl dX11_until_74 (by decide) rfl rfl ?_
      refine g_X11_168 rfl dX11_until_77 (by decide) rfl rfl ?_
      refine x_iload_n dX11_until_80 rfl ?_
      refine x_icmp_ne (tgt := 96) dX11_until_81 (by decide) (fun c8 => ?_) (fun c8 => ?_)
      · replace h := xif_n c8 h
        refine x_iinc (v := l2 + 1) (ls' := [_, _, _]) dX11_until_96 rfl rfl rfl rfl ?_
        refine x_goto (tgt := 44) dX11_until_99 (by decide) ?_
        show V yX11_until cX11_until (some .int) 5 61 (0, 0) 44 [some (.ref 0), some (.int l1), some (.int ((l2 + 1)))] [] (xof s0 [W_0, W_1 a1, W_2 o2, W_3 a3, W_4 o4, W_6 a6, W_7 a7, W_16 o16, W_17 a17, W_18 o18 j18, W_19 j19, W_20 a20, W_21 q7.1, W_22 a22, W_23 q7.2.1, W_24 q7.2.2.1 q7.2.2.2.1, W_25 q7.2.2.2.2.1, W_26 q7.2.2.2.2.2]) _
        exact ih ((l2 + 1)) q7.1 q7.2.1 q7.2.2.1 q7.2.2.2.1 q7.2.2.2.2.1 q7.2.2.2.2.2 _ h hk
      · replace h := xif_p c8 h
        refine x_iload_n dX11_until_84 rfl ?_
        refine x_iconst (v := 1) dX11_until_85 (by decide) ?_
        refine x_iadd dX11_until_86 ?_
        refine x_aload_n dX11_until_87 rfl ?_
        refine g_X11_24 rfl dX11_until_88 (by decide) rfl rfl ?_
        refine g_X11_125 rfl dX11_until_91 (by decide) rfl rfl ?_
        refine x_isub dX11_until_94 ?_
        cases h
        exact x_iret dX11_until_95 (hk.1 (((l2 + 1) - (o2 2)), q7.1, a22, q7.2.1, q7.2.2.1, q7.2.2.2.1, q7.2.2.2.2.1, q7.2.2.2.2.2) rfl)
def f_X11_until_0 (n : Nat) (a1 : Nat → Int32) (o2 : Nat → Int32) (a3 : Nat → Int32) (o4 : Nat → Int32) (a6 : Nat → Int32) (a7 : Nat → Int32) (o16 : Nat → Int32) (a17 : Nat → Int32) (o18 : Nat → Int32) (j18 : Int64) (j19 : Int64) (a20 : Nat → Int32) (o21 : Nat → Int32) (a22 : Nat → Int32) (a23 : Nat → Int32) (o24 : Nat → Int32) (j24 : Int64) (j25 : Int64) (a26 : Nat → Int32) (p1 : Int32) : Option (((Int32) × (Nat → Int32) × (Nat → Int32) × (Nat → Int32) × (Nat → Int32) × (Int64) × (Int64) × (Nat → Int32))) := (Option.bind (f_X11_isWithin p1 0 2) (fun q1 => (if q1 = 0 then (some ((-3), o21, a22, a23, o24, j24, j25, a26)) else (if (o16 7) = p1 then (some (0, o21, a22, a23, o24, j24, j25, a26)) else (Option.bind (f_X6_mirror_21_16 a1 o16 a17 o18 j18 j19 a20 o21 a22 a23 o24 j24 j25 a26) (fun q4 => (Option.bind (l_X11_until_0_44 n a1 o2 a3 o4 a6 a7 o16 a17 o18 j18 j19 a20 q4.2.1 p1 n ((o2 2)) q4.1 q4.2.2.1 q4.2.2.2.1 q4.2.2.2.2.1 q4.2.2.2.2.2.1 q4.2.2.2.2.2.2) (fun u9 => Sum.elim (fun z10 => some z10) (fun z10 => (some ((-1), z10.2.1, q4.2.1, z10.2.2.1, z10.2.2.2.1, z10.2.2.2.2.1, z10.2.2.2.2.2.1, z10.2.2.2.2.2.2))) u9))))))))
set_option maxRecDepth 100000 in
set_option maxHeartbeats 400000 in
theorem v_X11_until_0 (s0 : XW) (n : Nat) (a1 : Nat → Int32) (o2 : Nat → Int32) (a3 : Nat → Int32) (o4 : Nat → Int32) (a6 : Nat → Int32) (a7 : Nat → Int32) (o16 : Nat → Int32) (a17 : Nat → Int32) (o18 : Nat → Int32) (j18 : Int64) (j19 : Int64) (a20 : Nat → Int32) (o21 : Nat → Int32) (a22 : Nat → Int32) (a23 : Nat → Int32) (o24 : Nat → Int32) (j24 : Int64) (j25 : Int64) (a26 : Nat → Int32) (p1 : Int32) (q : ((Int32) × (Nat → Int32) × (Nat → Int32) × (Nat → Int32) × (Nat → Int32) × (Int64) × (Int64) × (Nat → Int32))) (h : f_X11_until_0 n a1 o2 a3 o4 a6 a7 o16 a17 o18 j18 j19 a20 o21 a22 a23 o24 j24 j25 a26 p1 = some q) : C_X11_until 5 61 [.ref 0, .int p1] (xof s0 [W_0, W_1 a1, W_2 o2, W_3 a3, W_4 o4, W_6 a6, W_7 a7, W_16 o16, W_17 a17, W_18 o18 j18, W_19 j19, W_20 a20, W_21 o21, W_22 a22, W_23 a23, W_24 o24 j24, W_25 j25, W_26 a26]) (some (.int q.1)) (xof s0 [W_0, W_1 a1, W_2 o2, W_3 a3, W_4 o4, W_6 a6, W_7 a7, W_16 o16, W_17 a17, W_18 o18 j18, W_19 j19, W_20 a20, W_21 q.2.1, W_22 q.2.2.1, W_23 q.2.2.2.1, W_24 q.2.2.2.2.1 q.2.2.2.2.2.1, W_25 q.2.2.2.2.2.2.1, W_26 q.2.2.2.2.2.2.2]) := by
  unfold f_X11_until_0 at h
  show V yX11_until cX11_until (some .int) 5 61 (0, 0) 0 [some (.ref 0), some (.int p1), none] [] (xof s0 [W_0, W_1 a1, W_2 o2, W_3 a3, W_4 o4, W_6 a6, W_7 a7, W_16 o16, W_17 a17, W_18 o18 j18, W_19 j19, W_20 a20, W_21 o21, W_22 a22, W_23 a23, W_24 o24 j24, W_25 j25, W_26 a26]) _
  refine x_iload_n dX11_until_0 rfl ?_
  refine x_iconst (v := 0) dX11_until_1 (by decide) ?_
  refine x_iconst (v := 2) dX11_until_2 (by decide) ?_
  obtain ⟨q1, hq1, h⟩ := Option.bind_eq_some_iff.mp h
  refine y_callSi (L' := [(0, _), (1, _), (2, _), (3, _), (4, _), (6, _), (7, _), (16, _), (17, _), (18, _), (19, _), (20, _), (21, _), (22, _), (23, _), (24, _), (25, _), (26, _)]) mi_X11_isWithin ml_X11_100 st_X11_isWithin dX11_until_3 (fun s1 => v_X11_isWithin 61 s1 _ _ _ q1 hq1) (Nat.le_of_ble_eq_true rfl) rfl (by decide) (Nat.le_of_ble_eq_true rfl) rfl rfl rfl rfl ?_
  refine x_if_ne (tgt := 12) dX11_until_6 (by decide) (fun c2 => ?_) (fun c2 => ?_)
  · replace h := xif_n c2 h
    refine x_aload_n dX11_until_12 rfl ?_
    refine g_X11_47 rfl dX11_until_13 (by decide) rfl rfl ?_
    refine g_X11_168 rfl dX11_until_16 (by decide) rfl rfl ?_
    refine x_iload_n dX11_until_19 rfl ?_
    refine x_icmp_ne (tgt := 25) dX11_until_20 (by decide) (fun c3 => ?_) (fun c3 => ?_)
    · replace h := xif_n c3 h
      refine x_aload_n dX11_until_25 rfl ?_
      refine g_X11_51 rfl dX11_until_26 (by decide) rfl rfl ?_
      refine x_aload_n dX11_until_29 rfl ?_
      refine g_X11_47 rfl dX11_until_30 (by decide) rfl rfl ?_
      obtain ⟨q4, hq4, h⟩ := Option.bind_eq_some_iff.mp h
      refine y_callVv (L' := [(0, _), (1, _), (2, _), (3, _), (4, _), (6, _), (7, _), (16, _), (17, _), (18, _), (19, _), (20, _), (21, _), (22, _), (23, _), (24, _), (25, _), (26, _)]) mi_X6_mirror ml_X11_267 im_X6_mirror se_X6_mirror (rfl : vwCl[5]? = _) dX11_until_33 (fun s1 => v_X6_mirror_21_16 s1 _ _ _ _ _ _ _ _ _ _ _ _ _ _ q4 hq4) (by decide) rfl (Nat.le_of_ble_eq_true rfl) rfl (by decide) (Nat.le_of_ble_eq_true rfl) rfl rfl rfl rfl ?_
      refine x_aload_n dX11_until_36 rfl ?_
      refine g_X11_24 rfl dX11_until_37 (by decide) rfl rfl ?_
      refine g_X11_125 rfl dX11_until_40 (by decide) rfl rfl ?_
      refine x_istore_n (ls' := [_, _, _]) dX11_until_43 rfl rfl ?_
      obtain ⟨u9, hu9, h⟩ := Option.bind_eq_some_iff.mp h
      show V yX11_until cX11_until (some .int) 5 61 (0, 0) 44 [some (.ref 0), some (.int p1), some (.int ((o2 2)))] [] (xof s0 [W_0, W_1 a1, W_2 o2, W_3 a3, W_4 o4, W_6 a6, W_7 a7, W_16 o16, W_17 a17, W_18 o18 j18, W_19 j19, W_20 a20, W_21 q4.1, W_22 q4.2.1, W_23 q4.2.2.1, W_24 q4.2.2.2.1 q4.2.2.2.2.1, W_25 q4.2.2.2.2.2.1, W_26 q4.2.2.2.2.2.2]) _
      refine lv_X11_until_0_44 s0 _ a1 o2 a3 o4 a6 a7 o16 a17 o18 j18 j19 a20 q4.2.1 p1 _ n ((o2 2)) q4.1 q4.2.2.1 q4.2.2.2.1 q4.2.2.2.2.1 q4.2.2.2.2.2.1 q4.2.2.2.2.2.2 _ hu9 ⟨fun z10 hz => ?_, fun z10 hz => ?_⟩
      · subst hz
        replace h := xsl h
        cases h
        exact ⟨rfl, rfl, rfl⟩
      subst hz
      replace h := xsr h
      refine x_iconst (v := -1) dX11_until_102 (by decide) ?_
      cases h
      exact x_iret dX11_until_103 ⟨rfl, rfl, rfl⟩
    · replace h := xif_p c3 h
      refine x_iconst (v := 0) dX11_until_23 (by decide) ?_
      cases h
      exact x_iret dX11_until_24 ⟨rfl, rfl, rfl⟩
  · replace h := xif_p c2 h
    refine x_bipush (v := -3) dX11_until_9 (by decide) ?_
    cases h
    exact x_iret dX11_until_11 ⟨rfl, rfl, rfl⟩
def f_X11_would_0 (n : Nat) (a1 : Nat → Int32) (o2 : Nat → Int32) (a3 : Nat → Int32) (o4 : Nat → Int32) (a6 : Nat → Int32) (a7 : Nat → Int32) (o16 : Nat → Int32) (a17 : Nat → Int32) (o18 : Nat → Int32) (j18 : Int64) (j19 : Int64) (a20 : Nat → Int32) (o21 : Nat → Int32) (a22 : Nat → Int32) (a23 : Nat → Int32) (o24 : Nat → Int32) (j24 : Int64) (j25 : Int64) (a26 : Nat → Int32) (p1 : Int32) (p2 : Int32) : Option (((Int32) × (Nat → Int32) × (Nat → Int32) × (Nat → Int32) × (Nat → Int32) × (Int64) × (Int64) × (Nat → Int32))) := (Option.bind (f_X4_has_2 o2 a3 p1) (fun q1 => (if q1 = 0 then (some ((-2), o21, a22, a23, o24, j24, j25, a26)) else (Option.bind (f_X11_isWithin p2 0 5) (fun q3 => (if q3 = 0 then (some ((-2), o21, a22, a23, o24, j24, j25, a26)) else (if (o2 2) ≤ p1 then (Option.bind (f_X6_mirror_21_16 a1 o16 a17 o18 j18 j19 a20 o21 a22 a23 o24 j24 j25 a26) (fun q6 => (Option.bind (f_X11_advance_0_21 n o2 a3 o4 a6 a7 q6.1 q6.2.1 q6.2.2.1 q6.2.2.2.1 q6.2.2.2.2.1 q6.2.2.2.2.2.1 q6.2.2.2.2.2.2 ((o2 1)) p1) (fun q7 => (if p2 = 0 then (some ((q7.2.1 3), q7.1, q6.2.1, q7.2.1, q7.2.2.1, q7.2.2.2.1, q7.2.2.2.2.1, q7.2.2.2.2.2)) else (if p2 = 1 then (some ((q7.2.1 1), q7.1, q6.2.1, q7.2.1, q7.2.2.1, q7.2.2.2.1, q7.2.2.2.2.1, q7.2.2.2.2.2)) else (if p2 = 2 then (some ((q7.2.1 2), q7.1, q6.2.1, q7.2.1, q7.2.2.1, q7.2.2.2.1, q7.2.2.2.2.1, q7.2.2.2.2.2)) else (if p2 = 3 then (some ((q7.2.1 5), q7.1, q6.2.1, q7.2.1, q7.2.2.1, q7.2.2.2.1, q7.2.2.2.2.1, q7.2.2.2.2.2)) else (if p2 = 4 then (some ((q7.1 7), q7.1, q6.2.1, q7.2.1, q7.2.2.1, q7.2.2.2.1, q7.2.2.2.2.1, q7.2.2.2.2.2)) else (some ((q7.2.1 9), q7.1, q6.2.1, q7.2.1, q7.2.2.1, q7.2.2.2.1, q7.2.2.2.2.1, q7.2.2.2.2.2))))))))))) else (some ((-5), o21, a22, a23, o24, j24, j25, a26)))))))))
set_option maxRecDepth 100000 in
set_option maxHeartbeats 400000 in
theorem v_X11_would_0 (s0 : XW) (n : Nat) (a1 : Nat → Int32) (o2 : Nat → Int32) (a3 : Nat → Int32) (o4 : Nat → Int32) (a6 : Nat → Int32) (a7 : Nat → Int32) (o16 : Nat → Int32) (a17 : Nat → Int32) (o18 : Nat → Int32) (j18 : Int64) (j19 : Int64) (a20 : Nat → Int32) (o21 : Nat → Int32) (a22 : Nat → Int32) (a23 : Nat → Int32) (o24 : Nat → Int32) (j24 : Int64) (j25 : Int64) (a26 : Nat → Int32) (p1 : Int32) (p2 : Int32) (q : ((Int32) × (Nat → Int32) × (Nat → Int32) × (Nat → Int32) × (Nat → Int32) × (Int64) × (Int64) × (Nat → Int32))) (h : f_X11_would_0 n a1 o2 a3 o4 a6 a7 o16 a17 o18 j18 j19 a20 o21 a22 a23 o24 j24 j25 a26 p1 p2 = some q) : C_X11_would 6 61 [.ref 0, .int p1, .int p2] (xof s0 [W_0, W_1 a1, W_2 o2, W_3 a3, W_4 o4, W_6 a6, W_7 a7, W_16 o16, W_17 a17, W_18 o18 j18, W_19 j19, W_20 a20, W_21 o21, W_22 a22, W_23 a23, W_24 o24 j24, W_25 j25, W_26 a26]) (some (.int q.1)) (xof s0 [W_0, W_1 a1, W_2 o2, W_3 a3, W_4 o4, W_6 a6, W_7 a7, W_16 o16, W_17 a17, W_18 o18 j18, W_19 j19, W_20 a20, W_21 q.2.1, W_22 q.2.2.1, W_23 q.2.2.2.1, W_24 q.2.2.2.2.1 q.2.2.2.2.2.1, W_25 q.2.2.2.2.2.2.1, W_26 q.2.2.2.2.2.2.2]) := by
  unfold f_X11_would_0 at h
  show V yX11_would cX11_would (some .int) 6 61 (0, 0) 0 [some (.ref 0), some (.int p1), some (.int p2)] [] (xof s0 [W_0, W_1 a1, W_2 o2, W_3 a3, W_4 o4, W_6 a6, W_7 a7, W_16 o16, W_17 a17, W_18 o18 j18, W_19 j19, W_20 a20, W_21 o21, W_22 a22, W_23 a23, W_24 o24 j24, W_25 j25, W_26 a26]) _
  refine x_aload_n dX11_would_0 rfl ?_
  refine g_X11_24 rfl dX11_would_1 (by decide) rfl rfl ?_
  refine x_iload_n dX11_would_4 rfl ?_
  obtain ⟨q1, hq1, h⟩ := Option.bind_eq_some_iff.mp h
  refine y_callVi (L' := [(0, _), (1, _), (2, _), (3, _), (4, _), (6, _), (7, _), (16, _), (17, _), (18, _), (19, _), (20, _), (21, _), (22, _), (23, _), (24, _), (25, _), (26, _)]) mi_X4_has ml_X11_122 im_X4_has se_X4_has (rfl : vwCl[3]? = _) dX11_would_5 (fun s1 => v_X4_has_2 s1 _ _ _ q1 hq1) (by decide) rfl (Nat.le_of_ble_eq_true rfl) rfl (by decide) (Nat.le_of_ble_eq_true rfl) rfl rfl rfl rfl ?_
  refine x_if_eq (tgt := 20) dX11_would_8 (by decide) (fun c2 => ?_) (fun c2 => ?_)
  · replace h := xif_p c2 h
    refine x_bipush (v := -2) dX11_would_20 (by decide) ?_
    cases h
    exact x_iret dX11_would_22 ⟨rfl, rfl, rfl⟩
  · replace h := xif_n c2 h
    refine x_iload_n dX11_would_11 rfl ?_
    refine x_iconst (v := 0) dX11_would_12 (by decide) ?_
    refine x_iconst (v := 5) dX11_would_13 (by decide) ?_
    obtain ⟨q3, hq3, h⟩ := Option.bind_eq_some_iff.mp h
    refine y_callSi (L' := [(0, _), (1, _), (2, _), (3, _), (4, _), (6, _), (7, _), (16, _), (17, _), (18, _), (19, _), (20, _), (21, _), (22, _), (23, _), (24, _), (25, _), (26, _)]) mi_X11_isWithin ml_X11_100 st_X11_isWithin dX11_would_14 (fun s1 => v_X11_isWithin 61 s1 _ _ _ q3 hq3) (Nat.le_of_ble_eq_true rfl) rfl (by decide) (Nat.le_of_ble_eq_true rfl) rfl rfl rfl rfl ?_
    refine x_if_ne (tgt := 23) dX11_would_17 (by decide) (fun c4 => ?_) (fun c4 => ?_)
    · replace h := xif_n c4 h
      refine x_iload_n dX11_would_23 rfl ?_
      refine x_aload_n dX11_would_24 rfl ?_
      refine g_X11_24 rfl dX11_would_25 (by decide) rfl rfl ?_
      refine g_X11_125 rfl dX11_would_28 (by decide) rfl rfl ?_
      refine x_icmp_ge (tgt := 37) dX11_would_31 (by decide) (fun c5 => ?_) (fun c5 => ?_)
      · replace h := xif_p c5 h
        refine x_aload_n dX11_would_37 rfl ?_
        refine g_X11_51 rfl dX11_would_38 (by decide) rfl rfl ?_
        refine x_aload_n dX11_would_41 rfl ?_
        refine g_X11_47 rfl dX11_would_42 (by decide) rfl rfl ?_
        obtain ⟨q6, hq6, h⟩ := Option.bind_eq_some_iff.mp h
        refine y_callVv (L' := [(0, _), (1, _), (2, _), (3, _), (4, _), (6, _), (7, _), (16, _), (17, _), (18, _), (19, _), (20, _), (21, _), (22, _), (23, _), (24, _), (25, _), (26, _)]) mi_X6_mirror ml_X11_267 im_X6_mirror se_X6_mirror (rfl : vwCl[5]? = _) dX11_would_45 (fun s1 => v_X6_mirror_21_16 s1 _ _ _ _ _ _ _ _ _ _ _ _ _ _ q6 hq6) (by decide) rfl (Nat.le_of_ble_eq_true rfl) rfl (by decide) (Nat.le_of_ble_eq_true rfl) rfl rfl rfl rfl ?_
        refine x_aload_n dX11_would_48 rfl ?_
        refine x_aload_n dX11_would_49 rfl ?_
        refine g_X11_51 rfl dX11_would_50 (by decide) rfl rfl ?_
        refine x_aload_n dX11_would_53 rfl ?_
        refine g_X11_24 rfl dX11_would_54 (by decide) rfl rfl ?_
        refine g_X11_96 rfl dX11_would_57 (by decide) rfl rfl ?_
        refine x_iload_n dX11_would_60 rfl ?_
        obtain ⟨q7, hq7, h⟩ := Option.bind_eq_some_iff.mp h
        refine y_callVv (L' := [(0, _), (1, _), (2, _), (3, _), (4, _), (6, _), (7, _), (16, _), (17, _), (18, _), (19, _), (20, _), (21, _), (22, _), (23, _), (24, _), (25, _), (26, _)]) mi_X11_advance ml_X11_164 im_X11_advance se_X11_advance (rfl : vwCl[10]? = _) dX11_would_61 (fun s1 => v_X11_advance_0_21 s1 n _ _ _ _ _ _ _ _ _ _ _ _ _ _ q7 hq7) (by decide) rfl (Nat.le_of_ble_eq_true rfl) rfl (by decide) (Nat.le_of_ble_eq_true rfl) rfl rfl rfl rfl ?_
        refine x_iload_n dX11_would_64 rfl ?_
        by_cases c8 : p2 = 0
        · replace h := xif_p c8 h
          refine x_tableIn (tgt := 100) dX11_would_65 (by rw [c8]; decide) (by rw [c8]; decide) (by rw [c8]; rfl) (by decide) ?_
          refine x_aload_n dX11_would_100 rfl ?_
          refine g_X11_51 rfl dX11_would_101 (by decide) rfl rfl ?_
          refine g_X11_171 rfl dX11_would_104 (by decide) rfl rfl ?_
          refine x_iconst (v := 3) dX11_would_107 (by decide) ?_
          refine x_ialdK (jn := 3) (v := (q7.2.1 3)) dX11_would_108 (by decide) rfl (xin_ok (by decide)) (by decide) rfl ?_
          cases h
          exact x_iret dX11_would_109 ⟨rfl, rfl, rfl⟩
        replace h := xif_n c8 h
        by_cases c9 : p2 = 1
        · replace h := xif_p c9 h
          refine x_tableIn (tgt := 110) dX11_would_65 (by rw [c9]; decide) (by rw [c9]; decide) (by rw [c9]; rfl) (by decide) ?_
          refine x_aload_n dX11_would_110 rfl ?_
          refine g_X11_51 rfl dX11_would_111 (by decide) rfl rfl ?_
          refine g_X11_171 rfl dX11_would_114 (by decide) rfl rfl ?_
          refine x_iconst (v := 1) dX11_would_117 (by decide) ?_
          refine x_ialdK (jn := 1) (v := (q7.2.1 1)) dX11_would_118 (by decide) rfl (xin_ok (by decide)) (by decide) rfl ?_
          cases h
          exact x_iret dX11_would_119 ⟨rfl, rfl, rfl⟩
        replace h := xif_n c9 h
        by_cases c10 : p2 = 2
        · replace h := xif_p c10 h
          refine x_tableIn (tgt := 120) dX11_would_65 (by rw [c10]; decide) (by rw [c10]; decide) (by rw [c10]; rfl) (by decide) ?_
          refine x_aload_n dX11_would_120 rfl ?_
          refine g_X11_51 rfl dX11_would_121 (by decide) rfl rfl ?_
          refine g_X11_171 rfl dX11_would_124 (by decide) rfl rfl ?_
          refine x_iconst (v := 2) dX11_would_127 (by decide) ?_
          refine x_ialdK (jn := 2) (v := (q7.2.1 2)) dX11_would_128 (by decide) rfl (xin_ok (by decide)) (by decide) rfl ?_
          cases h
          exact x_iret dX11_would_129 ⟨rfl, rfl, rfl⟩
        replace h := xif_n c10 h
        by_cases c11 : p2 = 3
        · replace h := xif_p c11 h
          refine x_tableIn (tgt := 130) dX11_would_65 (by rw [c11]; decide) (by rw [c11]; decide) (by rw [c11]; rfl) (by decide) ?_
          refine x_aload_n dX11_would_130 rfl ?_
          refine g_X11_51 rfl dX11_would_131 (by decide) rfl rfl ?_
          refine g_X11_171 rfl dX11_would_134 (by decide) rfl rfl ?_
          refine x_iconst (v := 5) dX11_would_137 (by decide) ?_
          refine x_ialdK (jn := 5) (v := (q7.2.1 5)) dX11_would_138 (by decide) rfl (xin_ok (by decide)) (by decide) rfl ?_
          cases h
          exact x_iret dX11_would_139 ⟨rfl, rfl, rfl⟩
        replace h := xif_n c11 h
        by_cases c12 : p2 = 4
        · replace h := xif_p c12 h
          refine x_tableIn (tgt := 140) dX11_would_65 (by rw [c12]; decide) (by rw [c12]; decide) (by rw [c12]; rfl) (by decide) ?_
          refine x_aload_n dX11_would_140 rfl ?_
          refine g_X11_51 rfl dX11_would_141 (by decide) rfl rfl ?_
          refine g_X11_168 rfl dX11_would_144 (by decide) rfl rfl ?_
          cases h
          exact x_iret dX11_would_147 ⟨rfl, rfl, rfl⟩
        replace h := xif_n c12 h
        have c8t := lv_neT c8 (show Int32.toInt 0 = 0 from rfl)
        have c9t := lv_neT c9 (show Int32.toInt 1 = 1 from rfl)
        have c10t := lv_neT c10 (show Int32.toInt 2 = 2 from rfl)
        have c11t := lv_neT c11 (show Int32.toInt 3 = 3 from rfl)
        have c12t := lv_neT c12 (show Int32.toInt 4 = 4 from rfl)
        refine x_tableOut (tgt := 148) dX11_would_65 (by omega) (by decide) ?_
        refine x_aload_n dX11_would_148 rfl ?_
        refine g_X11_51 rfl dX11_would_149 (by decide) rfl rfl ?_
        refine g_X11_171 rfl dX11_would_152 (by decide) rfl rfl ?_
        refine x_bipush (v := 9) dX11_would_155 (by decide) ?_
        refine x_ialdK (jn := 9) (v := (q7.2.1 9)) dX11_would_157 (by decide) rfl (xin_ok (by decide)) (by decide) rfl ?_
        cases h
        exact x_iret dX11_would_158 ⟨rfl, rfl, rfl⟩
      · replace h := xif_n c5 h
        refine x_bipush (v := -5) dX11_would_34 (by decide) ?_
        cases h
        exact x_iret dX11_would_36 ⟨rfl, rfl, rfl⟩
    · replace h := xif_p c4 h
      refine x_bipush (v := -2) dX11_would_20 (by decide) ?_
      cases h
      exact x_iret dX11_would_22 ⟨rfl, rfl, rfl⟩
def l_X11_worst_0_29 (n : Nat) (a1 : Nat → Int32) (o2 : Nat → Int32) (a3 : Nat → Int32) (o4 : Nat → Int32) (a6 : Nat → Int32) (a7 : Nat → Int32) (o16 : Nat → Int32) (a17 : Nat → Int32) (o18 : Nat → Int32) (j18 : Int64) (j19 : Int64) (a20 : Nat → Int32) (l1 : Int32) (l2 : Int32) : Nat → (Int32) → (Int32) → (Int32) → (Nat → Int32) → (Nat → Int32) → (Nat → Int32) → (Nat → Int32) → (Int64) → (Int64) → (Nat → Int32) → Option (((Int32) × (Int32) × (Int32) × (Nat → Int32) × (Nat → Int32) × (Nat → Int32) × (Nat → Int32) × (Int64) × (Int64) × (Nat → Int32)))
  | 0, _, _, _, _, _, _, _, _, _, _ => none
  | k + 1, l3, l4, l5, o21, a22, a23, o24, j24, j25, a26 => (if l2 ≤ l5 then (some (l3, l4, l5, o21, a22, a23, o24, j24, j25, a26)) else (Option.bind (f_X6_mirror_21_16 a1 o16 a17 o18 j18 j19 a20 o21 a22 a23 o24 j24 j25 a26) (fun q4 => (Option.bind (f_X11_advance_0_21 n o2 a3 o4 a6 a7 q4.1 q4.2.1 q4.2.2.1 q4.2.2.2.1 q4.2.2.2.2.1 q4.2.2.2.2.2.1 q4.2.2.2.2.2.2 l1 l5) (fun q5 => (if l3 = (-1) then (l_X11_worst_0_29 n a1 o2 a3 o4 a6 a7 o16 a17 o18 j18 j19 a20 l1 l2 k l5 ((q5.2.1 3)) ((l5 + 1)) q5.1 q4.2.1 q5.2.1 q5.2.2.1 q5.2.2.2.1 q5.2.2.2.2.1 q5.2.2.2.2.2) else (if l4 ≤ (q5.2.1 3) then (l_X11_worst_0_29 n a1 o2 a3 o4 a6 a7 o16 a17 o18 j18 j19 a20 l1 l2 k l3 l4 ((l5 + 1)) q5.1 q4.2.1 q5.2.1 q5.2.2.1 q5.2.2.2.1 q5.2.2.2.2.1 q5.2.2.2.2.2) else (l_X11_worst_0_29 n a1 o2 a3 o4 a6 a7 o16 a17 o18 j18 j19 a20 l1 l2 k l5 ((q5.2.1 3)) ((l5 + 1)) q5.1 q4.2.1 q5.2.1 q5.2.2.1 q5.2.2.2.1 q5.2.2.2.2.1 q5.2.2.2.2.2))))))))
set_option maxRecDepth 100000 in
set_option maxHeartbeats 400000 in
theorem lv_X11_worst_0_29 (s0 : XW) (n : Nat) (a1 : Nat → Int32) (o2 : Nat → Int32) (a3 : Nat → Int32) (o4 : Nat → Int32) (a6 : Nat → Int32) (a7 : Nat → Int32) (o16 : Nat → Int32) (a17 : Nat → Int32) (o18 : Nat → Int32) (j18 : Int64) (j19 : Int64) (a20 : Nat → Int32) (l1 : Int32) (l2 : Int32) (Q : Nat → Option Value → XW → Prop) : ∀ (k : Nat) (l3 : Int32) (l4 : Int32) (l5 : Int32) (o21 : Nat → Int32) (a22 : Nat → Int32) (a23 : Nat → Int32) (o24 : Nat → Int32) (j24 : Int64) (j25 : Int64) (a26 : Nat → Int32) (o : ((Int32) × (Int32) × (Int32) × (Nat → Int32) × (Nat → Int32) × (Nat → Int32) × (Nat → Int32) × (Int64) × (Int64) × (Nat → Int32))), l_X11_worst_0_29 n a1 o2 a3 o4 a6 a7 o16 a17 o18 j18 j19 a20 l1 l2 k l3 l4 l5 o21 a22 a23 o24 j24 j25 a26 = some o → (V yX11_worst cX11_worst (some .int) 6 61 (0, 0) 96 [none, none, none, some (.int o.1), none, none] [] (xof s0 [W_0, W_1 a1, W_2 o2, W_3 a3, W_4 o4, W_6 a6, W_7 a7, W_16 o16, W_17 a17, W_18 o18 j18, W_19 j19, W_20 a20, W_21 o.2.2.2.1, W_22 o.2.2.2.2.1, W_23 o.2.2.2.2.2.1, W_24 o.2.2.2.2.2.2.1 o.2.2.2.2.2.2.2.1, W_25 o.2.2.2.2.2.2.2.2.1, W_26 o.2.2.2.2.2.2.2.2.2]) Q) → V yX11_worst cX11_worst (some .int) 6 61 (0, 0) 29 [some (.ref 0), some (.int l1), some (.int l2), some (.int l3), some (.int l4), some (.int l5)] [] (xof s0 [W_0, W_1 a1, W_2 o2, W_3 a3, W_4 o4, W_6 a6, W_7 a7, W_16 o16, W_17 a17, W_18 o18 j18, W_19 j19, W_20 a20, W_21 o21, W_22 a22, W_23 a23, W_24 o24 j24, W_25 j25, W_26 a26]) Q := by
  intro k
  induction k with
  | zero =>
    intro _ _ _ _ _ _ _ _ _ _ _ h
    simp [l_X11_worst_0_29] at h
  | succ k ih =>
    intro l3 l4 l5 o21 a22 a23 o24 j24 j25 a26 o h hk
    rw [l_X11_worst_0_29] at h
    refine x_iload dX11_worst_29 rfl ?_
    refine x_iload_n dX11_worst_31 rfl ?_
    refine x_icmp_ge (tgt := 96) dX11_worst_32 (by decide) (fun c3 => ?_) (fun c3 => ?_)
    · replace h := xif_p c3 h
      refine V.drop1 (i := 0) (ls' := [_, _, _, _, _, _]) rfl ?_
      refine V.drop1 (i := 1) (ls' := [_, _, _, _, _, _]) rfl ?_
      refine V.drop1 (i := 2) (ls' := [_, _, _, _, _, _]) rfl ?_
      refine V.drop1 (i := 4) (ls' := [_, _, _, _, _, _]) rfl ?_
      refine V.drop1 (i := 5) (ls' := [_, _, _, _, _, _]) rfl ?_
      show V yX11_worst cX11_worst (some .int) 6 61 (0, 0) 96 [none, none, none, some (.int l3), none, none] [] (xof s0 [W_0, W_1 a1, W_2 o2, W_3 a3, W_4 o4, W_6 a6, W_7 a7, W_16 o16, W_17 a17, W_18 o18 j18, W_19 j19, W_20 a20, W_21 o21, W_22 a22, W_23 a23, W_24 o24 j24, W_25 j25, W_26 a26]) _
      cases h
      exact hk
    · replace h := xif_n c3 h
      refine x_aload_n dX11_worst_35 rfl ?_
      refine g_X11_51 rfl dX11_worst_36 (by decide) rfl rfl ?_
      refine x_aload_n dX11_worst_39 rfl ?_
      refine g_X11_47 rfl dX11_worst_40 (by decide) rfl rfl ?_
      obtain ⟨q4, hq4, h⟩ := Option.bind_eq_some_iff.mp h
      refine y_callVv (L' := [(0, _), (1, _), (2, _), (3, _), (4, _), (6, _), (7, _), (16, _), (17, _), (18, _), (19, _), (20, _), (21, _), (22, _), (23, _), (24, _), (25, _), (26, _)]) mi_X6_mirror ml_X11_267 im_X6_mirror se_X6_mirror (rfl : vwCl[5]? = _) dX11_worst_43 (fun s1 => v_X6_mirror_21_16 s1 _ _ _ _ _ _ _ _ _ _ _ _ _ _ q4 hq4) (by decide) rfl (Nat.le_of_ble_eq_true rfl) rfl (by decide) (Nat.le_of_ble_eq_true rfl) rfl rfl rfl rfl ?_
      refine x_aload_n dX11_worst_46 rfl ?_
      refine x_aload_n dX11_worst_47 rfl ?_
      refine g_X11_51 rfl dX11_worst_48 (by decide) rfl rfl ?_
      refine x_iload_n dX11_worst_51 rfl ?_
      refine x_iload dX11_worst_52 rfl ?_
      obtain ⟨q5, hq5, h⟩ := Option.bind_eq_some_iff.mp h
      refine y_callVv (L' := [(0, _), (1, _), (2, _), (3, _), (4, _), (6, _), (7, _), (16, _), (17, _), (18, _), (19, _), (20, _), (21, _), (22, _), (23, _), (24, _), (25, _), (26, _)]) mi_X11_advance ml_X11_164 im_X11_advance se_X11_advance (rfl : vwCl[10]? = _) dX11_worst_54 (fun s1 => v_X11_advance_0_21 s1 n _ _ _ _ _ _ _ _ _ _ _ _ _ _ q5 hq5) (by decide) rfl (Nat.le_of_ble_eq_true rfl) rfl (by decide) (Nat.le_of_ble_eq_true rfl) rfl rfl rfl rfl ?_
      refine x_iload_n dX11_worst_57 rfl ?_
      refine x_iconst (v := -1) dX11_worst_58 (by decide) ?_
      refine x_icmp_eq (tgt := 76) dX11_worst_59 (by decide) (fun c6 => ?_) (fun c6 => ?_)
      · replace h := xif_p c6 h
        refine x_iload dX11_worst_76 rfl ?_
        refine x_istore_n (ls' := [_, _, _, _, _, _]) dX11_worst_78 rfl rfl ?_
        refine x_aload_n dX11_worst_79 rfl ?_
        refine g_X11_51 rfl dX11_worst_80 (by decide) rfl rfl ?_
        refine g_X11_171 rfl dX11_worst_83 (by decide) rfl rfl ?_
        refine x_iconst (v := 3) dX11_worst_86 (by decide) ?_
        refine x_ialdK (jn := 3) (v := (q5.2.1 3)) dX11_worst_87 (by decide) rfl (xin_ok (by decide)) (by decide) rfl ?_
        refine x_istore (ls' := [_, _, _, _, _, _]) dX11_worst_88 rfl rfl ?_
        refine x_iinc (v := l5 + 1) (ls' := [_, _, _, _, _, _]) dX11_worst_90 rfl rfl rfl rfl ?_
        refine x_goto (tgt := 29) dX11_worst_93 (by decide) ?_
        show V yX11_worst cX11_worst (some .int) 6 61 (0, 0) 29 [some (.ref 0), some (.int l1), some (.int l2), some (.int l5), some (.int ((q5.2.1 3))), some (.int ((l5 + 1)))] [] (xof s0 [W_0, W_1 a1, W_2 o2, W_3 a3, W_4 o4, W_6 a6, W_7 a7, W_16 o16, W_17 a17, W_18 o18 j18, W_19 j19, W_20 a20, W_21 q5.1, W_22 q4.2.1, W_23 q5.2.1, W_24 q5.2.2.1 q5.2.2.2.1, W_25 q5.2.2.2.2.1, W_26 q5.2.2.2.2.2]) _
        exact ih l5 ((q5.2.1 3)) ((l5 + 1)) q5.1 q4.2.1 q5.2.1 q5.2.2.1 q5.2.2.2.1 q5.2.2.2.2.1 q5.2.2.2.2.2 _ h hk
      · replace h := xif_n c6 h
        refine x_aload_n dX11_worst_62 rfl ?_
        refine g_X11_51 rfl dX11_worst_63 (by decide) rfl rfl ?_
        refine g_X11_171 rfl dX11_worst_66 (by decide) rfl rfl ?_
        refine x_iconst (v := 3) dX11_worst_69 (by decide) ?_
        refine x_ialdK (jn := 3) (v := (q5.2.1 3)) dX11_worst_70 (by decide) rfl (xin_ok (by decide)) (by decide) rfl ?_
        refine x_iload dX11_worst_71 rfl ?_
        refine x_icmp_ge (tgt := 90) dX11_worst_73 (by decide) (fun c7 => ?_) (fun c7 => ?_)
        · replace h := xif_p c7 h
          refine x_iinc (v := l5 + 1) (ls' := [_, _, _, _, _, _]) dX11_worst_90 rfl rfl rfl rfl ?_
          refine x_goto (tgt := 29) dX11_worst_93 (by decide) ?_
          show V yX11_worst cX11_worst (some .int) 6 61 (0, 0) 29 [some (.ref 0), some (.int l1), some (.int l2), some (.int l3), some (.int l4), some (.int ((l5 + 1)))] [] (xof s0 [W_0, W_1 a1, W_2 o2, W_3 a3, W_4 o4, W_6 a6, W_7 a7, W_16 o16, W_17 a17, W_18 o18 j18, W_19 j19, W_20 a20, W_21 q5.1, W_22 q4.2.1, W_23 q5.2.1, W_24 q5.2.2.1 q5.2.2.2.1, W_25 q5.2.2.2.2.1, W_26 q5.2.2.2.2.2]) _
          exact ih l3 l4 ((l5 + 1)) q5.1 q4.2.1 q5.2.1 q5.2.2.1 q5.2.2.2.1 q5.2.2.2.2.1 q5.2.2.2.2.2 _ h hk
        · replace h := xif_n c7 h
          refine x_iload dX11_worst_76 rfl ?_
          refine x_istore_n (ls' := [_, _, _, _, _, _]) dX11_worst_78 rfl rfl ?_
          refine x_aload_n dX11_worst_79 rfl ?_
          refine g_X11_51 rfl dX11_worst_80 (by decide) rfl rfl ?_
          refine g_X11_171 rfl dX11_worst_83 (by decide) rfl rfl ?_
          refine x_iconst (v := 3) dX11_worst_86 (by decide) ?_
          refine x_ialdK (jn := 3) (v := (q5.2.1 3)) dX11_worst_87 (by decide) rfl (xin_ok (by decide)) (by decide) rfl ?_
          refine x_istore (ls' := [_, _, _, _, _, _]) dX11_worst_88 rfl rfl ?_
          refine x_iinc (v := l5 + 1) (ls' := [_, _, _, _, _, _]) dX11_worst_90 rfl rfl rfl rfl ?_
          refine x_goto (tgt := 29) dX11_worst_93 (by decide) ?_
          show V yX11_worst cX11_worst (some .int) 6 61 (0, 0) 29 [some (.ref 0), some (.int l1), some (.int l2), some (.int l5), some (.int ((q5.2.1 3))), some (.int ((l5 + 1)))] [] (xof s0 [W_0, W_1 a1, W_2 o2, W_3 a3, W_4 o4, W_6 a6, W_7 a7, W_16 o16, W_17 a17, W_18 o18 j18, W_19 j19, W_20 a20, W_21 q5.1, W_22 q4.2.1, W_23 q5.2.1, W_24 q5.2.2.1 q5.2.2.2.1, W_25 q5.2.2.2.2.1, W_26 q5.2.2.2.2.2]) _
          exact ih l5 ((q5.2.1 3)) ((l5 + 1)) q5.1 q4.2.1 q5.2.1 q5.2.2.1 q5.2.2.2.1 q5.2.2.2.2.1 q5.2.2.2.2.2 _ h hk
def f_X11_worst_0 (n : Nat) (a1 : Nat → Int32) (o2 : Nat → Int32) (a3 : Nat → Int32) (o4 : Nat → Int32) (a6 : Nat → Int32) (a7 : Nat → Int32) (o16 : Nat → Int32) (a17 : Nat → Int32) (o18 : Nat → Int32) (j18 : Int64) (j19 : Int64) (a20 : Nat → Int32) (o21 : Nat → Int32) (a22 : Nat → Int32) (a23 : Nat → Int32) (o24 : Nat → Int32) (j24 : Int64) (j25 : Int64) (a26 : Nat → Int32)  : Option (((Int32) × (Nat → Int32) × (Nat → Int32) × (Nat → Int32) × (Nat → Int32) × (Int64) × (Int64) × (Nat → Int32))) := (Option.bind (f_X11_endOf_0 o2 4800) (fun q1 => (Option.bind (f_X11_endOf_0 o2 48) (fun q2 => (Option.bind (l_X11_worst_0_29 n a1 o2 a3 o4 a6 a7 o16 a17 o18 j18 j19 a20 q1 q2 n ((-1)) 0 ((o2 2)) o21 a22 a23 o24 j24 j25 a26) (fun u8 => (some (u8.1, u8.2.2.2.1, u8.2.2.2.2.1, u8.2.2.2.2.2.1, u8.2.2.2.2.2.2.1, u8.2.2.2.2.2.2.2.1, u8.2.2.2.2.2.2.2.2.1, u8.2.2.2.2.2.2.2.2.2))))))))
set_option maxRecDepth 100000 in
set_option maxHeartbeats 400000 in
theorem v_X11_worst_0 (s0 : XW) (n : Nat) (a1 : Nat → Int32) (o2 : Nat → Int32) (a3 : Nat → Int32) (o4 : Nat → Int32) (a6 : Nat → Int32) (a7 : Nat → Int32) (o16 : Nat → Int32) (a17 : Nat → Int32) (o18 : Nat → Int32) (j18 : Int64) (j19 : Int64) (a20 : Nat → Int32) (o21 : Nat → Int32) (a22 : Nat → Int32) (a23 : Nat → Int32) (o24 : Nat → Int32) (j24 : Int64) (j25 : Int64) (a26 : Nat → Int32)  (q : ((Int32) × (Nat → Int32) × (Nat → Int32) × (Nat → Int32) × (Nat → Int32) × (Int64) × (Int64) × (Nat → Int32))) (h : f_X11_worst_0 n a1 o2 a3 o4 a6 a7 o16 a17 o18 j18 j19 a20 o21 a22 a23 o24 j24 j25 a26 = some q) : C_X11_worst 6 61 [.ref 0] (xof s0 [W_0, W_1 a1, W_2 o2, W_3 a3, W_4 o4, W_6 a6, W_7 a7, W_16 o16, W_17 a17, W_18 o18 j18, W_19 j19, W_20 a20, W_21 o21, W_22 a22, W_23 a23, W_24 o24 j24, W_25 j25, W_26 a26]) (some (.int q.1)) (xof s0 [W_0, W_1 a1, W_2 o2, W_3 a3, W_4 o4, W_6 a6, W_7 a7, W_16 o16, W_17 a17, W_18 o18 j18, W_19 j19, W_20 a20, W_21 q.2.1, W_22 q.2.2.1, W_23 q.2.2.2.1, W_24 q.2.2.2.2.1 q.2.2.2.2.2.1, W_25 q.2.2.2.2.2.2.1, W_26 q.2.2.2.2.2.2.2]) := by
  unfold f_X11_worst_0 at h
  show V yX11_worst cX11_worst (some .int) 6 61 (0, 0) 0 [some (.ref 0), none, none, none, none, none] [] (xof s0 [W_0, W_1 a1, W_2 o2, W_3 a3, W_4 o4, W_6 a6, W_7 a7, W_16 o16, W_17 a17, W_18 o18 j18, W_19 j19, W_20 a20, W_21 o21, W_22 a22, W_23 a23, W_24 o24 j24, W_25 j25, W_26 a26]) _
  refine x_aload_n dX11_worst_0 rfl ?_
  refine x_sipush (v := 4800) dX11_worst_1 (by decide) ?_
  obtain ⟨q1, hq1, h⟩ := Option.bind_eq_some_iff.mp h
  refine y_callVi (L' := [(0, _), (1, _), (2, _), (3, _), (4, _), (6, _), (7, _), (16, _), (17, _), (18, _), (19, _), (20, _), (21, _), (22, _), (23, _), (24, _), (25, _), (26, _)]) mi_X11_endOf ml_X11_161 im_X11_endOf se_X11_endOf (rfl : vwCl[10]? = _) dX11_worst_4 (fun s1 => v_X11_endOf_0 s1 _ _ q1 hq1) (by decide) rfl (Nat.le_of_ble_eq_true rfl) rfl (by decide) (Nat.le_of_ble_eq_true rfl) rfl rfl rfl rfl ?_
  refine x_istore_n (ls' := [_, _, _, _, _, _]) dX11_worst_7 rfl rfl ?_
  refine x_aload_n dX11_worst_8 rfl ?_
  refine x_bipush (v := 48) dX11_worst_9 (by decide) ?_
  obtain ⟨q2, hq2, h⟩ := Option.bind_eq_some_iff.mp h
  refine y_callVi (L' := [(0, _), (1, _), (2, _), (3, _), (4, _), (6, _), (7, _), (16, _), (17, _), (18, _), (19, _), (20, _), (21, _), (22, _), (23, _), (24, _), (25, _), (26, _)]) mi_X11_endOf ml_X11_161 im_X11_endOf se_X11_endOf (rfl : vwCl[10]? = _) dX11_worst_11 (fun s1 => v_X11_endOf_0 s1 _ _ q2 hq2) (by decide) rfl (Nat.le_of_ble_eq_true rfl) rfl (by decide) (Nat.le_of_ble_eq_true rfl) rfl rfl rfl rfl ?_
  refine x_istore_n (ls' := [_, _, _, _, _, _]) dX11_worst_14 rfl rfl ?_
  refine x_iconst (v := -1) dX11_worst_15 (by decide) ?_
  refine x_istore_n (ls' := [_, _, _, _, _, _]) dX11_worst_16 rfl rfl ?_
  refine x_iconst (v := 0) dX11_worst_17 (by decide) ?_
  refine x_istore (ls' := [_, _, _, _, _, _]) dX11_worst_18 rfl rfl ?_
  refine x_aload_n dX11_worst_20 rfl ?_
  refine g_X11_24 rfl dX11_worst_21 (by decide) rfl rfl ?_
  refine g_X11_125 rfl dX11_worst_24 (by decide) rfl rfl ?_
  refine x_istore (ls' := [_, _, _, _, _, _]) dX11_worst_27 rfl rfl ?_
  obtain ⟨u8, hu8, h⟩ := Option.bind_eq_some_iff.mp h
  show V yX11_worst cX11_worst (some .int) 6 61 (0, 0) 29 [some (.ref 0), some (.int q1), some (.int q2), some (.int ((-1))), some (.int 0), some (.int ((o2 2)))] [] (xof s0 [W_0, W_1 a1, W_2 o2, W_3 a3, W_4 o4, W_6 a6, W_7 a7, W_16 o16, W_17 a17, W_18 o18 j18, W_19 j19, W_20 a20, W_21 o21, W_22 a22, W_23 a23, W_24 o24 j24, W_25 j25, W_26 a26]) _
  refine lv_X11_worst_0_29 s0 _ a1 o2 a3 o4 a6 a7 o16 a17 o18 j18 j19 a20 q1 q2 _ n ((-1)) 0 ((o2 2)) o21 a22 a23 o24 j24 j25 a26 _ hu8 ?_
  refine x_iload_n dX11_worst_96 rfl ?_
  cases h
  exact x_iret dX11_worst_97 ⟨rfl, rfl, rfl⟩
def f_X4_left_2 (o2 : Nat → Int32)  : Option Int32 := (some (((o2 1) - (o2 2))))
set_option maxRecDepth 100000 in
set_option maxHeartbeats 400000 in
theorem v_X4_left_2 (s0 : XW) (o2 : Nat → Int32)  (q : Int32) (h : f_X4_left_2 o2 = some q) : C_X4_left 0 61 [.ref 2] (xof s0 [W_2 o2]) (some (.int q)) (xof s0 [W_2 o2]) := by
  unfold f_X4_left_2 at h
  show V yX4_left cX4_left (some .int) 0 61 (0, 0) 0 [some (.ref 2)] [] (xof s0 [W_2 o2]) _
  refine x_aload_n dX4_left_0 rfl ?_
  refine g_X4_15 rfl dX4_left_1 (by decide) rfl rfl ?_
  refine x_aload_n dX4_left_4 rfl ?_
  refine g_X4_19 rfl dX4_left_5 (by decide) rfl rfl ?_
  refine x_isub dX4_left_8 ?_
  cases h
  exact x_iret dX4_left_9 ⟨rfl, rfl, rfl⟩
def l_X11_bitsTillSure_0_12 (n : Nat) (o2 : Nat → Int32) (a3 : Nat → Int32) (o4 : Nat → Int32) (a6 : Nat → Int32) (a7 : Nat → Int32) (a22 : Nat → Int32) (l1 : Int32) (l2 : Int32) : Nat → (Int32) → (Nat → Int32) → (Nat → Int32) → (Nat → Int32) → (Int64) → (Int64) → (Nat → Int32) → Option ((((Int32) × (Nat → Int32) × (Nat → Int32) × (Nat → Int32) × (Int64) × (Int64) × (Nat → Int32))) ⊕ (((Int32) × (Nat → Int32) × (Nat → Int32) × (Nat → Int32) × (Int64) × (Int64) × (Nat → Int32))))
  | 0, _, _, _, _, _, _, _ => none
  | k + 1, l3, o21, a23, o24, j24, j25, a26 => (if (o2 1) ≤ l3 then (some (Sum.inr (l3, o21, a23, o24, j24, j25, a26))) else (Option.bind (f_X4_bitAt_2 o2 a3 l3) (fun q2 => (Option.bind (f_X6_receive_21 n o4 a6 a7 o21 a22 a23 o24 j24 j25 a26 q2 ((l3 + 1))) (fun q3 => (if (q3.2.1 4) ≤ l2 then (l_X11_bitsTillSure_0_12 n o2 a3 o4 a6 a7 a22 l1 l2 k ((l3 + 1)) q3.1 q3.2.1 q3.2.2.1 q3.2.2.2.1 q3.2.2.2.2.1 q3.2.2.2.2.2) else (some (Sum.inl (((l3 + 1) - l1), q3.1, q3.2.1, q3.2.2.1, q3.2.2.2.1, q3.2.2.2.2.1, q3.2.2.2.2.2)))))))))
set_option maxRecDepth 100000 in
set_option maxHeartbeats 400000 in
theorem lv_X11_bitsTillSure_0_12 (s0 : XW) (n : Nat) (o2 : Nat → Int32) (a3 : Nat → Int32) (o4 : Nat → Int32) (a6 : Nat → Int32) (a7 : Nat → Int32) (a22 : Nat → Int32) (l1 : Int32) (l2 : Int32) (Q : Nat → Option Value → XW → Prop) : ∀ (k : Nat) (l3 : Int32) (o21 : Nat → Int32) (a23 : Nat → Int32) (o24 : Nat → Int32) (j24 : Int64) (j25 : Int64) (a26 : Nat → Int32) (o : (((Int32) × (Nat → Int32) × (Nat → Int32) × (Nat → Int32) × (Int64) × (Int64) × (Nat → Int32))) ⊕ (((Int32) × (Nat → Int32) × (Nat → Int32) × (Nat → Int32) × (Int64) × (Int64) × (Nat → Int32)))), l_X11_bitsTillSure_0_12 n o2 a3 o4 a6 a7 a22 l1 l2 k l3 o21 a23 o24 j24 j25 a26 = some o → ((∀ z, o = Sum.inl z → Q 61 (some (.int z.1)) (xof s0 [W_0, W_2 o2, W_3 a3, W_4 o4, W_6 a6, W_7 a7, W_21 z.2.1, W_22 a22, W_23 z.2.2.1, W_24 z.2.2.2.1 z.2.2.2.2.1, W_25 z.2.2.2.2.2.1, W_26 z.2.2.2.2.2.2])) ∧ (∀ z, o = Sum.inr z → V yX11_bitsTillSure cX11_bitsTillSure (some .int) 5 61 (0, 0) 66 [none, none, none, none] [] (xof s0 [W_0, W_2 o2, W_3 a3, W_4 o4, W_6 a6, W_7 a7, W_21 z.2.1, W_22 a22, W_23 z.2.2.1, W_24 z.2.2.2.1 z.2.2.2.2.1, W_25 z.2.2.2.2.2.1, W_26 z.2.2.2.2.2.2]) Q)) → V yX11_bitsTillSure cX11_bitsTillSure (some .int) 5 61 (0, 0) 12 [some (.ref 0), some (.int l1), some (.int l2), some (.int l3)] [] (xof s0 [W_0, W_2 o2, W_3 a3, W_4 o4, W_6 a6, W_7 a7, W_21 o21, W_22 a22, W_23 a23, W_24 o24 j24, W_25 j25, W_26 a26]) Q := by
  intro k
  induction k with
  | zero =>
    intro _ _ _ _ _ _ _ _ h
    simp [l_X11_bitsTillSure_0_12] at h
  | succ k ih =>
    intro l3 o21 a23 o24 j24 j25 a26 o h hk
    rw [l_X11_bitsTillSure_0_12] at h
    refine x_iload_n dX11_bitsTillSure_12 rfl ?_
    refine x_aload_n dX11_bitsTillSure_13 rfl ?_
    refine g_X11_24 rfl dX11_bitsTillSure_14 (by decide) rfl rfl ?_
    refine g_X11_96 rfl dX11_bitsTillSure_17 (by decide) rfl rfl ?_
    refine x_icmp_ge (tgt := 66) dX11_bitsTillSure_20 (by decide) (fun c1 => ?_) (fun c1 => ?_)
    · replace h := xif_p c1 h
      refine V.drop1 (i := 0) (ls' := [_, _, _, _]) rfl ?_
      refine V.drop1 (i := 1) (ls' := [_, _, _, _]) rfl ?_
      refine V.drop1 (i := 2) (ls' := [_, _, _, _]) rfl ?_
      refine V.drop1 (i := 3) (ls' := [_, _, _, _]) rfl ?_
      show V yX11_bitsTillSure cX11_bitsTillSure (some .int) 5 61 (0, 0) 66 [none, none, none, none] [] (xof s0 [W_0, W_2 o2, W_3 a3, W_4 o4, W_6 a6, W_7 a7, W_21 o21, W_22 a22, W_23 a23, W_24 o24 j24, W_25 j25, W_26 a26]) _
      cases h
      exact hk.2 (l3, o21, a23, o24, j24, j25, a26) rfl
    · replace h := xif_n c1 h
      refine x_aload_n dX11_bitsTillSure_23 rfl ?_
      refine g_X11_51 rfl dX11_bitsTillSure_24 (by decide) rfl rfl ?_
      refine x_aload_n dX11_bitsTillSure_27 rfl ?_
      refine g_X11_24 rfl dX11_bitsTillSure_28 (by decide) rfl rfl ?_
      refine x_iload_n dX11_bitsTillSure_31 rfl ?_
      obtain ⟨q2, hq2, h⟩ := Option.bind_eq_some_iff.mp h
      refine y_callVi (L' := [(0, _), (2, _), (3, _), (4, _), (6, _), (7, _), (21, _), (22, _), (23, _), (24, _), (25, _), (26, _)]) mi_X4_bitAt ml_X11_131 im_X4_bitAt se_X4_bitAt (rfl : vwCl[3]? = _) dX11_bitsTillSure_32 (fun s1 => v_X4_bitAt_2 s1 _ _ _ q2 hq2) (by decide) rfl (Nat.le_of_ble_eq_true rfl) rfl (by decide) (Nat.le_of_ble_eq_true rfl) rfl rfl rfl rfl ?_
      refine x_iload_n dX11_bitsTillSure_35 rfl ?_
      refine x_iconst (v := 1) dX11_bitsTillSure_36 (by decide) ?_
      refine x_iadd dX11_bitsTillSure_37 ?_
      obtain ⟨q3, hq3, h⟩ := Option.bind_eq_some_iff.mp h
      refine y_callVv (L' := [(0, _), (2, _), (3, _), (4, _), (6, _), (7, _), (21, _), (22, _), (23, _), (24, _), (25, _), (26, _)]) mi_X6_receive ml_X11_271 im_X6_receive se_X6_receive (rfl : vwCl[5]? = _) dX11_bitsTillSure_38 (fun s1 => v_X6_receive_21 s1 n _ _ _ _ _ _ _ _ _ _ _ _ q3 hq3) (by decide) rfl (Nat.le_of_ble_eq_true rfl) rfl (by decide) (Nat.le_of_ble_eq_true rfl) rfl rfl rfl rfl ?_
      refine x_aload_n dX11_bitsTillSure_41 rfl ?_
      refine g_X11_51 rfl dX11_bitsTillSure_42 (by decide) rfl rfl ?_
      refine g_X11_171 rfl dX11_bitsTillSure_45 (by decide) rfl rfl ?_
      refine x_iconst (v := 4) dX11_bitsTillSure_48 (by decide) ?_
      refine x_ialdK (jn := 4) (v := (q3.2.1 4)) dX11_bitsTillSure_49 (by decide) rfl (xin_ok (by decide)) (by decide) rfl ?_
      refine x_iload_n dX11_bitsTillSure_50 rfl ?_
      refine x_icmp_le (tgt := 60) dX11_bitsTillSure_51 (by decide) (fun c4 => ?_) (fun c4 => ?_)
      · replace h := xif_p c4 h
        refine x_iinc (v := l3 + 1) (ls' := [_, _, _, _]) dX11_bitsTillSure_60 rfl rfl rfl rfl ?_
        refine x_goto (tgt := 12) dX11_bitsTillSure_63 (by decide) ?_
        show V yX11_bitsTillSure cX11_bitsTillSure (some .int) 5 61 (0, 0) 12 [some (.ref 0), some (.int l1), some (.int l2), some (.int ((l3 + 1)))] [] (xof s0 [W_0, W_2 o2, W_3 a3, W_4 o4, W_6 a6, W_7 a7, W_21 q3.1, W_22 a22, W_23 q3.2.1, W_24 q3.2.2.1 q3.2.2.2.1, W_25 q3.2.2.2.2.1, W_26 q3.2.2.2.2.2]) _
        exact ih ((l3 + 1)) q3.1 q3.2.1 q3.2.2.1 q3.2.2.2.1 q3.2.2.2.2.1 q3.2.2.2.2.2 _ h hk
      · replace h := xif_n c4 h
        refine x_iload_n dX11_bitsTillSure_54 rfl ?_
        refine x_iconst (v := 1) dX11_bitsTillSure_55 (by decide) ?_
        refine x_iadd dX11_bitsTillSure_56 ?_
        refine x_iload_n dX11_bitsTillSure_57 rfl ?_
        refine x_isub dX11_bitsTillSure_58 ?_
        cases h
        exact x_iret dX11_bitsTillSure_59 (hk.1 (((l3 + 1) - l1), q3.1, q3.2.1, q3.2.2.1, q3.2.2.2.1, q3.2.2.2.2.1, q3.2.2.2.2.2) rfl)
def f_X11_bitsTillSure_0 (n : Nat) (o2 : Nat → Int32) (a3 : Nat → Int32) (o4 : Nat → Int32) (a6 : Nat → Int32) (a7 : Nat → Int32) (o21 : Nat → Int32) (a22 : Nat → Int32) (a23 : Nat → Int32) (o24 : Nat → Int32) (j24 : Int64) (j25 : Int64) (a26 : Nat → Int32) (p1 : Int32) : Option (((Int32) × (Nat → Int32) × (Nat → Int32) × (Nat → Int32) × (Int64) × (Int64) × (Nat → Int32))) := (Option.bind (l_X11_bitsTillSure_0_12 n o2 a3 o4 a6 a7 a22 p1 ((a23 4)) n p1 o21 a23 o24 j24 j25 a26) (fun u5 => Sum.elim (fun z6 => some z6) (fun z6 => (some ((-1), z6.2.1, z6.2.2.1, z6.2.2.2.1, z6.2.2.2.2.1, z6.2.2.2.2.2.1, z6.2.2.2.2.2.2))) u5))
set_option maxRecDepth 100000 in
set_option maxHeartbeats 400000 in
theorem v_X11_bitsTillSure_0 (s0 : XW) (n : Nat) (o2 : Nat → Int32) (a3 : Nat → Int32) (o4 : Nat → Int32) (a6 : Nat → Int32) (a7 : Nat → Int32) (o21 : Nat → Int32) (a22 : Nat → Int32) (a23 : Nat → Int32) (o24 : Nat → Int32) (j24 : Int64) (j25 : Int64) (a26 : Nat → Int32) (p1 : Int32) (q : ((Int32) × (Nat → Int32) × (Nat → Int32) × (Nat → Int32) × (Int64) × (Int64) × (Nat → Int32))) (h : f_X11_bitsTillSure_0 n o2 a3 o4 a6 a7 o21 a22 a23 o24 j24 j25 a26 p1 = some q) : C_X11_bitsTillSure 5 61 [.ref 0, .int p1] (xof s0 [W_0, W_2 o2, W_3 a3, W_4 o4, W_6 a6, W_7 a7, W_21 o21, W_22 a22, W_23 a23, W_24 o24 j24, W_25 j25, W_26 a26]) (some (.int q.1)) (xof s0 [W_0, W_2 o2, W_3 a3, W_4 o4, W_6 a6, W_7 a7, W_21 q.2.1, W_22 a22, W_23 q.2.2.1, W_24 q.2.2.2.1 q.2.2.2.2.1, W_25 q.2.2.2.2.2.1, W_26 q.2.2.2.2.2.2]) := by
  unfold f_X11_bitsTillSure_0 at h
  show V yX11_bitsTillSure cX11_bitsTillSure (some .int) 5 61 (0, 0) 0 [some (.ref 0), some (.int p1), none, none] [] (xof s0 [W_0, W_2 o2, W_3 a3, W_4 o4, W_6 a6, W_7 a7, W_21 o21, W_22 a22, W_23 a23, W_24 o24 j24, W_25 j25, W_26 a26]) _
  refine x_aload_n dX11_bitsTillSure_0 rfl ?_
  refine g_X11_51 rfl dX11_bitsTillSure_1 (by decide) rfl rfl ?_
  refine g_X11_171 rfl dX11_bitsTillSure_4 (by decide) rfl rfl ?_
  refine x_iconst (v := 4) dX11_bitsTillSure_7 (by decide) ?_
  refine x_ialdK (jn := 4) (v := (a23 4)) dX11_bitsTillSure_8 (by decide) rfl (xin_ok (by decide)) (by decide) rfl ?_
  refine x_istore_n (ls' := [_, _, _, _]) dX11_bitsTillSure_9 rfl rfl ?_
  refine x_iload_n dX11_bitsTillSure_10 rfl ?_
  refine x_istore_n (ls' := [_, _, _, _]) dX11_bitsTillSure_11 rfl rfl ?_
  obtain ⟨u5, hu5, h⟩ := Option.bind_eq_some_iff.mp h
  show V yX11_bitsTillSure cX11_bitsTillSure (some .int) 5 61 (0, 0) 12 [some (.ref 0), some (.int p1), some (.int ((a23 4))), some (.int p1)] [] (xof s0 [W_0, W_2 o2, W_3 a3, W_4 o4, W_6 a6, W_7 a7, W_21 o21, W_22 a22, W_23 a23, W_24 o24 j24, W_25 j25, W_26 a26]) _
  refine lv_X11_bitsTillSure_0_12 s0 _ o2 a3 o4 a6 a7 a22 p1 ((a23 4)) _ n p1 o21 a23 o24 j24 j25 a26 _ hu5 ⟨fun z6 hz => ?_, fun z6 hz => ?_⟩
  · subst hz
    replace h := xsl h
    cases h
    exact ⟨rfl, rfl, rfl⟩
  subst hz
  replace h := xsr h
  refine x_iconst (v := -1) dX11_bitsTillSure_66 (by decide) ?_
  cases h
  exact x_iret dX11_bitsTillSure_67 ⟨rfl, rfl, rfl⟩
def f_X11_regained_0 (n : Nat) (a1 : Nat → Int32) (o2 : Nat → Int32) (a3 : Nat → Int32) (o4 : Nat → Int32) (a6 : Nat → Int32) (a7 : Nat → Int32) (o16 : Nat → Int32) (a17 : Nat → Int32) (o18 : Nat → Int32) (j18 : Int64) (j19 : Int64) (a20 : Nat → Int32) (o21 : Nat → Int32) (a22 : Nat → Int32) (a23 : Nat → Int32) (o24 : Nat → Int32) (j24 : Int64) (j25 : Int64) (a26 : Nat → Int32) (p1 : Int32) : Option (((Int32) × (Nat → Int32) × (Nat → Int32) × (Nat → Int32) × (Nat → Int32) × (Int64) × (Int64) × (Nat → Int32))) := (Option.bind (f_X11_isWithin p1 1 400) (fun q1 => (if q1 = 0 then (some ((-3), o21, a22, a23, o24, j24, j25, a26)) else (Option.bind (f_X4_left_2 o2) (fun q3 => (if p1 ≤ q3 then (Option.bind (f_X6_mirror_21_16 a1 o16 a17 o18 j18 j19 a20 o21 a22 a23 o24 j24 j25 a26) (fun q5 => (Option.bind (f_X11_bitsTillSure_0 n o2 a3 o4 a6 a7 q5.1 q5.2.1 q5.2.2.1 q5.2.2.2.1 q5.2.2.2.2.1 q5.2.2.2.2.2.1 q5.2.2.2.2.2.2 (((o2 2) + p1))) (fun q6 => (some (q6.1, q6.2.1, q5.2.1, q6.2.2.1, q6.2.2.2.1, q6.2.2.2.2.1, q6.2.2.2.2.2.1, q6.2.2.2.2.2.2)))))) else (some ((-3), o21, a22, a23, o24, j24, j25, a26))))))))
set_option maxRecDepth 100000 in
set_option maxHeartbeats 400000 in
theorem v_X11_regained_0 (s0 : XW) (n : Nat) (a1 : Nat → Int32) (o2 : Nat → Int32) (a3 : Nat → Int32) (o4 : Nat → Int32) (a6 : Nat → Int32) (a7 : Nat → Int32) (o16 : Nat → Int32) (a17 : Nat → Int32) (o18 : Nat → Int32) (j18 : Int64) (j19 : Int64) (a20 : Nat → Int32) (o21 : Nat → Int32) (a22 : Nat → Int32) (a23 : Nat → Int32) (o24 : Nat → Int32) (j24 : Int64) (j25 : Int64) (a26 : Nat → Int32) (p1 : Int32) (q : ((Int32) × (Nat → Int32) × (Nat → Int32) × (Nat → Int32) × (Nat → Int32) × (Int64) × (Int64) × (Nat → Int32))) (h : f_X11_regained_0 n a1 o2 a3 o4 a6 a7 o16 a17 o18 j18 j19 a20 o21 a22 a23 o24 j24 j25 a26 p1 = some q) : C_X11_regained 6 61 [.ref 0, .int p1] (xof s0 [W_0, W_1 a1, W_2 o2, W_3 a3, W_4 o4, W_6 a6, W_7 a7, W_16 o16, W_17 a17, W_18 o18 j18, W_19 j19, W_20 a20, W_21 o21, W_22 a22, W_23 a23, W_24 o24 j24, W_25 j25, W_26 a26]) (some (.int q.1)) (xof s0 [W_0, W_1 a1, W_2 o2, W_3 a3, W_4 o4, W_6 a6, W_7 a7, W_16 o16, W_17 a17, W_18 o18 j18, W_19 j19, W_20 a20, W_21 q.2.1, W_22 q.2.2.1, W_23 q.2.2.2.1, W_24 q.2.2.2.2.1 q.2.2.2.2.2.1, W_25 q.2.2.2.2.2.2.1, W_26 q.2.2.2.2.2.2.2]) := by
  unfold f_X11_regained_0 at h
  show V yX11_regained cX11_regained (some .int) 6 61 (0, 0) 0 [some (.ref 0), some (.int p1)] [] (xof s0 [W_0, W_1 a1, W_2 o2, W_3 a3, W_4 o4, W_6 a6, W_7 a7, W_16 o16, W_17 a17, W_18 o18 j18, W_19 j19, W_20 a20, W_21 o21, W_22 a22, W_23 a23, W_24 o24 j24, W_25 j25, W_26 a26]) _
  refine x_iload_n dX11_regained_0 rfl ?_
  refine x_iconst (v := 1) dX11_regained_1 (by decide) ?_
  refine x_sipush (v := 400) dX11_regained_2 (by decide) ?_
  obtain ⟨q1, hq1, h⟩ := Option.bind_eq_some_iff.mp h
  refine y_callSi (L' := [(0, _), (1, _), (2, _), (3, _), (4, _), (6, _), (7, _), (16, _), (17, _), (18, _), (19, _), (20, _), (21, _), (22, _), (23, _), (24, _), (25, _), (26, _)]) mi_X11_isWithin ml_X11_100 st_X11_isWithin dX11_regained_5 (fun s1 => v_X11_isWithin 61 s1 _ _ _ q1 hq1) (Nat.le_of_ble_eq_true rfl) rfl (by decide) (Nat.le_of_ble_eq_true rfl) rfl rfl rfl rfl ?_
  refine x_if_eq (tgt := 22) dX11_regained_8 (by decide) (fun c2 => ?_) (fun c2 => ?_)
  · replace h := xif_p c2 h
    refine x_bipush (v := -3) dX11_regained_22 (by decide) ?_
    cases h
    exact x_iret dX11_regained_24 ⟨rfl, rfl, rfl⟩
  · replace h := xif_n c2 h
    refine x_iload_n dX11_regained_11 rfl ?_
    refine x_aload_n dX11_regained_12 rfl ?_
    refine g_X11_24 rfl dX11_regained_13 (by decide) rfl rfl ?_
    obtain ⟨q3, hq3, h⟩ := Option.bind_eq_some_iff.mp h
    refine y_callVi (L' := [(0, _), (1, _), (2, _), (3, _), (4, _), (6, _), (7, _), (16, _), (17, _), (18, _), (19, _), (20, _), (21, _), (22, _), (23, _), (24, _), (25, _), (26, _)]) mi_X4_left ml_X11_274 im_X4_left se_X4_left (rfl : vwCl[3]? = _) dX11_regained_16 (fun s1 => v_X4_left_2 s1 _ q3 hq3) (by decide) rfl (Nat.le_of_ble_eq_true rfl) rfl (by decide) (Nat.le_of_ble_eq_true rfl) rfl rfl rfl rfl ?_
    refine x_icmp_le (tgt := 25) dX11_regained_19 (by decide) (fun c4 => ?_) (fun c4 => ?_)
    · replace h := xif_p c4 h
      refine x_aload_n dX11_regained_25 rfl ?_
      refine g_X11_51 rfl dX11_regained_26 (by decide) rfl rfl ?_
      refine x_aload_n dX11_regained_29 rfl ?_
      refine g_X11_47 rfl dX11_regained_30 (by decide) rfl rfl ?_
      obtain ⟨q5, hq5, h⟩ := Option.bind_eq_some_iff.mp h
      refine y_callVv (L' := [(0, _), (1, _), (2, _), (3, _), (4, _), (6, _), (7, _), (16, _), (17, _), (18, _), (19, _), (20, _), (21, _), (22, _), (23, _), (24, _), (25, _), (26, _)]) mi_X6_mirror ml_X11_267 im_X6_mirror se_X6_mirror (rfl : vwCl[5]? = _) dX11_regained_33 (fun s1 => v_X6_mirror_21_16 s1 _ _ _ _ _ _ _ _ _ _ _ _ _ _ q5 hq5) (by decide) rfl (Nat.le_of_ble_eq_true rfl) rfl (by decide) (Nat.le_of_ble_eq_true rfl) rfl rfl rfl rfl ?_
      refine x_aload_n dX11_regained_36 rfl ?_
      refine x_aload_n dX11_regained_37 rfl ?_
      refine g_X11_24 rfl dX11_regained_38 (by decide) rfl rfl ?_
      refine g_X11_125 rfl dX11_regained_41 (by decide) rfl rfl ?_
      refine x_iload_n dX11_regained_44 rfl ?_
      refine x_iadd dX11_regained_45 ?_
      obtain ⟨q6, hq6, h⟩ := Option.bind_eq_some_iff.mp h
      refine y_callVi (L' := [(0, _), (1, _), (2, _), (3, _), (4, _), (6, _), (7, _), (16, _), (17, _), (18, _), (19, _), (20, _), (21, _), (22, _), (23, _), (24, _), (25, _), (26, _)]) mi_X11_bitsTillSure ml_X11_277 im_X11_bitsTillSure se_X11_bitsTillSure (rfl : vwCl[10]? = _) dX11_regained_46 (fun s1 => v_X11_bitsTillSure_0 s1 n _ _ _ _ _ _ _ _ _ _ _ _ _ q6 hq6) (by decide) rfl (Nat.le_of_ble_eq_true rfl) rfl (by decide) (Nat.le_of_ble_eq_true rfl) rfl rfl rfl rfl ?_
      cases h
      exact x_iret dX11_regained_49 ⟨rfl, rfl, rfl⟩
    · replace h := xif_n c4 h
      refine x_bipush (v := -3) dX11_regained_22 (by decide) ?_
      cases h
      exact x_iret dX11_regained_24 ⟨rfl, rfl, rfl⟩
def f_X10_mirror_30_18 (o18 : Nat → Int32) (j18 : Int64) (o30 : Nat → Int32) (j30 : Int64)  : Option (((Nat → Int32) × (Int64))) := (some (upd (upd o30 1 ((o18 1))) 2 ((o18 2)), j18))
set_option maxRecDepth 100000 in
set_option maxHeartbeats 400000 in
theorem v_X10_mirror_30_18 (s0 : XW) (o18 : Nat → Int32) (j18 : Int64) (o30 : Nat → Int32) (j30 : Int64)  (q : ((Nat → Int32) × (Int64))) (h : f_X10_mirror_30_18 o18 j18 o30 j30 = some q) : C_X10_mirror 0 61 [.ref 30, .ref 18] (xof s0 [W_18 o18 j18, W_30 o30 j30]) none (xof s0 [W_18 o18 j18, W_30 q.1 q.2]) := by
  unfold f_X10_mirror_30_18 at h
  show V yX10_mirror cX10_mirror none 0 61 (0, 0) 0 [some (.ref 30), some (.ref 18)] [] (xof s0 [W_18 o18 j18, W_30 o30 j30]) _
  refine x_aload_n dX10_mirror_0 rfl ?_
  refine x_aload_n dX10_mirror_1 rfl ?_
  refine g_X10_9 rfl dX10_mirror_2 (by decide) rfl rfl ?_
  refine p_X10_9 (fs' := [_, _, _]) (L' := [(18, _), (30, _)]) rfl dX10_mirror_5 (by decide) rfl (Nat.le_of_ble_eq_true rfl) rfl rfl ?_
  refine x_aload_n dX10_mirror_8 rfl ?_
  refine x_aload_n dX10_mirror_9 rfl ?_
  refine g_X10_15 rfl dX10_mirror_10 (by decide) rfl rfl ?_
  refine p_X10_15 (fs' := [_, _, _]) (L' := [(18, _), (30, _)]) rfl dX10_mirror_13 (by decide) rfl (Nat.le_of_ble_eq_true rfl) rfl rfl ?_
  refine x_aload_n dX10_mirror_16 rfl ?_
  refine x_aload_n dX10_mirror_17 rfl ?_
  refine g_X10_19 rfl dX10_mirror_18 (by decide) rfl rfl ?_
  refine p_X10_19 (fs' := [_, _, _]) (L' := [(18, _), (30, _)]) rfl dX10_mirror_21 (by decide) rfl (Nat.le_of_ble_eq_true rfl) rfl rfl ?_
  cases h
  exact x_vret dX10_mirror_24 ⟨rfl, rfl, rfl⟩
def f_X2_mirror_31_19 (j19 : Int64) (j31 : Int64)  : Option Int64 := (some j19)
set_option maxRecDepth 100000 in
set_option maxHeartbeats 400000 in
theorem v_X2_mirror_31_19 (s0 : XW) (j19 : Int64) (j31 : Int64)  (q : Int64) (h : f_X2_mirror_31_19 j19 j31 = some q) : C_X2_mirror 0 61 [.ref 31, .ref 19] (xof s0 [W_19 j19, W_31 j31]) none (xof s0 [W_19 j19, W_31 q]) := by
  unfold f_X2_mirror_31_19 at h
  show V yX2_mirror cX2_mirror none 0 61 (0, 0) 0 [some (.ref 31), some (.ref 19)] [] (xof s0 [W_19 j19, W_31 j31]) _
  refine x_aload_n dX2_mirror_0 rfl ?_
  refine x_aload_n dX2_mirror_1 rfl ?_
  refine g_X2_9 rfl dX2_mirror_2 (by decide) rfl rfl ?_
  refine p_X2_9 (fs' := [_]) (L' := [(19, _), (31, _)]) rfl dX2_mirror_5 (by decide) rfl (Nat.le_of_ble_eq_true rfl) rfl rfl ?_
  cases h
  exact x_vret dX2_mirror_8 ⟨rfl, rfl, rfl⟩
def f_X6_mirror_27_16 (a1 : Nat → Int32) (o16 : Nat → Int32) (a17 : Nat → Int32) (o18 : Nat → Int32) (j18 : Int64) (j19 : Int64) (a20 : Nat → Int32) (o27 : Nat → Int32) (a28 : Nat → Int32) (a29 : Nat → Int32) (o30 : Nat → Int32) (j30 : Int64) (j31 : Int64) (a32 : Nat → Int32)  : Option (((Nat → Int32) × (Nat → Int32) × (Nat → Int32) × (Nat → Int32) × (Int64) × (Int64) × (Nat → Int32))) := (bif xcp 0 0 7 7 7 then (bif xcp 0 0 14 14 14 then (bif xcp 0 0 48 48 48 then (bif xfb a20 0 48 then (Option.bind (f_X10_mirror_30_18 o18 j18 o30 j30) (fun q5 => (Option.bind (f_X2_mirror_31_19 j19 j31) (fun q6 => (bif xb (o16 11) then (bif xb (o16 12) then (some (upd (upd (upd (upd (upd (upd (upd (upd (upd (upd (upd (upd o27 7 ((o16 7))) 8 ((o16 8))) 9 ((o16 9))) 10 ((o16 10))) 11 ((o16 11))) 12 ((o16 12))) 13 ((o16 13))) 14 ((o16 14))) 15 ((o16 15))) 16 ((o16 16))) 17 ((o16 17))) 18 ((o16 18)), (va_cpy a1 a28 (Int32.toNatClampNeg 0) (Int32.toNatClampNeg 0) (Int32.toNatClampNeg 7)), (va_cpy a17 a29 (Int32.toNatClampNeg 0) (Int32.toNatClampNeg 0) (Int32.toNatClampNeg 14)), q5.1, q5.2, q6, (va_cpy a20 a32 (Int32.toNatClampNeg 0) (Int32.toNatClampNeg 0) (Int32.toNatClampNeg 48)))) else none) else none))))) else none) else none) else none) else none)
set_option maxRecDepth 100000 in
set_option maxHeartbeats 400000 in
theorem v_X6_mirror_27_16 (s0 : XW) (a1 : Nat → Int32) (o16 : Nat → Int32) (a17 : Nat → Int32) (o18 : Nat → Int32) (j18 : Int64) (j19 : Int64) (a20 : Nat → Int32) (o27 : Nat → Int32) (a28 : Nat → Int32) (a29 : Nat → Int32) (o30 : Nat → Int32) (j30 : Int64) (j31 : Int64) (a32 : Nat → Int32)  (q : ((Nat → Int32) × (Nat → Int32) × (Nat → Int32) × (Nat → Int32) × (Int64) × (Int64) × (Nat → Int32))) (h : f_X6_mirror_27_16 a1 o16 a17 o18 j18 j19 a20 o27 a28 a29 o30 j30 j31 a32 = some q) : C_X6_mirror 1 61 [.ref 27, .ref 16] (xof s0 [W_1 a1, W_16 o16, W_17 a17, W_18 o18 j18, W_19 j19, W_20 a20, W_27 o27, W_28 a28, W_29 a29, W_30 o30 j30, W_31 j31, W_32 a32]) none (xof s0 [W_1 a1, W_16 o16, W_17 a17, W_18 o18 j18, W_19 j19, W_20 a20, W_27 q.1, W_28 q.2.1, W_29 q.2.2.1, W_30 q.2.2.2.1 q.2.2.2.2.1, W_31 q.2.2.2.2.2.1, W_32 q.2.2.2.2.2.2]) := by
  unfold f_X6_mirror_27_16 at h
  show V yX6_mirror cX6_mirror none 1 61 (0, 0) 0 [some (.ref 27), some (.ref 16)] [] (xof s0 [W_1 a1, W_16 o16, W_17 a17, W_18 o18 j18, W_19 j19, W_20 a20, W_27 o27, W_28 a28, W_29 a29, W_30 o30 j30, W_31 j31, W_32 a32]) _
  refine x_aload_n dX6_mirror_0 rfl ?_
  refine g_X6_33 rfl dX6_mirror_1 (by decide) rfl rfl ?_
  refine x_iconst (v := 0) dX6_mirror_4 (by decide) ?_
  refine x_aload_n dX6_mirror_5 rfl ?_
  refine g_X6_33 rfl dX6_mirror_6 (by decide) rfl rfl ?_
  refine x_iconst (v := 0) dX6_mirror_9 (by decide) ?_
  refine x_bipush (v := 7) dX6_mirror_10 (by decide) ?_
  obtain ⟨c1, h⟩ := xck h
  refine x_copyiL (t := 0) (ty := .int) (L' := [(1, _), (16, _), (17, _), (18, _), (19, _), (20, _), (27, _), (28, _), (29, _), (30, _), (31, _), (32, _)]) dX6_mirror_12 ml_X6_83 (by decide) (by decide) (by decide) rfl rfl (fun _ => rfl) rfl (xcp_ok c1).1 (xcp_ok c1).2.1 (xcp_ok c1).2.2.1 (xcp_ok c1).2.2.2.1 (xcp_ok c1).2.2.2.2 (fun _ _ => rfl) (Nat.le_of_ble_eq_true rfl) rfl ?_
  refine x_aload_n dX6_mirror_15 rfl ?_
  refine g_X6_9 rfl dX6_mirror_16 (by decide) rfl rfl ?_
  refine x_iconst (v := 0) dX6_mirror_19 (by decide) ?_
  refine x_aload_n dX6_mirror_20 rfl ?_
  refine g_X6_9 rfl dX6_mirror_21 (by decide) rfl rfl ?_
  refine x_iconst (v := 0) dX6_mirror_24 (by decide) ?_
  refine x_bipush (v := 14) dX6_mirror_25 (by decide) ?_
  obtain ⟨c2, h⟩ := xck h
  refine x_copyiL (t := 0) (ty := .int) (L' := [(1, _), (16, _), (17, _), (18, _), (19, _), (20, _), (27, _), (28, _), (29, _), (30, _), (31, _), (32, _)]) dX6_mirror_27 ml_X6_83 (by decide) (by decide) (by decide) rfl rfl (fun _ => rfl) rfl (xcp_ok c2).1 (xcp_ok c2).2.1 (xcp_ok c2).2.2.1 (xcp_ok c2).2.2.2.1 (xcp_ok c2).2.2.2.2 (fun _ _ => rfl) (Nat.le_of_ble_eq_true rfl) rfl ?_
  refine x_aload_n dX6_mirror_30 rfl ?_
  refine g_X6_29 rfl dX6_mirror_31 (by decide) rfl rfl ?_
  refine x_iconst (v := 0) dX6_mirror_34 (by decide) ?_
  refine x_aload_n dX6_mirror_35 rfl ?_
  refine g_X6_29 rfl dX6_mirror_36 (by decide) rfl rfl ?_
  refine x_iconst (v := 0) dX6_mirror_39 (by decide) ?_
  refine x_bipush (v := 48) dX6_mirror_40 (by decide) ?_
  obtain ⟨c3, h⟩ := xck h
  obtain ⟨c4, h⟩ := xck h
  refine x_copyiL (t := 1) (ty := .byte) (L' := [(1, _), (16, _), (17, _), (18, _), (19, _), (20, _), (27, _), (28, _), (29, _), (30, _), (31, _), (32, _)]) dX6_mirror_42 ml_X6_83 (by decide) (by decide) (by decide) rfl rfl (fun _ => rfl) rfl (xcp_ok c3).1 (xcp_ok c3).2.1 (xcp_ok c3).2.2.1 (xcp_ok c3).2.2.2.1 (xcp_ok c3).2.2.2.2 (xfb_ok c4) (Nat.le_of_ble_eq_true rfl) rfl ?_
  refine x_aload_n dX6_mirror_45 rfl ?_
  refine g_X6_18 rfl dX6_mirror_46 (by decide) rfl rfl ?_
  refine x_aload_n dX6_mirror_49 rfl ?_
  refine g_X6_18 rfl dX6_mirror_50 (by decide) rfl rfl ?_
  obtain ⟨q5, hq5, h⟩ := Option.bind_eq_some_iff.mp h
  refine y_callVv (L' := [(1, _), (16, _), (17, _), (18, _), (19, _), (20, _), (27, _), (28, _), (29, _), (30, _), (31, _), (32, _)]) mi_X10_mirror ml_X6_89 im_X10_mirror se_X10_mirror (rfl : vwCl[9]? = _) dX6_mirror_53 (fun s1 => v_X10_mirror_30_18 s1 _ _ _ _ q5 hq5) (by decide) rfl (Nat.le_of_ble_eq_true rfl) rfl (by decide) (Nat.le_of_ble_eq_true rfl) rfl rfl rfl rfl ?_
  refine x_aload_n dX6_mirror_56 rfl ?_
  refine g_X6_25 rfl dX6_mirror_57 (by decide) rfl rfl ?_
  refine x_aload_n dX6_mirror_60 rfl ?_
  refine g_X6_25 rfl dX6_mirror_61 (by decide) rfl rfl ?_
  obtain ⟨q6, hq6, h⟩ := Option.bind_eq_some_iff.mp h
  refine y_callVv (L' := [(1, _), (16, _), (17, _), (18, _), (19, _), (20, _), (27, _), (28, _), (29, _), (30, _), (31, _), (32, _)]) mi_X2_mirror ml_X6_93 im_X2_mirror se_X2_mirror (rfl : vwCl[1]? = _) dX6_mirror_64 (fun s1 => v_X2_mirror_31_19 s1 _ _ q6 hq6) (by decide) rfl (Nat.le_of_ble_eq_true rfl) rfl (by decide) (Nat.le_of_ble_eq_true rfl) rfl rfl rfl rfl ?_
  refine x_aload_n dX6_mirror_67 rfl ?_
  refine x_aload_n dX6_mirror_68 rfl ?_
  refine g_X6_54 rfl dX6_mirror_69 (by decide) rfl rfl ?_
  refine p_X6_54 (fs' := [_, _, _, _, _, _, _, _, _, _, _, _, _, _, _, _, _, _, _]) (L' := [(1, _), (16, _), (17, _), (18, _), (19, _), (20, _), (27, _), (28, _), (29, _), (30, _), (31, _), (32, _)]) rfl dX6_mirror_72 (by decide) rfl (Nat.le_of_ble_eq_true rfl) rfl rfl ?_
  refine x_aload_n dX6_mirror_75 rfl ?_
  refine x_aload_n dX6_mirror_76 rfl ?_
  refine g_X6_58 rfl dX6_mirror_77 (by decide) rfl rfl ?_
  refine p_X6_58 (fs' := [_, _, _, _, _, _, _, _, _, _, _, _, _, _, _, _, _, _, _]) (L' := [(1, _), (16, _), (17, _), (18, _), (19, _), (20, _), (27, _), (28, _), (29, _), (30, _), (31, _), (32, _)]) rfl dX6_mirror_80 (by decide) rfl (Nat.le_of_ble_eq_true rfl) rfl rfl ?_
  refine x_aload_n dX6_mirror_83 rfl ?_
  refine x_aload_n dX6_mirror_84 rfl ?_
  refine g_X6_61 rfl dX6_mirror_85 (by decide) rfl rfl ?_
  refine p_X6_61 (fs' := [_, _, _, _, _, _, _, _, _, _, _, _, _, _, _, _, _, _, _]) (L' := [(1, _), (16, _), (17, _), (18, _), (19, _), (20, _), (27, _), (28, _), (29, _), (30, _), (31, _), (32, _)]) rfl dX6_mirror_88 (by decide) rfl (Nat.le_of_ble_eq_true rfl) rfl rfl ?_
  refine x_aload_n dX6_mirror_91 rfl ?_
  refine x_aload_n dX6_mirror_92 rfl ?_
  refine g_X6_64 rfl dX6_mirror_93 (by decide) rfl rfl ?_
  refine p_X6_64 (fs' := [_, _, _, _, _, _, _, _, _, _, _, _, _, _, _, _, _, _, _]) (L' := [(1, _), (16, _), (17, _), (18, _), (19, _), (20, _), (27, _), (28, _), (29, _), (30, _), (31, _), (32, _)]) rfl dX6_mirror_96 (by decide) rfl (Nat.le_of_ble_eq_true rfl) rfl rfl ?_
  refine x_aload_n dX6_mirror_99 rfl ?_
  refine x_aload_n dX6_mirror_100 rfl ?_
  refine g_X6_67 rfl dX6_mirror_101 (by decide) rfl rfl ?_
  obtain ⟨c7, h⟩ := xck h
  refine p_X6_67 (fs' := [_, _, _, _, _, _, _, _, _, _, _, _, _, _, _, _, _, _, _]) (L' := [(1, _), (16, _), (17, _), (18, _), (19, _), (20, _), (27, _), (28, _), (29, _), (30, _), (31, _), (32, _)]) rfl dX6_mirror_104 (xb_ok c7) (by decide) rfl (Nat.le_of_ble_eq_true rfl) rfl rfl ?_
  refine x_aload_n dX6_mirror_107 rfl ?_
  refine x_aload_n dX6_mirror_108 rfl ?_
  refine g_X6_71 rfl dX6_mirror_109 (by decide) rfl rfl ?_
  obtain ⟨c8, h⟩ := xck h
  refine p_X6_71 (fs' := [_, _, _, _, _, _, _, _, _, _, _, _, _, _, _, _, _, _, _]) (L' := [(1, _), (16, _), (17, _), (18, _), (19, _), (20, _), (27, _), (28, _), (29, _), (30, _), (31, _), (32, _)]) rfl dX6_mirror_112 (xb_ok c8) (by decide) rfl (Nat.le_of_ble_eq_true rfl) rfl rfl ?_
  refine x_aload_n dX6_mirror_115 rfl ?_
  refine x_aload_n dX6_mirror_116 rfl ?_
  refine g_X6_74 rfl dX6_mirror_117 (by decide) rfl rfl ?_
  refine p_X6_74 (fs' := [_, _, _, _, _, _, _, _, _, _, _, _, _, _, _, _, _, _, _]) (L' := [(1, _), (16, _), (17, _), (18, _), (19, _), (20, _), (27, _), (28, _), (29, _), (30, _), (31, _), (32, _)]) rfl dX6_mirror_120 (by decide) rfl (Nat.le_of_ble_eq_true rfl) rfl rfl ?_
  refine x_aload_n dX6_mirror_123 rfl ?_
  refine x_aload_n dX6_mirror_124 rfl ?_
  refine g_X6_77 rfl dX6_mirror_125 (by decide) rfl rfl ?_
  refine p_X6_77 (fs' := [_, _, _, _, _, _, _, _, _, _, _, _, _, _, _, _, _, _, _]) (L' := [(1, _), (16, _), (17, _), (18, _), (19, _), (20, _), (27, _), (28, _), (29, _), (30, _), (31, _), (32, _)]) rfl dX6_mirror_128 (by decide) rfl (Nat.le_of_ble_eq_true rfl) rfl rfl ?_
  refine x_aload_n dX6_mirror_131 rfl ?_
  refine x_aload_n dX6_mirror_132 rfl ?_
  refine g_X6_80 rfl dX6_mirror_133 (by decide) rfl rfl ?_
  refine p_X6_80 (fs' := [_, _, _, _, _, _, _, _, _, _, _, _, _, _, _, _, _, _, _]) (L' := [(1, _), (16, _), (17, _), (18, _), (19, _), (20, _), (27, _), (28, _), (29, _), (30, _), (31, _), (32, _)]) rfl dX6_mirror_136 (by decide) rfl (Nat.le_of_ble_eq_true rfl) rfl rfl ?_
  refine x_aload_n dX6_mirror_139 rfl ?_
  refine x_aload_n dX6_mirror_140 rfl ?_
  refine g_X6_96 rfl dX6_mirror_141 (by decide) rfl rfl ?_
  refine p_X6_96 (fs' := [_, _, _, _, _, _, _, _, _, _, _, _, _, _, _, _, _, _, _]) (L' := [(1, _), (16, _), (17, _), (18, _), (19, _), (20, _), (27, _), (28, _), (29, _), (30, _), (31, _), (32, _)]) rfl dX6_mirror_144 (by decide) rfl (Nat.le_of_ble_eq_true rfl) rfl rfl ?_
  refine x_aload_n dX6_mirror_147 rfl ?_
  refine x_aload_n dX6_mirror_148 rfl ?_
  refine g_X6_99 rfl dX6_mirror_149 (by decide) rfl rfl ?_
  refine p_X6_99 (fs' := [_, _, _, _, _, _, _, _, _, _, _, _, _, _, _, _, _, _, _]) (L' := [(1, _), (16, _), (17, _), (18, _), (19, _), (20, _), (27, _), (28, _), (29, _), (30, _), (31, _), (32, _)]) rfl dX6_mirror_152 (by decide) rfl (Nat.le_of_ble_eq_true rfl) rfl rfl ?_
  refine x_aload_n dX6_mirror_155 rfl ?_
  refine x_aload_n dX6_mirror_156 rfl ?_
  refine g_X6_102 rfl dX6_mirror_157 (by decide) rfl rfl ?_
  refine p_X6_102 (fs' := [_, _, _, _, _, _, _, _, _, _, _, _, _, _, _, _, _, _, _]) (L' := [(1, _), (16, _), (17, _), (18, _), (19, _), (20, _), (27, _), (28, _), (29, _), (30, _), (31, _), (32, _)]) rfl dX6_mirror_160 (by decide) rfl (Nat.le_of_ble_eq_true rfl) rfl rfl ?_
  cases h
  exact x_vret dX6_mirror_163 ⟨rfl, rfl, rfl⟩
def f_X6_plainOf_21 (o21 : Nat → Int32) (a22 : Nat → Int32) (j25 : Int64) (p1 : Int32) : Option Int32 := (if (o21 7) = 0 then (some ((-1))) else (Option.bind (f_X6_loadBits_21 o21 a22) (fun q2 => (if q2 ≤ (o21 15) then (some ((-1))) else (Option.bind (f_X2_oldest_25 j25) (fun q4 => (some ((p1 ^^^ q4)))))))))
set_option maxRecDepth 100000 in
set_option maxHeartbeats 400000 in
theorem v_X6_plainOf_21 (s0 : XW) (o21 : Nat → Int32) (a22 : Nat → Int32) (j25 : Int64) (p1 : Int32) (q : Int32) (h : f_X6_plainOf_21 o21 a22 j25 p1 = some q) : C_X6_plainOf 1 61 [.ref 21, .int p1] (xof s0 [W_21 o21, W_22 a22, W_25 j25]) (some (.int q)) (xof s0 [W_21 o21, W_22 a22, W_25 j25]) := by
  unfold f_X6_plainOf_21 at h
  show V yX6_plainOf cX6_plainOf (some .int) 1 61 (0, 0) 0 [some (.ref 21), some (.int p1)] [] (xof s0 [W_21 o21, W_22 a22, W_25 j25]) _
  refine x_aload_n dX6_plainOf_0 rfl ?_
  refine g_X6_54 rfl dX6_plainOf_1 (by decide) rfl rfl ?_
  refine x_if_eq (tgt := 30) dX6_plainOf_4 (by decide) (fun c1 => ?_) (fun c1 => ?_)
  · replace h := xif_p c1 h
    refine x_iconst (v := -1) dX6_plainOf_30 (by decide) ?_
    cases h
    exact x_iret dX6_plainOf_31 ⟨rfl, rfl, rfl⟩
  · replace h := xif_n c1 h
    refine x_aload_n dX6_plainOf_7 rfl ?_
    refine g_X6_80 rfl dX6_plainOf_8 (by decide) rfl rfl ?_
    refine x_aload_n dX6_plainOf_11 rfl ?_
    obtain ⟨q2, hq2, h⟩ := Option.bind_eq_some_iff.mp h
    refine y_callVi (L' := [(21, _), (22, _), (25, _)]) mi_X6_loadBits ml_X6_105 im_X6_loadBits se_X6_loadBits (rfl : vwCl[5]? = _) dX6_plainOf_12 (fun s1 => v_X6_loadBits_21 s1 _ _ q2 hq2) (by decide) rfl (Nat.le_of_ble_eq_true rfl) rfl (by decide) (Nat.le_of_ble_eq_true rfl) rfl rfl rfl rfl ?_
    refine x_icmp_ge (tgt := 30) dX6_plainOf_15 (by decide) (fun c3 => ?_) (fun c3 => ?_)
    · replace h := xif_p c3 h
      refine x_iconst (v := -1) dX6_plainOf_30 (by decide) ?_
      cases h
      exact x_iret dX6_plainOf_31 ⟨rfl, rfl, rfl⟩
    · replace h := xif_n c3 h
      refine x_iload_n dX6_plainOf_18 rfl ?_
      refine x_aload_n dX6_plainOf_19 rfl ?_
      refine g_X6_25 rfl dX6_plainOf_20 (by decide) rfl rfl ?_
      obtain ⟨q4, hq4, h⟩ := Option.bind_eq_some_iff.mp h
      refine y_callVi (L' := [(21, _), (22, _), (25, _)]) mi_X2_oldest ml_X6_109 im_X2_oldest se_X2_oldest (rfl : vwCl[1]? = _) dX6_plainOf_23 (fun s1 => v_X2_oldest_25 s1 _ q4 hq4) (by decide) rfl (Nat.le_of_ble_eq_true rfl) rfl (by decide) (Nat.le_of_ble_eq_true rfl) rfl rfl rfl rfl ?_
      refine x_ixor dX6_plainOf_26 ?_
      refine x_goto (tgt := 31) dX6_plainOf_27 (by decide) ?_
      cases h
      exact x_iret dX6_plainOf_31 ⟨rfl, rfl, rfl⟩
def f_X6_loadBits_27 (o27 : Nat → Int32) (a28 : Nat → Int32)  : Option Int32 := (some ((8 * (a28 0))))
set_option maxRecDepth 100000 in
set_option maxHeartbeats 400000 in
theorem v_X6_loadBits_27 (s0 : XW) (o27 : Nat → Int32) (a28 : Nat → Int32)  (q : Int32) (h : f_X6_loadBits_27 o27 a28 = some q) : C_X6_loadBits 0 61 [.ref 27] (xof s0 [W_27 o27, W_28 a28]) (some (.int q)) (xof s0 [W_27 o27, W_28 a28]) := by
  unfold f_X6_loadBits_27 at h
  show V yX6_loadBits cX6_loadBits (some .int) 0 61 (0, 0) 0 [some (.ref 27)] [] (xof s0 [W_27 o27, W_28 a28]) _
  refine x_bipush (v := 8) dX6_loadBits_0 (by decide) ?_
  refine x_aload_n dX6_loadBits_2 rfl ?_
  refine g_X6_33 rfl dX6_loadBits_3 (by decide) rfl rfl ?_
  refine x_iconst (v := 0) dX6_loadBits_6 (by decide) ?_
  refine x_ialdK (jn := 0) (v := (a28 0)) dX6_loadBits_7 (by decide) rfl (xin_ok (by decide)) (by decide) rfl ?_
  refine x_imul dX6_loadBits_8 ?_
  cases h
  exact x_iret dX6_loadBits_9 ⟨rfl, rfl, rfl⟩
def f_X2_oldest_31 (j31 : Int64)  : Option Int32 := (some ((Int64.toInt32 (xul j31 42))))
set_option maxRecDepth 100000 in
set_option maxHeartbeats 400000 in
theorem v_X2_oldest_31 (s0 : XW) (j31 : Int64)  (q : Int32) (h : f_X2_oldest_31 j31 = some q) : C_X2_oldest 0 61 [.ref 31] (xof s0 [W_31 j31]) (some (.int q)) (xof s0 [W_31 j31]) := by
  unfold f_X2_oldest_31 at h
  show V yX2_oldest cX2_oldest (some .int) 0 61 (0, 0) 0 [some (.ref 31)] [] (xof s0 [W_31 j31]) _
  refine x_aload_n dX2_oldest_0 rfl ?_
  refine g_X2_9 rfl dX2_oldest_1 (by decide) rfl rfl ?_
  refine x_bipush (v := 42) dX2_oldest_4 (by decide) ?_
  refine x_lushr dX2_oldest_6 ?_
  refine x_l2i dX2_oldest_7 ?_
  cases h
  exact x_iret dX2_oldest_8 ⟨rfl, rfl, rfl⟩
def f_X6_plainOf_27 (o27 : Nat → Int32) (a28 : Nat → Int32) (j31 : Int64) (p1 : Int32) : Option Int32 := (if (o27 7) = 0 then (some ((-1))) else (Option.bind (f_X6_loadBits_27 o27 a28) (fun q2 => (if q2 ≤ (o27 15) then (some ((-1))) else (Option.bind (f_X2_oldest_31 j31) (fun q4 => (some ((p1 ^^^ q4)))))))))
set_option maxRecDepth 100000 in
set_option maxHeartbeats 400000 in
theorem v_X6_plainOf_27 (s0 : XW) (o27 : Nat → Int32) (a28 : Nat → Int32) (j31 : Int64) (p1 : Int32) (q : Int32) (h : f_X6_plainOf_27 o27 a28 j31 p1 = some q) : C_X6_plainOf 1 61 [.ref 27, .int p1] (xof s0 [W_27 o27, W_28 a28, W_31 j31]) (some (.int q)) (xof s0 [W_27 o27, W_28 a28, W_31 j31]) := by
  unfold f_X6_plainOf_27 at h
  show V yX6_plainOf cX6_plainOf (some .int) 1 61 (0, 0) 0 [some (.ref 27), some (.int p1)] [] (xof s0 [W_27 o27, W_28 a28, W_31 j31]) _
  refine x_aload_n dX6_plainOf_0 rfl ?_
  refine g_X6_54 rfl dX6_plainOf_1 (by decide) rfl rfl ?_
  refine x_if_eq (tgt := 30) dX6_plainOf_4 (by decide) (fun c1 => ?_) (fun c1 => ?_)
  · replace h := xif_p c1 h
    refine x_iconst (v := -1) dX6_plainOf_30 (by decide) ?_
    cases h
    exact x_iret dX6_plainOf_31 ⟨rfl, rfl, rfl⟩
  · replace h := xif_n c1 h
    refine x_aload_n dX6_plainOf_7 rfl ?_
    refine g_X6_80 rfl dX6_plainOf_8 (by decide) rfl rfl ?_
    refine x_aload_n dX6_plainOf_11 rfl ?_
    obtain ⟨q2, hq2, h⟩ := Option.bind_eq_some_iff.mp h
    refine y_callVi (L' := [(27, _), (28, _), (31, _)]) mi_X6_loadBits ml_X6_105 im_X6_loadBits se_X6_loadBits (rfl : vwCl[5]? = _) dX6_plainOf_12 (fun s1 => v_X6_loadBits_27 s1 _ _ q2 hq2) (by decide) rfl (Nat.le_of_ble_eq_true rfl) rfl (by decide) (Nat.le_of_ble_eq_true rfl) rfl rfl rfl rfl ?_
    refine x_icmp_ge (tgt := 30) dX6_plainOf_15 (by decide) (fun c3 => ?_) (fun c3 => ?_)
    · replace h := xif_p c3 h
      refine x_iconst (v := -1) dX6_plainOf_30 (by decide) ?_
      cases h
      exact x_iret dX6_plainOf_31 ⟨rfl, rfl, rfl⟩
    · replace h := xif_n c3 h
      refine x_iload_n dX6_plainOf_18 rfl ?_
      refine x_aload_n dX6_plainOf_19 rfl ?_
      refine g_X6_25 rfl dX6_plainOf_20 (by decide) rfl rfl ?_
      obtain ⟨q4, hq4, h⟩ := Option.bind_eq_some_iff.mp h
      refine y_callVi (L' := [(27, _), (28, _), (31, _)]) mi_X2_oldest ml_X6_109 im_X2_oldest se_X2_oldest (rfl : vwCl[1]? = _) dX6_plainOf_23 (fun s1 => v_X2_oldest_31 s1 _ q4 hq4) (by decide) rfl (Nat.le_of_ble_eq_true rfl) rfl (by decide) (Nat.le_of_ble_eq_true rfl) rfl rfl rfl rfl ?_
      refine x_ixor dX6_plainOf_26 ?_
      refine x_goto (tgt := 31) dX6_plainOf_27 (by decide) ?_
      cases h
      exact x_iret dX6_plainOf_31 ⟨rfl, rfl, rfl⟩
def b_X10_push_30_18  (o30 : Nat → Int32) (j30 : Int64) (l1 : Int32) (t0 : Int32) : Option (((Nat → Int32) × (Int64))) := (Option.bind (f_X1_timesX ((o30 1))) (fun q2 => (some (upd (upd o30 1 (((q2 ^^^ l1) ^^^ t0))) 2 (((o30 2) + 1)), (((j30 <<< (Int32.toInt64 1 &&& 63)) ||| (Int32.toInt64 l1)) &&& 1099511627775)))))
set_option maxRecDepth 100000 in
set_option maxHeartbeats 400000 in
theorem vb_X10_push_30_18 (s0 : XW)  (o30 : Nat → Int32) (j30 : Int64) (l1 : Int32) (t0 : Int32) (q : ((Nat → Int32) × (Int64))) (h : b_X10_push_30_18 o30 j30 l1 t0 = some q) : V yX10_push cX10_push none 1 61 (0, 0) 18 [some (.ref 30), some (.int l1), none] [.int t0] (xof s0 [W_30 o30 j30]) (xq 61 none (xof s0 [W_30 q.1 q.2])) := by
  unfold b_X10_push_30_18 at h
  refine x_istore_n (ls' := [_, _, _]) dX10_push_18 rfl rfl ?_
  refine x_aload_n dX10_push_19 rfl ?_
  refine x_aload_n dX10_push_20 rfl ?_
  refine g_X10_9 rfl dX10_push_21 (by decide) rfl rfl ?_
  refine x_iconst (v := 1) dX10_push_24 (by decide) ?_
  refine x_lshl dX10_push_25 ?_
  refine x_iload_n dX10_push_26 rfl ?_
  refine x_i2l dX10_push_27 ?_
  refine x_lor dX10_push_28 ?_
  refine x_ldc2 dX10_push_29 cn_X10_22 ?_
  refine x_land dX10_push_32 ?_
  refine p_X10_9 (fs' := [_, _, _]) (L' := [(30, _)]) rfl dX10_push_33 (by decide) rfl (Nat.le_of_ble_eq_true rfl) rfl rfl ?_
  refine x_aload_n dX10_push_36 rfl ?_
  refine x_aload_n dX10_push_37 rfl ?_
  refine g_X10_15 rfl dX10_push_38 (by decide) rfl rfl ?_
  obtain ⟨q2, hq2, h⟩ := Option.bind_eq_some_iff.mp h
  refine y_callSi (L' := [(30, _)]) mi_X1_timesX ml_X10_24 st_X1_timesX dX10_push_41 (fun s1 => v_X1_timesX 61 s1 _ q2 hq2) (Nat.le_of_ble_eq_true rfl) rfl (by decide) (Nat.le_of_ble_eq_true rfl) rfl rfl rfl rfl ?_
  refine x_iload_n dX10_push_44 rfl ?_
  refine x_ixor dX10_push_45 ?_
  refine x_iload_n dX10_push_46 rfl ?_
  refine x_ixor dX10_push_47 ?_
  refine p_X10_15 (fs' := [_, _, _]) (L' := [(30, _)]) rfl dX10_push_48 (by decide) rfl (Nat.le_of_ble_eq_true rfl) rfl rfl ?_
  refine x_aload_n dX10_push_51 rfl ?_
  refine x_dup dX10_push_52 rfl ?_
  refine g_X10_19 rfl dX10_push_53 (by decide) rfl rfl ?_
  refine x_iconst (v := 1) dX10_push_56 (by decide) ?_
  refine x_iadd dX10_push_57 ?_
  refine p_X10_19 (fs' := [_, _, _]) (L' := [(30, _)]) rfl dX10_push_58 (by decide) rfl (Nat.le_of_ble_eq_true rfl) rfl rfl ?_
  cases h
  exact x_vret dX10_push_61 ⟨rfl, rfl, rfl⟩
def f_X10_push_30 (o30 : Nat → Int32) (j30 : Int64) (p1 : Int32) : Option (((Nat → Int32) × (Int64))) := (if (lg_cmp (xul j30 39) 0) = 0 then (b_X10_push_30_18 o30 j30 p1 0) else (b_X10_push_30_18 o30 j30 p1 98))
set_option maxRecDepth 100000 in
set_option maxHeartbeats 400000 in
theorem v_X10_push_30 (s0 : XW) (o30 : Nat → Int32) (j30 : Int64) (p1 : Int32) (q : ((Nat → Int32) × (Int64))) (h : f_X10_push_30 o30 j30 p1 = some q) : C_X10_push 1 61 [.ref 30, .int p1] (xof s0 [W_30 o30 j30]) none (xof s0 [W_30 q.1 q.2]) := by
  unfold f_X10_push_30 at h
  show V yX10_push cX10_push none 1 61 (0, 0) 0 [some (.ref 30), some (.int p1), none] [] (xof s0 [W_30 o30 j30]) _
  refine x_aload_n dX10_push_0 rfl ?_
  refine g_X10_9 rfl dX10_push_1 (by decide) rfl rfl ?_
  refine x_bipush (v := 39) dX10_push_4 (by decide) ?_
  refine x_lushr dX10_push_6 ?_
  refine x_lconst (v := 0) dX10_push_7 (by decide) ?_
  refine x_lcmp dX10_push_8 ?_
  refine x_if_ne (tgt := 16) dX10_push_9 (by decide) (fun c1 => ?_) (fun c1 => ?_)
  · replace h := xif_n c1 h
    refine x_bipush (v := 98) dX10_push_16 (by decide) ?_
    show V yX10_push cX10_push none 1 61 (0, 0) 18 [some (.ref 30), some (.int p1), none] [.int 98] (xof s0 [W_30 o30 j30]) _
    exact vb_X10_push_30_18 s0 o30 j30 p1 98 q h
  · replace h := xif_p c1 h
    refine x_iconst (v := 0) dX10_push_12 (by decide) ?_
    refine x_goto (tgt := 18) dX10_push_13 (by decide) ?_
    show V yX10_push cX10_push none 1 61 (0, 0) 18 [some (.ref 30), some (.int p1), none] [.int 0] (xof s0 [W_30 o30 j30]) _
    exact vb_X10_push_30_18 s0 o30 j30 p1 0 q h
def f_X10_looksRight_30 (o30 : Nat → Int32) (j30 : Int64)  : Option Int32 := (if (o30 1) = 85 then (if (o30 2) < 40 then (some 0) else (some 1)) else (some 0))
set_option maxRecDepth 100000 in
set_option maxHeartbeats 400000 in
theorem v_X10_looksRight_30 (s0 : XW) (o30 : Nat → Int32) (j30 : Int64)  (q : Int32) (h : f_X10_looksRight_30 o30 j30 = some q) : C_X10_looksRight 0 61 [.ref 30] (xof s0 [W_30 o30 j30]) (some (.int q)) (xof s0 [W_30 o30 j30]) := by
  unfold f_X10_looksRight_30 at h
  show V yX10_looksRight cX10_looksRight (some .boolean) 0 61 (0, 0) 0 [some (.ref 30)] [] (xof s0 [W_30 o30 j30]) _
  refine x_aload_n dX10_looksRight_0 rfl ?_
  refine g_X10_15 rfl dX10_looksRight_1 (by decide) rfl rfl ?_
  refine x_bipush (v := 85) dX10_looksRight_4 (by decide) ?_
  refine x_icmp_ne (tgt := 22) dX10_looksRight_6 (by decide) (fun c1 => ?_) (fun c1 => ?_)
  · replace h := xif_n c1 h
    refine x_iconst (v := 0) dX10_looksRight_22 (by decide) ?_
    cases h
    exact x_zret dX10_looksRight_23 (Or.inl rfl) ⟨rfl, rfl, rfl⟩
  · replace h := xif_p c1 h
    refine x_aload_n dX10_looksRight_9 rfl ?_
    refine g_X10_19 rfl dX10_looksRight_10 (by decide) rfl rfl ?_
    refine x_bipush (v := 40) dX10_looksRight_13 (by decide) ?_
    refine x_icmp_lt (tgt := 22) dX10_looksRight_15 (by decide) (fun c2 => ?_) (fun c2 => ?_)
    · replace h := xif_p c2 h
      refine x_iconst (v := 0) dX10_looksRight_22 (by decide) ?_
      cases h
      exact x_zret dX10_looksRight_23 (Or.inl rfl) ⟨rfl, rfl, rfl⟩
    · replace h := xif_n c2 h
      refine x_iconst (v := 1) dX10_looksRight_18 (by decide) ?_
      refine x_goto (tgt := 23) dX10_looksRight_19 (by decide) ?_
      cases h
      exact x_zret dX10_looksRight_23 (Or.inr rfl) ⟨rfl, rfl, rfl⟩
def b_X6_become_27_67  (o27 : Nat → Int32) (a29 : Nat → Int32) (l1 : Int32) : Option (((Nat → Int32) × (Nat → Int32))) := (some (upd (upd (upd (upd o27 7 l1) 11 0) 14 0) 15 0, a29))
set_option maxRecDepth 100000 in
set_option maxHeartbeats 400000 in
theorem vb_X6_become_27_67 (s0 : XW)  (o27 : Nat → Int32) (a29 : Nat → Int32) (l1 : Int32) (q : ((Nat → Int32) × (Nat → Int32))) (h : b_X6_become_27_67 o27 a29 l1 = some q) : V yX6_become cX6_become none 0 61 (0, 0) 67 [some (.ref 27), some (.int l1), none] [] (xof s0 [W_27 o27, W_29 a29]) (xq 61 none (xof s0 [W_27 q.1, W_29 q.2])) := by
  unfold b_X6_become_27_67 at h
  refine x_aload_n dX6_become_67 rfl ?_
  refine x_iload_n dX6_become_68 rfl ?_
  refine p_X6_54 (fs' := [_, _, _, _, _, _, _, _, _, _, _, _, _, _, _, _, _, _, _]) (L' := [(27, _), (29, _)]) rfl dX6_become_69 (by decide) rfl (Nat.le_of_ble_eq_true rfl) rfl rfl ?_
  refine x_aload_n dX6_become_72 rfl ?_
  refine x_iconst (v := 0) dX6_become_73 (by decide) ?_
  refine p_X6_77 (fs' := [_, _, _, _, _, _, _, _, _, _, _, _, _, _, _, _, _, _, _]) (L' := [(27, _), (29, _)]) rfl dX6_become_74 (by decide) rfl (Nat.le_of_ble_eq_true rfl) rfl rfl ?_
  refine x_aload_n dX6_become_77 rfl ?_
  refine x_iconst (v := 0) dX6_become_78 (by decide) ?_
  refine p_X6_80 (fs' := [_, _, _, _, _, _, _, _, _, _, _, _, _, _, _, _, _, _, _]) (L' := [(27, _), (29, _)]) rfl dX6_become_79 (by decide) rfl (Nat.le_of_ble_eq_true rfl) rfl rfl ?_
  refine x_aload_n dX6_become_82 rfl ?_
  refine x_iconst (v := 0) dX6_become_83 (by decide) ?_
  refine p_X6_67 (fs' := [_, _, _, _, _, _, _, _, _, _, _, _, _, _, _, _, _, _, _]) (L' := [(27, _), (29, _)]) rfl dX6_become_84 (Or.inl rfl) (by decide) rfl (Nat.le_of_ble_eq_true rfl) rfl rfl ?_
  cases h
  exact x_vret dX6_become_87 ⟨rfl, rfl, rfl⟩
def b_X6_become_27_49  (o27 : Nat → Int32) (a29 : Nat → Int32) (l1 : Int32) : Option (((Nat → Int32) × (Nat → Int32))) := (if (o27 7) = 2 then (b_X6_become_27_67 o27 (upd a29 5 (((a29 5) + 1))) l1) else (b_X6_become_27_67 o27 a29 l1))
set_option maxRecDepth 100000 in
set_option maxHeartbeats 400000 in
theorem vb_X6_become_27_49 (s0 : XW)  (o27 : Nat → Int32) (a29 : Nat → Int32) (l1 : Int32) (q : ((Nat → Int32) × (Nat → Int32))) (h : b_X6_become_27_49 o27 a29 l1 = some q) : V yX6_become cX6_become none 0 61 (0, 0) 49 [some (.ref 27), some (.int l1), none] [] (xof s0 [W_27 o27, W_29 a29]) (xq 61 none (xof s0 [W_27 q.1, W_29 q.2])) := by
  unfold b_X6_become_27_49 at h
  refine x_aload_n dX6_become_49 rfl ?_
  refine g_X6_54 rfl dX6_become_50 (by decide) rfl rfl ?_
  refine x_iconst (v := 2) dX6_become_53 (by decide) ?_
  refine x_icmp_ne (tgt := 67) dX6_become_54 (by decide) (fun c2 => ?_) (fun c2 => ?_)
  · replace h := xif_n c2 h
    show V yX6_become cX6_become none 0 61 (0, 0) 67 [some (.ref 27), some (.int l1), none] [] (xof s0 [W_27 o27, W_29 a29]) _
    exact vb_X6_become_27_67 s0 o27 a29 l1 q h
  · replace h := xif_p c2 h
    refine x_aload_n dX6_become_57 rfl ?_
    refine g_X6_9 rfl dX6_become_58 (by decide) rfl rfl ?_
    refine x_iconst (v := 5) dX6_become_61 (by decide) ?_
    refine x_dup2 dX6_become_62 rfl rfl ?_
    refine x_ialdK (jn := 5) (v := (a29 5)) dX6_become_63 (by decide) rfl (xin_ok (by decide)) (by decide) rfl ?_
    refine x_iconst (v := 1) dX6_become_64 (by decide) ?_
    refine x_iadd dX6_become_65 ?_
    refine x_iastK (jn := 5) (L' := [(27, _), (29, _)]) dX6_become_66 (by decide) rfl (xin_ok (by decide)) (by decide) rfl ?_
    show V yX6_become cX6_become none 0 61 (0, 0) 67 [some (.ref 27), some (.int l1), none] [] (xof s0 [W_27 o27, W_29 (upd a29 5 (((a29 5) + 1)))]) _
    exact vb_X6_become_27_67 s0 o27 (upd a29 5 (((a29 5) + 1))) l1 q h
def f_X6_become_27 (o27 : Nat → Int32) (a29 : Nat → Int32) (p1 : Int32) (p2 : Int32) : Option (((Nat → Int32) × (Nat → Int32))) := (if p1 = 2 then (b_X6_become_27_49 o27 (upd (upd a29 7 (((a29 7) + 1))) 4 (((a29 4) + 1))) p1) else (b_X6_become_27_49 o27 (upd a29 7 (((a29 7) + 1))) p1))
set_option maxRecDepth 100000 in
set_option maxHeartbeats 400000 in
theorem v_X6_become_27 (s0 : XW) (o27 : Nat → Int32) (a29 : Nat → Int32) (p1 : Int32) (p2 : Int32) (q : ((Nat → Int32) × (Nat → Int32))) (h : f_X6_become_27 o27 a29 p1 p2 = some q) : C_X6_become 0 61 [.ref 27, .int p1, .int p2] (xof s0 [W_27 o27, W_29 a29]) none (xof s0 [W_27 q.1, W_29 q.2]) := by
  unfold f_X6_become_27 at h
  show V yX6_become cX6_become none 0 61 (0, 0) 0 [some (.ref 27), some (.int p1), some (.int p2)] [] (xof s0 [W_27 o27, W_29 a29]) _
  refine x_aload_n dX6_become_0 rfl ?_
  refine g_X6_40 rfl dX6_become_1 (by decide) rfl rfl ?_
  refine x_ifnullN (tgt := 23) dX6_become_4 (by decide) ?_
  refine x_aload_n dX6_become_23 rfl ?_
  refine g_X6_9 rfl dX6_become_24 (by decide) rfl rfl ?_
  refine x_bipush (v := 7) dX6_become_27 (by decide) ?_
  refine x_dup2 dX6_become_29 rfl rfl ?_
  refine x_ialdK (jn := 7) (v := (a29 7)) dX6_become_30 (by decide) rfl (xin_ok (by decide)) (by decide) rfl ?_
  refine x_iconst (v := 1) dX6_become_31 (by decide) ?_
  refine x_iadd dX6_become_32 ?_
  refine x_iastK (jn := 7) (L' := [(27, _), (29, _)]) dX6_become_33 (by decide) rfl (xin_ok (by decide)) (by decide) rfl ?_
  refine x_iload_n dX6_become_34 rfl ?_
  refine x_iconst (v := 2) dX6_become_35 (by decide) ?_
  refine x_icmp_ne (tgt := 49) dX6_become_36 (by decide) (fun c1 => ?_) (fun c1 => ?_)
  · replace h := xif_n c1 h
    refine V.drop1 (i := 2) (ls' := [_, _, _]) rfl ?_
    show V yX6_become cX6_become none 0 61 (0, 0) 49 [some (.ref 27), some (.int p1), none] [] (xof s0 [W_27 o27, W_29 (upd a29 7 (((a29 7) + 1)))]) _
    exact vb_X6_become_27_49 s0 o27 (upd a29 7 (((a29 7) + 1))) p1 q h
  · replace h := xif_p c1 h
    refine x_aload_n dX6_become_39 rfl ?_
    refine g_X6_9 rfl dX6_become_40 (by decide) rfl rfl ?_
    refine x_iconst (v := 4) dX6_become_43 (by decide) ?_
    refine x_dup2 dX6_become_44 rfl rfl ?_
    refine x_ialdK (jn := 4) (v := (a29 4)) dX6_become_45 (by decide) rfl (xin_ok (by decide)) (by decide) rfl ?_
    refine x_iconst (v := 1) dX6_become_46 (by decide) ?_
    refine x_iadd dX6_become_47 ?_
    refine x_iastK (jn := 4) (L' := [(27, _), (29, _)]) dX6_become_48 (by decide) rfl (xin_ok (by decide)) (by decide) rfl ?_
    refine V.drop1 (i := 2) (ls' := [_, _, _]) rfl ?_
    show V yX6_become cX6_become none 0 61 (0, 0) 49 [some (.ref 27), some (.int p1), none] [] (xof s0 [W_27 o27, W_29 (upd (upd a29 7 (((a29 7) + 1))) 4 (((a29 4) + 1)))]) _
    exact vb_X6_become_27_49 s0 o27 (upd (upd a29 7 (((a29 7) + 1))) 4 (((a29 4) + 1))) p1 q h
