def b_X5_addCell_8_20_46  (o9 : Nat → Int32) (a10 : Nat → Int32) (a15 : Nat → Int32) (a20 : Nat → Int32) (l1 : Int32) (l2 : Int32) (l3 : Int32) : Option (((Nat → Int32) × (Nat → Int32) × (Nat → Int32))) := (Option.bind (f_X7_add_9 o9 a10 l1 l2 l3) (fun q2 => (some (q2.1, q2.2, a15))))
set_option maxRecDepth 100000 in
set_option maxHeartbeats 400000 in
theorem vb_X5_addCell_8_20_46 (s0 : XW)  (o9 : Nat → Int32) (a10 : Nat → Int32) (a15 : Nat → Int32) (a20 : Nat → Int32) (l1 : Int32) (l2 : Int32) (l3 : Int32) (q : ((Nat → Int32) × (Nat → Int32) × (Nat → Int32))) (h : b_X5_addCell_8_20_46 o9 a10 a15 a20 l1 l2 l3 = some q) : V yX5_addCell cX5_addCell none 1 61 (0, 0) 46 [some (.ref 8), some (.int l1), some (.int l2), some (.int l3), none, none] [] (xof s0 [W_8, W_9 o9, W_10 a10, W_15 a15, W_20 a20]) (xq 61 none (xof s0 [W_8, W_9 q.1, W_10 q.2.1, W_15 q.2.2, W_20 a20])) := by
  unfold b_X5_addCell_8_20_46 at h
  refine x_aload_n dX5_addCell_46 rfl ?_
  refine g_X5_16 rfl dX5_addCell_47 (by decide) rfl rfl ?_
  refine x_iload_n dX5_addCell_50 rfl ?_
  refine x_iload_n dX5_addCell_51 rfl ?_
  refine x_iload_n dX5_addCell_52 rfl ?_
  obtain ⟨q2, hq2, h⟩ := Option.bind_eq_some_iff.mp h
  refine y_callVv (L' := [(8, _), (9, _), (10, _), (15, _), (20, _)]) mi_X7_add ml_X5_50 im_X7_add se_X7_add (rfl : vwCl[6]? = _) dX5_addCell_53 (fun s1 => v_X7_add_9 s1 _ _ _ _ _ q2 hq2) (by decide) rfl (Nat.le_of_ble_eq_true rfl) rfl (by decide) (Nat.le_of_ble_eq_true rfl) rfl rfl rfl rfl ?_
  cases h
  exact x_vret dX5_addCell_56 ⟨rfl, rfl, rfl⟩
def f_X5_addCell_8_20 (o9 : Nat → Int32) (a10 : Nat → Int32) (a15 : Nat → Int32) (a20 : Nat → Int32) (p1 : Int32) (p2 : Int32) (p3 : Int32) : Option (((Nat → Int32) × (Nat → Int32) × (Nat → Int32))) := (if (48 * (o9 3)) < 0 then (b_X5_addCell_8_20_46 o9 a10 a15 a20 p1 p2 p3) else (if (576 - (48 * (o9 3))) < 48 then (b_X5_addCell_8_20_46 o9 a10 a15 a20 p1 p2 p3) else (bif xcp 0 (48 * (o9 3)) 48 48 576 then (bif xfb a20 0 48 then (b_X5_addCell_8_20_46 o9 a10 ((va_cpy a20 a15 (Int32.toNatClampNeg 0) (Int32.toNatClampNeg (48 * (o9 3))) (Int32.toNatClampNeg 48))) a20 p1 p2 p3) else none) else none)))
set_option maxRecDepth 100000 in
set_option maxHeartbeats 400000 in
theorem v_X5_addCell_8_20 (s0 : XW) (o9 : Nat → Int32) (a10 : Nat → Int32) (a15 : Nat → Int32) (a20 : Nat → Int32) (p1 : Int32) (p2 : Int32) (p3 : Int32) (q : ((Nat → Int32) × (Nat → Int32) × (Nat → Int32))) (h : f_X5_addCell_8_20 o9 a10 a15 a20 p1 p2 p3 = some q) : C_X5_addCell 1 61 [.ref 8, .int p1, .int p2, .int p3, .ref 20] (xof s0 [W_8, W_9 o9, W_10 a10, W_15 a15, W_20 a20]) none (xof s0 [W_8, W_9 q.1, W_10 q.2.1, W_15 q.2.2, W_20 a20]) := by
  unfold f_X5_addCell_8_20 at h
  show V yX5_addCell cX5_addCell none 1 61 (0, 0) 0 [some (.ref 8), some (.int p1), some (.int p2), some (.int p3), some (.ref 20), none] [] (xof s0 [W_8, W_9 o9, W_10 a10, W_15 a15, W_20 a20]) _
  refine x_bipush (v := 48) dX5_addCell_0 (by decide) ?_
  refine x_aload_n dX5_addCell_2 rfl ?_
  refine g_X5_16 rfl dX5_addCell_3 (by decide) rfl rfl ?_
  refine g_X5_40 rfl dX5_addCell_6 (by decide) rfl rfl ?_
  refine x_imul dX5_addCell_9 ?_
  refine x_istore (ls' := [_, _, _, _, _, _]) dX5_addCell_10 rfl rfl ?_
  refine x_iload dX5_addCell_12 rfl ?_
  refine x_if_lt (tgt := 46) dX5_addCell_14 (by decide) (fun c1 => ?_) (fun c1 => ?_)
  · replace h := xif_p c1 h
    refine V.drop1 (i := 4) (ls' := [_, _, _, _, _, _]) rfl ?_
    refine V.drop1 (i := 5) (ls' := [_, _, _, _, _, _]) rfl ?_
    show V yX5_addCell cX5_addCell none 1 61 (0, 0) 46 [some (.ref 8), some (.int p1), some (.int p2), some (.int p3), none, none] [] (xof s0 [W_8, W_9 o9, W_10 a10, W_15 a15, W_20 a20]) _
    exact vb_X5_addCell_8_20_46 s0 o9 a10 a15 a20 p1 p2 p3 q h
  · replace h := xif_n c1 h
    refine x_aload dX5_addCell_17 rfl ?_
    refine x_alen (v := 48) dX5_addCell_19 (by decide) rfl (by decide) rfl ?_
    refine x_aload_n dX5_addCell_20 rfl ?_
    refine g_X5_26 rfl dX5_addCell_21 (by decide) rfl rfl ?_
    refine x_alen (v := 576) dX5_addCell_24 (by decide) rfl (by decide) rfl ?_
    refine x_iload dX5_addCell_25 rfl ?_
    refine x_isub dX5_addCell_27 ?_
    refine x_icmp_gt (tgt := 46) dX5_addCell_28 (by decide) (fun c3 => ?_) (fun c3 => ?_)
    · replace h := xif_p c3 h
      refine V.drop1 (i := 4) (ls' := [_, _, _, _, _, _]) rfl ?_
      refine V.drop1 (i := 5) (ls' := [_, _, _, _, _, _]) rfl ?_
      show V yX5_addCell cX5_addCell none 1 61 (0, 0) 46 [some (.ref 8), some (.int p1), some (.int p2), some (.int p3), none, none] [] (xof s0 [W_8, W_9 o9, W_10 a10, W_15 a15, W_20 a20]) _
      exact vb_X5_addCell_8_20_46 s0 o9 a10 a15 a20 p1 p2 p3 q h
    · replace h := xif_n c3 h
      refine x_aload dX5_addCell_31 rfl ?_
      refine x_iconst (v := 0) dX5_addCell_33 (by decide) ?_
      refine x_aload_n dX5_addCell_34 rfl ?_
      refine g_X5_26 rfl dX5_addCell_35 (by decide) rfl rfl ?_
      refine x_iload dX5_addCell_38 rfl ?_
      refine x_aload dX5_addCell_40 rfl ?_
      refine x_alen (v := 48) dX5_addCell_42 (by decide) rfl (by decide) rfl ?_
      obtain ⟨c4, h⟩ := xck h
      obtain ⟨c5, h⟩ := xck h
      refine x_copyiL (t := 1) (ty := .byte) (L' := [(8, _), (9, _), (10, _), (15, _), (20, _)]) dX5_addCell_43 ml_X5_44 (by decide) (by decide) (by decide) rfl rfl (fun _ => rfl) rfl (xcp_ok c4).1 (xcp_ok c4).2.1 (xcp_ok c4).2.2.1 (xcp_ok c4).2.2.2.1 (xcp_ok c4).2.2.2.2 (xfb_ok c5) (Nat.le_of_ble_eq_true rfl) rfl ?_
      refine V.drop1 (i := 4) (ls' := [_, _, _, _, _, _]) rfl ?_
      refine V.drop1 (i := 5) (ls' := [_, _, _, _, _, _]) rfl ?_
      show V yX5_addCell cX5_addCell none 1 61 (0, 0) 46 [some (.ref 8), some (.int p1), some (.int p2), some (.int p3), none, none] [] (xof s0 [W_8, W_9 o9, W_10 a10, W_15 ((va_cpy a20 a15 (Int32.toNatClampNeg 0) (Int32.toNatClampNeg (48 * (o9 3))) (Int32.toNatClampNeg 48))), W_20 a20]) _
      exact vb_X5_addCell_8_20_46 s0 o9 a10 ((va_cpy a20 a15 (Int32.toNatClampNeg 0) (Int32.toNatClampNeg (48 * (o9 3))) (Int32.toNatClampNeg 48))) a20 p1 p2 p3 q h
def b_X6_endLoad_16_90 (n : Nat) (a1 : Nat → Int32) (o4 : Nat → Int32) (a6 : Nat → Int32) (a7 : Nat → Int32) (o9 : Nat → Int32) (a10 : Nat → Int32) (a15 : Nat → Int32) (o16 : Nat → Int32) (a17 : Nat → Int32) (a20 : Nat → Int32)  : Option (((Nat → Int32) × (Nat → Int32) × (Nat → Int32) × (Nat → Int32) × (Nat → Int32))) := (Option.bind (f_X5_addCell_8_20 o9 a10 a15 a20 ((o16 16)) ((o16 17)) ((o16 18))) (fun q5 => (some (q5.1, q5.2.1, q5.2.2, o16, a17))))
set_option maxRecDepth 100000 in
set_option maxHeartbeats 400000 in
theorem vb_X6_endLoad_16_90 (s0 : XW) (n : Nat) (a1 : Nat → Int32) (o4 : Nat → Int32) (a6 : Nat → Int32) (a7 : Nat → Int32) (o9 : Nat → Int32) (a10 : Nat → Int32) (a15 : Nat → Int32) (o16 : Nat → Int32) (a17 : Nat → Int32) (a20 : Nat → Int32)  (q : ((Nat → Int32) × (Nat → Int32) × (Nat → Int32) × (Nat → Int32) × (Nat → Int32))) (h : b_X6_endLoad_16_90 n a1 o4 a6 a7 o9 a10 a15 o16 a17 a20 = some q) : V yX6_endLoad cX6_endLoad none 2 61 (0, 0) 90 [some (.ref 16)] [] (xof s0 [W_1 a1, W_4 o4, W_6 a6, W_7 a7, W_8, W_9 o9, W_10 a10, W_15 a15, W_16 o16, W_17 a17, W_20 a20]) (xq 61 none (xof s0 [W_1 a1, W_4 o4, W_6 a6, W_7 a7, W_8, W_9 q.1, W_10 q.2.1, W_15 q.2.2.1, W_16 q.2.2.2.1, W_17 q.2.2.2.2, W_20 a20])) := by
  unfold b_X6_endLoad_16_90 at h
  refine x_aload_n dX6_endLoad_90 rfl ?_
  refine g_X6_40 rfl dX6_endLoad_91 (by decide) rfl rfl ?_
  refine x_ifnull dX6_endLoad_94 ?_
  refine x_aload_n dX6_endLoad_97 rfl ?_
  refine g_X6_40 rfl dX6_endLoad_98 (by decide) rfl rfl ?_
  refine x_aload_n dX6_endLoad_101 rfl ?_
  refine g_X6_96 rfl dX6_endLoad_102 (by decide) rfl rfl ?_
  refine x_aload_n dX6_endLoad_105 rfl ?_
  refine g_X6_99 rfl dX6_endLoad_106 (by decide) rfl rfl ?_
  refine x_aload_n dX6_endLoad_109 rfl ?_
  refine g_X6_102 rfl dX6_endLoad_110 (by decide) rfl rfl ?_
  refine x_aload_n dX6_endLoad_113 rfl ?_
  refine g_X6_29 rfl dX6_endLoad_114 (by decide) rfl rfl ?_
  obtain ⟨q5, hq5, h⟩ := Option.bind_eq_some_iff.mp h
  refine y_callVv (L' := [(1, _), (4, _), (6, _), (7, _), (8, _), (9, _), (10, _), (15, _), (16, _), (17, _), (20, _)]) mi_X5_addCell ml_X6_147 im_X5_addCell se_X5_addCell (rfl : vwCl[4]? = _) dX6_endLoad_117 (fun s1 => v_X5_addCell_8_20 s1 _ _ _ _ _ _ _ q5 hq5) (by decide) rfl (Nat.le_of_ble_eq_true rfl) rfl (by decide) (Nat.le_of_ble_eq_true rfl) rfl rfl rfl rfl ?_
  cases h
  exact x_vret dX6_endLoad_120 ⟨rfl, rfl, rfl⟩
def b_X6_endLoad_16_43 (n : Nat) (a1 : Nat → Int32) (o4 : Nat → Int32) (a6 : Nat → Int32) (a7 : Nat → Int32) (o9 : Nat → Int32) (a10 : Nat → Int32) (a15 : Nat → Int32) (o16 : Nat → Int32) (a17 : Nat → Int32) (a20 : Nat → Int32)  : Option (((Nat → Int32) × (Nat → Int32) × (Nat → Int32) × (Nat → Int32) × (Nat → Int32))) := (Option.bind (f_X8_firstLike_4_20 n o4 a6 a7 a20 ((o16 16)) 0 ((a1 0))) (fun q3 => (if q3 = (-1) then (b_X6_endLoad_16_90 n a1 o4 a6 a7 o9 a10 a15 o16 (upd (upd a17 3 (((a17 3) + 1))) 9 (((a17 9) + 1))) a20) else (b_X6_endLoad_16_90 n a1 o4 a6 a7 o9 a10 a15 o16 (upd a17 3 (((a17 3) + 1))) a20))))
set_option maxRecDepth 100000 in
set_option maxHeartbeats 400000 in
theorem vb_X6_endLoad_16_43 (s0 : XW) (n : Nat) (a1 : Nat → Int32) (o4 : Nat → Int32) (a6 : Nat → Int32) (a7 : Nat → Int32) (o9 : Nat → Int32) (a10 : Nat → Int32) (a15 : Nat → Int32) (o16 : Nat → Int32) (a17 : Nat → Int32) (a20 : Nat → Int32)  (q : ((Nat → Int32) × (Nat → Int32) × (Nat → Int32) × (Nat → Int32) × (Nat → Int32))) (h : b_X6_endLoad_16_43 n a1 o4 a6 a7 o9 a10 a15 o16 a17 a20 = some q) : V yX6_endLoad cX6_endLoad none 2 61 (0, 0) 43 [some (.ref 16)] [] (xof s0 [W_1 a1, W_4 o4, W_6 a6, W_7 a7, W_8, W_9 o9, W_10 a10, W_15 a15, W_16 o16, W_17 a17, W_20 a20]) (xq 61 none (xof s0 [W_1 a1, W_4 o4, W_6 a6, W_7 a7, W_8, W_9 q.1, W_10 q.2.1, W_15 q.2.2.1, W_16 q.2.2.2.1, W_17 q.2.2.2.2, W_20 a20])) := by
  unfold b_X6_endLoad_16_43 at h
  refine x_aload_n dX6_endLoad_43 rfl ?_
  refine g_X6_9 rfl dX6_endLoad_44 (by decide) rfl rfl ?_
  refine x_iconst (v := 3) dX6_endLoad_47 (by decide) ?_
  refine x_dup2 dX6_endLoad_48 rfl rfl ?_
  refine x_ialdK (jn := 3) (v := (a17 3)) dX6_endLoad_49 (by decide) rfl (xin_ok (by decide)) (by decide) rfl ?_
  refine x_iconst (v := 1) dX6_endLoad_50 (by decide) ?_
  refine x_iadd dX6_endLoad_51 ?_
  refine x_iastK (jn := 3) (L' := [(1, _), (4, _), (6, _), (7, _), (8, _), (9, _), (10, _), (15, _), (16, _), (17, _), (20, _)]) dX6_endLoad_52 (by decide) rfl (xin_ok (by decide)) (by decide) rfl ?_
  refine x_aload_n dX6_endLoad_53 rfl ?_
  refine g_X6_36 rfl dX6_endLoad_54 (by decide) rfl rfl ?_
  refine x_aload_n dX6_endLoad_57 rfl ?_
  refine g_X6_96 rfl dX6_endLoad_58 (by decide) rfl rfl ?_
  refine x_aload_n dX6_endLoad_61 rfl ?_
  refine g_X6_29 rfl dX6_endLoad_62 (by decide) rfl rfl ?_
  refine x_iconst (v := 0) dX6_endLoad_65 (by decide) ?_
  refine x_aload_n dX6_endLoad_66 rfl ?_
  refine g_X6_33 rfl dX6_endLoad_67 (by decide) rfl rfl ?_
  refine x_iconst (v := 0) dX6_endLoad_70 (by decide) ?_
  refine x_ialdK (jn := 0) (v := (a1 0)) dX6_endLoad_71 (by decide) rfl (xin_ok (by decide)) (by decide) rfl ?_
  obtain ⟨q3, hq3, h⟩ := Option.bind_eq_some_iff.mp h
  refine y_callVi (L' := [(1, _), (4, _), (6, _), (7, _), (8, _), (9, _), (10, _), (15, _), (16, _), (17, _), (20, _)]) mi_X8_firstLike ml_X6_141 im_X8_firstLike se_X8_firstLike (rfl : vwCl[7]? = _) dX6_endLoad_72 (fun s1 => v_X8_firstLike_4_20 s1 n _ _ _ _ _ _ _ q3 hq3) (by decide) rfl (Nat.le_of_ble_eq_true rfl) rfl (by decide) (Nat.le_of_ble_eq_true rfl) rfl rfl rfl rfl ?_
  refine x_iconst (v := -1) dX6_endLoad_75 (by decide) ?_
  refine x_icmp_ne (tgt := 90) dX6_endLoad_76 (by decide) (fun c4 => ?_) (fun c4 => ?_)
  · replace h := xif_n c4 h
    show V yX6_endLoad cX6_endLoad none 2 61 (0, 0) 90 [some (.ref 16)] [] (xof s0 [W_1 a1, W_4 o4, W_6 a6, W_7 a7, W_8, W_9 o9, W_10 a10, W_15 a15, W_16 o16, W_17 (upd a17 3 (((a17 3) + 1))), W_20 a20]) _
    exact vb_X6_endLoad_16_90 s0 n a1 o4 a6 a7 o9 a10 a15 o16 (upd a17 3 (((a17 3) + 1))) a20 q h
  · replace h := xif_p c4 h
    refine x_aload_n dX6_endLoad_79 rfl ?_
    refine g_X6_9 rfl dX6_endLoad_80 (by decide) rfl rfl ?_
    refine x_bipush (v := 9) dX6_endLoad_83 (by decide) ?_
    refine x_dup2 dX6_endLoad_85 rfl rfl ?_
    refine x_ialdK (jn := 9) (v := (a17 9)) dX6_endLoad_86 (by decide) rfl (xin_ok (by decide)) (by decide) rfl ?_
    refine x_iconst (v := 1) dX6_endLoad_87 (by decide) ?_
    refine x_iadd dX6_endLoad_88 ?_
    refine x_iastK (jn := 9) (L' := [(1, _), (4, _), (6, _), (7, _), (8, _), (9, _), (10, _), (15, _), (16, _), (17, _), (20, _)]) dX6_endLoad_89 (by decide) rfl (xin_ok (by decide)) (by decide) rfl ?_
    show V yX6_endLoad cX6_endLoad none 2 61 (0, 0) 90 [some (.ref 16)] [] (xof s0 [W_1 a1, W_4 o4, W_6 a6, W_7 a7, W_8, W_9 o9, W_10 a10, W_15 a15, W_16 o16, W_17 (upd (upd a17 3 (((a17 3) + 1))) 9 (((a17 9) + 1))), W_20 a20]) _
    exact vb_X6_endLoad_16_90 s0 n a1 o4 a6 a7 o9 a10 a15 o16 (upd (upd a17 3 (((a17 3) + 1))) 9 (((a17 9) + 1))) a20 q h
def f_X6_endLoad_16 (n : Nat) (a1 : Nat → Int32) (o4 : Nat → Int32) (a6 : Nat → Int32) (a7 : Nat → Int32) (o9 : Nat → Int32) (a10 : Nat → Int32) (a15 : Nat → Int32) (o16 : Nat → Int32) (a17 : Nat → Int32) (a20 : Nat → Int32)  : Option (((Nat → Int32) × (Nat → Int32) × (Nat → Int32) × (Nat → Int32) × (Nat → Int32))) := (if (o16 11) = 0 then (some (o9, a10, a15, o16, a17)) else (if (a1 5) = 1 then (if (o16 16) = 1 then (some (o9, a10, a15, upd o16 11 0, upd a17 10 (((a17 10) + 1)))) else (b_X6_endLoad_16_43 n a1 o4 a6 a7 o9 a10 a15 (upd o16 11 0) a17 a20)) else (b_X6_endLoad_16_43 n a1 o4 a6 a7 o9 a10 a15 (upd o16 11 0) a17 a20)))
set_option maxRecDepth 100000 in
set_option maxHeartbeats 400000 in
theorem v_X6_endLoad_16 (s0 : XW) (n : Nat) (a1 : Nat → Int32) (o4 : Nat → Int32) (a6 : Nat → Int32) (a7 : Nat → Int32) (o9 : Nat → Int32) (a10 : Nat → Int32) (a15 : Nat → Int32) (o16 : Nat → Int32) (a17 : Nat → Int32) (a20 : Nat → Int32)  (q : ((Nat → Int32) × (Nat → Int32) × (Nat → Int32) × (Nat → Int32) × (Nat → Int32))) (h : f_X6_endLoad_16 n a1 o4 a6 a7 o9 a10 a15 o16 a17 a20 = some q) : C_X6_endLoad 2 61 [.ref 16] (xof s0 [W_1 a1, W_4 o4, W_6 a6, W_7 a7, W_8, W_9 o9, W_10 a10, W_15 a15, W_16 o16, W_17 a17, W_20 a20]) none (xof s0 [W_1 a1, W_4 o4, W_6 a6, W_7 a7, W_8, W_9 q.1, W_10 q.2.1, W_15 q.2.2.1, W_16 q.2.2.2.1, W_17 q.2.2.2.2, W_20 a20]) := by
  unfold f_X6_endLoad_16 at h
  show V yX6_endLoad cX6_endLoad none 2 61 (0, 0) 0 [some (.ref 16)] [] (xof s0 [W_1 a1, W_4 o4, W_6 a6, W_7 a7, W_8, W_9 o9, W_10 a10, W_15 a15, W_16 o16, W_17 a17, W_20 a20]) _
  refine x_aload_n dX6_endLoad_0 rfl ?_
  refine g_X6_67 rfl dX6_endLoad_1 (by decide) rfl rfl ?_
  refine x_if_ne (tgt := 8) dX6_endLoad_4 (by decide) (fun c1 => ?_) (fun c1 => ?_)
  · replace h := xif_n c1 h
    refine x_aload_n dX6_endLoad_8 rfl ?_
    refine x_iconst (v := 0) dX6_endLoad_9 (by decide) ?_
    refine p_X6_67 (fs' := [_, _, _, _, _, _, _, _, _, _, _, _, _, _, _, _, _, _, _]) (L' := [(1, _), (4, _), (6, _), (7, _), (8, _), (9, _), (10, _), (15, _), (16, _), (17, _), (20, _)]) rfl dX6_endLoad_10 (Or.inl rfl) (by decide) rfl (Nat.le_of_ble_eq_true rfl) rfl rfl ?_
    refine x_aload_n dX6_endLoad_13 rfl ?_
    refine g_X6_33 rfl dX6_endLoad_14 (by decide) rfl rfl ?_
    refine x_iconst (v := 5) dX6_endLoad_17 (by decide) ?_
    refine x_ialdK (jn := 5) (v := (a1 5)) dX6_endLoad_18 (by decide) rfl (xin_ok (by decide)) (by decide) rfl ?_
    refine x_iconst (v := 1) dX6_endLoad_19 (by decide) ?_
    refine x_icmp_ne (tgt := 43) dX6_endLoad_20 (by decide) (fun c2 => ?_) (fun c2 => ?_)
    · replace h := xif_n c2 h
      show V yX6_endLoad cX6_endLoad none 2 61 (0, 0) 43 [some (.ref 16)] [] (xof s0 [W_1 a1, W_4 o4, W_6 a6, W_7 a7, W_8, W_9 o9, W_10 a10, W_15 a15, W_16 (upd o16 11 0), W_17 a17, W_20 a20]) _
      exact vb_X6_endLoad_16_43 s0 n a1 o4 a6 a7 o9 a10 a15 (upd o16 11 0) a17 a20 q h
    · replace h := xif_p c2 h
      refine x_aload_n dX6_endLoad_23 rfl ?_
      refine g_X6_96 rfl dX6_endLoad_24 (by decide) rfl rfl ?_
      refine x_iconst (v := 1) dX6_endLoad_27 (by decide) ?_
      refine x_icmp_ne (tgt := 43) dX6_endLoad_28 (by decide) (fun c6 => ?_) (fun c6 => ?_)
      · replace h := xif_n c6 h
        show V yX6_endLoad cX6_endLoad none 2 61 (0, 0) 43 [some (.ref 16)] [] (xof s0 [W_1 a1, W_4 o4, W_6 a6, W_7 a7, W_8, W_9 o9, W_10 a10, W_15 a15, W_16 (upd o16 11 0), W_17 a17, W_20 a20]) _
        exact vb_X6_endLoad_16_43 s0 n a1 o4 a6 a7 o9 a10 a15 (upd o16 11 0) a17 a20 q h
      · replace h := xif_p c6 h
        refine x_aload_n dX6_endLoad_31 rfl ?_
        refine g_X6_9 rfl dX6_endLoad_32 (by decide) rfl rfl ?_
        refine x_bipush (v := 10) dX6_endLoad_35 (by decide) ?_
        refine x_dup2 dX6_endLoad_37 rfl rfl ?_
        refine x_ialdK (jn := 10) (v := (a17 10)) dX6_endLoad_38 (by decide) rfl (xin_ok (by decide)) (by decide) rfl ?_
        refine x_iconst (v := 1) dX6_endLoad_39 (by decide) ?_
        refine x_iadd dX6_endLoad_40 ?_
        refine x_iastK (jn := 10) (L' := [(1, _), (4, _), (6, _), (7, _), (8, _), (9, _), (10, _), (15, _), (16, _), (17, _), (20, _)]) dX6_endLoad_41 (by decide) rfl (xin_ok (by decide)) (by decide) rfl ?_
        cases h
        exact x_vret dX6_endLoad_42 ⟨rfl, rfl, rfl⟩
  · replace h := xif_p c1 h
    cases h
    exact x_vret dX6_endLoad_7 ⟨rfl, rfl, rfl⟩
def b_X6_carry_16_51 (n : Nat) (a1 : Nat → Int32) (o4 : Nat → Int32) (a6 : Nat → Int32) (a7 : Nat → Int32) (o9 : Nat → Int32) (a10 : Nat → Int32) (a15 : Nat → Int32) (o16 : Nat → Int32) (a17 : Nat → Int32) (j19 : Int64) (a20 : Nat → Int32)  : Option (((Nat → Int32) × (Nat → Int32) × (Nat → Int32) × (Nat → Int32) × (Nat → Int32) × (Int64) × (Nat → Int32))) := (Option.bind (f_X6_loadBits_16 a1 (upd o16 15 (((o16 15) + 1)))) (fun q4 => (if ((o16 15) + 1) = q4 then (Option.bind (f_X6_endLoad_16 n a1 o4 a6 a7 o9 a10 a15 (upd o16 15 (((o16 15) + 1))) a17 a20) (fun q6 => (some (q6.1, q6.2.1, q6.2.2.1, q6.2.2.2.1, q6.2.2.2.2, j19, a20)))) else (some (o9, a10, a15, upd o16 15 (((o16 15) + 1)), a17, j19, a20)))))
set_option maxRecDepth 100000 in
set_option maxHeartbeats 400000 in
theorem vb_X6_carry_16_51 (s0 : XW) (n : Nat) (a1 : Nat → Int32) (o4 : Nat → Int32) (a6 : Nat → Int32) (a7 : Nat → Int32) (o9 : Nat → Int32) (a10 : Nat → Int32) (a15 : Nat → Int32) (o16 : Nat → Int32) (a17 : Nat → Int32) (j19 : Int64) (a20 : Nat → Int32)  (q : ((Nat → Int32) × (Nat → Int32) × (Nat → Int32) × (Nat → Int32) × (Nat → Int32) × (Int64) × (Nat → Int32))) (h : b_X6_carry_16_51 n a1 o4 a6 a7 o9 a10 a15 o16 a17 j19 a20 = some q) : V yX6_carry cX6_carry none 3 61 (0, 0) 51 [some (.ref 16), none, none, none] [] (xof s0 [W_1 a1, W_4 o4, W_6 a6, W_7 a7, W_8, W_9 o9, W_10 a10, W_15 a15, W_16 o16, W_17 a17, W_19 j19, W_20 a20]) (xq 61 none (xof s0 [W_1 a1, W_4 o4, W_6 a6, W_7 a7, W_8, W_9 q.1, W_10 q.2.1, W_15 q.2.2.1, W_16 q.2.2.2.1, W_17 q.2.2.2.2.1, W_19 q.2.2.2.2.2.1, W_20 q.2.2.2.2.2.2])) := by
  unfold b_X6_carry_16_51 at h
  refine x_aload_n dX6_carry_51 rfl ?_
  refine x_dup dX6_carry_52 rfl ?_
  refine g_X6_80 rfl dX6_carry_53 (by decide) rfl rfl ?_
  refine x_iconst (v := 1) dX6_carry_56 (by decide) ?_
  refine x_iadd dX6_carry_57 ?_
  refine p_X6_80 (fs' := [_, _, _, _, _, _, _, _, _, _, _, _, _, _, _, _, _, _, _]) (L' := [(1, _), (4, _), (6, _), (7, _), (8, _), (9, _), (10, _), (15, _), (16, _), (17, _), (19, _), (20, _)]) rfl dX6_carry_58 (by decide) rfl (Nat.le_of_ble_eq_true rfl) rfl rfl ?_
  refine x_aload_n dX6_carry_61 rfl ?_
  refine g_X6_80 rfl dX6_carry_62 (by decide) rfl rfl ?_
  refine x_aload_n dX6_carry_65 rfl ?_
  obtain ⟨q4, hq4, h⟩ := Option.bind_eq_some_iff.mp h
  refine y_callVi (L' := [(1, _), (4, _), (6, _), (7, _), (8, _), (9, _), (10, _), (15, _), (16, _), (17, _), (19, _), (20, _)]) mi_X6_loadBits ml_X6_105 im_X6_loadBits se_X6_loadBits (rfl : vwCl[5]? = _) dX6_carry_66 (fun s1 => v_X6_loadBits_16 s1 _ _ q4 hq4) (by decide) rfl (Nat.le_of_ble_eq_true rfl) rfl (by decide) (Nat.le_of_ble_eq_true rfl) rfl rfl rfl rfl ?_
  refine x_icmp_ne (tgt := 76) dX6_carry_69 (by decide) (fun c5 => ?_) (fun c5 => ?_)
  · replace h := xif_n c5 h
    cases h
    exact x_vret dX6_carry_76 ⟨rfl, rfl, rfl⟩
  · replace h := xif_p c5 h
    refine x_aload_n dX6_carry_72 rfl ?_
    obtain ⟨q6, hq6, h⟩ := Option.bind_eq_some_iff.mp h
    refine y_callVv (L' := [(1, _), (4, _), (6, _), (7, _), (8, _), (9, _), (10, _), (15, _), (16, _), (17, _), (19, _), (20, _)]) mi_X6_endLoad ml_X6_138 im_X6_endLoad se_X6_endLoad (rfl : vwCl[5]? = _) dX6_carry_73 (fun s1 => v_X6_endLoad_16 s1 n _ _ _ _ _ _ _ _ _ _ q6 hq6) (by decide) rfl (Nat.le_of_ble_eq_true rfl) rfl (by decide) (Nat.le_of_ble_eq_true rfl) rfl rfl rfl rfl ?_
    cases h
    exact x_vret dX6_carry_76 ⟨rfl, rfl, rfl⟩
def f_X6_carry_16 (n : Nat) (a1 : Nat → Int32) (o4 : Nat → Int32) (a6 : Nat → Int32) (a7 : Nat → Int32) (o9 : Nat → Int32) (a10 : Nat → Int32) (a15 : Nat → Int32) (o16 : Nat → Int32) (a17 : Nat → Int32) (j19 : Int64) (a20 : Nat → Int32) (p1 : Int32) : Option (((Nat → Int32) × (Nat → Int32) × (Nat → Int32) × (Nat → Int32) × (Nat → Int32) × (Int64) × (Nat → Int32))) := (Option.bind (f_X2_oldest_19 j19) (fun q1 => (Option.bind (f_X2_push_19 j19 p1) (fun q2 => (if 48 ≤ (xus (o16 15) 3) then (b_X6_carry_16_51 n a1 o4 a6 a7 o9 a10 a15 o16 a17 q2 a20) else (bif xin (xus (o16 15) 3) 48 then (bif xin (xus (o16 15) 3) 48 then (b_X6_carry_16_51 n a1 o4 a6 a7 o9 a10 a15 o16 a17 q2 (upd a20 ((Int32.toNatClampNeg (xus (o16 15) 3))) ((vp_nar .byte (Int8.toInt32 (Int32.toInt8 (((a20 (Int32.toNatClampNeg (xus (o16 15) 3))) <<< (1 &&& 31)) ||| (p1 ^^^ q1)))))))) else none) else none))))))
set_option maxRecDepth 100000 in
set_option maxHeartbeats 400000 in
theorem v_X6_carry_16 (s0 : XW) (n : Nat) (a1 : Nat → Int32) (o4 : Nat → Int32) (a6 : Nat → Int32) (a7 : Nat → Int32) (o9 : Nat → Int32) (a10 : Nat → Int32) (a15 : Nat → Int32) (o16 : Nat → Int32) (a17 : Nat → Int32) (j19 : Int64) (a20 : Nat → Int32) (p1 : Int32) (q : ((Nat → Int32) × (Nat → Int32) × (Nat → Int32) × (Nat → Int32) × (Nat → Int32) × (Int64) × (Nat → Int32))) (h : f_X6_carry_16 n a1 o4 a6 a7 o9 a10 a15 o16 a17 j19 a20 p1 = some q) : C_X6_carry 3 61 [.ref 16, .int p1] (xof s0 [W_1 a1, W_4 o4, W_6 a6, W_7 a7, W_8, W_9 o9, W_10 a10, W_15 a15, W_16 o16, W_17 a17, W_19 j19, W_20 a20]) none (xof s0 [W_1 a1, W_4 o4, W_6 a6, W_7 a7, W_8, W_9 q.1, W_10 q.2.1, W_15 q.2.2.1, W_16 q.2.2.2.1, W_17 q.2.2.2.2.1, W_19 q.2.2.2.2.2.1, W_20 q.2.2.2.2.2.2]) := by
  unfold f_X6_carry_16 at h
  show V yX6_carry cX6_carry none 3 61 (0, 0) 0 [some (.ref 16), some (.int p1), none, none] [] (xof s0 [W_1 a1, W_4 o4, W_6 a6, W_7 a7, W_8, W_9 o9, W_10 a10, W_15 a15, W_16 o16, W_17 a17, W_19 j19, W_20 a20]) _
  refine x_iload_n dX6_carry_0 rfl ?_
  refine x_aload_n dX6_carry_1 rfl ?_
  refine g_X6_25 rfl dX6_carry_2 (by decide) rfl rfl ?_
  obtain ⟨q1, hq1, h⟩ := Option.bind_eq_some_iff.mp h
  refine y_callVi (L' := [(1, _), (4, _), (6, _), (7, _), (8, _), (9, _), (10, _), (15, _), (16, _), (17, _), (19, _), (20, _)]) mi_X2_oldest ml_X6_109 im_X2_oldest se_X2_oldest (rfl : vwCl[1]? = _) dX6_carry_5 (fun s1 => v_X2_oldest_19 s1 _ q1 hq1) (by decide) rfl (Nat.le_of_ble_eq_true rfl) rfl (by decide) (Nat.le_of_ble_eq_true rfl) rfl rfl rfl rfl ?_
  refine x_ixor dX6_carry_8 ?_
  refine x_istore_n (ls' := [_, _, _, _]) dX6_carry_9 rfl rfl ?_
  refine x_aload_n dX6_carry_10 rfl ?_
  refine g_X6_25 rfl dX6_carry_11 (by decide) rfl rfl ?_
  refine x_iload_n dX6_carry_14 rfl ?_
  obtain ⟨q2, hq2, h⟩ := Option.bind_eq_some_iff.mp h
  refine y_callVv (L' := [(1, _), (4, _), (6, _), (7, _), (8, _), (9, _), (10, _), (15, _), (16, _), (17, _), (19, _), (20, _)]) mi_X2_push ml_X6_137 im_X2_push se_X2_push (rfl : vwCl[1]? = _) dX6_carry_15 (fun s1 => v_X2_push_19 s1 _ _ q2 hq2) (by decide) rfl (Nat.le_of_ble_eq_true rfl) rfl (by decide) (Nat.le_of_ble_eq_true rfl) rfl rfl rfl rfl ?_
  refine x_aload_n dX6_carry_18 rfl ?_
  refine g_X6_80 rfl dX6_carry_19 (by decide) rfl rfl ?_
  refine x_iconst (v := 3) dX6_carry_22 (by decide) ?_
  refine x_iushr dX6_carry_23 ?_
  refine x_istore_n (ls' := [_, _, _, _]) dX6_carry_24 rfl rfl ?_
  refine x_iload_n dX6_carry_25 rfl ?_
  refine x_aload_n dX6_carry_26 rfl ?_
  refine g_X6_29 rfl dX6_carry_27 (by decide) rfl rfl ?_
  refine x_alen (v := 48) dX6_carry_30 (by decide) rfl (by decide) rfl ?_
  refine x_icmp_ge (tgt := 51) dX6_carry_31 (by decide) (fun c3 => ?_) (fun c3 => ?_)
  · replace h := xif_p c3 h
    refine V.drop1 (i := 1) (ls' := [_, _, _, _]) rfl ?_
    refine V.drop1 (i := 2) (ls' := [_, _, _, _]) rfl ?_
    refine V.drop1 (i := 3) (ls' := [_, _, _, _]) rfl ?_
    show V yX6_carry cX6_carry none 3 61 (0, 0) 51 [some (.ref 16), none, none, none] [] (xof s0 [W_1 a1, W_4 o4, W_6 a6, W_7 a7, W_8, W_9 o9, W_10 a10, W_15 a15, W_16 o16, W_17 a17, W_19 q2, W_20 a20]) _
    exact vb_X6_carry_16_51 s0 n a1 o4 a6 a7 o9 a10 a15 o16 a17 q2 a20 q h
  · replace h := xif_n c3 h
    refine x_aload_n dX6_carry_34 rfl ?_
    refine g_X6_29 rfl dX6_carry_35 (by decide) rfl rfl ?_
    refine x_iload_n dX6_carry_38 rfl ?_
    refine x_aload_n dX6_carry_39 rfl ?_
    refine g_X6_29 rfl dX6_carry_40 (by decide) rfl rfl ?_
    refine x_iload_n dX6_carry_43 rfl ?_
    obtain ⟨c7, h⟩ := xck h
    refine x_baldK (jn := (Int32.toNatClampNeg (xus (o16 15) 3))) (v := (a20 (Int32.toNatClampNeg (xus (o16 15) 3)))) dX6_carry_44 (by decide) rfl (xin_ok c7) rfl rfl ?_
    refine x_iconst (v := 1) dX6_carry_45 (by decide) ?_
    refine x_ishl dX6_carry_46 ?_
    refine x_iload_n dX6_carry_47 rfl ?_
    refine x_ior dX6_carry_48 ?_
    refine x_i2b dX6_carry_49 ?_
    obtain ⟨c8, h⟩ := xck h
    refine x_bastK (jn := (Int32.toNatClampNeg (xus (o16 15) 3))) (L' := [(1, _), (4, _), (6, _), (7, _), (8, _), (9, _), (10, _), (15, _), (16, _), (17, _), (19, _), (20, _)]) dX6_carry_50 (by decide) rfl (xin_ok c8) rfl rfl ?_
    refine V.drop1 (i := 1) (ls' := [_, _, _, _]) rfl ?_
    refine V.drop1 (i := 2) (ls' := [_, _, _, _]) rfl ?_
    refine V.drop1 (i := 3) (ls' := [_, _, _, _]) rfl ?_
    show V yX6_carry cX6_carry none 3 61 (0, 0) 51 [some (.ref 16), none, none, none] [] (xof s0 [W_1 a1, W_4 o4, W_6 a6, W_7 a7, W_8, W_9 o9, W_10 a10, W_15 a15, W_16 o16, W_17 a17, W_19 q2, W_20 (upd a20 ((Int32.toNatClampNeg (xus (o16 15) 3))) ((vp_nar .byte (Int8.toInt32 (Int32.toInt8 (((a20 (Int32.toNatClampNeg (xus (o16 15) 3))) <<< (1 &&& 31)) ||| (p1 ^^^ q1)))))))]) _
    exact vb_X6_carry_16_51 s0 n a1 o4 a6 a7 o9 a10 a15 o16 a17 q2 (upd a20 ((Int32.toNatClampNeg (xus (o16 15) 3))) ((vp_nar .byte (Int8.toInt32 (Int32.toInt8 (((a20 (Int32.toNatClampNeg (xus (o16 15) 3))) <<< (1 &&& 31)) ||| (p1 ^^^ q1))))))) q h
def f_X10_syndromeNow_18 (o18 : Nat → Int32) (j18 : Int64)  : Option Int32 := (some (((o18 1) ^^^ 85)))
set_option maxRecDepth 100000 in
set_option maxHeartbeats 400000 in
theorem v_X10_syndromeNow_18 (s0 : XW) (o18 : Nat → Int32) (j18 : Int64)  (q : Int32) (h : f_X10_syndromeNow_18 o18 j18 = some q) : C_X10_syndromeNow 0 61 [.ref 18] (xof s0 [W_18 o18 j18]) (some (.int q)) (xof s0 [W_18 o18 j18]) := by
  unfold f_X10_syndromeNow_18 at h
  show V yX10_syndromeNow cX10_syndromeNow (some .int) 0 61 (0, 0) 0 [some (.ref 18)] [] (xof s0 [W_18 o18 j18]) _
  refine x_aload_n dX10_syndromeNow_0 rfl ?_
  refine g_X10_15 rfl dX10_syndromeNow_1 (by decide) rfl rfl ?_
  refine x_bipush (v := 85) dX10_syndromeNow_4 (by decide) ?_
  refine x_ixor dX10_syndromeNow_6 ?_
  cases h
  exact x_iret dX10_syndromeNow_7 ⟨rfl, rfl, rfl⟩
def f_X10_headerNow_18 (o18 : Nat → Int32) (j18 : Int64)  : Option Int32 := (some ((Int64.toInt32 (xul j18 8))))
set_option maxRecDepth 100000 in
set_option maxHeartbeats 400000 in
theorem v_X10_headerNow_18 (s0 : XW) (o18 : Nat → Int32) (j18 : Int64)  (q : Int32) (h : f_X10_headerNow_18 o18 j18 = some q) : C_X10_headerNow 0 61 [.ref 18] (xof s0 [W_18 o18 j18]) (some (.int q)) (xof s0 [W_18 o18 j18]) := by
  unfold f_X10_headerNow_18 at h
  show V yX10_headerNow cX10_headerNow (some .int) 0 61 (0, 0) 0 [some (.ref 18)] [] (xof s0 [W_18 o18 j18]) _
  refine x_aload_n dX10_headerNow_0 rfl ?_
  refine g_X10_9 rfl dX10_headerNow_1 (by decide) rfl rfl ?_
  refine x_bipush (v := 8) dX10_headerNow_4 (by decide) ?_
  refine x_lushr dX10_headerNow_6 ?_
  refine x_l2i dX10_headerNow_7 ?_
  cases h
  exact x_iret dX10_headerNow_8 ⟨rfl, rfl, rfl⟩
def b_X6_acceptRight_16_47  (a1 : Nat → Int32) (o11 : Nat → Int32) (a12 : Nat → Int32) (o16 : Nat → Int32) (a17 : Nat → Int32)  : Option (((Int32) × (Nat → Int32) × (Nat → Int32) × (Nat → Int32) × (Nat → Int32))) := (if (o16 7) = 2 then (some (0, o11, a12, upd (upd (upd o16 9 0) 10 1) 11 1, a17)) else (some (0, o11, a12, o16, a17)))
set_option maxRecDepth 100000 in
set_option maxHeartbeats 400000 in
theorem vb_X6_acceptRight_16_47 (s0 : XW)  (a1 : Nat → Int32) (o11 : Nat → Int32) (a12 : Nat → Int32) (o16 : Nat → Int32) (a17 : Nat → Int32)  (q : ((Int32) × (Nat → Int32) × (Nat → Int32) × (Nat → Int32) × (Nat → Int32))) (h : b_X6_acceptRight_16_47 a1 o11 a12 o16 a17 = some q) : V yX6_acceptRight cX6_acceptRight (some .int) 2 61 (0, 0) 47 [some (.ref 16), none] [] (xof s0 [W_1 a1, W_8, W_11 o11, W_12 a12, W_16 o16, W_17 a17]) (xq 61 (some (.int q.1)) (xof s0 [W_1 a1, W_8, W_11 q.2.1, W_12 q.2.2.1, W_16 q.2.2.2.1, W_17 q.2.2.2.2])) := by
  unfold b_X6_acceptRight_16_47 at h
  refine x_aload_n dX6_acceptRight_47 rfl ?_
  refine g_X6_54 rfl dX6_acceptRight_48 (by decide) rfl rfl ?_
  refine x_iconst (v := 2) dX6_acceptRight_51 (by decide) ?_
  refine x_icmp_ne (tgt := 70) dX6_acceptRight_52 (by decide) (fun c2 => ?_) (fun c2 => ?_)
  · replace h := xif_n c2 h
    refine x_iconst (v := 0) dX6_acceptRight_70 (by decide) ?_
    cases h
    exact x_iret dX6_acceptRight_71 ⟨rfl, rfl, rfl⟩
  · replace h := xif_p c2 h
    refine x_aload_n dX6_acceptRight_55 rfl ?_
    refine x_iconst (v := 0) dX6_acceptRight_56 (by decide) ?_
    refine p_X6_61 (fs' := [_, _, _, _, _, _, _, _, _, _, _, _, _, _, _, _, _, _, _]) (L' := [(1, _), (8, _), (11, _), (12, _), (16, _), (17, _)]) rfl dX6_acceptRight_57 (by decide) rfl (Nat.le_of_ble_eq_true rfl) rfl rfl ?_
    refine x_aload_n dX6_acceptRight_60 rfl ?_
    refine x_iconst (v := 1) dX6_acceptRight_61 (by decide) ?_
    refine p_X6_64 (fs' := [_, _, _, _, _, _, _, _, _, _, _, _, _, _, _, _, _, _, _]) (L' := [(1, _), (8, _), (11, _), (12, _), (16, _), (17, _)]) rfl dX6_acceptRight_62 (by decide) rfl (Nat.le_of_ble_eq_true rfl) rfl rfl ?_
    refine x_aload_n dX6_acceptRight_65 rfl ?_
    refine x_iconst (v := 1) dX6_acceptRight_66 (by decide) ?_
    refine p_X6_67 (fs' := [_, _, _, _, _, _, _, _, _, _, _, _, _, _, _, _, _, _, _]) (L' := [(1, _), (8, _), (11, _), (12, _), (16, _), (17, _)]) rfl dX6_acceptRight_67 (Or.inr rfl) (by decide) rfl (Nat.le_of_ble_eq_true rfl) rfl rfl ?_
    refine x_iconst (v := 0) dX6_acceptRight_70 (by decide) ?_
    cases h
    exact x_iret dX6_acceptRight_71 ⟨rfl, rfl, rfl⟩
def f_X6_acceptRight_16 (a1 : Nat → Int32) (o11 : Nat → Int32) (a12 : Nat → Int32) (o16 : Nat → Int32) (a17 : Nat → Int32) (p1 : Int32) : Option (((Int32) × (Nat → Int32) × (Nat → Int32) × (Nat → Int32) × (Nat → Int32))) := (if (o16 7) = 1 then (if ((o16 8) + 1) < (a1 2) then (b_X6_acceptRight_16_47 a1 o11 a12 (upd o16 8 (((o16 8) + 1))) (upd a17 0 (((a17 0) + 1)))) else (Option.bind (f_X6_become_16 o11 a12 (upd o16 8 (((o16 8) + 1))) (upd a17 0 (((a17 0) + 1))) 2 p1) (fun q4 => (b_X6_acceptRight_16_47 a1 q4.1 q4.2.1 q4.2.2.1 q4.2.2.2)))) else (b_X6_acceptRight_16_47 a1 o11 a12 o16 (upd a17 0 (((a17 0) + 1)))))
set_option maxRecDepth 100000 in
set_option maxHeartbeats 400000 in
theorem v_X6_acceptRight_16 (s0 : XW) (a1 : Nat → Int32) (o11 : Nat → Int32) (a12 : Nat → Int32) (o16 : Nat → Int32) (a17 : Nat → Int32) (p1 : Int32) (q : ((Int32) × (Nat → Int32) × (Nat → Int32) × (Nat → Int32) × (Nat → Int32))) (h : f_X6_acceptRight_16 a1 o11 a12 o16 a17 p1 = some q) : C_X6_acceptRight 2 61 [.ref 16, .int p1] (xof s0 [W_1 a1, W_8, W_11 o11, W_12 a12, W_16 o16, W_17 a17]) (some (.int q.1)) (xof s0 [W_1 a1, W_8, W_11 q.2.1, W_12 q.2.2.1, W_16 q.2.2.2.1, W_17 q.2.2.2.2]) := by
  unfold f_X6_acceptRight_16 at h
  show V yX6_acceptRight cX6_acceptRight (some .int) 2 61 (0, 0) 0 [some (.ref 16), some (.int p1)] [] (xof s0 [W_1 a1, W_8, W_11 o11, W_12 a12, W_16 o16, W_17 a17]) _
  refine x_aload_n dX6_acceptRight_0 rfl ?_
  refine g_X6_9 rfl dX6_acceptRight_1 (by decide) rfl rfl ?_
  refine x_iconst (v := 0) dX6_acceptRight_4 (by decide) ?_
  refine x_dup2 dX6_acceptRight_5 rfl rfl ?_
  refine x_ialdK (jn := 0) (v := (a17 0)) dX6_acceptRight_6 (by decide) rfl (xin_ok (by decide)) (by decide) rfl ?_
  refine x_iconst (v := 1) dX6_acceptRight_7 (by decide) ?_
  refine x_iadd dX6_acceptRight_8 ?_
  refine x_iastK (jn := 0) (L' := [(1, _), (8, _), (11, _), (12, _), (16, _), (17, _)]) dX6_acceptRight_9 (by decide) rfl (xin_ok (by decide)) (by decide) rfl ?_
  refine x_aload_n dX6_acceptRight_10 rfl ?_
  refine g_X6_54 rfl dX6_acceptRight_11 (by decide) rfl rfl ?_
  refine x_iconst (v := 1) dX6_acceptRight_14 (by decide) ?_
  refine x_icmp_ne (tgt := 47) dX6_acceptRight_15 (by decide) (fun c1 => ?_) (fun c1 => ?_)
  · replace h := xif_n c1 h
    refine V.drop1 (i := 1) (ls' := [_, _]) rfl ?_
    show V yX6_acceptRight cX6_acceptRight (some .int) 2 61 (0, 0) 47 [some (.ref 16), none] [] (xof s0 [W_1 a1, W_8, W_11 o11, W_12 a12, W_16 o16, W_17 (upd a17 0 (((a17 0) + 1)))]) _
    exact vb_X6_acceptRight_16_47 s0 a1 o11 a12 o16 (upd a17 0 (((a17 0) + 1))) q h
  · replace h := xif_p c1 h
    refine x_aload_n dX6_acceptRight_18 rfl ?_
    refine x_dup dX6_acceptRight_19 rfl ?_
    refine g_X6_58 rfl dX6_acceptRight_20 (by decide) rfl rfl ?_
    refine x_iconst (v := 1) dX6_acceptRight_23 (by decide) ?_
    refine x_iadd dX6_acceptRight_24 ?_
    refine p_X6_58 (fs' := [_, _, _, _, _, _, _, _, _, _, _, _, _, _, _, _, _, _, _]) (L' := [(1, _), (8, _), (11, _), (12, _), (16, _), (17, _)]) rfl dX6_acceptRight_25 (by decide) rfl (Nat.le_of_ble_eq_true rfl) rfl rfl ?_
    refine x_aload_n dX6_acceptRight_28 rfl ?_
    refine g_X6_58 rfl dX6_acceptRight_29 (by decide) rfl rfl ?_
    refine x_aload_n dX6_acceptRight_32 rfl ?_
    refine g_X6_33 rfl dX6_acceptRight_33 (by decide) rfl rfl ?_
    refine x_iconst (v := 2) dX6_acceptRight_36 (by decide) ?_
    refine x_ialdK (jn := 2) (v := (a1 2)) dX6_acceptRight_37 (by decide) rfl (xin_ok (by decide)) (by decide) rfl ?_
    refine x_icmp_lt (tgt := 47) dX6_acceptRight_38 (by decide) (fun c3 => ?_) (fun c3 => ?_)
    · replace h := xif_p c3 h
      refine V.drop1 (i := 1) (ls' := [_, _]) rfl ?_
      show V yX6_acceptRight cX6_acceptRight (some .int) 2 61 (0, 0) 47 [some (.ref 16), none] [] (xof s0 [W_1 a1, W_8, W_11 o11, W_12 a12, W_16 (upd o16 8 (((o16 8) + 1))), W_17 (upd a17 0 (((a17 0) + 1)))]) _
      exact vb_X6_acceptRight_16_47 s0 a1 o11 a12 (upd o16 8 (((o16 8) + 1))) (upd a17 0 (((a17 0) + 1))) q h
    · replace h := xif_n c3 h
      refine x_aload_n dX6_acceptRight_41 rfl ?_
      refine x_iconst (v := 2) dX6_acceptRight_42 (by decide) ?_
      refine x_iload_n dX6_acceptRight_43 rfl ?_
      obtain ⟨q4, hq4, h⟩ := Option.bind_eq_some_iff.mp h
      refine y_callVv (L' := [(1, _), (8, _), (11, _), (12, _), (16, _), (17, _)]) mi_X6_become ml_X6_133 im_X6_become se_X6_become (rfl : vwCl[5]? = _) dX6_acceptRight_44 (fun s1 => v_X6_become_16 s1 _ _ _ _ _ _ q4 hq4) (by decide) rfl (Nat.le_of_ble_eq_true rfl) rfl (by decide) (Nat.le_of_ble_eq_true rfl) rfl rfl rfl rfl ?_
      refine V.drop1 (i := 1) (ls' := [_, _]) rfl ?_
      show V yX6_acceptRight cX6_acceptRight (some .int) 2 61 (0, 0) 47 [some (.ref 16), none] [] (xof s0 [W_1 a1, W_8, W_11 q4.1, W_12 q4.2.1, W_16 q4.2.2.1, W_17 q4.2.2.2]) _
      exact vb_X6_acceptRight_16_47 s0 a1 q4.1 q4.2.1 q4.2.2.1 q4.2.2.2 q h
def b_X7_add_13_77  (o13 : Nat → Int32) (a14 : Nat → Int32) (t1 : Int32) : Option (((Nat → Int32) × (Nat → Int32))) := (some (upd (upd o13 2 (((o13 2) + 1))) 3 t1, a14))
set_option maxRecDepth 100000 in
set_option maxHeartbeats 400000 in
theorem vb_X7_add_13_77 (s0 : XW)  (o13 : Nat → Int32) (a14 : Nat → Int32) (t1 : Int32) (q : ((Nat → Int32) × (Nat → Int32))) (h : b_X7_add_13_77 o13 a14 t1 = some q) : V yX7_add cX7_add none 0 61 (0, 0) 77 [some (.ref 13), none, none, none, none] [.int t1, .ref 13] (xof s0 [W_13 o13, W_14 a14]) (xq 61 none (xof s0 [W_13 q.1, W_14 q.2])) := by
  unfold b_X7_add_13_77 at h
  refine p_X7_26 (fs' := [_, _, _, _]) (L' := [(13, _), (14, _)]) rfl dX7_add_77 (by decide) rfl (Nat.le_of_ble_eq_true rfl) rfl rfl ?_
  refine x_aload_n dX7_add_80 rfl ?_
  refine x_dup dX7_add_81 rfl ?_
  refine g_X7_23 rfl dX7_add_82 (by decide) rfl rfl ?_
  refine x_iconst (v := 1) dX7_add_85 (by decide) ?_
  refine x_iadd dX7_add_86 ?_
  refine p_X7_23 (fs' := [_, _, _, _]) (L' := [(13, _), (14, _)]) rfl dX7_add_87 (by decide) rfl (Nat.le_of_ble_eq_true rfl) rfl rfl ?_
  cases h
  exact x_vret dX7_add_90 ⟨rfl, rfl, rfl⟩
def b_X7_add_13_53  (o13 : Nat → Int32) (a14 : Nat → Int32)  : Option (((Nat → Int32) × (Nat → Int32))) := (if (o13 0) ≤ ((o13 3) + 1) then (b_X7_add_13_77 o13 a14 0) else (b_X7_add_13_77 o13 a14 (((o13 3) + 1))))
set_option maxRecDepth 100000 in
set_option maxHeartbeats 400000 in
theorem vb_X7_add_13_53 (s0 : XW)  (o13 : Nat → Int32) (a14 : Nat → Int32)  (q : ((Nat → Int32) × (Nat → Int32))) (h : b_X7_add_13_53 o13 a14 = some q) : V yX7_add cX7_add none 0 61 (0, 0) 53 [some (.ref 13), none, none, none, none] [] (xof s0 [W_13 o13, W_14 a14]) (xq 61 none (xof s0 [W_13 q.1, W_14 q.2])) := by
  unfold b_X7_add_13_53 at h
  refine x_aload_n dX7_add_53 rfl ?_
  refine x_aload_n dX7_add_54 rfl ?_
  refine g_X7_26 rfl dX7_add_55 (by decide) rfl rfl ?_
  refine x_iconst (v := 1) dX7_add_58 (by decide) ?_
  refine x_iadd dX7_add_59 ?_
  refine x_aload_n dX7_add_60 rfl ?_
  refine g_X7_13 rfl dX7_add_61 (by decide) rfl rfl ?_
  refine x_icmp_ge (tgt := 76) dX7_add_64 (by decide) (fun c2 => ?_) (fun c2 => ?_)
  · replace h := xif_p c2 h
    refine x_iconst (v := 0) dX7_add_76 (by decide) ?_
    show V yX7_add cX7_add none 0 61 (0, 0) 77 [some (.ref 13), none, none, none, none] [.int 0, .ref 13] (xof s0 [W_13 o13, W_14 a14]) _
    exact vb_X7_add_13_77 s0 o13 a14 0 q h
  · replace h := xif_n c2 h
    refine x_aload_n dX7_add_67 rfl ?_
    refine g_X7_26 rfl dX7_add_68 (by decide) rfl rfl ?_
    refine x_iconst (v := 1) dX7_add_71 (by decide) ?_
    refine x_iadd dX7_add_72 ?_
    refine x_goto (tgt := 77) dX7_add_73 (by decide) ?_
    show V yX7_add cX7_add none 0 61 (0, 0) 77 [some (.ref 13), none, none, none, none] [.int (((o13 3) + 1)), .ref 13] (xof s0 [W_13 o13, W_14 a14]) _
    exact vb_X7_add_13_77 s0 o13 a14 (((o13 3) + 1)) q h
def f_X7_add_13 (o13 : Nat → Int32) (a14 : Nat → Int32) (p1 : Int32) (p2 : Int32) (p3 : Int32) : Option (((Nat → Int32) × (Nat → Int32))) := (if (3 * (o13 3)) < 0 then (b_X7_add_13_53 o13 a14) else (if 96 ≤ ((3 * (o13 3)) + 2) then (b_X7_add_13_53 o13 a14) else (bif xin (3 * (o13 3)) 96 then (bif xin ((3 * (o13 3)) + 1) 96 then (bif xin ((3 * (o13 3)) + 2) 96 then (b_X7_add_13_53 o13 (upd (upd (upd a14 ((Int32.toNatClampNeg (3 * (o13 3)))) p1) ((Int32.toNatClampNeg ((3 * (o13 3)) + 1))) p2) ((Int32.toNatClampNeg ((3 * (o13 3)) + 2))) p3)) else none) else none) else none)))
set_option maxRecDepth 100000 in
set_option maxHeartbeats 400000 in
theorem v_X7_add_13 (s0 : XW) (o13 : Nat → Int32) (a14 : Nat → Int32) (p1 : Int32) (p2 : Int32) (p3 : Int32) (q : ((Nat → Int32) × (Nat → Int32))) (h : f_X7_add_13 o13 a14 p1 p2 p3 = some q) : C_X7_add 0 61 [.ref 13, .int p1, .int p2, .int p3] (xof s0 [W_13 o13, W_14 a14]) none (xof s0 [W_13 q.1, W_14 q.2]) := by
  unfold f_X7_add_13 at h
  show V yX7_add cX7_add none 0 61 (0, 0) 0 [some (.ref 13), some (.int p1), some (.int p2), some (.int p3), none] [] (xof s0 [W_13 o13, W_14 a14]) _
  refine x_iconst (v := 3) dX7_add_0 (by decide) ?_
  refine x_aload_n dX7_add_1 rfl ?_
  refine g_X7_26 rfl dX7_add_2 (by decide) rfl rfl ?_
  refine x_imul dX7_add_5 ?_
  refine x_istore (ls' := [_, _, _, _, _]) dX7_add_6 rfl rfl ?_
  refine x_iload dX7_add_8 rfl ?_
  refine x_if_lt (tgt := 53) dX7_add_10 (by decide) (fun c1 => ?_) (fun c1 => ?_)
  · replace h := xif_p c1 h
    refine V.drop1 (i := 1) (ls' := [_, _, _, _, _]) rfl ?_
    refine V.drop1 (i := 2) (ls' := [_, _, _, _, _]) rfl ?_
    refine V.drop1 (i := 3) (ls' := [_, _, _, _, _]) rfl ?_
    refine V.drop1 (i := 4) (ls' := [_, _, _, _, _]) rfl ?_
    show V yX7_add cX7_add none 0 61 (0, 0) 53 [some (.ref 13), none, none, none, none] [] (xof s0 [W_13 o13, W_14 a14]) _
    exact vb_X7_add_13_53 s0 o13 a14 q h
  · replace h := xif_n c1 h
    refine x_iload dX7_add_13 rfl ?_
    refine x_iconst (v := 2) dX7_add_15 (by decide) ?_
    refine x_iadd dX7_add_16 ?_
    refine x_aload_n dX7_add_17 rfl ?_
    refine g_X7_19 rfl dX7_add_18 (by decide) rfl rfl ?_
    refine x_alen (v := 96) dX7_add_21 (by decide) rfl (by decide) rfl ?_
    refine x_icmp_ge (tgt := 53) dX7_add_22 (by decide) (fun c3 => ?_) (fun c3 => ?_)
    · replace h := xif_p c3 h
      refine V.drop1 (i := 1) (ls' := [_, _, _, _, _]) rfl ?_
      refine V.drop1 (i := 2) (ls' := [_, _, _, _, _]) rfl ?_
      refine V.drop1 (i := 3) (ls' := [_, _, _, _, _]) rfl ?_
      refine V.drop1 (i := 4) (ls' := [_, _, _, _, _]) rfl ?_
      show V yX7_add cX7_add none 0 61 (0, 0) 53 [some (.ref 13), none, none, none, none] [] (xof s0 [W_13 o13, W_14 a14]) _
      exact vb_X7_add_13_53 s0 o13 a14 q h
    · replace h := xif_n c3 h
      refine x_aload_n dX7_add_25 rfl ?_
      refine g_X7_19 rfl dX7_add_26 (by decide) rfl rfl ?_
      refine x_iload dX7_add_29 rfl ?_
      refine x_iload_n dX7_add_31 rfl ?_
      obtain ⟨c4, h⟩ := xck h
      refine x_iastK (jn := (Int32.toNatClampNeg (3 * (o13 3)))) (L' := [(13, _), (14, _)]) dX7_add_32 (by decide) rfl (xin_ok c4) rfl rfl ?_
      refine x_aload_n dX7_add_33 rfl ?_
      refine g_X7_19 rfl dX7_add_34 (by decide) rfl rfl ?_
      refine x_iload dX7_add_37 rfl ?_
      refine x_iconst (v := 1) dX7_add_39 (by decide) ?_
      refine x_iadd dX7_add_40 ?_
      refine x_iload_n dX7_add_41 rfl ?_
      obtain ⟨c5, h⟩ := xck h
      refine x_iastK (jn := (Int32.toNatClampNeg ((3 * (o13 3)) + 1))) (L' := [(13, _), (14, _)]) dX7_add_42 (by decide) rfl (xin_ok c5) rfl rfl ?_
      refine x_aload_n dX7_add_43 rfl ?_
      refine g_X7_19 rfl dX7_add_44 (by decide) rfl rfl ?_
      refine x_iload dX7_add_47 rfl ?_
      refine x_iconst (v := 2) dX7_add_49 (by decide) ?_
      refine x_iadd dX7_add_50 ?_
      refine x_iload_n dX7_add_51 rfl ?_
      obtain ⟨c6, h⟩ := xck h
      refine x_iastK (jn := (Int32.toNatClampNeg ((3 * (o13 3)) + 2))) (L' := [(13, _), (14, _)]) dX7_add_52 (by decide) rfl (xin_ok c6) rfl rfl ?_
      refine V.drop1 (i := 1) (ls' := [_, _, _, _, _]) rfl ?_
      refine V.drop1 (i := 2) (ls' := [_, _, _, _, _]) rfl ?_
      refine V.drop1 (i := 3) (ls' := [_, _, _, _, _]) rfl ?_
      refine V.drop1 (i := 4) (ls' := [_, _, _, _, _]) rfl ?_
      show V yX7_add cX7_add none 0 61 (0, 0) 53 [some (.ref 13), none, none, none, none] [] (xof s0 [W_13 o13, W_14 (upd (upd (upd a14 ((Int32.toNatClampNeg (3 * (o13 3)))) p1) ((Int32.toNatClampNeg ((3 * (o13 3)) + 1))) p2) ((Int32.toNatClampNeg ((3 * (o13 3)) + 2))) p3)]) _
      exact vb_X7_add_13_53 s0 o13 (upd (upd (upd a14 ((Int32.toNatClampNeg (3 * (o13 3)))) p1) ((Int32.toNatClampNeg ((3 * (o13 3)) + 1))) p2) ((Int32.toNatClampNeg ((3 * (o13 3)) + 2))) p3) q h
def l_X1_bitOf_5 (n : Nat) (l0 : Int32) : Nat → (Int32) → (Int32) → Option (Int32 ⊕ (((Int32) × (Int32))))
  | 0, _, _ => none
  | k + 1, l1, l2 => (if l2 < 0 then (some (Sum.inr (l1, l2))) else (if l1 = l0 then (some (Sum.inl l2)) else (Option.bind (f_X1_timesX l1) (fun q3 => (l_X1_bitOf_5 n l0 k q3 ((l2 + (-1))))))))
set_option maxRecDepth 100000 in
set_option maxHeartbeats 400000 in
theorem lv_X1_bitOf_5 (N : Nat) (s0 : XW) (n : Nat) (l0 : Int32) (Q : Nat → Option Value → XW → Prop) : ∀ (k : Nat) (l1 : Int32) (l2 : Int32) (o : Int32 ⊕ (((Int32) × (Int32)))), l_X1_bitOf_5 n l0 k l1 l2 = some o → ((∀ z, o = Sum.inl z → Q N (some (.int z)) (xof s0 [])) ∧ (∀ z, o = Sum.inr z → V yX1_bitOf cX1_bitOf (some .int) 1 N (0, 0) 27 [none, none, none] [] (xof s0 []) Q)) → V yX1_bitOf cX1_bitOf (some .int) 1 N (0, 0) 5 [some (.int l0), some (.int l1), some (.int l2)] [] (xof s0 []) Q := by
  intro k
  induction k with
  | zero =>
    intro _ _ _ h
    simp [l_X1_bitOf_5] at h
  | succ k ih =>
    intro l1 l2 o h hk
    rw [l_X1_bitOf_5] at h
    refine x_iload_n dX1_bitOf_5 rfl ?_
    refine x_if_lt (tgt := 27) dX1_bitOf_6 (by decide) (fun c1 => ?_) (fun c1 => ?_)
    · replace h := xif_p c1 h
      refine V.drop1 (i := 0) (ls' := [_, _, _]) rfl ?_
      refine V.drop1 (i := 1) (ls' := [_, _, _]) rfl ?_
      refine V.drop1 (i := 2) (ls' := [_, _, _]) rfl ?_
      show V yX1_bitOf cX1_bitOf (some .int) 1 N (0, 0) 27 [none, none, none] [] (xof s0 []) _
      cases h
      exact hk.2 (l1, l2) rfl
    · replace h := xif_n c1 h
      refine x_iload_n dX1_bitOf_9 rfl ?_
      refine x_iload_n dX1_bitOf_10 rfl ?_
      refine x_icmp_ne (tgt := 16) dX1_bitOf_11 (by decide) (fun c2 => ?_) (fun c2 => ?_)
      · replace h := xif_n c2 h
        refine x_iload_n dX1_bitOf_16 rfl ?_
        obtain ⟨q3, hq3, h⟩ := Option.bind_eq_some_iff.mp h
        refine y_callSi (L' := []) mi_X1_timesX ml_X1_18 st_X1_timesX dX1_bitOf_17 (fun s1 => v_X1_timesX N s1 _ q3 hq3) (Nat.le_of_ble_eq_true rfl) rfl (by decide) (Nat.le_of_ble_eq_true rfl) rfl rfl rfl rfl ?_
        refine x_istore_n (ls' := [_, _, _]) dX1_bitOf_20 rfl rfl ?_
        refine x_iinc (v := l2 + (-1)) (ls' := [_, _, _]) dX1_bitOf_21 rfl rfl rfl rfl ?_
        refine x_goto (tgt := 5) dX1_bitOf_24 (by decide) ?_
        show V yX1_bitOf cX1_bitOf (some .int) 1 N (0, 0) 5 [some (.int l0), some (.int q3), some (.int ((l2 + (-1))))] [] (xof s0 []) _
        exact ih q3 ((l2 + (-1))) _ h hk
      · replace h := xif_p c2 h
        refine x_iload_n dX1_bitOf_14 rfl ?_
        cases h
        exact x_iret dX1_bitOf_15 (hk.1 l2 rfl)
def f_X1_bitOf (n : Nat)  (p0 : Int32) : Option Int32 := (Option.bind (l_X1_bitOf_5 n p0 n 1 39) (fun u4 => Sum.elim (fun z5 => some z5) (fun z5 => (some ((-1)))) u4))
set_option maxRecDepth 100000 in
set_option maxHeartbeats 400000 in
theorem v_X1_bitOf (N : Nat) (s0 : XW) (n : Nat)  (p0 : Int32) (q : Int32) (h : f_X1_bitOf n p0 = some q) : C_X1_bitOf 1 N [.int p0] (xof s0 []) (some (.int q)) (xof s0 []) := by
  unfold f_X1_bitOf at h
  show V yX1_bitOf cX1_bitOf (some .int) 1 N (0, 0) 0 [some (.int p0), none, none] [] (xof s0 []) _
  refine x_iconst (v := 1) dX1_bitOf_0 (by decide) ?_
  refine x_istore_n (ls' := [_, _, _]) dX1_bitOf_1 rfl rfl ?_
  refine x_bipush (v := 39) dX1_bitOf_2 (by decide) ?_
  refine x_istore_n (ls' := [_, _, _]) dX1_bitOf_4 rfl rfl ?_
  obtain ⟨u4, hu4, h⟩ := Option.bind_eq_some_iff.mp h
  show V yX1_bitOf cX1_bitOf (some .int) 1 N (0, 0) 5 [some (.int p0), some (.int 1), some (.int 39)] [] (xof s0 []) _
  refine lv_X1_bitOf_5 N s0 _ p0 _ n 1 39 _ hu4 ⟨fun z5 hz => ?_, fun z5 hz => ?_⟩
  · subst hz
    replace h := xsl h
    cases h
    exact ⟨rfl, rfl, rfl⟩
  subst hz
  replace h := xsr h
  refine x_iconst (v := -1) dX1_bitOf_27 (by decide) ?_
  cases h
  exact x_iret dX1_bitOf_28 ⟨rfl, rfl, rfl⟩
def f_X1_mendedHeader  (p0 : Int32) (p1 : Int32) : Option Int32 := (if p1 < 0 then (some p0) else (if 32 ≤ p1 then (some p0) else (some ((p0 ^^^ (1 <<< ((31 - p1) &&& 31)))))))
set_option maxRecDepth 100000 in
set_option maxHeartbeats 400000 in
theorem v_X1_mendedHeader (N : Nat) (s0 : XW)  (p0 : Int32) (p1 : Int32) (q : Int32) (h : f_X1_mendedHeader p0 p1 = some q) : C_X1_mendedHeader 0 N [.int p0, .int p1] (xof s0 []) (some (.int q)) (xof s0 []) := by
  unfold f_X1_mendedHeader at h
  show V yX1_mendedHeader cX1_mendedHeader (some .int) 0 N (0, 0) 0 [some (.int p0), some (.int p1)] [] (xof s0 []) _
  refine x_iload_n dX1_mendedHeader_0 rfl ?_
  refine x_if_lt (tgt := 21) dX1_mendedHeader_1 (by decide) (fun c1 => ?_) (fun c1 => ?_)
  · replace h := xif_p c1 h
    refine x_iload_n dX1_mendedHeader_21 rfl ?_
    cases h
    exact x_iret dX1_mendedHeader_22 ⟨rfl, rfl, rfl⟩
  · replace h := xif_n c1 h
    refine x_iload_n dX1_mendedHeader_4 rfl ?_
    refine x_bipush (v := 32) dX1_mendedHeader_5 (by decide) ?_
    refine x_icmp_ge (tgt := 21) dX1_mendedHeader_7 (by decide) (fun c2 => ?_) (fun c2 => ?_)
    · replace h := xif_p c2 h
      refine x_iload_n dX1_mendedHeader_21 rfl ?_
      cases h
      exact x_iret dX1_mendedHeader_22 ⟨rfl, rfl, rfl⟩
    · replace h := xif_n c2 h
      refine x_iload_n dX1_mendedHeader_10 rfl ?_
      refine x_iconst (v := 1) dX1_mendedHeader_11 (by decide) ?_
      refine x_bipush (v := 31) dX1_mendedHeader_12 (by decide) ?_
      refine x_iload_n dX1_mendedHeader_14 rfl ?_
      refine x_isub dX1_mendedHeader_15 ?_
      refine x_ishl dX1_mendedHeader_16 ?_
      refine x_ixor dX1_mendedHeader_17 ?_
      refine x_goto (tgt := 22) dX1_mendedHeader_18 (by decide) ?_
      cases h
      exact x_iret dX1_mendedHeader_22 ⟨rfl, rfl, rfl⟩
def b_X6_faceWrong_16_39 (n : Nat) (a1 : Nat → Int32) (o11 : Nat → Int32) (a12 : Nat → Int32) (o16 : Nat → Int32) (a17 : Nat → Int32) (l2 : Int32) : Option (((Int32) × (Nat → Int32) × (Nat → Int32) × (Nat → Int32) × (Nat → Int32))) := (Option.bind (f_X6_become_16 o11 a12 o16 a17 0 l2) (fun q3 => (some (3, q3.1, q3.2.1, q3.2.2.1, q3.2.2.2))))
set_option maxRecDepth 100000 in
set_option maxHeartbeats 400000 in
theorem vb_X6_faceWrong_16_39 (s0 : XW) (n : Nat) (a1 : Nat → Int32) (o11 : Nat → Int32) (a12 : Nat → Int32) (o16 : Nat → Int32) (a17 : Nat → Int32) (l2 : Int32) (q : ((Int32) × (Nat → Int32) × (Nat → Int32) × (Nat → Int32) × (Nat → Int32))) (h : b_X6_faceWrong_16_39 n a1 o11 a12 o16 a17 l2 = some q) : V yX6_faceWrong cX6_faceWrong (some .int) 2 61 (0, 0) 39 [some (.ref 16), none, some (.int l2), none, none] [] (xof s0 [W_1 a1, W_8, W_11 o11, W_12 a12, W_16 o16, W_17 a17]) (xq 61 (some (.int q.1)) (xof s0 [W_1 a1, W_8, W_11 q.2.1, W_12 q.2.2.1, W_16 q.2.2.2.1, W_17 q.2.2.2.2])) := by
  unfold b_X6_faceWrong_16_39 at h
  refine x_aload_n dX6_faceWrong_39 rfl ?_
  refine x_iconst (v := 0) dX6_faceWrong_40 (by decide) ?_
  refine x_iload_n dX6_faceWrong_41 rfl ?_
  obtain ⟨q3, hq3, h⟩ := Option.bind_eq_some_iff.mp h
  refine y_callVv (L' := [(1, _), (8, _), (11, _), (12, _), (16, _), (17, _)]) mi_X6_become ml_X6_133 im_X6_become se_X6_become (rfl : vwCl[5]? = _) dX6_faceWrong_42 (fun s1 => v_X6_become_16 s1 _ _ _ _ _ _ q3 hq3) (by decide) rfl (Nat.le_of_ble_eq_true rfl) rfl (by decide) (Nat.le_of_ble_eq_true rfl) rfl rfl rfl rfl ?_
  refine x_iconst (v := 3) dX6_faceWrong_45 (by decide) ?_
  cases h
  exact x_iret dX6_faceWrong_46 ⟨rfl, rfl, rfl⟩
def b_X6_faceWrong_16_83 (n : Nat) (a1 : Nat → Int32) (o11 : Nat → Int32) (a12 : Nat → Int32) (o16 : Nat → Int32) (a17 : Nat → Int32) (t0 : Int32) : Option (((Int32) × (Nat → Int32) × (Nat → Int32) × (Nat → Int32) × (Nat → Int32))) := (if t0 = (-1) then (some (2, o11, a12, upd o16 10 0, upd a17 2 (((a17 2) + 1)))) else (Option.bind (f_X1_mendedHeader ((o16 16)) t0) (fun q8 => (some (1, o11, a12, upd (upd (upd (upd o16 10 0) 11 1) 16 q8) 17 1, upd a17 1 (((a17 1) + 1)))))))
set_option maxRecDepth 100000 in
set_option maxHeartbeats 400000 in
theorem vb_X6_faceWrong_16_83 (s0 : XW) (n : Nat) (a1 : Nat → Int32) (o11 : Nat → Int32) (a12 : Nat → Int32) (o16 : Nat → Int32) (a17 : Nat → Int32) (t0 : Int32) (q : ((Int32) × (Nat → Int32) × (Nat → Int32) × (Nat → Int32) × (Nat → Int32))) (h : b_X6_faceWrong_16_83 n a1 o11 a12 o16 a17 t0 = some q) : V yX6_faceWrong cX6_faceWrong (some .int) 2 61 (0, 0) 83 [some (.ref 16), none, none, none, none] [.int t0] (xof s0 [W_1 a1, W_8, W_11 o11, W_12 a12, W_16 o16, W_17 a17]) (xq 61 (some (.int q.1)) (xof s0 [W_1 a1, W_8, W_11 q.2.1, W_12 q.2.2.1, W_16 q.2.2.2.1, W_17 q.2.2.2.2])) := by
  unfold b_X6_faceWrong_16_83 at h
  refine x_istore (ls' := [_, _, _, _, _]) dX6_faceWrong_83 rfl rfl ?_
  refine x_aload_n dX6_faceWrong_85 rfl ?_
  refine x_iconst (v := 0) dX6_faceWrong_86 (by decide) ?_
  refine p_X6_64 (fs' := [_, _, _, _, _, _, _, _, _, _, _, _, _, _, _, _, _, _, _]) (L' := [(1, _), (8, _), (11, _), (12, _), (16, _), (17, _)]) rfl dX6_faceWrong_87 (by decide) rfl (Nat.le_of_ble_eq_true rfl) rfl rfl ?_
  refine x_iload dX6_faceWrong_90 rfl ?_
  refine x_iconst (v := -1) dX6_faceWrong_92 (by decide) ?_
  refine x_icmp_ne (tgt := 108) dX6_faceWrong_93 (by decide) (fun c7 => ?_) (fun c7 => ?_)
  · replace h := xif_n c7 h
    refine x_aload_n dX6_faceWrong_108 rfl ?_
    refine x_aload_n dX6_faceWrong_109 rfl ?_
    refine g_X6_96 rfl dX6_faceWrong_110 (by decide) rfl rfl ?_
    refine x_iload dX6_faceWrong_113 rfl ?_
    obtain ⟨q8, hq8, h⟩ := Option.bind_eq_some_iff.mp h
    refine y_callSi (L' := [(1, _), (8, _), (11, _), (12, _), (16, _), (17, _)]) mi_X1_mendedHeader ml_X6_182 st_X1_mendedHeader dX6_faceWrong_115 (fun s1 => v_X1_mendedHeader 61 s1 _ _ q8 hq8) (Nat.le_of_ble_eq_true rfl) rfl (by decide) (Nat.le_of_ble_eq_true rfl) rfl rfl rfl rfl ?_
    refine p_X6_96 (fs' := [_, _, _, _, _, _, _, _, _, _, _, _, _, _, _, _, _, _, _]) (L' := [(1, _), (8, _), (11, _), (12, _), (16, _), (17, _)]) rfl dX6_faceWrong_118 (by decide) rfl (Nat.le_of_ble_eq_true rfl) rfl rfl ?_
    refine x_aload_n dX6_faceWrong_121 rfl ?_
    refine x_iconst (v := 1) dX6_faceWrong_122 (by decide) ?_
    refine p_X6_99 (fs' := [_, _, _, _, _, _, _, _, _, _, _, _, _, _, _, _, _, _, _]) (L' := [(1, _), (8, _), (11, _), (12, _), (16, _), (17, _)]) rfl dX6_faceWrong_123 (by decide) rfl (Nat.le_of_ble_eq_true rfl) rfl rfl ?_
    refine x_aload_n dX6_faceWrong_126 rfl ?_
    refine g_X6_9 rfl dX6_faceWrong_127 (by decide) rfl rfl ?_
    refine x_iconst (v := 1) dX6_faceWrong_130 (by decide) ?_
    refine x_dup2 dX6_faceWrong_131 rfl rfl ?_
    refine x_ialdK (jn := 1) (v := (a17 1)) dX6_faceWrong_132 (by decide) rfl (xin_ok (by decide)) (by decide) rfl ?_
    refine x_iconst (v := 1) dX6_faceWrong_133 (by decide) ?_
    refine x_iadd dX6_faceWrong_134 ?_
    refine x_iastK (jn := 1) (L' := [(1, _), (8, _), (11, _), (12, _), (16, _), (17, _)]) dX6_faceWrong_135 (by decide) rfl (xin_ok (by decide)) (by decide) rfl ?_
    refine x_aload_n dX6_faceWrong_136 rfl ?_
    refine x_iconst (v := 1) dX6_faceWrong_137 (by decide) ?_
    refine p_X6_67 (fs' := [_, _, _, _, _, _, _, _, _, _, _, _, _, _, _, _, _, _, _]) (L' := [(1, _), (8, _), (11, _), (12, _), (16, _), (17, _)]) rfl dX6_faceWrong_138 (Or.inr rfl) (by decide) rfl (Nat.le_of_ble_eq_true rfl) rfl rfl ?_
    refine x_iconst (v := 1) dX6_faceWrong_141 (by decide) ?_
    cases h
    exact x_iret dX6_faceWrong_142 ⟨rfl, rfl, rfl⟩
  · replace h := xif_p c7 h
    refine x_aload_n dX6_faceWrong_96 rfl ?_
    refine g_X6_9 rfl dX6_faceWrong_97 (by decide) rfl rfl ?_
    refine x_iconst (v := 2) dX6_faceWrong_100 (by decide) ?_
    refine x_dup2 dX6_faceWrong_101 rfl rfl ?_
    refine x_ialdK (jn := 2) (v := (a17 2)) dX6_faceWrong_102 (by decide) rfl (xin_ok (by decide)) (by decide) rfl ?_
    refine x_iconst (v := 1) dX6_faceWrong_103 (by decide) ?_
    refine x_iadd dX6_faceWrong_104 ?_
    refine x_iastK (jn := 2) (L' := [(1, _), (8, _), (11, _), (12, _), (16, _), (17, _)]) dX6_faceWrong_105 (by decide) rfl (xin_ok (by decide)) (by decide) rfl ?_
    refine x_iconst (v := 2) dX6_faceWrong_106 (by decide) ?_
    cases h
    exact x_iret dX6_faceWrong_107 ⟨rfl, rfl, rfl⟩
def b_X6_faceWrong_16_70 (n : Nat) (a1 : Nat → Int32) (o11 : Nat → Int32) (a12 : Nat → Int32) (o16 : Nat → Int32) (a17 : Nat → Int32) (l1 : Int32) (t0 : Int32) : Option (((Int32) × (Nat → Int32) × (Nat → Int32) × (Nat → Int32) × (Nat → Int32))) := (if t0 = 0 then (b_X6_faceWrong_16_83 n a1 o11 a12 o16 a17 ((-1))) else (Option.bind (f_X1_bitOf n l1) (fun q9 => (b_X6_faceWrong_16_83 n a1 o11 a12 o16 a17 q9))))
set_option maxRecDepth 100000 in
set_option maxHeartbeats 400000 in
theorem vb_X6_faceWrong_16_70 (s0 : XW) (n : Nat) (a1 : Nat → Int32) (o11 : Nat → Int32) (a12 : Nat → Int32) (o16 : Nat → Int32) (a17 : Nat → Int32) (l1 : Int32) (t0 : Int32) (q : ((Int32) × (Nat → Int32) × (Nat → Int32) × (Nat → Int32) × (Nat → Int32))) (h : b_X6_faceWrong_16_70 n a1 o11 a12 o16 a17 l1 t0 = some q) : V yX6_faceWrong cX6_faceWrong (some .int) 2 61 (0, 0) 70 [some (.ref 16), some (.int l1), none, none, none] [.int t0] (xof s0 [W_1 a1, W_8, W_11 o11, W_12 a12, W_16 o16, W_17 a17]) (xq 61 (some (.int q.1)) (xof s0 [W_1 a1, W_8, W_11 q.2.1, W_12 q.2.2.1, W_16 q.2.2.2.1, W_17 q.2.2.2.2])) := by
  unfold b_X6_faceWrong_16_70 at h
  refine x_istore_n (ls' := [_, _, _, _, _]) dX6_faceWrong_70 rfl rfl ?_
  refine x_iload_n dX6_faceWrong_71 rfl ?_
  refine x_if_eq (tgt := 82) dX6_faceWrong_72 (by decide) (fun c6 => ?_) (fun c6 => ?_)
  · replace h := xif_p c6 h
    refine x_iconst (v := -1) dX6_faceWrong_82 (by decide) ?_
    refine V.drop1 (i := 1) (ls' := [_, _, _, _, _]) rfl ?_
    refine V.drop1 (i := 3) (ls' := [_, _, _, _, _]) rfl ?_
    show V yX6_faceWrong cX6_faceWrong (some .int) 2 61 (0, 0) 83 [some (.ref 16), none, none, none, none] [.int ((-1))] (xof s0 [W_1 a1, W_8, W_11 o11, W_12 a12, W_16 o16, W_17 a17]) _
    exact vb_X6_faceWrong_16_83 s0 n a1 o11 a12 o16 a17 ((-1)) q h
  · replace h := xif_n c6 h
    refine x_iload_n dX6_faceWrong_75 rfl ?_
    obtain ⟨q9, hq9, h⟩ := Option.bind_eq_some_iff.mp h
    refine y_callSi (L' := [(1, _), (8, _), (11, _), (12, _), (16, _), (17, _)]) mi_X1_bitOf ml_X6_177 st_X1_bitOf dX6_faceWrong_76 (fun s1 => v_X1_bitOf 61 s1 n _ q9 hq9) (Nat.le_of_ble_eq_true rfl) rfl (by decide) (Nat.le_of_ble_eq_true rfl) rfl rfl rfl rfl ?_
    refine x_goto (tgt := 83) dX6_faceWrong_79 (by decide) ?_
    refine V.drop1 (i := 1) (ls' := [_, _, _, _, _]) rfl ?_
    refine V.drop1 (i := 3) (ls' := [_, _, _, _, _]) rfl ?_
    show V yX6_faceWrong cX6_faceWrong (some .int) 2 61 (0, 0) 83 [some (.ref 16), none, none, none, none] [.int q9] (xof s0 [W_1 a1, W_8, W_11 o11, W_12 a12, W_16 o16, W_17 a17]) _
    exact vb_X6_faceWrong_16_83 s0 n a1 o11 a12 o16 a17 q9 q h
def b_X6_faceWrong_16_69 (n : Nat) (a1 : Nat → Int32) (o11 : Nat → Int32) (a12 : Nat → Int32) (o16 : Nat → Int32) (a17 : Nat → Int32) (l1 : Int32) : Option (((Int32) × (Nat → Int32) × (Nat → Int32) × (Nat → Int32) × (Nat → Int32))) := (b_X6_faceWrong_16_70 n a1 o11 a12 o16 a17 l1 0)
set_option maxRecDepth 100000 in
set_option maxHeartbeats 400000 in
theorem vb_X6_faceWrong_16_69 (s0 : XW) (n : Nat) (a1 : Nat → Int32) (o11 : Nat → Int32) (a12 : Nat → Int32) (o16 : Nat → Int32) (a17 : Nat → Int32) (l1 : Int32) (q : ((Int32) × (Nat → Int32) × (Nat → Int32) × (Nat → Int32) × (Nat → Int32))) (h : b_X6_faceWrong_16_69 n a1 o11 a12 o16 a17 l1 = some q) : V yX6_faceWrong cX6_faceWrong (some .int) 2 61 (0, 0) 69 [some (.ref 16), some (.int l1), none, none, none] [] (xof s0 [W_1 a1, W_8, W_11 o11, W_12 a12, W_16 o16, W_17 a17]) (xq 61 (some (.int q.1)) (xof s0 [W_1 a1, W_8, W_11 q.2.1, W_12 q.2.2.1, W_16 q.2.2.2.1, W_17 q.2.2.2.2])) := by
  unfold b_X6_faceWrong_16_69 at h
  refine x_iconst (v := 0) dX6_faceWrong_69 (by decide) ?_
  show V yX6_faceWrong cX6_faceWrong (some .int) 2 61 (0, 0) 70 [some (.ref 16), some (.int l1), none, none, none] [.int 0] (xof s0 [W_1 a1, W_8, W_11 o11, W_12 a12, W_16 o16, W_17 a17]) _
  exact vb_X6_faceWrong_16_70 s0 n a1 o11 a12 o16 a17 l1 0 q h
def b_X6_faceWrong_16_18 (n : Nat) (a1 : Nat → Int32) (o11 : Nat → Int32) (a12 : Nat → Int32) (o16 : Nat → Int32) (a17 : Nat → Int32) (l1 : Int32) (l2 : Int32) : Option (((Int32) × (Nat → Int32) × (Nat → Int32) × (Nat → Int32) × (Nat → Int32))) := (if (o16 7) = 1 then (b_X6_faceWrong_16_39 n a1 o11 a12 o16 a17 l2) else (if (o16 9) < (a1 1) then (if (o16 10) = 1 then (if (a1 3) = 1 then (b_X6_faceWrong_16_70 n a1 o11 a12 o16 a17 l1 1) else (b_X6_faceWrong_16_69 n a1 o11 a12 o16 a17 l1)) else (b_X6_faceWrong_16_69 n a1 o11 a12 o16 a17 l1)) else (b_X6_faceWrong_16_39 n a1 o11 a12 o16 a17 l2)))
set_option maxRecDepth 100000 in
set_option maxHeartbeats 400000 in
theorem vb_X6_faceWrong_16_18 (s0 : XW) (n : Nat) (a1 : Nat → Int32) (o11 : Nat → Int32) (a12 : Nat → Int32) (o16 : Nat → Int32) (a17 : Nat → Int32) (l1 : Int32) (l2 : Int32) (q : ((Int32) × (Nat → Int32) × (Nat → Int32) × (Nat → Int32) × (Nat → Int32))) (h : b_X6_faceWrong_16_18 n a1 o11 a12 o16 a17 l1 l2 = some q) : V yX6_faceWrong cX6_faceWrong (some .int) 2 61 (0, 0) 18 [some (.ref 16), some (.int l1), some (.int l2), none, none] [] (xof s0 [W_1 a1, W_8, W_11 o11, W_12 a12, W_16 o16, W_17 a17]) (xq 61 (some (.int q.1)) (xof s0 [W_1 a1, W_8, W_11 q.2.1, W_12 q.2.2.1, W_16 q.2.2.2.1, W_17 q.2.2.2.2])) := by
  unfold b_X6_faceWrong_16_18 at h
  refine x_aload_n dX6_faceWrong_18 rfl ?_
  refine g_X6_54 rfl dX6_faceWrong_19 (by decide) rfl rfl ?_
  refine x_iconst (v := 1) dX6_faceWrong_22 (by decide) ?_
  refine x_icmp_eq (tgt := 39) dX6_faceWrong_23 (by decide) (fun c2 => ?_) (fun c2 => ?_)
  · replace h := xif_p c2 h
    refine V.drop1 (i := 1) (ls' := [_, _, _, _, _]) rfl ?_
    show V yX6_faceWrong cX6_faceWrong (some .int) 2 61 (0, 0) 39 [some (.ref 16), none, some (.int l2), none, none] [] (xof s0 [W_1 a1, W_8, W_11 o11, W_12 a12, W_16 o16, W_17 a17]) _
    exact vb_X6_faceWrong_16_39 s0 n a1 o11 a12 o16 a17 l2 q h
  · replace h := xif_n c2 h
    refine x_aload_n dX6_faceWrong_26 rfl ?_
    refine g_X6_61 rfl dX6_faceWrong_27 (by decide) rfl rfl ?_
    refine x_aload_n dX6_faceWrong_30 rfl ?_
    refine g_X6_33 rfl dX6_faceWrong_31 (by decide) rfl rfl ?_
    refine x_iconst (v := 1) dX6_faceWrong_34 (by decide) ?_
    refine x_ialdK (jn := 1) (v := (a1 1)) dX6_faceWrong_35 (by decide) rfl (xin_ok (by decide)) (by decide) rfl ?_
    refine x_icmp_lt (tgt := 47) dX6_faceWrong_36 (by decide) (fun c4 => ?_) (fun c4 => ?_)
    · replace h := xif_p c4 h
      refine x_aload_n dX6_faceWrong_47 rfl ?_
      refine g_X6_64 rfl dX6_faceWrong_48 (by decide) rfl rfl ?_
      refine x_iconst (v := 1) dX6_faceWrong_51 (by decide) ?_
      refine x_icmp_ne (tgt := 69) dX6_faceWrong_52 (by decide) (fun c5 => ?_) (fun c5 => ?_)
      · replace h := xif_n c5 h
        refine V.drop1 (i := 2) (ls' := [_, _, _, _, _]) rfl ?_
        show V yX6_faceWrong cX6_faceWrong (some .int) 2 61 (0, 0) 69 [some (.ref 16), some (.int l1), none, none, none] [] (xof s0 [W_1 a1, W_8, W_11 o11, W_12 a12, W_16 o16, W_17 a17]) _
        exact vb_X6_faceWrong_16_69 s0 n a1 o11 a12 o16 a17 l1 q h
      · replace h := xif_p c5 h
        refine x_aload_n dX6_faceWrong_55 rfl ?_
        refine g_X6_33 rfl dX6_faceWrong_56 (by decide) rfl rfl ?_
        refine x_iconst (v := 3) dX6_faceWrong_59 (by decide) ?_
        refine x_ialdK (jn := 3) (v := (a1 3)) dX6_faceWrong_60 (by decide) rfl (xin_ok (by decide)) (by decide) rfl ?_
        refine x_iconst (v := 1) dX6_faceWrong_61 (by decide) ?_
        refine x_icmp_ne (tgt := 69) dX6_faceWrong_62 (by decide) (fun c10 => ?_) (fun c10 => ?_)
        · replace h := xif_n c10 h
          refine V.drop1 (i := 2) (ls' := [_, _, _, _, _]) rfl ?_
          show V yX6_faceWrong cX6_faceWrong (some .int) 2 61 (0, 0) 69 [some (.ref 16), some (.int l1), none, none, none] [] (xof s0 [W_1 a1, W_8, W_11 o11, W_12 a12, W_16 o16, W_17 a17]) _
          exact vb_X6_faceWrong_16_69 s0 n a1 o11 a12 o16 a17 l1 q h
        · replace h := xif_p c10 h
          refine x_iconst (v := 1) dX6_faceWrong_65 (by decide) ?_
          refine x_goto (tgt := 70) dX6_faceWrong_66 (by decide) ?_
          refine V.drop1 (i := 2) (ls' := [_, _, _, _, _]) rfl ?_
          show V yX6_faceWrong cX6_faceWrong (some .int) 2 61 (0, 0) 70 [some (.ref 16), some (.int l1), none, none, none] [.int 1] (xof s0 [W_1 a1, W_8, W_11 o11, W_12 a12, W_16 o16, W_17 a17]) _
          exact vb_X6_faceWrong_16_70 s0 n a1 o11 a12 o16 a17 l1 1 q h
    · replace h := xif_n c4 h
      refine V.drop1 (i := 1) (ls' := [_, _, _, _, _]) rfl ?_
      show V yX6_faceWrong cX6_faceWrong (some .int) 2 61 (0, 0) 39 [some (.ref 16), none, some (.int l2), none, none] [] (xof s0 [W_1 a1, W_8, W_11 o11, W_12 a12, W_16 o16, W_17 a17]) _
      exact vb_X6_faceWrong_16_39 s0 n a1 o11 a12 o16 a17 l2 q h
def f_X6_faceWrong_16 (n : Nat) (a1 : Nat → Int32) (o11 : Nat → Int32) (a12 : Nat → Int32) (o16 : Nat → Int32) (a17 : Nat → Int32) (p1 : Int32) (p2 : Int32) : Option (((Int32) × (Nat → Int32) × (Nat → Int32) × (Nat → Int32) × (Nat → Int32))) := (if (o16 7) = 2 then (b_X6_faceWrong_16_18 n a1 o11 a12 (upd o16 9 (((o16 9) + 1))) a17 p1 p2) else (b_X6_faceWrong_16_18 n a1 o11 a12 o16 a17 p1 p2))
set_option maxRecDepth 100000 in
set_option maxHeartbeats 400000 in
theorem v_X6_faceWrong_16 (s0 : XW) (n : Nat) (a1 : Nat → Int32) (o11 : Nat → Int32) (a12 : Nat → Int32) (o16 : Nat → Int32) (a17 : Nat → Int32) (p1 : Int32) (p2 : Int32) (q : ((Int32) × (Nat → Int32) × (Nat → Int32) × (Nat → Int32) × (Nat → Int32))) (h : f_X6_faceWrong_16 n a1 o11 a12 o16 a17 p1 p2 = some q) : C_X6_faceWrong 2 61 [.ref 16, .int p1, .int p2] (xof s0 [W_1 a1, W_8, W_11 o11, W_12 a12, W_16 o16, W_17 a17]) (some (.int q.1)) (xof s0 [W_1 a1, W_8, W_11 q.2.1, W_12 q.2.2.1, W_16 q.2.2.2.1, W_17 q.2.2.2.2]) := by
  unfold f_X6_faceWrong_16 at h
  show V yX6_faceWrong cX6_faceWrong (some .int) 2 61 (0, 0) 0 [some (.ref 16), some (.int p1), some (.int p2), none, none] [] (xof s0 [W_1 a1, W_8, W_11 o11, W_12 a12, W_16 o16, W_17 a17]) _
  refine x_aload_n dX6_faceWrong_0 rfl ?_
  refine g_X6_54 rfl dX6_faceWrong_1 (by decide) rfl rfl ?_
  refine x_iconst (v := 2) dX6_faceWrong_4 (by decide) ?_
  refine x_icmp_ne (tgt := 18) dX6_faceWrong_5 (by decide) (fun c1 => ?_) (fun c1 => ?_)
  · replace h := xif_n c1 h
    show V yX6_faceWrong cX6_faceWrong (some .int) 2 61 (0, 0) 18 [some (.ref 16), some (.int p1), some (.int p2), none, none] [] (xof s0 [W_1 a1, W_8, W_11 o11, W_12 a12, W_16 o16, W_17 a17]) _
    exact vb_X6_faceWrong_16_18 s0 n a1 o11 a12 o16 a17 p1 p2 q h
  · replace h := xif_p c1 h
    refine x_aload_n dX6_faceWrong_8 rfl ?_
    refine x_dup dX6_faceWrong_9 rfl ?_
    refine g_X6_61 rfl dX6_faceWrong_10 (by decide) rfl rfl ?_
    refine x_iconst (v := 1) dX6_faceWrong_13 (by decide) ?_
    refine x_iadd dX6_faceWrong_14 ?_
    refine p_X6_61 (fs' := [_, _, _, _, _, _, _, _, _, _, _, _, _, _, _, _, _, _, _]) (L' := [(1, _), (8, _), (11, _), (12, _), (16, _), (17, _)]) rfl dX6_faceWrong_15 (by decide) rfl (Nat.le_of_ble_eq_true rfl) rfl rfl ?_
    show V yX6_faceWrong cX6_faceWrong (some .int) 2 61 (0, 0) 18 [some (.ref 16), some (.int p1), some (.int p2), none, none] [] (xof s0 [W_1 a1, W_8, W_11 o11, W_12 a12, W_16 (upd o16 9 (((o16 9) + 1))), W_17 a17]) _
    exact vb_X6_faceWrong_16_18 s0 n a1 o11 a12 (upd o16 9 (((o16 9) + 1))) a17 p1 p2 q h
def b_X6_judge_16_55 (n : Nat) (a1 : Nat → Int32) (o11 : Nat → Int32) (a12 : Nat → Int32) (o13 : Nat → Int32) (a14 : Nat → Int32) (o16 : Nat → Int32) (a17 : Nat → Int32) (o18 : Nat → Int32) (j18 : Int64) (l2 : Int32) (t0 : Int32) : Option (((Nat → Int32) × (Nat → Int32) × (Nat → Int32) × (Nat → Int32) × (Nat → Int32) × (Nat → Int32))) := (Option.bind (f_X7_add_13 o13 a14 ((o16 18)) l2 t0) (fun q5 => (some (o11, a12, q5.1, q5.2, o16, upd a17 8 (((a17 8) + 1))))))
set_option maxRecDepth 100000 in
set_option maxHeartbeats 400000 in
theorem vb_X6_judge_16_55 (s0 : XW) (n : Nat) (a1 : Nat → Int32) (o11 : Nat → Int32) (a12 : Nat → Int32) (o13 : Nat → Int32) (a14 : Nat → Int32) (o16 : Nat → Int32) (a17 : Nat → Int32) (o18 : Nat → Int32) (j18 : Int64) (l2 : Int32) (t0 : Int32) (q : ((Nat → Int32) × (Nat → Int32) × (Nat → Int32) × (Nat → Int32) × (Nat → Int32) × (Nat → Int32))) (h : b_X6_judge_16_55 n a1 o11 a12 o13 a14 o16 a17 o18 j18 l2 t0 = some q) : V yX6_judge cX6_judge none 3 61 (0, 0) 55 [some (.ref 16), none, some (.int l2), none] [.int t0] (xof s0 [W_1 a1, W_8, W_11 o11, W_12 a12, W_13 o13, W_14 a14, W_16 o16, W_17 a17, W_18 o18 j18]) (xq 61 none (xof s0 [W_1 a1, W_8, W_11 q.1, W_12 q.2.1, W_13 q.2.2.1, W_14 q.2.2.2.1, W_16 q.2.2.2.2.1, W_17 q.2.2.2.2.2, W_18 o18 j18])) := by
  unfold b_X6_judge_16_55 at h
  refine x_istore_n (ls' := [_, _, _, _]) dX6_judge_55 rfl rfl ?_
  refine x_aload_n dX6_judge_56 rfl ?_
  refine g_X6_9 rfl dX6_judge_57 (by decide) rfl rfl ?_
  refine x_bipush (v := 8) dX6_judge_60 (by decide) ?_
  refine x_dup2 dX6_judge_62 rfl rfl ?_
  refine x_ialdK (jn := 8) (v := (a17 8)) dX6_judge_63 (by decide) rfl (xin_ok (by decide)) (by decide) rfl ?_
  refine x_iconst (v := 1) dX6_judge_64 (by decide) ?_
  refine x_iadd dX6_judge_65 ?_
  refine x_iastK (jn := 8) (L' := [(1, _), (8, _), (11, _), (12, _), (13, _), (14, _), (16, _), (17, _), (18, _)]) dX6_judge_66 (by decide) rfl (xin_ok (by decide)) (by decide) rfl ?_
  refine x_aload_n dX6_judge_67 rfl ?_
  refine g_X6_40 rfl dX6_judge_68 (by decide) rfl rfl ?_
  refine x_ifnull dX6_judge_71 ?_
  refine x_aload_n dX6_judge_74 rfl ?_
  refine g_X6_40 rfl dX6_judge_75 (by decide) rfl rfl ?_
  refine g_X6_167 rfl dX6_judge_78 (by decide) rfl rfl ?_
  refine x_aload_n dX6_judge_81 rfl ?_
  refine g_X6_102 rfl dX6_judge_82 (by decide) rfl rfl ?_
  refine x_iload_n dX6_judge_85 rfl ?_
  refine x_iload_n dX6_judge_86 rfl ?_
  obtain ⟨q5, hq5, h⟩ := Option.bind_eq_some_iff.mp h
  refine y_callVv (L' := [(1, _), (8, _), (11, _), (12, _), (13, _), (14, _), (16, _), (17, _), (18, _)]) mi_X7_add ml_X6_171 im_X7_add se_X7_add (rfl : vwCl[6]? = _) dX6_judge_87 (fun s1 => v_X7_add_13 s1 _ _ _ _ _ q5 hq5) (by decide) rfl (Nat.le_of_ble_eq_true rfl) rfl (by decide) (Nat.le_of_ble_eq_true rfl) rfl rfl rfl rfl ?_
  cases h
  exact x_vret dX6_judge_90 ⟨rfl, rfl, rfl⟩
def f_X6_judge_16 (n : Nat) (a1 : Nat → Int32) (o11 : Nat → Int32) (a12 : Nat → Int32) (o13 : Nat → Int32) (a14 : Nat → Int32) (o16 : Nat → Int32) (a17 : Nat → Int32) (o18 : Nat → Int32) (j18 : Int64) (p1 : Int32) : Option (((Nat → Int32) × (Nat → Int32) × (Nat → Int32) × (Nat → Int32) × (Nat → Int32) × (Nat → Int32))) := (Option.bind (f_X10_syndromeNow_18 o18 j18) (fun q1 => (Option.bind (f_X10_headerNow_18 o18 j18) (fun q2 => (if q1 = 0 then (Option.bind (f_X6_acceptRight_16 a1 o11 a12 (upd (upd (upd (upd o16 15 0) 16 q2) 17 0) 18 ((p1 - 40))) a17 p1) (fun q6 => (b_X6_judge_16_55 n a1 q6.2.1 q6.2.2.1 o13 a14 q6.2.2.2.1 q6.2.2.2.2 o18 j18 q1 q6.1))) else (Option.bind (f_X6_faceWrong_16 n a1 o11 a12 (upd (upd (upd (upd o16 15 0) 16 q2) 17 0) 18 ((p1 - 40))) a17 q1 p1) (fun q4 => (b_X6_judge_16_55 n a1 q4.2.1 q4.2.2.1 o13 a14 q4.2.2.2.1 q4.2.2.2.2 o18 j18 q1 q4.1))))))))
set_option maxRecDepth 100000 in
set_option maxHeartbeats 400000 in
theorem v_X6_judge_16 (s0 : XW) (n : Nat) (a1 : Nat → Int32) (o11 : Nat → Int32) (a12 : Nat → Int32) (o13 : Nat → Int32) (a14 : Nat → Int32) (o16 : Nat → Int32) (a17 : Nat → Int32) (o18 : Nat → Int32) (j18 : Int64) (p1 : Int32) (q : ((Nat → Int32) × (Nat → Int32) × (Nat → Int32) × (Nat → Int32) × (Nat → Int32) × (Nat → Int32))) (h : f_X6_judge_16 n a1 o11 a12 o13 a14 o16 a17 o18 j18 p1 = some q) : C_X6_judge 3 61 [.ref 16, .int p1] (xof s0 [W_1 a1, W_8, W_11 o11, W_12 a12, W_13 o13, W_14 a14, W_16 o16, W_17 a17, W_18 o18 j18]) none (xof s0 [W_1 a1, W_8, W_11 q.1, W_12 q.2.1, W_13 q.2.2.1, W_14 q.2.2.2.1, W_16 q.2.2.2.2.1, W_17 q.2.2.2.2.2, W_18 o18 j18]) := by
  unfold f_X6_judge_16 at h
  show V yX6_judge cX6_judge none 3 61 (0, 0) 0 [some (.ref 16), some (.int p1), none, none] [] (xof s0 [W_1 a1, W_8, W_11 o11, W_12 a12, W_13 o13, W_14 a14, W_16 o16, W_17 a17, W_18 o18 j18]) _
  refine x_aload_n dX6_judge_0 rfl ?_
  refine x_iconst (v := 0) dX6_judge_1 (by decide) ?_
  refine p_X6_80 (fs' := [_, _, _, _, _, _, _, _, _, _, _, _, _, _, _, _, _, _, _]) (L' := [(1, _), (8, _), (11, _), (12, _), (13, _), (14, _), (16, _), (17, _), (18, _)]) rfl dX6_judge_2 (by decide) rfl (Nat.le_of_ble_eq_true rfl) rfl rfl ?_
  refine x_aload_n dX6_judge_5 rfl ?_
  refine g_X6_18 rfl dX6_judge_6 (by decide) rfl rfl ?_
  obtain ⟨q1, hq1, h⟩ := Option.bind_eq_some_iff.mp h
  refine y_callVi (L' := [(1, _), (8, _), (11, _), (12, _), (13, _), (14, _), (16, _), (17, _), (18, _)]) mi_X10_syndromeNow ml_X6_153 im_X10_syndromeNow se_X10_syndromeNow (rfl : vwCl[9]? = _) dX6_judge_9 (fun s1 => v_X10_syndromeNow_18 s1 _ _ q1 hq1) (by decide) rfl (Nat.le_of_ble_eq_true rfl) rfl (by decide) (Nat.le_of_ble_eq_true rfl) rfl rfl rfl rfl ?_
  refine x_istore_n (ls' := [_, _, _, _]) dX6_judge_12 rfl rfl ?_
  refine x_aload_n dX6_judge_13 rfl ?_
  refine x_aload_n dX6_judge_14 rfl ?_
  refine g_X6_18 rfl dX6_judge_15 (by decide) rfl rfl ?_
  obtain ⟨q2, hq2, h⟩ := Option.bind_eq_some_iff.mp h
  refine y_callVi (L' := [(1, _), (8, _), (11, _), (12, _), (13, _), (14, _), (16, _), (17, _), (18, _)]) mi_X10_headerNow ml_X6_156 im_X10_headerNow se_X10_headerNow (rfl : vwCl[9]? = _) dX6_judge_18 (fun s1 => v_X10_headerNow_18 s1 _ _ q2 hq2) (by decide) rfl (Nat.le_of_ble_eq_true rfl) rfl (by decide) (Nat.le_of_ble_eq_true rfl) rfl rfl rfl rfl ?_
  refine p_X6_96 (fs' := [_, _, _, _, _, _, _, _, _, _, _, _, _, _, _, _, _, _, _]) (L' := [(1, _), (8, _), (11, _), (12, _), (13, _), (14, _), (16, _), (17, _), (18, _)]) rfl dX6_judge_21 (by decide) rfl (Nat.le_of_ble_eq_true rfl) rfl rfl ?_
  refine x_aload_n dX6_judge_24 rfl ?_
  refine x_iconst (v := 0) dX6_judge_25 (by decide) ?_
  refine p_X6_99 (fs' := [_, _, _, _, _, _, _, _, _, _, _, _, _, _, _, _, _, _, _]) (L' := [(1, _), (8, _), (11, _), (12, _), (13, _), (14, _), (16, _), (17, _), (18, _)]) rfl dX6_judge_26 (by decide) rfl (Nat.le_of_ble_eq_true rfl) rfl rfl ?_
  refine x_aload_n dX6_judge_29 rfl ?_
  refine x_iload_n dX6_judge_30 rfl ?_
  refine x_bipush (v := 40) dX6_judge_31 (by decide) ?_
  refine x_isub dX6_judge_33 ?_
  refine p_X6_102 (fs' := [_, _, _, _, _, _, _, _, _, _, _, _, _, _, _, _, _, _, _]) (L' := [(1, _), (8, _), (11, _), (12, _), (13, _), (14, _), (16, _), (17, _), (18, _)]) rfl dX6_judge_34 (by decide) rfl (Nat.le_of_ble_eq_true rfl) rfl rfl ?_
  refine x_iload_n dX6_judge_37 rfl ?_
  refine x_if_ne (tgt := 49) dX6_judge_38 (by decide) (fun c3 => ?_) (fun c3 => ?_)
  · replace h := xif_n c3 h
    refine x_aload_n dX6_judge_49 rfl ?_
    refine x_iload_n dX6_judge_50 rfl ?_
    refine x_iload_n dX6_judge_51 rfl ?_
    obtain ⟨q4, hq4, h⟩ := Option.bind_eq_some_iff.mp h
    refine y_callVi (L' := [(1, _), (8, _), (11, _), (12, _), (13, _), (14, _), (16, _), (17, _), (18, _)]) mi_X6_faceWrong ml_X6_163 im_X6_faceWrong se_X6_faceWrong (rfl : vwCl[5]? = _) dX6_judge_52 (fun s1 => v_X6_faceWrong_16 s1 n _ _ _ _ _ _ _ q4 hq4) (by decide) rfl (Nat.le_of_ble_eq_true rfl) rfl (by decide) (Nat.le_of_ble_eq_true rfl) rfl rfl rfl rfl ?_
    refine V.drop1 (i := 1) (ls' := [_, _, _, _]) rfl ?_
    show V yX6_judge cX6_judge none 3 61 (0, 0) 55 [some (.ref 16), none, some (.int q1), none] [.int q4.1] (xof s0 [W_1 a1, W_8, W_11 q4.2.1, W_12 q4.2.2.1, W_13 o13, W_14 a14, W_16 q4.2.2.2.1, W_17 q4.2.2.2.2, W_18 o18 j18]) _
    exact vb_X6_judge_16_55 s0 n a1 q4.2.1 q4.2.2.1 o13 a14 q4.2.2.2.1 q4.2.2.2.2 o18 j18 q1 q4.1 q h
  · replace h := xif_p c3 h
    refine x_aload_n dX6_judge_41 rfl ?_
    refine x_iload_n dX6_judge_42 rfl ?_
    obtain ⟨q6, hq6, h⟩ := Option.bind_eq_some_iff.mp h
    refine y_callVi (L' := [(1, _), (8, _), (11, _), (12, _), (13, _), (14, _), (16, _), (17, _), (18, _)]) mi_X6_acceptRight ml_X6_159 im_X6_acceptRight se_X6_acceptRight (rfl : vwCl[5]? = _) dX6_judge_43 (fun s1 => v_X6_acceptRight_16 s1 _ _ _ _ _ _ q6 hq6) (by decide) rfl (Nat.le_of_ble_eq_true rfl) rfl (by decide) (Nat.le_of_ble_eq_true rfl) rfl rfl rfl rfl ?_
    refine x_goto (tgt := 55) dX6_judge_46 (by decide) ?_
    refine V.drop1 (i := 1) (ls' := [_, _, _, _]) rfl ?_
    show V yX6_judge cX6_judge none 3 61 (0, 0) 55 [some (.ref 16), none, some (.int q1), none] [.int q6.1] (xof s0 [W_1 a1, W_8, W_11 q6.2.1, W_12 q6.2.2.1, W_13 o13, W_14 a14, W_16 q6.2.2.2.1, W_17 q6.2.2.2.2, W_18 o18 j18]) _
    exact vb_X6_judge_16_55 s0 n a1 q6.2.1 q6.2.2.1 o13 a14 q6.2.2.2.1 q6.2.2.2.2 o18 j18 q1 q6.1 q h
def b_X6_receive_16_116 (n : Nat) (a1 : Nat → Int32) (o4 : Nat → Int32) (a6 : Nat → Int32) (a7 : Nat → Int32) (o9 : Nat → Int32) (a10 : Nat → Int32) (o11 : Nat → Int32) (a12 : Nat → Int32) (o13 : Nat → Int32) (a14 : Nat → Int32) (a15 : Nat → Int32) (o16 : Nat → Int32) (a17 : Nat → Int32) (o18 : Nat → Int32) (j18 : Int64) (j19 : Int64) (a20 : Nat → Int32) (t1 : Int32) : Option (((Nat → Int32) × (Nat → Int32) × (Nat → Int32) × (Nat → Int32) × (Nat → Int32) × (Nat → Int32) × (Nat → Int32) × (Nat → Int32) × (Nat → Int32) × (Nat → Int32) × (Int64) × (Int64) × (Nat → Int32))) := (Option.bind (f_X6_watch_16 a1 o16 a17 t1) (fun q11 => (some (o9, a10, o11, a12, o13, a14, a15, q11.1, q11.2, o18, j18, j19, a20))))
set_option maxRecDepth 100000 in
set_option maxHeartbeats 400000 in
theorem vb_X6_receive_16_116 (s0 : XW) (n : Nat) (a1 : Nat → Int32) (o4 : Nat → Int32) (a6 : Nat → Int32) (a7 : Nat → Int32) (o9 : Nat → Int32) (a10 : Nat → Int32) (o11 : Nat → Int32) (a12 : Nat → Int32) (o13 : Nat → Int32) (a14 : Nat → Int32) (a15 : Nat → Int32) (o16 : Nat → Int32) (a17 : Nat → Int32) (o18 : Nat → Int32) (j18 : Int64) (j19 : Int64) (a20 : Nat → Int32) (t1 : Int32) (q : ((Nat → Int32) × (Nat → Int32) × (Nat → Int32) × (Nat → Int32) × (Nat → Int32) × (Nat → Int32) × (Nat → Int32) × (Nat → Int32) × (Nat → Int32) × (Nat → Int32) × (Int64) × (Int64) × (Nat → Int32))) (h : b_X6_receive_16_116 n a1 o4 a6 a7 o9 a10 o11 a12 o13 a14 a15 o16 a17 o18 j18 j19 a20 t1 = some q) : V yX6_receive cX6_receive none 4 61 (0, 0) 116 [none, none, none, none] [.int t1, .ref 16] (xof s0 [W_1 a1, W_4 o4, W_6 a6, W_7 a7, W_8, W_9 o9, W_10 a10, W_11 o11, W_12 a12, W_13 o13, W_14 a14, W_15 a15, W_16 o16, W_17 a17, W_18 o18 j18, W_19 j19, W_20 a20]) (xq 61 none (xof s0 [W_1 a1, W_4 o4, W_6 a6, W_7 a7, W_8, W_9 q.1, W_10 q.2.1, W_11 q.2.2.1, W_12 q.2.2.2.1, W_13 q.2.2.2.2.1, W_14 q.2.2.2.2.2.1, W_15 q.2.2.2.2.2.2.1, W_16 q.2.2.2.2.2.2.2.1, W_17 q.2.2.2.2.2.2.2.2.1, W_18 q.2.2.2.2.2.2.2.2.2.1 q.2.2.2.2.2.2.2.2.2.2.1, W_19 q.2.2.2.2.2.2.2.2.2.2.2.1, W_20 q.2.2.2.2.2.2.2.2.2.2.2.2])) := by
  unfold b_X6_receive_16_116 at h
  obtain ⟨q11, hq11, h⟩ := Option.bind_eq_some_iff.mp h
  refine y_callVv (L' := [(1, _), (4, _), (6, _), (7, _), (8, _), (9, _), (10, _), (11, _), (12, _), (13, _), (14, _), (15, _), (16, _), (17, _), (18, _), (19, _), (20, _)]) mi_X6_watch ml_X6_125 im_X6_watch se_X6_watch (rfl : vwCl[5]? = _) dX6_receive_116 (fun s1 => v_X6_watch_16 s1 _ _ _ _ q11 hq11) (by decide) rfl (Nat.le_of_ble_eq_true rfl) rfl (by decide) (Nat.le_of_ble_eq_true rfl) rfl rfl rfl rfl ?_
  cases h
  exact x_vret dX6_receive_119 ⟨rfl, rfl, rfl⟩
def b_X6_receive_16_105 (n : Nat) (a1 : Nat → Int32) (o4 : Nat → Int32) (a6 : Nat → Int32) (a7 : Nat → Int32) (o9 : Nat → Int32) (a10 : Nat → Int32) (o11 : Nat → Int32) (a12 : Nat → Int32) (o13 : Nat → Int32) (a14 : Nat → Int32) (a15 : Nat → Int32) (o16 : Nat → Int32) (a17 : Nat → Int32) (o18 : Nat → Int32) (j18 : Int64) (j19 : Int64) (a20 : Nat → Int32) (l3 : Int32) : Option (((Nat → Int32) × (Nat → Int32) × (Nat → Int32) × (Nat → Int32) × (Nat → Int32) × (Nat → Int32) × (Nat → Int32) × (Nat → Int32) × (Nat → Int32) × (Nat → Int32) × (Int64) × (Int64) × (Nat → Int32))) := (if l3 = 2 then (b_X6_receive_16_116 n a1 o4 a6 a7 o9 a10 o11 a12 o13 a14 a15 o16 a17 o18 j18 j19 a20 1) else (b_X6_receive_16_116 n a1 o4 a6 a7 o9 a10 o11 a12 o13 a14 a15 o16 a17 o18 j18 j19 a20 0))
set_option maxRecDepth 100000 in
set_option maxHeartbeats 400000 in
theorem vb_X6_receive_16_105 (s0 : XW) (n : Nat) (a1 : Nat → Int32) (o4 : Nat → Int32) (a6 : Nat → Int32) (a7 : Nat → Int32) (o9 : Nat → Int32) (a10 : Nat → Int32) (o11 : Nat → Int32) (a12 : Nat → Int32) (o13 : Nat → Int32) (a14 : Nat → Int32) (a15 : Nat → Int32) (o16 : Nat → Int32) (a17 : Nat → Int32) (o18 : Nat → Int32) (j18 : Int64) (j19 : Int64) (a20 : Nat → Int32) (l3 : Int32) (q : ((Nat → Int32) × (Nat → Int32) × (Nat → Int32) × (Nat → Int32) × (Nat → Int32) × (Nat → Int32) × (Nat → Int32) × (Nat → Int32) × (Nat → Int32) × (Nat → Int32) × (Int64) × (Int64) × (Nat → Int32))) (h : b_X6_receive_16_105 n a1 o4 a6 a7 o9 a10 o11 a12 o13 a14 a15 o16 a17 o18 j18 j19 a20 l3 = some q) : V yX6_receive cX6_receive none 4 61 (0, 0) 105 [some (.ref 16), none, none, some (.int l3)] [] (xof s0 [W_1 a1, W_4 o4, W_6 a6, W_7 a7, W_8, W_9 o9, W_10 a10, W_11 o11, W_12 a12, W_13 o13, W_14 a14, W_15 a15, W_16 o16, W_17 a17, W_18 o18 j18, W_19 j19, W_20 a20]) (xq 61 none (xof s0 [W_1 a1, W_4 o4, W_6 a6, W_7 a7, W_8, W_9 q.1, W_10 q.2.1, W_11 q.2.2.1, W_12 q.2.2.2.1, W_13 q.2.2.2.2.1, W_14 q.2.2.2.2.2.1, W_15 q.2.2.2.2.2.2.1, W_16 q.2.2.2.2.2.2.2.1, W_17 q.2.2.2.2.2.2.2.2.1, W_18 q.2.2.2.2.2.2.2.2.2.1 q.2.2.2.2.2.2.2.2.2.2.1, W_19 q.2.2.2.2.2.2.2.2.2.2.2.1, W_20 q.2.2.2.2.2.2.2.2.2.2.2.2])) := by
  unfold b_X6_receive_16_105 at h
  refine x_aload_n dX6_receive_105 rfl ?_
  refine x_iload_n dX6_receive_106 rfl ?_
  refine x_iconst (v := 2) dX6_receive_107 (by decide) ?_
  refine x_icmp_ne (tgt := 115) dX6_receive_108 (by decide) (fun c10 => ?_) (fun c10 => ?_)
  · replace h := xif_n c10 h
    refine x_iconst (v := 0) dX6_receive_115 (by decide) ?_
    refine V.drop1 (i := 0) (ls' := [_, _, _, _]) rfl ?_
    refine V.drop1 (i := 3) (ls' := [_, _, _, _]) rfl ?_
    show V yX6_receive cX6_receive none 4 61 (0, 0) 116 [none, none, none, none] [.int 0, .ref 16] (xof s0 [W_1 a1, W_4 o4, W_6 a6, W_7 a7, W_8, W_9 o9, W_10 a10, W_11 o11, W_12 a12, W_13 o13, W_14 a14, W_15 a15, W_16 o16, W_17 a17, W_18 o18 j18, W_19 j19, W_20 a20]) _
    exact vb_X6_receive_16_116 s0 n a1 o4 a6 a7 o9 a10 o11 a12 o13 a14 a15 o16 a17 o18 j18 j19 a20 0 q h
  · replace h := xif_p c10 h
    refine x_iconst (v := 1) dX6_receive_111 (by decide) ?_
    refine x_goto (tgt := 116) dX6_receive_112 (by decide) ?_
    refine V.drop1 (i := 0) (ls' := [_, _, _, _]) rfl ?_
    refine V.drop1 (i := 3) (ls' := [_, _, _, _]) rfl ?_
    show V yX6_receive cX6_receive none 4 61 (0, 0) 116 [none, none, none, none] [.int 1, .ref 16] (xof s0 [W_1 a1, W_4 o4, W_6 a6, W_7 a7, W_8, W_9 o9, W_10 a10, W_11 o11, W_12 a12, W_13 o13, W_14 a14, W_15 a15, W_16 o16, W_17 a17, W_18 o18 j18, W_19 j19, W_20 a20]) _
    exact vb_X6_receive_16_116 s0 n a1 o4 a6 a7 o9 a10 o11 a12 o13 a14 a15 o16 a17 o18 j18 j19 a20 1 q h
def b_X6_receive_16_52 (n : Nat) (a1 : Nat → Int32) (o4 : Nat → Int32) (a6 : Nat → Int32) (a7 : Nat → Int32) (o9 : Nat → Int32) (a10 : Nat → Int32) (o11 : Nat → Int32) (a12 : Nat → Int32) (o13 : Nat → Int32) (a14 : Nat → Int32) (a15 : Nat → Int32) (o16 : Nat → Int32) (a17 : Nat → Int32) (o18 : Nat → Int32) (j18 : Int64) (j19 : Int64) (a20 : Nat → Int32) (l1 : Int32) (l2 : Int32) (l3 : Int32) (t1 : Int32) : Option (((Nat → Int32) × (Nat → Int32) × (Nat → Int32) × (Nat → Int32) × (Nat → Int32) × (Nat → Int32) × (Nat → Int32) × (Nat → Int32) × (Nat → Int32) × (Nat → Int32) × (Int64) × (Int64) × (Nat → Int32))) := (bif xin t1 14 then (bif xin t1 14 then (Option.bind (f_X6_loadBits_16 a1 o16) (fun q6 => (if q6 ≤ (o16 15) then (Option.bind (f_X6_loadBits_16 a1 (upd o16 15 (((o16 15) + 1)))) (fun q8 => (if (((o16 15) + 1) - q8) = 40 then (Option.bind (f_X6_judge_16 n a1 o11 a12 o13 a14 (upd o16 15 (((o16 15) + 1))) (upd a17 ((Int32.toNatClampNeg t1)) (((a17 (Int32.toNatClampNeg t1)) + 1))) o18 j18 l2) (fun q12 => (b_X6_receive_16_105 n a1 o4 a6 a7 o9 a10 q12.1 q12.2.1 q12.2.2.1 q12.2.2.2.1 a15 q12.2.2.2.2.1 q12.2.2.2.2.2 o18 j18 j19 a20 l3))) else (b_X6_receive_16_105 n a1 o4 a6 a7 o9 a10 o11 a12 o13 a14 a15 (upd o16 15 (((o16 15) + 1))) (upd a17 ((Int32.toNatClampNeg t1)) (((a17 (Int32.toNatClampNeg t1)) + 1))) o18 j18 j19 a20 l3)))) else (Option.bind (f_X6_carry_16 n a1 o4 a6 a7 o9 a10 a15 o16 (upd a17 ((Int32.toNatClampNeg t1)) (((a17 (Int32.toNatClampNeg t1)) + 1))) j19 a20 l1) (fun q13 => (b_X6_receive_16_105 n a1 o4 a6 a7 q13.1 q13.2.1 o11 a12 o13 a14 q13.2.2.1 q13.2.2.2.1 q13.2.2.2.2.1 o18 j18 q13.2.2.2.2.2.1 q13.2.2.2.2.2.2 l3)))))) else none) else none)
set_option maxRecDepth 100000 in
set_option maxHeartbeats 400000 in
theorem vb_X6_receive_16_52 (s0 : XW) (n : Nat) (a1 : Nat → Int32) (o4 : Nat → Int32) (a6 : Nat → Int32) (a7 : Nat → Int32) (o9 : Nat → Int32) (a10 : Nat → Int32) (o11 : Nat → Int32) (a12 : Nat → Int32) (o13 : Nat → Int32) (a14 : Nat → Int32) (a15 : Nat → Int32) (o16 : Nat → Int32) (a17 : Nat → Int32) (o18 : Nat → Int32) (j18 : Int64) (j19 : Int64) (a20 : Nat → Int32) (l1 : Int32) (l2 : Int32) (l3 : Int32) (t1 : Int32) (q : ((Nat → Int32) × (Nat → Int32) × (Nat → Int32) × (Nat → Int32) × (Nat → Int32) × (Nat → Int32) × (Nat → Int32) × (Nat → Int32) × (Nat → Int32) × (Nat → Int32) × (Int64) × (Int64) × (Nat → Int32))) (h : b_X6_receive_16_52 n a1 o4 a6 a7 o9 a10 o11 a12 o13 a14 a15 o16 a17 o18 j18 j19 a20 l1 l2 l3 t1 = some q) : V yX6_receive cX6_receive none 4 61 (0, 0) 52 [some (.ref 16), some (.int l1), some (.int l2), some (.int l3)] [.int t1, .ref 17] (xof s0 [W_1 a1, W_4 o4, W_6 a6, W_7 a7, W_8, W_9 o9, W_10 a10, W_11 o11, W_12 a12, W_13 o13, W_14 a14, W_15 a15, W_16 o16, W_17 a17, W_18 o18 j18, W_19 j19, W_20 a20]) (xq 61 none (xof s0 [W_1 a1, W_4 o4, W_6 a6, W_7 a7, W_8, W_9 q.1, W_10 q.2.1, W_11 q.2.2.1, W_12 q.2.2.2.1, W_13 q.2.2.2.2.1, W_14 q.2.2.2.2.2.1, W_15 q.2.2.2.2.2.2.1, W_16 q.2.2.2.2.2.2.2.1, W_17 q.2.2.2.2.2.2.2.2.1, W_18 q.2.2.2.2.2.2.2.2.2.1 q.2.2.2.2.2.2.2.2.2.2.1, W_19 q.2.2.2.2.2.2.2.2.2.2.2.1, W_20 q.2.2.2.2.2.2.2.2.2.2.2.2])) := by
  unfold b_X6_receive_16_52 at h
  refine x_dup2 dX6_receive_52 rfl rfl ?_
  obtain ⟨c4, h⟩ := xck h
  refine x_ialdK (jn := (Int32.toNatClampNeg t1)) (v := (a17 (Int32.toNatClampNeg t1))) dX6_receive_53 (by decide) rfl (xin_ok c4) rfl rfl ?_
  refine x_iconst (v := 1) dX6_receive_54 (by decide) ?_
  refine x_iadd dX6_receive_55 ?_
  obtain ⟨c5, h⟩ := xck h
  refine x_iastK (jn := (Int32.toNatClampNeg t1)) (L' := [(1, _), (4, _), (6, _), (7, _), (8, _), (9, _), (10, _), (11, _), (12, _), (13, _), (14, _), (15, _), (16, _), (17, _), (18, _), (19, _), (20, _)]) dX6_receive_56 (by decide) rfl (xin_ok c5) rfl rfl ?_
  refine x_aload_n dX6_receive_57 rfl ?_
  refine g_X6_80 rfl dX6_receive_58 (by decide) rfl rfl ?_
  refine x_aload_n dX6_receive_61 rfl ?_
  obtain ⟨q6, hq6, h⟩ := Option.bind_eq_some_iff.mp h
  refine y_callVi (L' := [(1, _), (4, _), (6, _), (7, _), (8, _), (9, _), (10, _), (11, _), (12, _), (13, _), (14, _), (15, _), (16, _), (17, _), (18, _), (19, _), (20, _)]) mi_X6_loadBits ml_X6_105 im_X6_loadBits se_X6_loadBits (rfl : vwCl[5]? = _) dX6_receive_62 (fun s1 => v_X6_loadBits_16 s1 _ _ q6 hq6) (by decide) rfl (Nat.le_of_ble_eq_true rfl) rfl (by decide) (Nat.le_of_ble_eq_true rfl) rfl rfl rfl rfl ?_
  refine x_icmp_ge (tgt := 76) dX6_receive_65 (by decide) (fun c7 => ?_) (fun c7 => ?_)
  · replace h := xif_p c7 h
    refine x_aload_n dX6_receive_76 rfl ?_
    refine x_dup dX6_receive_77 rfl ?_
    refine g_X6_80 rfl dX6_receive_78 (by decide) rfl rfl ?_
    refine x_iconst (v := 1) dX6_receive_81 (by decide) ?_
    refine x_iadd dX6_receive_82 ?_
    refine p_X6_80 (fs' := [_, _, _, _, _, _, _, _, _, _, _, _, _, _, _, _, _, _, _]) (L' := [(1, _), (4, _), (6, _), (7, _), (8, _), (9, _), (10, _), (11, _), (12, _), (13, _), (14, _), (15, _), (16, _), (17, _), (18, _), (19, _), (20, _)]) rfl dX6_receive_83 (by decide) rfl (Nat.le_of_ble_eq_true rfl) rfl rfl ?_
    refine x_aload_n dX6_receive_86 rfl ?_
    refine g_X6_80 rfl dX6_receive_87 (by decide) rfl rfl ?_
    refine x_aload_n dX6_receive_90 rfl ?_
    obtain ⟨q8, hq8, h⟩ := Option.bind_eq_some_iff.mp h
    refine y_callVi (L' := [(1, _), (4, _), (6, _), (7, _), (8, _), (9, _), (10, _), (11, _), (12, _), (13, _), (14, _), (15, _), (16, _), (17, _), (18, _), (19, _), (20, _)]) mi_X6_loadBits ml_X6_105 im_X6_loadBits se_X6_loadBits (rfl : vwCl[5]? = _) dX6_receive_91 (fun s1 => v_X6_loadBits_16 s1 _ _ q8 hq8) (by decide) rfl (Nat.le_of_ble_eq_true rfl) rfl (by decide) (Nat.le_of_ble_eq_true rfl) rfl rfl rfl rfl ?_
    refine x_isub dX6_receive_94 ?_
    refine x_bipush (v := 40) dX6_receive_95 (by decide) ?_
    refine x_icmp_ne (tgt := 105) dX6_receive_97 (by decide) (fun c9 => ?_) (fun c9 => ?_)
    · replace h := xif_n c9 h
      refine V.drop1 (i := 1) (ls' := [_, _, _, _]) rfl ?_
      refine V.drop1 (i := 2) (ls' := [_, _, _, _]) rfl ?_
      show V yX6_receive cX6_receive none 4 61 (0, 0) 105 [some (.ref 16), none, none, some (.int l3)] [] (xof s0 [W_1 a1, W_4 o4, W_6 a6, W_7 a7, W_8, W_9 o9, W_10 a10, W_11 o11, W_12 a12, W_13 o13, W_14 a14, W_15 a15, W_16 (upd o16 15 (((o16 15) + 1))), W_17 (upd a17 ((Int32.toNatClampNeg t1)) (((a17 (Int32.toNatClampNeg t1)) + 1))), W_18 o18 j18, W_19 j19, W_20 a20]) _
      exact vb_X6_receive_16_105 s0 n a1 o4 a6 a7 o9 a10 o11 a12 o13 a14 a15 (upd o16 15 (((o16 15) + 1))) (upd a17 ((Int32.toNatClampNeg t1)) (((a17 (Int32.toNatClampNeg t1)) + 1))) o18 j18 j19 a20 l3 q h
    · replace h := xif_p c9 h
      refine x_aload_n dX6_receive_100 rfl ?_
      refine x_iload_n dX6_receive_101 rfl ?_
      obtain ⟨q12, hq12, h⟩ := Option.bind_eq_some_iff.mp h
      refine y_callVv (L' := [(1, _), (4, _), (6, _), (7, _), (8, _), (9, _), (10, _), (11, _), (12, _), (13, _), (14, _), (15, _), (16, _), (17, _), (18, _), (19, _), (20, _)]) mi_X6_judge ml_X6_122 im_X6_judge se_X6_judge (rfl : vwCl[5]? = _) dX6_receive_102 (fun s1 => v_X6_judge_16 s1 n _ _ _ _ _ _ _ _ _ _ q12 hq12) (by decide) rfl (Nat.le_of_ble_eq_true rfl) rfl (by decide) (Nat.le_of_ble_eq_true rfl) rfl rfl rfl rfl ?_
      refine V.drop1 (i := 1) (ls' := [_, _, _, _]) rfl ?_
      refine V.drop1 (i := 2) (ls' := [_, _, _, _]) rfl ?_
      show V yX6_receive cX6_receive none 4 61 (0, 0) 105 [some (.ref 16), none, none, some (.int l3)] [] (xof s0 [W_1 a1, W_4 o4, W_6 a6, W_7 a7, W_8, W_9 o9, W_10 a10, W_11 q12.1, W_12 q12.2.1, W_13 q12.2.2.1, W_14 q12.2.2.2.1, W_15 a15, W_16 q12.2.2.2.2.1, W_17 q12.2.2.2.2.2, W_18 o18 j18, W_19 j19, W_20 a20]) _
      exact vb_X6_receive_16_105 s0 n a1 o4 a6 a7 o9 a10 q12.1 q12.2.1 q12.2.2.1 q12.2.2.2.1 a15 q12.2.2.2.2.1 q12.2.2.2.2.2 o18 j18 j19 a20 l3 q h
  · replace h := xif_n c7 h
    refine x_aload_n dX6_receive_68 rfl ?_
    refine x_iload_n dX6_receive_69 rfl ?_
    obtain ⟨q13, hq13, h⟩ := Option.bind_eq_some_iff.mp h
    refine y_callVv (L' := [(1, _), (4, _), (6, _), (7, _), (8, _), (9, _), (10, _), (11, _), (12, _), (13, _), (14, _), (15, _), (16, _), (17, _), (18, _), (19, _), (20, _)]) mi_X6_carry ml_X6_119 im_X6_carry se_X6_carry (rfl : vwCl[5]? = _) dX6_receive_70 (fun s1 => v_X6_carry_16 s1 n _ _ _ _ _ _ _ _ _ _ _ _ q13 hq13) (by decide) rfl (Nat.le_of_ble_eq_true rfl) rfl (by decide) (Nat.le_of_ble_eq_true rfl) rfl rfl rfl rfl ?_
    refine x_goto (tgt := 105) dX6_receive_73 (by decide) ?_
    refine V.drop1 (i := 1) (ls' := [_, _, _, _]) rfl ?_
    refine V.drop1 (i := 2) (ls' := [_, _, _, _]) rfl ?_
    show V yX6_receive cX6_receive none 4 61 (0, 0) 105 [some (.ref 16), none, none, some (.int l3)] [] (xof s0 [W_1 a1, W_4 o4, W_6 a6, W_7 a7, W_8, W_9 q13.1, W_10 q13.2.1, W_11 o11, W_12 a12, W_13 o13, W_14 a14, W_15 q13.2.2.1, W_16 q13.2.2.2.1, W_17 q13.2.2.2.2.1, W_18 o18 j18, W_19 q13.2.2.2.2.2.1, W_20 q13.2.2.2.2.2.2]) _
    exact vb_X6_receive_16_105 s0 n a1 o4 a6 a7 q13.1 q13.2.1 o11 a12 o13 a14 q13.2.2.1 q13.2.2.2.1 q13.2.2.2.2.1 o18 j18 q13.2.2.2.2.2.1 q13.2.2.2.2.2.2 l3 q h
def f_X6_receive_16 (n : Nat) (a1 : Nat → Int32) (o4 : Nat → Int32) (a6 : Nat → Int32) (a7 : Nat → Int32) (o9 : Nat → Int32) (a10 : Nat → Int32) (o11 : Nat → Int32) (a12 : Nat → Int32) (o13 : Nat → Int32) (a14 : Nat → Int32) (a15 : Nat → Int32) (o16 : Nat → Int32) (a17 : Nat → Int32) (o18 : Nat → Int32) (j18 : Int64) (j19 : Int64) (a20 : Nat → Int32) (p1 : Int32) (p2 : Int32) : Option (((Nat → Int32) × (Nat → Int32) × (Nat → Int32) × (Nat → Int32) × (Nat → Int32) × (Nat → Int32) × (Nat → Int32) × (Nat → Int32) × (Nat → Int32) × (Nat → Int32) × (Int64) × (Int64) × (Nat → Int32))) := (Option.bind (f_X10_push_18 o18 j18 p1) (fun q1 => (if (o16 7) = 0 then (Option.bind (f_X6_hunt_16 a1 o11 a12 o16 (upd a17 6 (((a17 6) + 1))) q1.1 q1.2 p2) (fun q14 => (b_X6_receive_16_105 n a1 o4 a6 a7 o9 a10 q14.1 q14.2.1 o13 a14 a15 q14.2.2.1 q14.2.2.2 q1.1 q1.2 j19 a20 ((o16 7))))) else (if (o16 7) = 1 then (b_X6_receive_16_52 n a1 o4 a6 a7 o9 a10 o11 a12 o13 a14 a15 o16 a17 q1.1 q1.2 j19 a20 p1 p2 ((o16 7)) 12) else (b_X6_receive_16_52 n a1 o4 a6 a7 o9 a10 o11 a12 o13 a14 a15 o16 a17 q1.1 q1.2 j19 a20 p1 p2 ((o16 7)) 13)))))
set_option maxRecDepth 100000 in
set_option maxHeartbeats 400000 in
theorem v_X6_receive_16 (s0 : XW) (n : Nat) (a1 : Nat → Int32) (o4 : Nat → Int32) (a6 : Nat → Int32) (a7 : Nat → Int32) (o9 : Nat → Int32) (a10 : Nat → Int32) (o11 : Nat → Int32) (a12 : Nat → Int32) (o13 : Nat → Int32) (a14 : Nat → Int32) (a15 : Nat → Int32) (o16 : Nat → Int32) (a17 : Nat → Int32) (o18 : Nat → Int32) (j18 : Int64) (j19 : Int64) (a20 : Nat → Int32) (p1 : Int32) (p2 : Int32) (q : ((Nat → Int32) × (Nat → Int32) × (Nat → Int32) × (Nat → Int32) × (Nat → Int32) × (Nat → Int32) × (Nat → Int32) × (Nat → Int32) × (Nat → Int32) × (Nat → Int32) × (Int64) × (Int64) × (Nat → Int32))) (h : f_X6_receive_16 n a1 o4 a6 a7 o9 a10 o11 a12 o13 a14 a15 o16 a17 o18 j18 j19 a20 p1 p2 = some q) : C_X6_receive 4 61 [.ref 16, .int p1, .int p2] (xof s0 [W_1 a1, W_4 o4, W_6 a6, W_7 a7, W_8, W_9 o9, W_10 a10, W_11 o11, W_12 a12, W_13 o13, W_14 a14, W_15 a15, W_16 o16, W_17 a17, W_18 o18 j18, W_19 j19, W_20 a20]) none (xof s0 [W_1 a1, W_4 o4, W_6 a6, W_7 a7, W_8, W_9 q.1, W_10 q.2.1, W_11 q.2.2.1, W_12 q.2.2.2.1, W_13 q.2.2.2.2.1, W_14 q.2.2.2.2.2.1, W_15 q.2.2.2.2.2.2.1, W_16 q.2.2.2.2.2.2.2.1, W_17 q.2.2.2.2.2.2.2.2.1, W_18 q.2.2.2.2.2.2.2.2.2.1 q.2.2.2.2.2.2.2.2.2.2.1, W_19 q.2.2.2.2.2.2.2.2.2.2.2.1, W_20 q.2.2.2.2.2.2.2.2.2.2.2.2]) := by
  unfold f_X6_receive_16 at h
  show V yX6_receive cX6_receive none 4 61 (0, 0) 0 [some (.ref 16), some (.int p1), some (.int p2), none] [] (xof s0 [W_1 a1, W_4 o4, W_6 a6, W_7 a7, W_8, W_9 o9, W_10 a10, W_11 o11, W_12 a12, W_13 o13, W_14 a14, W_15 a15, W_16 o16, W_17 a17, W_18 o18 j18, W_19 j19, W_20 a20]) _
  refine x_aload_n dX6_receive_0 rfl ?_
  refine g_X6_54 rfl dX6_receive_1 (by decide) rfl rfl ?_
  refine x_istore_n (ls' := [_, _, _, _]) dX6_receive_4 rfl rfl ?_
  refine x_aload_n dX6_receive_5 rfl ?_
  refine g_X6_18 rfl dX6_receive_6 (by decide) rfl rfl ?_
  refine x_iload_n dX6_receive_9 rfl ?_
  obtain ⟨q1, hq1, h⟩ := Option.bind_eq_some_iff.mp h
  refine y_callVv (L' := [(1, _), (4, _), (6, _), (7, _), (8, _), (9, _), (10, _), (11, _), (12, _), (13, _), (14, _), (15, _), (16, _), (17, _), (18, _), (19, _), (20, _)]) mi_X10_push ml_X6_112 im_X10_push se_X10_push (rfl : vwCl[9]? = _) dX6_receive_10 (fun s1 => v_X10_push_18 s1 _ _ _ q1 hq1) (by decide) rfl (Nat.le_of_ble_eq_true rfl) rfl (by decide) (Nat.le_of_ble_eq_true rfl) rfl rfl rfl rfl ?_
  refine x_iload_n dX6_receive_13 rfl ?_
  refine x_if_ne (tgt := 36) dX6_receive_14 (by decide) (fun c2 => ?_) (fun c2 => ?_)
  · replace h := xif_n c2 h
    refine x_aload_n dX6_receive_36 rfl ?_
    refine g_X6_9 rfl dX6_receive_37 (by decide) rfl rfl ?_
    refine x_iload_n dX6_receive_40 rfl ?_
    refine x_iconst (v := 1) dX6_receive_41 (by decide) ?_
    refine x_icmp_ne (tgt := 50) dX6_receive_42 (by decide) (fun c3 => ?_) (fun c3 => ?_)
    · replace h := xif_n c3 h
      refine x_bipush (v := 13) dX6_receive_50 (by decide) ?_
      show V yX6_receive cX6_receive none 4 61 (0, 0) 52 [some (.ref 16), some (.int p1), some (.int p2), some (.int ((o16 7)))] [.int 13, .ref 17] (xof s0 [W_1 a1, W_4 o4, W_6 a6, W_7 a7, W_8, W_9 o9, W_10 a10, W_11 o11, W_12 a12, W_13 o13, W_14 a14, W_15 a15, W_16 o16, W_17 a17, W_18 q1.1 q1.2, W_19 j19, W_20 a20]) _
      exact vb_X6_receive_16_52 s0 n a1 o4 a6 a7 o9 a10 o11 a12 o13 a14 a15 o16 a17 q1.1 q1.2 j19 a20 p1 p2 ((o16 7)) 13 q h
    · replace h := xif_p c3 h
      refine x_bipush (v := 12) dX6_receive_45 (by decide) ?_
      refine x_goto (tgt := 52) dX6_receive_47 (by decide) ?_
      show V yX6_receive cX6_receive none 4 61 (0, 0) 52 [some (.ref 16), some (.int p1), some (.int p2), some (.int ((o16 7)))] [.int 12, .ref 17] (xof s0 [W_1 a1, W_4 o4, W_6 a6, W_7 a7, W_8, W_9 o9, W_10 a10, W_11 o11, W_12 a12, W_13 o13, W_14 a14, W_15 a15, W_16 o16, W_17 a17, W_18 q1.1 q1.2, W_19 j19, W_20 a20]) _
      exact vb_X6_receive_16_52 s0 n a1 o4 a6 a7 o9 a10 o11 a12 o13 a14 a15 o16 a17 q1.1 q1.2 j19 a20 p1 p2 ((o16 7)) 12 q h
  · replace h := xif_p c2 h
    refine x_aload_n dX6_receive_17 rfl ?_
    refine g_X6_9 rfl dX6_receive_18 (by decide) rfl rfl ?_
    refine x_bipush (v := 6) dX6_receive_21 (by decide) ?_
    refine x_dup2 dX6_receive_23 rfl rfl ?_
    refine x_ialdK (jn := 6) (v := (a17 6)) dX6_receive_24 (by decide) rfl (xin_ok (by decide)) (by decide) rfl ?_
    refine x_iconst (v := 1) dX6_receive_25 (by decide) ?_
    refine x_iadd dX6_receive_26 ?_
    refine x_iastK (jn := 6) (L' := [(1, _), (4, _), (6, _), (7, _), (8, _), (9, _), (10, _), (11, _), (12, _), (13, _), (14, _), (15, _), (16, _), (17, _), (18, _), (19, _), (20, _)]) dX6_receive_27 (by decide) rfl (xin_ok (by decide)) (by decide) rfl ?_
    refine x_aload_n dX6_receive_28 rfl ?_
    refine x_iload_n dX6_receive_29 rfl ?_
    obtain ⟨q14, hq14, h⟩ := Option.bind_eq_some_iff.mp h
    refine y_callVv (L' := [(1, _), (4, _), (6, _), (7, _), (8, _), (9, _), (10, _), (11, _), (12, _), (13, _), (14, _), (15, _), (16, _), (17, _), (18, _), (19, _), (20, _)]) mi_X6_hunt ml_X6_116 im_X6_hunt se_X6_hunt (rfl : vwCl[5]? = _) dX6_receive_30 (fun s1 => v_X6_hunt_16 s1 _ _ _ _ _ _ _ _ q14 hq14) (by decide) rfl (Nat.le_of_ble_eq_true rfl) rfl (by decide) (Nat.le_of_ble_eq_true rfl) rfl rfl rfl rfl ?_
    refine x_goto (tgt := 105) dX6_receive_33 (by decide) ?_
    refine V.drop1 (i := 1) (ls' := [_, _, _, _]) rfl ?_
    refine V.drop1 (i := 2) (ls' := [_, _, _, _]) rfl ?_
    show V yX6_receive cX6_receive none 4 61 (0, 0) 105 [some (.ref 16), none, none, some (.int ((o16 7)))] [] (xof s0 [W_1 a1, W_4 o4, W_6 a6, W_7 a7, W_8, W_9 o9, W_10 a10, W_11 q14.1, W_12 q14.2.1, W_13 o13, W_14 a14, W_15 a15, W_16 q14.2.2.1, W_17 q14.2.2.2, W_18 q1.1 q1.2, W_19 j19, W_20 a20]) _
    exact vb_X6_receive_16_105 s0 n a1 o4 a6 a7 o9 a10 q14.1 q14.2.1 o13 a14 a15 q14.2.2.1 q14.2.2.2 q1.1 q1.2 j19 a20 ((o16 7)) q h
def l_X11_advance_0_16_9 (n : Nat) (a1 : Nat → Int32) (o2 : Nat → Int32) (a3 : Nat → Int32) (o4 : Nat → Int32) (a6 : Nat → Int32) (a7 : Nat → Int32) (l2 : Int32) (l3 : Int32) : Nat → (Int32) → (Nat → Int32) → (Nat → Int32) → (Nat → Int32) → (Nat → Int32) → (Nat → Int32) → (Nat → Int32) → (Nat → Int32) → (Nat → Int32) → (Nat → Int32) → (Nat → Int32) → (Int64) → (Int64) → (Nat → Int32) → Option (((Int32) × (Nat → Int32) × (Nat → Int32) × (Nat → Int32) × (Nat → Int32) × (Nat → Int32) × (Nat → Int32) × (Nat → Int32) × (Nat → Int32) × (Nat → Int32) × (Nat → Int32) × (Int64) × (Int64) × (Nat → Int32)))
  | 0, _, _, _, _, _, _, _, _, _, _, _, _, _, _ => none
  | k + 1, l4, o9, a10, o11, a12, o13, a14, a15, o16, a17, o18, j18, j19, a20 => (if l2 ≤ l4 then (some (l4, o9, a10, o11, a12, o13, a14, a15, o16, a17, o18, j18, j19, a20)) else (Option.bind (f_X4_bitAt_2 o2 a3 l4) (fun q2 => (if l4 = l3 then (Option.bind (f_X6_receive_16 n a1 o4 a6 a7 o9 a10 o11 a12 o13 a14 a15 o16 a17 o18 j18 j19 a20 ((1 - q2)) ((l4 + 1))) (fun q5 => (l_X11_advance_0_16_9 n a1 o2 a3 o4 a6 a7 l2 l3 k ((l4 + 1)) q5.1 q5.2.1 q5.2.2.1 q5.2.2.2.1 q5.2.2.2.2.1 q5.2.2.2.2.2.1 q5.2.2.2.2.2.2.1 q5.2.2.2.2.2.2.2.1 q5.2.2.2.2.2.2.2.2.1 q5.2.2.2.2.2.2.2.2.2.1 q5.2.2.2.2.2.2.2.2.2.2.1 q5.2.2.2.2.2.2.2.2.2.2.2.1 q5.2.2.2.2.2.2.2.2.2.2.2.2))) else (Option.bind (f_X6_receive_16 n a1 o4 a6 a7 o9 a10 o11 a12 o13 a14 a15 o16 a17 o18 j18 j19 a20 q2 ((l4 + 1))) (fun q4 => (l_X11_advance_0_16_9 n a1 o2 a3 o4 a6 a7 l2 l3 k ((l4 + 1)) q4.1 q4.2.1 q4.2.2.1 q4.2.2.2.1 q4.2.2.2.2.1 q4.2.2.2.2.2.1 q4.2.2.2.2.2.2.1 q4.2.2.2.2.2.2.2.1 q4.2.2.2.2.2.2.2.2.1 q4.2.2.2.2.2.2.2.2.2.1 q4.2.2.2.2.2.2.2.2.2.2.1 q4.2.2.2.2.2.2.2.2.2.2.2.1 q4.2.2.2.2.2.2.2.2.2.2.2.2)))))))
set_option maxRecDepth 100000 in
set_option maxHeartbeats 400000 in
theorem lv_X11_advance_0_16_9 (s0 : XW) (n : Nat) (a1 : Nat → Int32) (o2 : Nat → Int32) (a3 : Nat → Int32) (o4 : Nat → Int32) (a6 : Nat → Int32) (a7 : Nat → Int32) (l2 : Int32) (l3 : Int32) (Q : Nat → Option Value → XW → Prop) : ∀ (k : Nat) (l4 : Int32) (o9 : Nat → Int32) (a10 : Nat → Int32) (o11 : Nat → Int32) (a12 : Nat → Int32) (o13 : Nat → Int32) (a14 : Nat → Int32) (a15 : Nat → Int32) (o16 : Nat → Int32) (a17 : Nat → Int32) (o18 : Nat → Int32) (j18 : Int64) (j19 : Int64) (a20 : Nat → Int32) (o : ((Int32) × (Nat → Int32) × (Nat → Int32) × (Nat → Int32) × (Nat → Int32) × (Nat → Int32) × (Nat → Int32) × (Nat → Int32) × (Nat → Int32) × (Nat → Int32) × (Nat → Int32) × (Int64) × (Int64) × (Nat → Int32))), l_X11_advance_0_16_9 n a1 o2 a3 o4 a6 a7 l2 l3 k l4 o9 a10 o11 a12 o13 a14 a15 o16 a17 o18 j18 j19 a20 = some o → (V yX11_advance cX11_advance none 5 61 (0, 0) 55 [none, none, none, none, none, none] [] (xof s0 [W_0, W_1 a1, W_2 o2, W_3 a3, W_4 o4, W_6 a6, W_7 a7, W_8, W_9 o.2.1, W_10 o.2.2.1, W_11 o.2.2.2.1, W_12 o.2.2.2.2.1, W_13 o.2.2.2.2.2.1, W_14 o.2.2.2.2.2.2.1, W_15 o.2.2.2.2.2.2.2.1, W_16 o.2.2.2.2.2.2.2.2.1, W_17 o.2.2.2.2.2.2.2.2.2.1, W_18 o.2.2.2.2.2.2.2.2.2.2.1 o.2.2.2.2.2.2.2.2.2.2.2.1, W_19 o.2.2.2.2.2.2.2.2.2.2.2.2.1, W_20 o.2.2.2.2.2.2.2.2.2.2.2.2.2]) Q) → V yX11_advance cX11_advance none 5 61 (0, 0) 9 [some (.ref 0), some (.ref 16), some (.int l2), some (.int l3), some (.int l4), none] [] (xof s0 [W_0, W_1 a1, W_2 o2, W_3 a3, W_4 o4, W_6 a6, W_7 a7, W_8, W_9 o9, W_10 a10, W_11 o11, W_12 a12, W_13 o13, W_14 a14, W_15 a15, W_16 o16, W_17 a17, W_18 o18 j18, W_19 j19, W_20 a20]) Q := by
  intro k
  induction k with
  | zero =>
    intro _ _ _ _ _ _ _ _ _ _ _ _ _ _ _ h
    simp [l_X11_advance_0_16_9] at h
  | succ k ih =>
    intro l4 o9 a10 o11 a12 o13 a14 a15 o16 a17 o18 j18 j19 a20 o h hk
    rw [l_X11_advance_0_16_9] at h
    refine x_iload dX11_advance_9 rfl ?_
    refine x_iload_n dX11_advance_11 rfl ?_
    refine x_icmp_ge (tgt := 55) dX11_advance_12 (by decide) (fun c1 => ?_) (fun c1 => ?_)
    · replace h := xif_p c1 h
      refine V.drop1 (i := 0) (ls' := [_, _, _, _, _, _]) rfl ?_
      refine V.drop1 (i := 1) (ls' := [_, _, _, _, _, _]) rfl ?_
      refine V.drop1 (i := 2) (ls' := [_, _, _, _, _, _]) rfl ?_
      refine V.drop1 (i := 3) (ls' := [_, _, _, _, _, _]) rfl ?_
      refine V.drop1 (i := 4) (ls' := [_, _, _, _, _, _]) rfl ?_
      show V yX11_advance cX11_advance none 5 61 (0, 0) 55 [none, none, none, none, none, none] [] (xof s0 [W_0, W_1 a1, W_2 o2, W_3 a3, W_4 o4, W_6 a6, W_7 a7, W_8, W_9 o9, W_10 a10, W_11 o11, W_12 a12, W_13 o13, W_14 a14, W_15 a15, W_16 o16, W_17 a17, W_18 o18 j18, W_19 j19, W_20 a20]) _
      cases h
      exact hk
    · replace h := xif_n c1 h
      refine x_aload_n dX11_advance_15 rfl ?_
      refine g_X11_24 rfl dX11_advance_16 (by decide) rfl rfl ?_
      refine x_iload dX11_advance_19 rfl ?_
      obtain ⟨q2, hq2, h⟩ := Option.bind_eq_some_iff.mp h
      refine y_callVi (L' := [(0, _), (1, _), (2, _), (3, _), (4, _), (6, _), (7, _), (8, _), (9, _), (10, _), (11, _), (12, _), (13, _), (14, _), (15, _), (16, _), (17, _), (18, _), (19, _), (20, _)]) mi_X4_bitAt ml_X11_131 im_X4_bitAt se_X4_bitAt (rfl : vwCl[3]? = _) dX11_advance_21 (fun s1 => v_X4_bitAt_2 s1 _ _ _ q2 hq2) (by decide) rfl (Nat.le_of_ble_eq_true rfl) rfl (by decide) (Nat.le_of_ble_eq_true rfl) rfl rfl rfl rfl ?_
      refine x_istore (ls' := [_, _, _, _, _, _]) dX11_advance_24 rfl rfl ?_
      refine x_aload_n dX11_advance_26 rfl ?_
      refine x_iload dX11_advance_27 rfl ?_
      refine x_iload_n dX11_advance_29 rfl ?_
      refine x_icmp_ne (tgt := 40) dX11_advance_30 (by decide) (fun c3 => ?_) (fun c3 => ?_)
      · replace h := xif_n c3 h
        refine x_iload dX11_advance_40 rfl ?_
        refine x_iload dX11_advance_42 rfl ?_
        refine x_iconst (v := 1) dX11_advance_44 (by decide) ?_
        refine x_iadd dX11_advance_45 ?_
        obtain ⟨q4, hq4, h⟩ := Option.bind_eq_some_iff.mp h
        refine y_callVv (L' := [(0, _), (1, _), (2, _), (3, _), (4, _), (6, _), (7, _), (8, _), (9, _), (10, _), (11, _), (12, _), (13, _), (14, _), (15, _), (16, _), (17, _), (18, _), (19, _), (20, _)]) mi_X6_receive ml_X11_271 im_X6_receive se_X6_receive (rfl : vwCl[5]? = _) dX11_advance_46 (fun s1 => v_X6_receive_16 s1 n _ _ _ _ _ _ _ _ _ _ _ _ _ _ _ _ _ _ _ q4 hq4) (by decide) rfl (Nat.le_of_ble_eq_true rfl) rfl (by decide) (Nat.le_of_ble_eq_true rfl) rfl rfl rfl rfl ?_
        refine x_iinc (v := l4 + 1) (ls' := [_, _, _, _, _, _]) dX11_advance_49 rfl rfl rfl rfl ?_
        refine x_goto (tgt := 9) dX11_advance_52 (by decide) ?_
        refine V.drop1 (i := 5) (ls' := [_, _, _, _, _, _]) rfl ?_
        show V yX11_advance cX11_advance none 5 61 (0, 0) 9 [some (.ref 0), some (.ref 16), some (.int l2), some (.int l3), some (.int ((l4 + 1))), none] [] (xof s0 [W_0, W_1 a1, W_2 o2, W_3 a3, W_4 o4, W_6 a6, W_7 a7, W_8, W_9 q4.1, W_10 q4.2.1, W_11 q4.2.2.1, W_12 q4.2.2.2.1, W_13 q4.2.2.2.2.1, W_14 q4.2.2.2.2.2.1, W_15 q4.2.2.2.2.2.2.1, W_16 q4.2.2.2.2.2.2.2.1, W_17 q4.2.2.2.2.2.2.2.2.1, W_18 q4.2.2.2.2.2.2.2.2.2.1 q4.2.2.2.2.2.2.2.2.2.2.1, W_19 q4.2.2.2.2.2.2.2.2.2.2.2.1, W_20 q4.2.2.2.2.2.2.2.2.2.2.2.2]) _
        exact ih ((l4 + 1)) q4.1 q4.2.1 q4.2.2.1 q4.2.2.2.1 q4.2.2.2.2.1 q4.2.2.2.2.2.1 q4.2.2.2.2.2.2.1 q4.2.2.2.2.2.2.2.1 q4.2.2.2.2.2.2.2.2.1 q4.2.2.2.2.2.2.2.2.2.1 q4.2.2.2.2.2.2.2.2.2.2.1 q4.2.2.2.2.2.2.2.2.2.2.2.1 q4.2.2.2.2.2.2.2.2.2.2.2.2 _ h hk
      · replace h := xif_p c3 h
        refine x_iconst (v := 1) dX11_advance_33 (by decide) ?_
        refine x_iload dX11_advance_34 rfl ?_
        refine x_isub dX11_advance_36 ?_
        refine x_goto (tgt := 42) dX11_advance_37 (by decide) ?_
        refine x_iload dX11_advance_42 rfl ?_
        refine x_iconst (v := 1) dX11_advance_44 (by decide) ?_
        refine x_iadd dX11_advance_45 ?_
        obtain ⟨q5, hq5, h⟩ := Option.bind_eq_some_iff.mp h
        refine y_callVv (L' := [(0, _), (1, _), (2, _), (3, _), (4, _), (6, _), (7, _), (8, _), (9, _), (10, _), (11, _), (12, _), (13, _), (14, _), (15, _), (16, _), (17, _), (18, _), (19, _), (20, _)]) mi_X6_receive ml_X11_271 im_X6_receive se_X6_receive (rfl : vwCl[5]? = _) dX11_advance_46 (fun s1 => v_X6_receive_16 s1 n _ _ _ _ _ _ _ _ _ _ _ _ _ _ _ _ _ _ _ q5 hq5) (by decide) rfl (Nat.le_of_ble_eq_true rfl) rfl (by decide) (Nat.le_of_ble_eq_true rfl) rfl rfl rfl rfl ?_
        refine x_iinc (v := l4 + 1) (ls' := [_, _, _, _, _, _]) dX11_advance_49 rfl rfl rfl rfl ?_
        refine x_goto (tgt := 9) dX11_advance_52 (by decide) ?_
        refine V.drop1 (i := 5) (ls' := [_, _, _, _, _, _]) rfl ?_
        show V yX11_advance cX11_advance none 5 61 (0, 0) 9 [some (.ref 0), some (.ref 16), some (.int l2), some (.int l3), some (.int ((l4 + 1))), none] [] (xof s0 [W_0, W_1 a1, W_2 o2, W_3 a3, W_4 o4, W_6 a6, W_7 a7, W_8, W_9 q5.1, W_10 q5.2.1, W_11 q5.2.2.1, W_12 q5.2.2.2.1, W_13 q5.2.2.2.2.1, W_14 q5.2.2.2.2.2.1, W_15 q5.2.2.2.2.2.2.1, W_16 q5.2.2.2.2.2.2.2.1, W_17 q5.2.2.2.2.2.2.2.2.1, W_18 q5.2.2.2.2.2.2.2.2.2.1 q5.2.2.2.2.2.2.2.2.2.2.1, W_19 q5.2.2.2.2.2.2.2.2.2.2.2.1, W_20 q5.2.2.2.2.2.2.2.2.2.2.2.2]) _
        exact ih ((l4 + 1)) q5.1 q5.2.1 q5.2.2.1 q5.2.2.2.1 q5.2.2.2.2.1 q5.2.2.2.2.2.1 q5.2.2.2.2.2.2.1 q5.2.2.2.2.2.2.2.1 q5.2.2.2.2.2.2.2.2.1 q5.2.2.2.2.2.2.2.2.2.1 q5.2.2.2.2.2.2.2.2.2.2.1 q5.2.2.2.2.2.2.2.2.2.2.2.1 q5.2.2.2.2.2.2.2.2.2.2.2.2 _ h hk
def f_X11_advance_0_16 (n : Nat) (a1 : Nat → Int32) (o2 : Nat → Int32) (a3 : Nat → Int32) (o4 : Nat → Int32) (a6 : Nat → Int32) (a7 : Nat → Int32) (o9 : Nat → Int32) (a10 : Nat → Int32) (o11 : Nat → Int32) (a12 : Nat → Int32) (o13 : Nat → Int32) (a14 : Nat → Int32) (a15 : Nat → Int32) (o16 : Nat → Int32) (a17 : Nat → Int32) (o18 : Nat → Int32) (j18 : Int64) (j19 : Int64) (a20 : Nat → Int32) (p2 : Int32) (p3 : Int32) : Option (((Nat → Int32) × (Nat → Int32) × (Nat → Int32) × (Nat → Int32) × (Nat → Int32) × (Nat → Int32) × (Nat → Int32) × (Nat → Int32) × (Nat → Int32) × (Nat → Int32) × (Int64) × (Int64) × (Nat → Int32))) := (Option.bind (l_X11_advance_0_16_9 n a1 o2 a3 o4 a6 a7 p2 p3 n ((o2 2)) o9 a10 o11 a12 o13 a14 a15 o16 a17 o18 j18 j19 a20) (fun u6 => (some (u6.2.1, u6.2.2.1, u6.2.2.2.1, u6.2.2.2.2.1, u6.2.2.2.2.2.1, u6.2.2.2.2.2.2.1, u6.2.2.2.2.2.2.2.1, u6.2.2.2.2.2.2.2.2.1, u6.2.2.2.2.2.2.2.2.2.1, u6.2.2.2.2.2.2.2.2.2.2.1, u6.2.2.2.2.2.2.2.2.2.2.2.1, u6.2.2.2.2.2.2.2.2.2.2.2.2.1, u6.2.2.2.2.2.2.2.2.2.2.2.2.2))))
set_option maxRecDepth 100000 in
set_option maxHeartbeats 400000 in
theorem v_X11_advance_0_16 (s0 : XW) (n : Nat) (a1 : Nat → Int32) (o2 : Nat → Int32) (a3 : Nat → Int32) (o4 : Nat → Int32) (a6 : Nat → Int32) (a7 : Nat → Int32) (o9 : Nat → Int32) (a10 : Nat → Int32) (o11 : Nat → Int32) (a12 : Nat → Int32) (o13 : Nat → Int32) (a14 : Nat → Int32) (a15 : Nat → Int32) (o16 : Nat → Int32) (a17 : Nat → Int32) (o18 : Nat → Int32) (j18 : Int64) (j19 : Int64) (a20 : Nat → Int32) (p2 : Int32) (p3 : Int32) (q : ((Nat → Int32) × (Nat → Int32) × (Nat → Int32) × (Nat → Int32) × (Nat → Int32) × (Nat → Int32) × (Nat → Int32) × (Nat → Int32) × (Nat → Int32) × (Nat → Int32) × (Int64) × (Int64) × (Nat → Int32))) (h : f_X11_advance_0_16 n a1 o2 a3 o4 a6 a7 o9 a10 o11 a12 o13 a14 a15 o16 a17 o18 j18 j19 a20 p2 p3 = some q) : C_X11_advance 5 61 [.ref 0, .ref 16, .int p2, .int p3] (xof s0 [W_0, W_1 a1, W_2 o2, W_3 a3, W_4 o4, W_6 a6, W_7 a7, W_8, W_9 o9, W_10 a10, W_11 o11, W_12 a12, W_13 o13, W_14 a14, W_15 a15, W_16 o16, W_17 a17, W_18 o18 j18, W_19 j19, W_20 a20]) none (xof s0 [W_0, W_1 a1, W_2 o2, W_3 a3, W_4 o4, W_6 a6, W_7 a7, W_8, W_9 q.1, W_10 q.2.1, W_11 q.2.2.1, W_12 q.2.2.2.1, W_13 q.2.2.2.2.1, W_14 q.2.2.2.2.2.1, W_15 q.2.2.2.2.2.2.1, W_16 q.2.2.2.2.2.2.2.1, W_17 q.2.2.2.2.2.2.2.2.1, W_18 q.2.2.2.2.2.2.2.2.2.1 q.2.2.2.2.2.2.2.2.2.2.1, W_19 q.2.2.2.2.2.2.2.2.2.2.2.1, W_20 q.2.2.2.2.2.2.2.2.2.2.2.2]) := by
  unfold f_X11_advance_0_16 at h
  show V yX11_advance cX11_advance none 5 61 (0, 0) 0 [some (.ref 0), some (.ref 16), some (.int p2), some (.int p3), none, none] [] (xof s0 [W_0, W_1 a1, W_2 o2, W_3 a3, W_4 o4, W_6 a6, W_7 a7, W_8, W_9 o9, W_10 a10, W_11 o11, W_12 a12, W_13 o13, W_14 a14, W_15 a15, W_16 o16, W_17 a17, W_18 o18 j18, W_19 j19, W_20 a20]) _
  refine x_aload_n dX11_advance_0 rfl ?_
  refine g_X11_24 rfl dX11_advance_1 (by decide) rfl rfl ?_
  refine g_X11_125 rfl dX11_advance_4 (by decide) rfl rfl ?_
  refine x_istore (ls' := [_, _, _, _, _, _]) dX11_advance_7 rfl rfl ?_
  obtain ⟨u6, hu6, h⟩ := Option.bind_eq_some_iff.mp h
  show V yX11_advance cX11_advance none 5 61 (0, 0) 9 [some (.ref 0), some (.ref 16), some (.int p2), some (.int p3), some (.int ((o2 2))), none] [] (xof s0 [W_0, W_1 a1, W_2 o2, W_3 a3, W_4 o4, W_6 a6, W_7 a7, W_8, W_9 o9, W_10 a10, W_11 o11, W_12 a12, W_13 o13, W_14 a14, W_15 a15, W_16 o16, W_17 a17, W_18 o18 j18, W_19 j19, W_20 a20]) _
  refine lv_X11_advance_0_16_9 s0 _ a1 o2 a3 o4 a6 a7 p2 p3 _ n ((o2 2)) o9 a10 o11 a12 o13 a14 a15 o16 a17 o18 j18 j19 a20 _ hu6 ?_
  cases h
  exact x_vret dX11_advance_55 ⟨rfl, rfl, rfl⟩
def f_X11_take_0 (n : Nat) (a1 : Nat → Int32) (o2 : Nat → Int32) (a3 : Nat → Int32) (o4 : Nat → Int32) (a6 : Nat → Int32) (a7 : Nat → Int32) (o9 : Nat → Int32) (a10 : Nat → Int32) (o11 : Nat → Int32) (a12 : Nat → Int32) (o13 : Nat → Int32) (a14 : Nat → Int32) (a15 : Nat → Int32) (o16 : Nat → Int32) (a17 : Nat → Int32) (o18 : Nat → Int32) (j18 : Int64) (j19 : Int64) (a20 : Nat → Int32) (p1 : Int32) : Option (((Int32) × (Nat → Int32) × (Nat → Int32) × (Nat → Int32) × (Nat → Int32) × (Nat → Int32) × (Nat → Int32) × (Nat → Int32) × (Nat → Int32) × (Nat → Int32) × (Nat → Int32) × (Nat → Int32) × (Int64) × (Int64) × (Nat → Int32))) := (Option.bind (f_X11_isWithin p1 1 9600) (fun q1 => (if q1 = 0 then (some ((-3), o2, o9, a10, o11, a12, o13, a14, a15, o16, a17, o18, j18, j19, a20)) else (Option.bind (f_X11_endOf_0 o2 p1) (fun q3 => (Option.bind (f_X11_advance_0_16 n a1 o2 a3 o4 a6 a7 o9 a10 o11 a12 o13 a14 a15 o16 a17 o18 j18 j19 a20 q3 ((-1))) (fun q4 => (some ((q4.2.2.2.2.2.2.2.1 7), upd o2 2 q3, q4.1, q4.2.1, q4.2.2.1, q4.2.2.2.1, q4.2.2.2.2.1, q4.2.2.2.2.2.1, q4.2.2.2.2.2.2.1, q4.2.2.2.2.2.2.2.1, q4.2.2.2.2.2.2.2.2.1, q4.2.2.2.2.2.2.2.2.2.1, q4.2.2.2.2.2.2.2.2.2.2.1, q4.2.2.2.2.2.2.2.2.2.2.2.1, q4.2.2.2.2.2.2.2.2.2.2.2.2)))))))))
set_option maxRecDepth 100000 in
set_option maxHeartbeats 400000 in
theorem v_X11_take_0 (s0 : XW) (n : Nat) (a1 : Nat → Int32) (o2 : Nat → Int32) (a3 : Nat → Int32) (o4 : Nat → Int32) (a6 : Nat → Int32) (a7 : Nat → Int32) (o9 : Nat → Int32) (a10 : Nat → Int32) (o11 : Nat → Int32) (a12 : Nat → Int32) (o13 : Nat → Int32) (a14 : Nat → Int32) (a15 : Nat → Int32) (o16 : Nat → Int32) (a17 : Nat → Int32) (o18 : Nat → Int32) (j18 : Int64) (j19 : Int64) (a20 : Nat → Int32) (p1 : Int32) (q : ((Int32) × (Nat → Int32) × (Nat → Int32) × (Nat → Int32) × (Nat → Int32) × (Nat → Int32) × (Nat → Int32) × (Nat → Int32) × (Nat → Int32) × (Nat → Int32) × (Nat → Int32) × (Nat → Int32) × (Int64) × (Int64) × (Nat → Int32))) (h : f_X11_take_0 n a1 o2 a3 o4 a6 a7 o9 a10 o11 a12 o13 a14 a15 o16 a17 o18 j18 j19 a20 p1 = some q) : C_X11_take 6 61 [.ref 0, .int p1] (xof s0 [W_0, W_1 a1, W_2 o2, W_3 a3, W_4 o4, W_6 a6, W_7 a7, W_8, W_9 o9, W_10 a10, W_11 o11, W_12 a12, W_13 o13, W_14 a14, W_15 a15, W_16 o16, W_17 a17, W_18 o18 j18, W_19 j19, W_20 a20]) (some (.int q.1)) (xof s0 [W_0, W_1 a1, W_2 q.2.1, W_3 a3, W_4 o4, W_6 a6, W_7 a7, W_8, W_9 q.2.2.1, W_10 q.2.2.2.1, W_11 q.2.2.2.2.1, W_12 q.2.2.2.2.2.1, W_13 q.2.2.2.2.2.2.1, W_14 q.2.2.2.2.2.2.2.1, W_15 q.2.2.2.2.2.2.2.2.1, W_16 q.2.2.2.2.2.2.2.2.2.1, W_17 q.2.2.2.2.2.2.2.2.2.2.1, W_18 q.2.2.2.2.2.2.2.2.2.2.2.1 q.2.2.2.2.2.2.2.2.2.2.2.2.1, W_19 q.2.2.2.2.2.2.2.2.2.2.2.2.2.1, W_20 q.2.2.2.2.2.2.2.2.2.2.2.2.2.2]) := by
  unfold f_X11_take_0 at h
  show V yX11_take cX11_take (some .int) 6 61 (0, 0) 0 [some (.ref 0), some (.int p1), none] [] (xof s0 [W_0, W_1 a1, W_2 o2, W_3 a3, W_4 o4, W_6 a6, W_7 a7, W_8, W_9 o9, W_10 a10, W_11 o11, W_12 a12, W_13 o13, W_14 a14, W_15 a15, W_16 o16, W_17 a17, W_18 o18 j18, W_19 j19, W_20 a20]) _
  refine x_iload_n dX11_take_0 rfl ?_
  refine x_iconst (v := 1) dX11_take_1 (by decide) ?_
  refine x_sipush (v := 9600) dX11_take_2 (by decide) ?_
  obtain ⟨q1, hq1, h⟩ := Option.bind_eq_some_iff.mp h
  refine y_callSi (L' := [(0, _), (1, _), (2, _), (3, _), (4, _), (6, _), (7, _), (8, _), (9, _), (10, _), (11, _), (12, _), (13, _), (14, _), (15, _), (16, _), (17, _), (18, _), (19, _), (20, _)]) mi_X11_isWithin ml_X11_100 st_X11_isWithin dX11_take_5 (fun s1 => v_X11_isWithin 61 s1 _ _ _ q1 hq1) (Nat.le_of_ble_eq_true rfl) rfl (by decide) (Nat.le_of_ble_eq_true rfl) rfl rfl rfl rfl ?_
  refine x_if_ne (tgt := 14) dX11_take_8 (by decide) (fun c2 => ?_) (fun c2 => ?_)
  · replace h := xif_n c2 h
    refine x_aload_n dX11_take_14 rfl ?_
    refine x_iload_n dX11_take_15 rfl ?_
    obtain ⟨q3, hq3, h⟩ := Option.bind_eq_some_iff.mp h
    refine y_callVi (L' := [(0, _), (1, _), (2, _), (3, _), (4, _), (6, _), (7, _), (8, _), (9, _), (10, _), (11, _), (12, _), (13, _), (14, _), (15, _), (16, _), (17, _), (18, _), (19, _), (20, _)]) mi_X11_endOf ml_X11_161 im_X11_endOf se_X11_endOf (rfl : vwCl[10]? = _) dX11_take_16 (fun s1 => v_X11_endOf_0 s1 _ _ q3 hq3) (by decide) rfl (Nat.le_of_ble_eq_true rfl) rfl (by decide) (Nat.le_of_ble_eq_true rfl) rfl rfl rfl rfl ?_
    refine x_istore_n (ls' := [_, _, _]) dX11_take_19 rfl rfl ?_
    refine x_aload_n dX11_take_20 rfl ?_
    refine x_aload_n dX11_take_21 rfl ?_
    refine g_X11_47 rfl dX11_take_22 (by decide) rfl rfl ?_
    refine x_iload_n dX11_take_25 rfl ?_
    refine x_iconst (v := -1) dX11_take_26 (by decide) ?_
    obtain ⟨q4, hq4, h⟩ := Option.bind_eq_some_iff.mp h
    refine y_callVv (L' := [(0, _), (1, _), (2, _), (3, _), (4, _), (6, _), (7, _), (8, _), (9, _), (10, _), (11, _), (12, _), (13, _), (14, _), (15, _), (16, _), (17, _), (18, _), (19, _), (20, _)]) mi_X11_advance ml_X11_164 im_X11_advance se_X11_advance (rfl : vwCl[10]? = _) dX11_take_27 (fun s1 => v_X11_advance_0_16 s1 n _ _ _ _ _ _ _ _ _ _ _ _ _ _ _ _ _ _ _ _ _ q4 hq4) (by decide) rfl (Nat.le_of_ble_eq_true rfl) rfl (by decide) (Nat.le_of_ble_eq_true rfl) rfl rfl rfl rfl ?_
    refine x_aload_n dX11_take_30 rfl ?_
    refine g_X11_24 rfl dX11_take_31 (by decide) rfl rfl ?_
    refine x_iload_n dX11_take_34 rfl ?_
    refine p_X11_125 (fs' := [_, _, _]) (L' := [(0, _), (1, _), (2, _), (3, _), (4, _), (6, _), (7, _), (8, _), (9, _), (10, _), (11, _), (12, _), (13, _), (14, _), (15, _), (16, _), (17, _), (18, _), (19, _), (20, _)]) rfl dX11_take_35 (by decide) rfl (Nat.le_of_ble_eq_true rfl) rfl rfl ?_
    refine x_aload_n dX11_take_38 rfl ?_
    refine g_X11_47 rfl dX11_take_39 (by decide) rfl rfl ?_
    refine g_X11_168 rfl dX11_take_42 (by decide) rfl rfl ?_
    cases h
    exact x_iret dX11_take_45 ⟨rfl, rfl, rfl⟩
  · replace h := xif_p c2 h
    refine x_bipush (v := -3) dX11_take_11 (by decide) ?_
    cases h
    exact x_iret dX11_take_13 ⟨rfl, rfl, rfl⟩
def l_J7_fill_53178_17_5 (n : Nat) (l1 : Int32) (l3 : Int32) : Nat → (Int32) → (Nat → Int32) → Option (((Int32) × (Nat → Int32)))
  | 0, _, _ => none
  | k + 1, l2, a17 => (if l3 ≤ l2 then (some (l2, a17)) else (bif xin l2 14 then (l_J7_fill_53178_17_5 n l1 l3 k ((l2 + 1)) (upd a17 ((Int32.toNatClampNeg l2)) l1)) else none))
set_option maxRecDepth 100000 in
set_option maxHeartbeats 400000 in
theorem lv_J7_fill_53178_17_5 (s0 : XW) (n : Nat) (l1 : Int32) (l3 : Int32) (Q : Nat → Option Value → XW → Prop) : ∀ (k : Nat) (l2 : Int32) (a17 : Nat → Int32) (o : ((Int32) × (Nat → Int32))), l_J7_fill_53178_17_5 n l1 l3 k l2 a17 = some o → (V yJ7_fill_53178 cJ7_fill_53178 none 0 61 (0, 0) 20 [none, none, none, none] [] (xof s0 [W_17 o.2]) Q) → V yJ7_fill_53178 cJ7_fill_53178 none 0 61 (0, 0) 5 [some (.ref 17), some (.int l1), some (.int l2), some (.int l3)] [] (xof s0 [W_17 a17]) Q := by
  intro k
  induction k with
  | zero =>
    intro _ _ _ h
    simp [l_J7_fill_53178_17_5] at h
  | succ k ih =>
    intro l2 a17 o h hk
    rw [l_J7_fill_53178_17_5] at h
    refine x_iload_n dJ7_fill_53178_5 rfl ?_
    refine x_iload_n dJ7_fill_53178_6 rfl ?_
    refine x_icmp_ge (tgt := 20) dJ7_fill_53178_7 (by decide) (fun c1 => ?_) (fun c1 => ?_)
    · replace h := xif_p c1 h
      refine V.drop1 (i := 0) (ls' := [_, _, _, _]) rfl ?_
      refine V.drop1 (i := 1) (ls' := [_, _, _, _]) rfl ?_
      refine V.drop1 (i := 2) (ls' := [_, _, _, _]) rfl ?_
      refine V.drop1 (i := 3) (ls' := [_, _, _, _]) rfl ?_
      show V yJ7_fill_53178 cJ7_fill_53178 none 0 61 (0, 0) 20 [none, none, none, none] [] (xof s0 [W_17 a17]) _
      cases h
      exact hk
    · replace h := xif_n c1 h
      refine x_aload_n dJ7_fill_53178_10 rfl ?_
      refine x_iload_n dJ7_fill_53178_11 rfl ?_
      refine x_iload_n dJ7_fill_53178_12 rfl ?_
      obtain ⟨c2, h⟩ := xck h
      refine x_iastK (jn := (Int32.toNatClampNeg l2)) (L' := [(17, _)]) dJ7_fill_53178_13 (by decide) rfl (xin_ok c2) rfl rfl ?_
      refine x_iinc (v := l2 + 1) (ls' := [_, _, _, _]) dJ7_fill_53178_14 rfl rfl rfl rfl ?_
      refine x_goto (tgt := 5) dJ7_fill_53178_17 (by decide) ?_
      show V yJ7_fill_53178 cJ7_fill_53178 none 0 61 (0, 0) 5 [some (.ref 17), some (.int l1), some (.int ((l2 + 1))), some (.int l3)] [] (xof s0 [W_17 (upd a17 ((Int32.toNatClampNeg l2)) l1)]) _
      exact ih ((l2 + 1)) (upd a17 ((Int32.toNatClampNeg l2)) l1) _ h hk
def f_J7_fill_53178_17 (n : Nat) (a17 : Nat → Int32) (p1 : Int32) : Option (Nat → Int32) := (Option.bind (l_J7_fill_53178_17_5 n p1 14 n 0 a17) (fun u3 => (some u3.2)))
set_option maxRecDepth 100000 in
set_option maxHeartbeats 400000 in
theorem v_J7_fill_53178_17 (s0 : XW) (n : Nat) (a17 : Nat → Int32) (p1 : Int32) (q : Nat → Int32) (h : f_J7_fill_53178_17 n a17 p1 = some q) : C_J7_fill_53178 0 61 [.ref 17, .int p1] (xof s0 [W_17 a17]) none (xof s0 [W_17 q]) := by
  unfold f_J7_fill_53178_17 at h
  show V yJ7_fill_53178 cJ7_fill_53178 none 0 61 (0, 0) 0 [some (.ref 17), some (.int p1), none, none] [] (xof s0 [W_17 a17]) _
  refine x_iconst (v := 0) dJ7_fill_53178_0 (by decide) ?_
  refine x_istore_n (ls' := [_, _, _, _]) dJ7_fill_53178_1 rfl rfl ?_
  refine x_aload_n dJ7_fill_53178_2 rfl ?_
  refine x_alen (v := 14) dJ7_fill_53178_3 (by decide) rfl (by decide) rfl ?_
  refine x_istore_n (ls' := [_, _, _, _]) dJ7_fill_53178_4 rfl rfl ?_
  obtain ⟨u3, hu3, h⟩ := Option.bind_eq_some_iff.mp h
  show V yJ7_fill_53178 cJ7_fill_53178 none 0 61 (0, 0) 5 [some (.ref 17), some (.int p1), some (.int 0), some (.int 14)] [] (xof s0 [W_17 a17]) _
  refine lv_J7_fill_53178_17_5 s0 _ p1 14 _ n 0 a17 _ hu3 ?_
  cases h
  exact x_vret dJ7_fill_53178_20 ⟨rfl, rfl, rfl⟩
def f_X10_clear_18 (o18 : Nat → Int32) (j18 : Int64)  : Option (((Nat → Int32) × (Int64))) := (some (upd (upd o18 1 0) 2 0, 0))
set_option maxRecDepth 100000 in
set_option maxHeartbeats 400000 in
theorem v_X10_clear_18 (s0 : XW) (o18 : Nat → Int32) (j18 : Int64)  (q : ((Nat → Int32) × (Int64))) (h : f_X10_clear_18 o18 j18 = some q) : C_X10_clear 0 61 [.ref 18] (xof s0 [W_18 o18 j18]) none (xof s0 [W_18 q.1 q.2]) := by
  unfold f_X10_clear_18 at h
  show V yX10_clear cX10_clear none 0 61 (0, 0) 0 [some (.ref 18)] [] (xof s0 [W_18 o18 j18]) _
  refine x_aload_n dX10_clear_0 rfl ?_
  refine x_lconst (v := 0) dX10_clear_1 (by decide) ?_
  refine p_X10_9 (fs' := [_, _, _]) (L' := [(18, _)]) rfl dX10_clear_2 (by decide) rfl (Nat.le_of_ble_eq_true rfl) rfl rfl ?_
  refine x_aload_n dX10_clear_5 rfl ?_
  refine x_iconst (v := 0) dX10_clear_6 (by decide) ?_
  refine p_X10_15 (fs' := [_, _, _]) (L' := [(18, _)]) rfl dX10_clear_7 (by decide) rfl (Nat.le_of_ble_eq_true rfl) rfl rfl ?_
  refine x_aload_n dX10_clear_10 rfl ?_
  refine x_iconst (v := 0) dX10_clear_11 (by decide) ?_
  refine p_X10_19 (fs' := [_, _, _]) (L' := [(18, _)]) rfl dX10_clear_12 (by decide) rfl (Nat.le_of_ble_eq_true rfl) rfl rfl ?_
  cases h
  exact x_vret dX10_clear_15 ⟨rfl, rfl, rfl⟩
def f_X2_clear_19 (j19 : Int64)  : Option Int64 := (some 0)
set_option maxRecDepth 100000 in
set_option maxHeartbeats 400000 in
theorem v_X2_clear_19 (s0 : XW) (j19 : Int64)  (q : Int64) (h : f_X2_clear_19 j19 = some q) : C_X2_clear 0 61 [.ref 19] (xof s0 [W_19 j19]) none (xof s0 [W_19 q]) := by
  unfold f_X2_clear_19 at h
  show V yX2_clear cX2_clear none 0 61 (0, 0) 0 [some (.ref 19)] [] (xof s0 [W_19 j19]) _
  refine x_aload_n dX2_clear_0 rfl ?_
  refine x_lconst (v := 0) dX2_clear_1 (by decide) ?_
  refine p_X2_9 (fs' := [_]) (L' := [(19, _)]) rfl dX2_clear_2 (by decide) rfl (Nat.le_of_ble_eq_true rfl) rfl rfl ?_
  cases h
  exact x_vret dX2_clear_5 ⟨rfl, rfl, rfl⟩
def f_X6_restart_16 (n : Nat) (o16 : Nat → Int32) (a17 : Nat → Int32) (o18 : Nat → Int32) (j18 : Int64) (j19 : Int64)  : Option (((Nat → Int32) × (Nat → Int32) × (Nat → Int32) × (Int64) × (Int64))) := (Option.bind (f_J7_fill_53178_17 n a17 0) (fun q1 => (Option.bind (f_X10_clear_18 o18 j18) (fun q2 => (Option.bind (f_X2_clear_19 j19) (fun q3 => (some (upd (upd (upd (upd (upd (upd (upd (upd (upd o16 7 0) 8 0) 9 0) 10 0) 11 0) 12 0) 13 0) 14 0) 15 0, q1, q2.1, q2.2, q3))))))))
set_option maxRecDepth 100000 in
set_option maxHeartbeats 400000 in
theorem v_X6_restart_16 (s0 : XW) (n : Nat) (o16 : Nat → Int32) (a17 : Nat → Int32) (o18 : Nat → Int32) (j18 : Int64) (j19 : Int64)  (q : ((Nat → Int32) × (Nat → Int32) × (Nat → Int32) × (Int64) × (Int64))) (h : f_X6_restart_16 n o16 a17 o18 j18 j19 = some q) : C_X6_restart 1 61 [.ref 16] (xof s0 [W_16 o16, W_17 a17, W_18 o18 j18, W_19 j19]) none (xof s0 [W_16 q.1, W_17 q.2.1, W_18 q.2.2.1 q.2.2.2.1, W_19 q.2.2.2.2]) := by
  unfold f_X6_restart_16 at h
  show V yX6_restart cX6_restart none 1 61 (0, 0) 0 [some (.ref 16)] [] (xof s0 [W_16 o16, W_17 a17, W_18 o18 j18, W_19 j19]) _
  refine x_aload_n dX6_restart_0 rfl ?_
  refine g_X6_9 rfl dX6_restart_1 (by decide) rfl rfl ?_
  refine x_iconst (v := 0) dX6_restart_4 (by decide) ?_
  obtain ⟨q1, hq1, h⟩ := Option.bind_eq_some_iff.mp h
  refine y_callSv (L' := [(16, _), (17, _), (18, _), (19, _)]) mi_J7_fill_53178 ml_X6_44 st_J7_fill_53178 dX6_restart_5 (fun s1 => v_J7_fill_53178_17 s1 n _ _ q1 hq1) (Nat.le_of_ble_eq_true rfl) rfl (by decide) (Nat.le_of_ble_eq_true rfl) rfl rfl rfl rfl ?_
  refine x_aload_n dX6_restart_8 rfl ?_
  refine g_X6_18 rfl dX6_restart_9 (by decide) rfl rfl ?_
  obtain ⟨q2, hq2, h⟩ := Option.bind_eq_some_iff.mp h
  refine y_callVv (L' := [(16, _), (17, _), (18, _), (19, _)]) mi_X10_clear ml_X6_50 im_X10_clear se_X10_clear (rfl : vwCl[9]? = _) dX6_restart_12 (fun s1 => v_X10_clear_18 s1 _ _ q2 hq2) (by decide) rfl (Nat.le_of_ble_eq_true rfl) rfl (by decide) (Nat.le_of_ble_eq_true rfl) rfl rfl rfl rfl ?_
  refine x_aload_n dX6_restart_15 rfl ?_
  refine g_X6_25 rfl dX6_restart_16 (by decide) rfl rfl ?_
  obtain ⟨q3, hq3, h⟩ := Option.bind_eq_some_iff.mp h
  refine y_callVv (L' := [(16, _), (17, _), (18, _), (19, _)]) mi_X2_clear ml_X6_53 im_X2_clear se_X2_clear (rfl : vwCl[1]? = _) dX6_restart_19 (fun s1 => v_X2_clear_19 s1 _ q3 hq3) (by decide) rfl (Nat.le_of_ble_eq_true rfl) rfl (by decide) (Nat.le_of_ble_eq_true rfl) rfl rfl rfl rfl ?_
  refine x_aload_n dX6_restart_22 rfl ?_
  refine x_iconst (v := 0) dX6_restart_23 (by decide) ?_
  refine p_X6_54 (fs' := [_, _, _, _, _, _, _, _, _, _, _, _, _, _, _, _, _, _, _]) (L' := [(16, _), (17, _), (18, _), (19, _)]) rfl dX6_restart_24 (by decide) rfl (Nat.le_of_ble_eq_true rfl) rfl rfl ?_
  refine x_aload_n dX6_restart_27 rfl ?_
  refine x_iconst (v := 0) dX6_restart_28 (by decide) ?_
  refine p_X6_58 (fs' := [_, _, _, _, _, _, _, _, _, _, _, _, _, _, _, _, _, _, _]) (L' := [(16, _), (17, _), (18, _), (19, _)]) rfl dX6_restart_29 (by decide) rfl (Nat.le_of_ble_eq_true rfl) rfl rfl ?_
  refine x_aload_n dX6_restart_32 rfl ?_
  refine x_iconst (v := 0) dX6_restart_33 (by decide) ?_
  refine p_X6_61 (fs' := [_, _, _, _, _, _, _, _, _, _, _, _, _, _, _, _, _, _, _]) (L' := [(16, _), (17, _), (18, _), (19, _)]) rfl dX6_restart_34 (by decide) rfl (Nat.le_of_ble_eq_true rfl) rfl rfl ?_
  refine x_aload_n dX6_restart_37 rfl ?_
  refine x_iconst (v := 0) dX6_restart_38 (by decide) ?_
  refine p_X6_64 (fs' := [_, _, _, _, _, _, _, _, _, _, _, _, _, _, _, _, _, _, _]) (L' := [(16, _), (17, _), (18, _), (19, _)]) rfl dX6_restart_39 (by decide) rfl (Nat.le_of_ble_eq_true rfl) rfl rfl ?_
  refine x_aload_n dX6_restart_42 rfl ?_
  refine x_iconst (v := 0) dX6_restart_43 (by decide) ?_
  refine p_X6_67 (fs' := [_, _, _, _, _, _, _, _, _, _, _, _, _, _, _, _, _, _, _]) (L' := [(16, _), (17, _), (18, _), (19, _)]) rfl dX6_restart_44 (Or.inl rfl) (by decide) rfl (Nat.le_of_ble_eq_true rfl) rfl rfl ?_
  refine x_aload_n dX6_restart_47 rfl ?_
  refine x_iconst (v := 0) dX6_restart_48 (by decide) ?_
  refine p_X6_71 (fs' := [_, _, _, _, _, _, _, _, _, _, _, _, _, _, _, _, _, _, _]) (L' := [(16, _), (17, _), (18, _), (19, _)]) rfl dX6_restart_49 (Or.inl rfl) (by decide) rfl (Nat.le_of_ble_eq_true rfl) rfl rfl ?_
  refine x_aload_n dX6_restart_52 rfl ?_
  refine x_iconst (v := 0) dX6_restart_53 (by decide) ?_
  refine p_X6_74 (fs' := [_, _, _, _, _, _, _, _, _, _, _, _, _, _, _, _, _, _, _]) (L' := [(16, _), (17, _), (18, _), (19, _)]) rfl dX6_restart_54 (by decide) rfl (Nat.le_of_ble_eq_true rfl) rfl rfl ?_
  refine x_aload_n dX6_restart_57 rfl ?_
  refine x_iconst (v := 0) dX6_restart_58 (by decide) ?_
  refine p_X6_77 (fs' := [_, _, _, _, _, _, _, _, _, _, _, _, _, _, _, _, _, _, _]) (L' := [(16, _), (17, _), (18, _), (19, _)]) rfl dX6_restart_59 (by decide) rfl (Nat.le_of_ble_eq_true rfl) rfl rfl ?_
  refine x_aload_n dX6_restart_62 rfl ?_
  refine x_iconst (v := 0) dX6_restart_63 (by decide) ?_
  refine p_X6_80 (fs' := [_, _, _, _, _, _, _, _, _, _, _, _, _, _, _, _, _, _, _]) (L' := [(16, _), (17, _), (18, _), (19, _)]) rfl dX6_restart_64 (by decide) rfl (Nat.le_of_ble_eq_true rfl) rfl rfl ?_
  cases h
  exact x_vret dX6_restart_67 ⟨rfl, rfl, rfl⟩
def f_X7_clear_9 (o9 : Nat → Int32)  : Option (Nat → Int32) := (some (upd (upd o9 2 0) 3 0))
set_option maxRecDepth 100000 in
set_option maxHeartbeats 400000 in
theorem v_X7_clear_9 (s0 : XW) (o9 : Nat → Int32)  (q : Nat → Int32) (h : f_X7_clear_9 o9 = some q) : C_X7_clear 0 61 [.ref 9] (xof s0 [W_9 o9]) none (xof s0 [W_9 q]) := by
  unfold f_X7_clear_9 at h
  show V yX7_clear cX7_clear none 0 61 (0, 0) 0 [some (.ref 9)] [] (xof s0 [W_9 o9]) _
  refine x_aload_n dX7_clear_0 rfl ?_
  refine x_iconst (v := 0) dX7_clear_1 (by decide) ?_
  refine p_X7_23 (fs' := [_, _, _, _]) (L' := [(9, _)]) rfl dX7_clear_2 (by decide) rfl (Nat.le_of_ble_eq_true rfl) rfl rfl ?_
  refine x_aload_n dX7_clear_5 rfl ?_
  refine x_iconst (v := 0) dX7_clear_6 (by decide) ?_
  refine p_X7_26 (fs' := [_, _, _, _]) (L' := [(9, _)]) rfl dX7_clear_7 (by decide) rfl (Nat.le_of_ble_eq_true rfl) rfl rfl ?_
  cases h
  exact x_vret dX7_clear_10 ⟨rfl, rfl, rfl⟩
def f_X7_clear_11 (o11 : Nat → Int32)  : Option (Nat → Int32) := (some (upd (upd o11 2 0) 3 0))
set_option maxRecDepth 100000 in
set_option maxHeartbeats 400000 in
theorem v_X7_clear_11 (s0 : XW) (o11 : Nat → Int32)  (q : Nat → Int32) (h : f_X7_clear_11 o11 = some q) : C_X7_clear 0 61 [.ref 11] (xof s0 [W_11 o11]) none (xof s0 [W_11 q]) := by
  unfold f_X7_clear_11 at h
  show V yX7_clear cX7_clear none 0 61 (0, 0) 0 [some (.ref 11)] [] (xof s0 [W_11 o11]) _
  refine x_aload_n dX7_clear_0 rfl ?_
  refine x_iconst (v := 0) dX7_clear_1 (by decide) ?_
  refine p_X7_23 (fs' := [_, _, _, _]) (L' := [(11, _)]) rfl dX7_clear_2 (by decide) rfl (Nat.le_of_ble_eq_true rfl) rfl rfl ?_
  refine x_aload_n dX7_clear_5 rfl ?_
  refine x_iconst (v := 0) dX7_clear_6 (by decide) ?_
  refine p_X7_26 (fs' := [_, _, _, _]) (L' := [(11, _)]) rfl dX7_clear_7 (by decide) rfl (Nat.le_of_ble_eq_true rfl) rfl rfl ?_
  cases h
  exact x_vret dX7_clear_10 ⟨rfl, rfl, rfl⟩
def f_X7_clear_13 (o13 : Nat → Int32)  : Option (Nat → Int32) := (some (upd (upd o13 2 0) 3 0))
set_option maxRecDepth 100000 in
set_option maxHeartbeats 400000 in
theorem v_X7_clear_13 (s0 : XW) (o13 : Nat → Int32)  (q : Nat → Int32) (h : f_X7_clear_13 o13 = some q) : C_X7_clear 0 61 [.ref 13] (xof s0 [W_13 o13]) none (xof s0 [W_13 q]) := by
  unfold f_X7_clear_13 at h
  show V yX7_clear cX7_clear none 0 61 (0, 0) 0 [some (.ref 13)] [] (xof s0 [W_13 o13]) _
  refine x_aload_n dX7_clear_0 rfl ?_
  refine x_iconst (v := 0) dX7_clear_1 (by decide) ?_
  refine p_X7_23 (fs' := [_, _, _, _]) (L' := [(13, _)]) rfl dX7_clear_2 (by decide) rfl (Nat.le_of_ble_eq_true rfl) rfl rfl ?_
  refine x_aload_n dX7_clear_5 rfl ?_
  refine x_iconst (v := 0) dX7_clear_6 (by decide) ?_
  refine p_X7_26 (fs' := [_, _, _, _]) (L' := [(13, _)]) rfl dX7_clear_7 (by decide) rfl (Nat.le_of_ble_eq_true rfl) rfl rfl ?_
  cases h
  exact x_vret dX7_clear_10 ⟨rfl, rfl, rfl⟩
def f_X5_clear_8 (o9 : Nat → Int32) (o11 : Nat → Int32) (o13 : Nat → Int32)  : Option (((Nat → Int32) × (Nat → Int32) × (Nat → Int32))) := (Option.bind (f_X7_clear_9 o9) (fun q1 => (Option.bind (f_X7_clear_11 o11) (fun q2 => (Option.bind (f_X7_clear_13 o13) (fun q3 => (some (q1, q2, q3))))))))
set_option maxRecDepth 100000 in
set_option maxHeartbeats 400000 in
theorem v_X5_clear_8 (s0 : XW) (o9 : Nat → Int32) (o11 : Nat → Int32) (o13 : Nat → Int32)  (q : ((Nat → Int32) × (Nat → Int32) × (Nat → Int32))) (h : f_X5_clear_8 o9 o11 o13 = some q) : C_X5_clear 1 61 [.ref 8] (xof s0 [W_8, W_9 o9, W_11 o11, W_13 o13]) none (xof s0 [W_8, W_9 q.1, W_11 q.2.1, W_13 q.2.2]) := by
  unfold f_X5_clear_8 at h
  show V yX5_clear cX5_clear none 1 61 (0, 0) 0 [some (.ref 8)] [] (xof s0 [W_8, W_9 o9, W_11 o11, W_13 o13]) _
  refine x_aload_n dX5_clear_0 rfl ?_
  refine g_X5_16 rfl dX5_clear_1 (by decide) rfl rfl ?_
  obtain ⟨q1, hq1, h⟩ := Option.bind_eq_some_iff.mp h
  refine y_callVv (L' := [(8, _), (9, _), (11, _), (13, _)]) mi_X7_clear ml_X5_30 im_X7_clear se_X7_clear (rfl : vwCl[6]? = _) dX5_clear_4 (fun s1 => v_X7_clear_9 s1 _ q1 hq1) (by decide) rfl (Nat.le_of_ble_eq_true rfl) rfl (by decide) (Nat.le_of_ble_eq_true rfl) rfl rfl rfl rfl ?_
  refine x_aload_n dX5_clear_7 rfl ?_
  refine g_X5_20 rfl dX5_clear_8 (by decide) rfl rfl ?_
  obtain ⟨q2, hq2, h⟩ := Option.bind_eq_some_iff.mp h
  refine y_callVv (L' := [(8, _), (9, _), (11, _), (13, _)]) mi_X7_clear ml_X5_30 im_X7_clear se_X7_clear (rfl : vwCl[6]? = _) dX5_clear_11 (fun s1 => v_X7_clear_11 s1 _ q2 hq2) (by decide) rfl (Nat.le_of_ble_eq_true rfl) rfl (by decide) (Nat.le_of_ble_eq_true rfl) rfl rfl rfl rfl ?_
  refine x_aload_n dX5_clear_14 rfl ?_
  refine g_X5_23 rfl dX5_clear_15 (by decide) rfl rfl ?_
  obtain ⟨q3, hq3, h⟩ := Option.bind_eq_some_iff.mp h
  refine y_callVv (L' := [(8, _), (9, _), (11, _), (13, _)]) mi_X7_clear ml_X5_30 im_X7_clear se_X7_clear (rfl : vwCl[6]? = _) dX5_clear_18 (fun s1 => v_X7_clear_13 s1 _ q3 hq3) (by decide) rfl (Nat.le_of_ble_eq_true rfl) rfl (by decide) (Nat.le_of_ble_eq_true rfl) rfl rfl rfl rfl ?_
  cases h
  exact x_vret dX5_clear_21 ⟨rfl, rfl, rfl⟩
def f_X11_fresh_0 (n : Nat) (o9 : Nat → Int32) (o11 : Nat → Int32) (o13 : Nat → Int32) (o16 : Nat → Int32) (a17 : Nat → Int32) (o18 : Nat → Int32) (j18 : Int64) (j19 : Int64)  : Option (((Int32) × (Nat → Int32) × (Nat → Int32) × (Nat → Int32) × (Nat → Int32) × (Nat → Int32) × (Nat → Int32) × (Int64) × (Int64))) := (Option.bind (f_X6_restart_16 n o16 a17 o18 j18 j19) (fun q1 => (Option.bind (f_X5_clear_8 o9 o11 o13) (fun q2 => (some ((a17 3), q2.1, q2.2.1, q2.2.2, q1.1, q1.2.1, q1.2.2.1, q1.2.2.2.1, q1.2.2.2.2))))))
set_option maxRecDepth 100000 in
set_option maxHeartbeats 400000 in
theorem v_X11_fresh_0 (s0 : XW) (n : Nat) (o9 : Nat → Int32) (o11 : Nat → Int32) (o13 : Nat → Int32) (o16 : Nat → Int32) (a17 : Nat → Int32) (o18 : Nat → Int32) (j18 : Int64) (j19 : Int64)  (q : ((Int32) × (Nat → Int32) × (Nat → Int32) × (Nat → Int32) × (Nat → Int32) × (Nat → Int32) × (Nat → Int32) × (Int64) × (Int64))) (h : f_X11_fresh_0 n o9 o11 o13 o16 a17 o18 j18 j19 = some q) : C_X11_fresh 2 61 [.ref 0] (xof s0 [W_0, W_8, W_9 o9, W_11 o11, W_13 o13, W_16 o16, W_17 a17, W_18 o18 j18, W_19 j19]) (some (.int q.1)) (xof s0 [W_0, W_8, W_9 q.2.1, W_11 q.2.2.1, W_13 q.2.2.2.1, W_16 q.2.2.2.2.1, W_17 q.2.2.2.2.2.1, W_18 q.2.2.2.2.2.2.1 q.2.2.2.2.2.2.2.1, W_19 q.2.2.2.2.2.2.2.2]) := by
  unfold f_X11_fresh_0 at h
  show V yX11_fresh cX11_fresh (some .int) 2 61 (0, 0) 0 [some (.ref 0), none] [] (xof s0 [W_0, W_8, W_9 o9, W_11 o11, W_13 o13, W_16 o16, W_17 a17, W_18 o18 j18, W_19 j19]) _
  refine x_aload_n dX11_fresh_0 rfl ?_
  refine g_X11_47 rfl dX11_fresh_1 (by decide) rfl rfl ?_
  refine g_X11_171 rfl dX11_fresh_4 (by decide) rfl rfl ?_
  refine x_iconst (v := 3) dX11_fresh_7 (by decide) ?_
  refine x_ialdK (jn := 3) (v := (a17 3)) dX11_fresh_8 (by decide) rfl (xin_ok (by decide)) (by decide) rfl ?_
  refine x_istore_n (ls' := [_, _]) dX11_fresh_9 rfl rfl ?_
  refine x_aload_n dX11_fresh_10 rfl ?_
  refine g_X11_47 rfl dX11_fresh_11 (by decide) rfl rfl ?_
  obtain ⟨q1, hq1, h⟩ := Option.bind_eq_some_iff.mp h
  refine y_callVv (L' := [(0, _), (8, _), (9, _), (11, _), (13, _), (16, _), (17, _), (18, _), (19, _)]) mi_X6_restart ml_X11_174 im_X6_restart se_X6_restart (rfl : vwCl[5]? = _) dX11_fresh_14 (fun s1 => v_X6_restart_16 s1 n _ _ _ _ _ q1 hq1) (by decide) rfl (Nat.le_of_ble_eq_true rfl) rfl (by decide) (Nat.le_of_ble_eq_true rfl) rfl rfl rfl rfl ?_
  refine x_aload_n dX11_fresh_17 rfl ?_
  refine g_X11_38 rfl dX11_fresh_18 (by decide) rfl rfl ?_
  obtain ⟨q2, hq2, h⟩ := Option.bind_eq_some_iff.mp h
  refine y_callVv (L' := [(0, _), (8, _), (9, _), (11, _), (13, _), (16, _), (17, _), (18, _), (19, _)]) mi_X5_clear ml_X11_175 im_X5_clear se_X5_clear (rfl : vwCl[4]? = _) dX11_fresh_21 (fun s1 => v_X5_clear_8 s1 _ _ _ q2 hq2) (by decide) rfl (Nat.le_of_ble_eq_true rfl) rfl (by decide) (Nat.le_of_ble_eq_true rfl) rfl rfl rfl rfl ?_
  refine x_iload_n dX11_fresh_24 rfl ?_
  cases h
  exact x_iret dX11_fresh_25 ⟨rfl, rfl, rfl⟩
def f_X2_bitAgo_5 (j5 : Int64) (p1 : Int32) : Option Int32 := (some (((Int64.toInt32 (xul j5 p1)) &&& 1)))
set_option maxRecDepth 100000 in
set_option maxHeartbeats 400000 in
theorem v_X2_bitAgo_5 (s0 : XW) (j5 : Int64) (p1 : Int32) (q : Int32) (h : f_X2_bitAgo_5 j5 p1 = some q) : C_X2_bitAgo 0 61 [.ref 5, .int p1] (xof s0 [W_5 j5]) (some (.int q)) (xof s0 [W_5 j5]) := by
  unfold f_X2_bitAgo_5 at h
  show V yX2_bitAgo cX2_bitAgo (some .int) 0 61 (0, 0) 0 [some (.ref 5), some (.int p1)] [] (xof s0 [W_5 j5]) _
  refine x_aload_n dX2_bitAgo_0 rfl ?_
  refine g_X2_9 rfl dX2_bitAgo_1 (by decide) rfl rfl ?_
  refine x_iload_n dX2_bitAgo_4 rfl ?_
  refine x_lushr dX2_bitAgo_5 ?_
  refine x_l2i dX2_bitAgo_6 ?_
  refine x_iconst (v := 1) dX2_bitAgo_7 (by decide) ?_
  refine x_iand dX2_bitAgo_8 ?_
  cases h
  exact x_iret dX2_bitAgo_9 ⟨rfl, rfl, rfl⟩
def f_X2_bitAgo_19 (j19 : Int64) (p1 : Int32) : Option Int32 := (some (((Int64.toInt32 (xul j19 p1)) &&& 1)))
set_option maxRecDepth 100000 in
set_option maxHeartbeats 400000 in
theorem v_X2_bitAgo_19 (s0 : XW) (j19 : Int64) (p1 : Int32) (q : Int32) (h : f_X2_bitAgo_19 j19 p1 = some q) : C_X2_bitAgo 0 61 [.ref 19, .int p1] (xof s0 [W_19 j19]) (some (.int q)) (xof s0 [W_19 j19]) := by
  unfold f_X2_bitAgo_19 at h
  show V yX2_bitAgo cX2_bitAgo (some .int) 0 61 (0, 0) 0 [some (.ref 19), some (.int p1)] [] (xof s0 [W_19 j19]) _
  refine x_aload_n dX2_bitAgo_0 rfl ?_
  refine g_X2_9 rfl dX2_bitAgo_1 (by decide) rfl rfl ?_
  refine x_iload_n dX2_bitAgo_4 rfl ?_
  refine x_lushr dX2_bitAgo_5 ?_
  refine x_l2i dX2_bitAgo_6 ?_
  refine x_iconst (v := 1) dX2_bitAgo_7 (by decide) ?_
  refine x_iand dX2_bitAgo_8 ?_
  cases h
  exact x_iret dX2_bitAgo_9 ⟨rfl, rfl, rfl⟩
def f_X11_stage_0 (o4 : Nat → Int32) (j5 : Int64) (o16 : Nat → Int32) (j19 : Int64) (p1 : Int32) (p2 : Int32) : Option Int32 := (Option.bind (f_X11_isWithin p1 0 1) (fun q1 => (if q1 = 0 then (some ((-2))) else (Option.bind (f_X11_isWithin p2 0 42) (fun q3 => (if q3 = 0 then (some ((-2))) else (if p1 = 0 then (Option.bind (f_X2_bitAgo_5 j5 p2) (fun q7 => (some q7))) else (Option.bind (f_X2_bitAgo_19 j19 p2) (fun q6 => (some q6))))))))))
set_option maxRecDepth 100000 in
set_option maxHeartbeats 400000 in
theorem v_X11_stage_0 (s0 : XW) (o4 : Nat → Int32) (j5 : Int64) (o16 : Nat → Int32) (j19 : Int64) (p1 : Int32) (p2 : Int32) (q : Int32) (h : f_X11_stage_0 o4 j5 o16 j19 p1 p2 = some q) : C_X11_stage 1 61 [.ref 0, .int p1, .int p2] (xof s0 [W_0, W_4 o4, W_5 j5, W_16 o16, W_19 j19]) (some (.int q)) (xof s0 [W_0, W_4 o4, W_5 j5, W_16 o16, W_19 j19]) := by
  unfold f_X11_stage_0 at h
  show V yX11_stage cX11_stage (some .int) 1 61 (0, 0) 0 [some (.ref 0), some (.int p1), some (.int p2)] [] (xof s0 [W_0, W_4 o4, W_5 j5, W_16 o16, W_19 j19]) _
  refine x_iload_n dX11_stage_0 rfl ?_
  refine x_iconst (v := 0) dX11_stage_1 (by decide) ?_
  refine x_iconst (v := 1) dX11_stage_2 (by decide) ?_
  obtain ⟨q1, hq1, h⟩ := Option.bind_eq_some_iff.mp h
  refine y_callSi (L' := [(0, _), (4, _), (5, _), (16, _), (19, _)]) mi_X11_isWithin ml_X11_100 st_X11_isWithin dX11_stage_3 (fun s1 => v_X11_isWithin 61 s1 _ _ _ q1 hq1) (Nat.le_of_ble_eq_true rfl) rfl (by decide) (Nat.le_of_ble_eq_true rfl) rfl rfl rfl rfl ?_
  refine x_if_eq (tgt := 19) dX11_stage_6 (by decide) (fun c2 => ?_) (fun c2 => ?_)
  · replace h := xif_p c2 h
    refine x_bipush (v := -2) dX11_stage_19 (by decide) ?_
    cases h
    exact x_iret dX11_stage_21 ⟨rfl, rfl, rfl⟩
  · replace h := xif_n c2 h
    refine x_iload_n dX11_stage_9 rfl ?_
    refine x_iconst (v := 0) dX11_stage_10 (by decide) ?_
    refine x_bipush (v := 42) dX11_stage_11 (by decide) ?_
    obtain ⟨q3, hq3, h⟩ := Option.bind_eq_some_iff.mp h
    refine y_callSi (L' := [(0, _), (4, _), (5, _), (16, _), (19, _)]) mi_X11_isWithin ml_X11_100 st_X11_isWithin dX11_stage_13 (fun s1 => v_X11_isWithin 61 s1 _ _ _ q3 hq3) (Nat.le_of_ble_eq_true rfl) rfl (by decide) (Nat.le_of_ble_eq_true rfl) rfl rfl rfl rfl ?_
    refine x_if_ne (tgt := 22) dX11_stage_16 (by decide) (fun c4 => ?_) (fun c4 => ?_)
    · replace h := xif_n c4 h
      refine x_iload_n dX11_stage_22 rfl ?_
      refine x_if_ne (tgt := 40) dX11_stage_23 (by decide) (fun c5 => ?_) (fun c5 => ?_)
      · replace h := xif_n c5 h
        refine x_aload_n dX11_stage_40 rfl ?_
        refine g_X11_47 rfl dX11_stage_41 (by decide) rfl rfl ?_
        refine g_X11_185 rfl dX11_stage_44 (by decide) rfl rfl ?_
        refine x_iload_n dX11_stage_47 rfl ?_
        obtain ⟨q6, hq6, h⟩ := Option.bind_eq_some_iff.mp h
        refine y_callVi (L' := [(0, _), (4, _), (5, _), (16, _), (19, _)]) mi_X2_bitAgo ml_X11_180 im_X2_bitAgo se_X2_bitAgo (rfl : vwCl[1]? = _) dX11_stage_48 (fun s1 => v_X2_bitAgo_19 s1 _ _ q6 hq6) (by decide) rfl (Nat.le_of_ble_eq_true rfl) rfl (by decide) (Nat.le_of_ble_eq_true rfl) rfl rfl rfl rfl ?_
        cases h
        exact x_iret dX11_stage_51 ⟨rfl, rfl, rfl⟩
      · replace h := xif_p c5 h
        refine x_aload_n dX11_stage_26 rfl ?_
        refine g_X11_31 rfl dX11_stage_27 (by decide) rfl rfl ?_
        refine g_X11_176 rfl dX11_stage_30 (by decide) rfl rfl ?_
        refine x_iload_n dX11_stage_33 rfl ?_
        obtain ⟨q7, hq7, h⟩ := Option.bind_eq_some_iff.mp h
        refine y_callVi (L' := [(0, _), (4, _), (5, _), (16, _), (19, _)]) mi_X2_bitAgo ml_X11_180 im_X2_bitAgo se_X2_bitAgo (rfl : vwCl[1]? = _) dX11_stage_34 (fun s1 => v_X2_bitAgo_5 s1 _ _ q7 hq7) (by decide) rfl (Nat.le_of_ble_eq_true rfl) rfl (by decide) (Nat.le_of_ble_eq_true rfl) rfl rfl rfl rfl ?_
        refine x_goto (tgt := 51) dX11_stage_37 (by decide) ?_
        cases h
        exact x_iret dX11_stage_51 ⟨rfl, rfl, rfl⟩
    · replace h := xif_p c4 h
      refine x_bipush (v := -2) dX11_stage_19 (by decide) ?_
      cases h
      exact x_iret dX11_stage_21 ⟨rfl, rfl, rfl⟩
def f_X2_set_19 (j19 : Int64) (p1 : Int32) (p2 : Int32) : Option Int64 := (some (((((Int32.toInt64 p2) &&& 4294967295) <<< (Int32.toInt64 11 &&& 63)) ||| (Int32.toInt64 (p1 &&& 2047)))))
set_option maxRecDepth 100000 in
set_option maxHeartbeats 400000 in
theorem v_X2_set_19 (s0 : XW) (j19 : Int64) (p1 : Int32) (p2 : Int32) (q : Int64) (h : f_X2_set_19 j19 p1 p2 = some q) : C_X2_set 0 61 [.ref 19, .int p1, .int p2] (xof s0 [W_19 j19]) none (xof s0 [W_19 q]) := by
  unfold f_X2_set_19 at h
  show V yX2_set cX2_set none 0 61 (0, 0) 0 [some (.ref 19), some (.int p1), some (.int p2)] [] (xof s0 [W_19 j19]) _
  refine x_aload_n dX2_set_0 rfl ?_
  refine x_iload_n dX2_set_1 rfl ?_
  refine x_i2l dX2_set_2 ?_
  refine x_ldc2 dX2_set_3 cn_X2_15 ?_
  refine x_land dX2_set_6 ?_
  refine x_bipush (v := 11) dX2_set_7 (by decide) ?_
  refine x_lshl dX2_set_9 ?_
  refine x_iload_n dX2_set_10 rfl ?_
  refine x_sipush (v := 2047) dX2_set_11 (by decide) ?_
  refine x_iand dX2_set_14 ?_
  refine x_i2l dX2_set_15 ?_
  refine x_lor dX2_set_16 ?_
  refine p_X2_9 (fs' := [_]) (L' := [(19, _)]) rfl dX2_set_17 (by decide) rfl (Nat.le_of_ble_eq_true rfl) rfl rfl ?_
  cases h
  exact x_vret dX2_set_20 ⟨rfl, rfl, rfl⟩
def f_J13_bitCount_95d88  (p0 : Int64) : Option Int32 := (some (((Int64.toInt32 ((((((((p0 - ((xul p0 1) &&& 6148914691236517205)) &&& 3689348814741910323) + ((xul (p0 - ((xul p0 1) &&& 6148914691236517205)) 2) &&& 3689348814741910323)) + (xul (((p0 - ((xul p0 1) &&& 6148914691236517205)) &&& 3689348814741910323) + ((xul (p0 - ((xul p0 1) &&& 6148914691236517205)) 2) &&& 3689348814741910323)) 4)) &&& 1085102592571150095) + (xul (((((p0 - ((xul p0 1) &&& 6148914691236517205)) &&& 3689348814741910323) + ((xul (p0 - ((xul p0 1) &&& 6148914691236517205)) 2) &&& 3689348814741910323)) + (xul (((p0 - ((xul p0 1) &&& 6148914691236517205)) &&& 3689348814741910323) + ((xul (p0 - ((xul p0 1) &&& 6148914691236517205)) 2) &&& 3689348814741910323)) 4)) &&& 1085102592571150095) 8)) + (xul ((((((p0 - ((xul p0 1) &&& 6148914691236517205)) &&& 3689348814741910323) + ((xul (p0 - ((xul p0 1) &&& 6148914691236517205)) 2) &&& 3689348814741910323)) + (xul (((p0 - ((xul p0 1) &&& 6148914691236517205)) &&& 3689348814741910323) + ((xul (p0 - ((xul p0 1) &&& 6148914691236517205)) 2) &&& 3689348814741910323)) 4)) &&& 1085102592571150095) + (xul (((((p0 - ((xul p0 1) &&& 6148914691236517205)) &&& 3689348814741910323) + ((xul (p0 - ((xul p0 1) &&& 6148914691236517205)) 2) &&& 3689348814741910323)) + (xul (((p0 - ((xul p0 1) &&& 6148914691236517205)) &&& 3689348814741910323) + ((xul (p0 - ((xul p0 1) &&& 6148914691236517205)) 2) &&& 3689348814741910323)) 4)) &&& 1085102592571150095) 8)) 16)) + (xul (((((((p0 - ((xul p0 1) &&& 6148914691236517205)) &&& 3689348814741910323) + ((xul (p0 - ((xul p0 1) &&& 6148914691236517205)) 2) &&& 3689348814741910323)) + (xul (((p0 - ((xul p0 1) &&& 6148914691236517205)) &&& 3689348814741910323) + ((xul (p0 - ((xul p0 1) &&& 6148914691236517205)) 2) &&& 3689348814741910323)) 4)) &&& 1085102592571150095) + (xul (((((p0 - ((xul p0 1) &&& 6148914691236517205)) &&& 3689348814741910323) + ((xul (p0 - ((xul p0 1) &&& 6148914691236517205)) 2) &&& 3689348814741910323)) + (xul (((p0 - ((xul p0 1) &&& 6148914691236517205)) &&& 3689348814741910323) + ((xul (p0 - ((xul p0 1) &&& 6148914691236517205)) 2) &&& 3689348814741910323)) 4)) &&& 1085102592571150095) 8)) + (xul ((((((p0 - ((xul p0 1) &&& 6148914691236517205)) &&& 3689348814741910323) + ((xul (p0 - ((xul p0 1) &&& 6148914691236517205)) 2) &&& 3689348814741910323)) + (xul (((p0 - ((xul p0 1) &&& 6148914691236517205)) &&& 3689348814741910323) + ((xul (p0 - ((xul p0 1) &&& 6148914691236517205)) 2) &&& 3689348814741910323)) 4)) &&& 1085102592571150095) + (xul (((((p0 - ((xul p0 1) &&& 6148914691236517205)) &&& 3689348814741910323) + ((xul (p0 - ((xul p0 1) &&& 6148914691236517205)) 2) &&& 3689348814741910323)) + (xul (((p0 - ((xul p0 1) &&& 6148914691236517205)) &&& 3689348814741910323) + ((xul (p0 - ((xul p0 1) &&& 6148914691236517205)) 2) &&& 3689348814741910323)) 4)) &&& 1085102592571150095) 8)) 16)) 32))) &&& 127)))
set_option maxRecDepth 100000 in
set_option maxHeartbeats 400000 in
theorem v_J13_bitCount_95d88 (N : Nat) (s0 : XW)  (p0 : Int64) (q : Int32) (h : f_J13_bitCount_95d88 p0 = some q) : C_J13_bitCount_95d88 0 N [.long p0] (xof s0 []) (some (.int q)) (xof s0 []) := by
  unfold f_J13_bitCount_95d88 at h
  show V yJ13_bitCount_95d88 cJ13_bitCount_95d88 (some .int) 0 N (0, 0) 0 [some (.long p0), none] [] (xof s0 []) _
  refine x_lload_n dJ13_bitCount_95d88_0 rfl ?_
  refine x_lload_n dJ13_bitCount_95d88_1 rfl ?_
  refine x_iconst (v := 1) dJ13_bitCount_95d88_2 (by decide) ?_
  refine x_lushr dJ13_bitCount_95d88_3 ?_
  refine x_ldc2 dJ13_bitCount_95d88_4 cn_J13_314 ?_
  refine x_land dJ13_bitCount_95d88_7 ?_
  refine x_lsub dJ13_bitCount_95d88_8 ?_
  refine x_lstore_n (ls' := [_, _]) dJ13_bitCount_95d88_9 rfl rfl ?_
  refine x_lload_n dJ13_bitCount_95d88_10 rfl ?_
  refine x_ldc2 dJ13_bitCount_95d88_11 cn_J13_316 ?_
  refine x_land dJ13_bitCount_95d88_14 ?_
  refine x_lload_n dJ13_bitCount_95d88_15 rfl ?_
  refine x_iconst (v := 2) dJ13_bitCount_95d88_16 (by decide) ?_
  refine x_lushr dJ13_bitCount_95d88_17 ?_
  refine x_ldc2 dJ13_bitCount_95d88_18 cn_J13_316 ?_
  refine x_land dJ13_bitCount_95d88_21 ?_
  refine x_ladd dJ13_bitCount_95d88_22 ?_
  refine x_lstore_n (ls' := [_, _]) dJ13_bitCount_95d88_23 rfl rfl ?_
  refine x_lload_n dJ13_bitCount_95d88_24 rfl ?_
  refine x_lload_n dJ13_bitCount_95d88_25 rfl ?_
  refine x_iconst (v := 4) dJ13_bitCount_95d88_26 (by decide) ?_
  refine x_lushr dJ13_bitCount_95d88_27 ?_
  refine x_ladd dJ13_bitCount_95d88_28 ?_
  refine x_ldc2 dJ13_bitCount_95d88_29 cn_J13_318 ?_
  refine x_land dJ13_bitCount_95d88_32 ?_
  refine x_lstore_n (ls' := [_, _]) dJ13_bitCount_95d88_33 rfl rfl ?_
  refine x_lload_n dJ13_bitCount_95d88_34 rfl ?_
  refine x_lload_n dJ13_bitCount_95d88_35 rfl ?_
  refine x_bipush (v := 8) dJ13_bitCount_95d88_36 (by decide) ?_
  refine x_lushr dJ13_bitCount_95d88_38 ?_
  refine x_ladd dJ13_bitCount_95d88_39 ?_
  refine x_lstore_n (ls' := [_, _]) dJ13_bitCount_95d88_40 rfl rfl ?_
  refine x_lload_n dJ13_bitCount_95d88_41 rfl ?_
  refine x_lload_n dJ13_bitCount_95d88_42 rfl ?_
  refine x_bipush (v := 16) dJ13_bitCount_95d88_43 (by decide) ?_
  refine x_lushr dJ13_bitCount_95d88_45 ?_
  refine x_ladd dJ13_bitCount_95d88_46 ?_
  refine x_lstore_n (ls' := [_, _]) dJ13_bitCount_95d88_47 rfl rfl ?_
  refine x_lload_n dJ13_bitCount_95d88_48 rfl ?_
  refine x_lload_n dJ13_bitCount_95d88_49 rfl ?_
  refine x_bipush (v := 32) dJ13_bitCount_95d88_50 (by decide) ?_
  refine x_lushr dJ13_bitCount_95d88_52 ?_
  refine x_ladd dJ13_bitCount_95d88_53 ?_
  refine x_lstore_n (ls' := [_, _]) dJ13_bitCount_95d88_54 rfl rfl ?_
  refine x_lload_n dJ13_bitCount_95d88_55 rfl ?_
  refine x_l2i dJ13_bitCount_95d88_56 ?_
  refine x_bipush (v := 127) dJ13_bitCount_95d88_57 (by decide) ?_
  refine x_iand dJ13_bitCount_95d88_59 ?_
  cases h
  exact x_iret dJ13_bitCount_95d88_60 ⟨rfl, rfl, rfl⟩
def f_X2_ones_19 (j19 : Int64)  : Option Int32 := (Option.bind (f_J13_bitCount_95d88 j19) (fun q1 => (some q1)))
set_option maxRecDepth 100000 in
set_option maxHeartbeats 400000 in
theorem v_X2_ones_19 (s0 : XW) (j19 : Int64)  (q : Int32) (h : f_X2_ones_19 j19 = some q) : C_X2_ones 1 61 [.ref 19] (xof s0 [W_19 j19]) (some (.int q)) (xof s0 [W_19 j19]) := by
  unfold f_X2_ones_19 at h
  show V yX2_ones cX2_ones (some .int) 1 61 (0, 0) 0 [some (.ref 19)] [] (xof s0 [W_19 j19]) _
  refine x_aload_n dX2_ones_0 rfl ?_
  refine g_X2_9 rfl dX2_ones_1 (by decide) rfl rfl ?_
  obtain ⟨q1, hq1, h⟩ := Option.bind_eq_some_iff.mp h
  refine y_callSi (L' := [(19, _)]) mi_J13_bitCount_95d88 ml_X2_19 st_J13_bitCount_95d88 dX2_ones_4 (fun s1 => v_J13_bitCount_95d88 61 s1 _ q1 hq1) (Nat.le_of_ble_eq_true rfl) rfl (by decide) (Nat.le_of_ble_eq_true rfl) rfl rfl rfl rfl ?_
  cases h
  exact x_iret dX2_ones_7 ⟨rfl, rfl, rfl⟩
def f_X11_stages_0 (o16 : Nat → Int32) (j19 : Int64) (p1 : Int32) (p2 : Int32) : Option (((Int32) × (Int64))) := (Option.bind (f_X11_isWithin p1 0 2047) (fun q1 => (if q1 = 0 then (some ((-3), j19)) else (Option.bind (f_X2_set_19 j19 p1 p2) (fun q3 => (Option.bind (f_X2_ones_19 q3) (fun q4 => (some (q4, q3)))))))))
set_option maxRecDepth 100000 in
set_option maxHeartbeats 400000 in
theorem v_X11_stages_0 (s0 : XW) (o16 : Nat → Int32) (j19 : Int64) (p1 : Int32) (p2 : Int32) (q : ((Int32) × (Int64))) (h : f_X11_stages_0 o16 j19 p1 p2 = some q) : C_X11_stages 2 61 [.ref 0, .int p1, .int p2] (xof s0 [W_0, W_16 o16, W_19 j19]) (some (.int q.1)) (xof s0 [W_0, W_16 o16, W_19 q.2]) := by
  unfold f_X11_stages_0 at h
  show V yX11_stages cX11_stages (some .int) 2 61 (0, 0) 0 [some (.ref 0), some (.int p1), some (.int p2)] [] (xof s0 [W_0, W_16 o16, W_19 j19]) _
  refine x_iload_n dX11_stages_0 rfl ?_
  refine x_iconst (v := 0) dX11_stages_1 (by decide) ?_
  refine x_sipush (v := 2047) dX11_stages_2 (by decide) ?_
  obtain ⟨q1, hq1, h⟩ := Option.bind_eq_some_iff.mp h
  refine y_callSi (L' := [(0, _), (16, _), (19, _)]) mi_X11_isWithin ml_X11_100 st_X11_isWithin dX11_stages_5 (fun s1 => v_X11_isWithin 61 s1 _ _ _ q1 hq1) (Nat.le_of_ble_eq_true rfl) rfl (by decide) (Nat.le_of_ble_eq_true rfl) rfl rfl rfl rfl ?_
  refine x_if_ne (tgt := 14) dX11_stages_8 (by decide) (fun c2 => ?_) (fun c2 => ?_)
  · replace h := xif_n c2 h
    refine x_aload_n dX11_stages_14 rfl ?_
    refine g_X11_47 rfl dX11_stages_15 (by decide) rfl rfl ?_
    refine g_X11_185 rfl dX11_stages_18 (by decide) rfl rfl ?_
    refine x_iload_n dX11_stages_21 rfl ?_
    refine x_iload_n dX11_stages_22 rfl ?_
    obtain ⟨q3, hq3, h⟩ := Option.bind_eq_some_iff.mp h
    refine y_callVv (L' := [(0, _), (16, _), (19, _)]) mi_X2_set ml_X11_186 im_X2_set se_X2_set (rfl : vwCl[1]? = _) dX11_stages_23 (fun s1 => v_X2_set_19 s1 _ _ _ q3 hq3) (by decide) rfl (Nat.le_of_ble_eq_true rfl) rfl (by decide) (Nat.le_of_ble_eq_true rfl) rfl rfl rfl rfl ?_
    refine x_aload_n dX11_stages_26 rfl ?_
    refine g_X11_47 rfl dX11_stages_27 (by decide) rfl rfl ?_
    refine g_X11_185 rfl dX11_stages_30 (by decide) rfl rfl ?_
    obtain ⟨q4, hq4, h⟩ := Option.bind_eq_some_iff.mp h
    refine y_callVi (L' := [(0, _), (16, _), (19, _)]) mi_X2_ones ml_X11_189 im_X2_ones se_X2_ones (rfl : vwCl[1]? = _) dX11_stages_33 (fun s1 => v_X2_ones_19 s1 _ q4 hq4) (by decide) rfl (Nat.le_of_ble_eq_true rfl) rfl (by decide) (Nat.le_of_ble_eq_true rfl) rfl rfl rfl rfl ?_
    cases h
    exact x_iret dX11_stages_36 ⟨rfl, rfl, rfl⟩
  · replace h := xif_p c2 h
    refine x_bipush (v := -3) dX11_stages_11 (by decide) ?_
    cases h
    exact x_iret dX11_stages_13 ⟨rfl, rfl, rfl⟩
def f_X10_isFull_18 (o18 : Nat → Int32) (j18 : Int64)  : Option Int32 := (if (o18 2) < 40 then (some 0) else (some 1))
set_option maxRecDepth 100000 in
set_option maxHeartbeats 400000 in
theorem v_X10_isFull_18 (s0 : XW) (o18 : Nat → Int32) (j18 : Int64)  (q : Int32) (h : f_X10_isFull_18 o18 j18 = some q) : C_X10_isFull 0 61 [.ref 18] (xof s0 [W_18 o18 j18]) (some (.int q)) (xof s0 [W_18 o18 j18]) := by
  unfold f_X10_isFull_18 at h
  show V yX10_isFull cX10_isFull (some .boolean) 0 61 (0, 0) 0 [some (.ref 18)] [] (xof s0 [W_18 o18 j18]) _
  refine x_aload_n dX10_isFull_0 rfl ?_
  refine g_X10_19 rfl dX10_isFull_1 (by decide) rfl rfl ?_
  refine x_bipush (v := 40) dX10_isFull_4 (by decide) ?_
  refine x_icmp_lt (tgt := 13) dX10_isFull_6 (by decide) (fun c1 => ?_) (fun c1 => ?_)
  · replace h := xif_p c1 h
    refine x_iconst (v := 0) dX10_isFull_13 (by decide) ?_
    cases h
    exact x_zret dX10_isFull_14 (Or.inl rfl) ⟨rfl, rfl, rfl⟩
  · replace h := xif_n c1 h
    refine x_iconst (v := 1) dX10_isFull_9 (by decide) ?_
    refine x_goto (tgt := 14) dX10_isFull_10 (by decide) ?_
    cases h
    exact x_zret dX10_isFull_14 (Or.inr rfl) ⟨rfl, rfl, rfl⟩
def f_X6_headTaken_16 (a1 : Nat → Int32) (o16 : Nat → Int32)  : Option Int32 := (Option.bind (f_X6_loadBits_16 a1 o16) (fun q1 => (if q1 ≤ (o16 15) then (Option.bind (f_X6_loadBits_16 a1 o16) (fun q3 => (some (((o16 15) - q3))))) else (some 0))))
set_option maxRecDepth 100000 in
set_option maxHeartbeats 400000 in
theorem v_X6_headTaken_16 (s0 : XW) (a1 : Nat → Int32) (o16 : Nat → Int32)  (q : Int32) (h : f_X6_headTaken_16 a1 o16 = some q) : C_X6_headTaken 1 61 [.ref 16] (xof s0 [W_1 a1, W_16 o16]) (some (.int q)) (xof s0 [W_1 a1, W_16 o16]) := by
  unfold f_X6_headTaken_16 at h
  show V yX6_headTaken cX6_headTaken (some .int) 1 61 (0, 0) 0 [some (.ref 16)] [] (xof s0 [W_1 a1, W_16 o16]) _
  refine x_aload_n dX6_headTaken_0 rfl ?_
  refine g_X6_80 rfl dX6_headTaken_1 (by decide) rfl rfl ?_
  refine x_aload_n dX6_headTaken_4 rfl ?_
  obtain ⟨q1, hq1, h⟩ := Option.bind_eq_some_iff.mp h
  refine y_callVi (L' := [(1, _), (16, _)]) mi_X6_loadBits ml_X6_105 im_X6_loadBits se_X6_loadBits (rfl : vwCl[5]? = _) dX6_headTaken_5 (fun s1 => v_X6_loadBits_16 s1 _ _ q1 hq1) (by decide) rfl (Nat.le_of_ble_eq_true rfl) rfl (by decide) (Nat.le_of_ble_eq_true rfl) rfl rfl rfl rfl ?_
  refine x_icmp_ge (tgt := 15) dX6_headTaken_8 (by decide) (fun c2 => ?_) (fun c2 => ?_)
  · replace h := xif_p c2 h
    refine x_aload_n dX6_headTaken_15 rfl ?_
    refine g_X6_80 rfl dX6_headTaken_16 (by decide) rfl rfl ?_
    refine x_aload_n dX6_headTaken_19 rfl ?_
    obtain ⟨q3, hq3, h⟩ := Option.bind_eq_some_iff.mp h
    refine y_callVi (L' := [(1, _), (16, _)]) mi_X6_loadBits ml_X6_105 im_X6_loadBits se_X6_loadBits (rfl : vwCl[5]? = _) dX6_headTaken_20 (fun s1 => v_X6_loadBits_16 s1 _ _ q3 hq3) (by decide) rfl (Nat.le_of_ble_eq_true rfl) rfl (by decide) (Nat.le_of_ble_eq_true rfl) rfl rfl rfl rfl ?_
    refine x_isub dX6_headTaken_23 ?_
    cases h
    exact x_iret dX6_headTaken_24 ⟨rfl, rfl, rfl⟩
  · replace h := xif_n c2 h
    refine x_iconst (v := 0) dX6_headTaken_11 (by decide) ?_
    refine x_goto (tgt := 24) dX6_headTaken_12 (by decide) ?_
    cases h
    exact x_iret dX6_headTaken_24 ⟨rfl, rfl, rfl⟩
