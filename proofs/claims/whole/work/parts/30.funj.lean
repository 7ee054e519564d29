def f_X6_hunt_27 (o27 : Nat → Int32) (a28 : Nat → Int32) (a29 : Nat → Int32) (o30 : Nat → Int32) (j30 : Int64) (p1 : Int32) : Option (((Nat → Int32) × (Nat → Int32))) := (Option.bind (f_X10_looksRight_30 o30 j30) (fun q1 => (if q1 = 0 then (some (upd o27 14 (((o27 14) + 1)), a29)) else (if (a28 6) ≤ 0 then (some (upd o27 14 (((o27 14) + 1)), a29)) else (bif xnz (a28 6) then (if (((o27 14) + 1) - ((o27 14) + 1) / (a28 6) * (a28 6)) = 0 then (Option.bind (f_X6_become_27 (upd (upd o27 8 0) 14 (((o27 14) + 1))) a29 1 p1) (fun q6 => (some (q6.1, q6.2)))) else (some (upd o27 14 (((o27 14) + 1)), a29))) else none)))))
set_option maxRecDepth 100000 in
set_option maxHeartbeats 400000 in
theorem v_X6_hunt_27 (s0 : XW) (o27 : Nat → Int32) (a28 : Nat → Int32) (a29 : Nat → Int32) (o30 : Nat → Int32) (j30 : Int64) (p1 : Int32) (q : ((Nat → Int32) × (Nat → Int32))) (h : f_X6_hunt_27 o27 a28 a29 o30 j30 p1 = some q) : C_X6_hunt 1 61 [.ref 27, .int p1] (xof s0 [W_27 o27, W_28 a28, W_29 a29, W_30 o30 j30]) none (xof s0 [W_27 q.1, W_28 a28, W_29 q.2, W_30 o30 j30]) := by
  unfold f_X6_hunt_27 at h
  show V yX6_hunt cX6_hunt none 1 61 (0, 0) 0 [some (.ref 27), some (.int p1), none] [] (xof s0 [W_27 o27, W_28 a28, W_29 a29, W_30 o30 j30]) _
  refine x_aload_n dX6_hunt_0 rfl ?_
  refine x_dup dX6_hunt_1 rfl ?_
  refine g_X6_77 rfl dX6_hunt_2 (by decide) rfl rfl ?_
  refine x_iconst (v := 1) dX6_hunt_5 (by decide) ?_
  refine x_iadd dX6_hunt_6 ?_
  refine p_X6_77 (fs' := [_, _, _, _, _, _, _, _, _, _, _, _, _, _, _, _, _, _, _]) (L' := [(27, _), (28, _), (29, _), (30, _)]) rfl dX6_hunt_7 (by decide) rfl (Nat.le_of_ble_eq_true rfl) rfl rfl ?_
  refine x_aload_n dX6_hunt_10 rfl ?_
  refine g_X6_33 rfl dX6_hunt_11 (by decide) rfl rfl ?_
  refine x_bipush (v := 6) dX6_hunt_14 (by decide) ?_
  refine x_ialdK (jn := 6) (v := (a28 6)) dX6_hunt_16 (by decide) rfl (xin_ok (by decide)) (by decide) rfl ?_
  refine x_istore_n (ls' := [_, _, _]) dX6_hunt_17 rfl rfl ?_
  refine x_aload_n dX6_hunt_18 rfl ?_
  refine g_X6_18 rfl dX6_hunt_19 (by decide) rfl rfl ?_
  obtain ⟨q1, hq1, h⟩ := Option.bind_eq_some_iff.mp h
  refine y_callVi (L' := [(27, _), (28, _), (29, _), (30, _)]) mi_X10_looksRight ml_X6_129 im_X10_looksRight se_X10_looksRight (rfl : vwCl[9]? = _) dX6_hunt_22 (fun s1 => v_X10_looksRight_30 s1 _ _ q1 hq1) (by decide) rfl (Nat.le_of_ble_eq_true rfl) rfl (by decide) (Nat.le_of_ble_eq_true rfl) rfl rfl rfl rfl ?_
  refine x_if_eq (tgt := 52) dX6_hunt_25 (by decide) (fun c2 => ?_) (fun c2 => ?_)
  · replace h := xif_p c2 h
    cases h
    exact x_vret dX6_hunt_52 ⟨rfl, rfl, rfl⟩
  · replace h := xif_n c2 h
    refine x_iload_n dX6_hunt_28 rfl ?_
    refine x_if_le (tgt := 52) dX6_hunt_29 (by decide) (fun c3 => ?_) (fun c3 => ?_)
    · replace h := xif_p c3 h
      cases h
      exact x_vret dX6_hunt_52 ⟨rfl, rfl, rfl⟩
    · replace h := xif_n c3 h
      refine x_aload_n dX6_hunt_32 rfl ?_
      refine g_X6_77 rfl dX6_hunt_33 (by decide) rfl rfl ?_
      refine x_iload_n dX6_hunt_36 rfl ?_
      obtain ⟨c4, h⟩ := xck h
      refine x_irem dX6_hunt_37 (xnz_ok c4) ?_
      refine x_if_ne (tgt := 52) dX6_hunt_38 (by decide) (fun c5 => ?_) (fun c5 => ?_)
      · replace h := xif_n c5 h
        cases h
        exact x_vret dX6_hunt_52 ⟨rfl, rfl, rfl⟩
      · replace h := xif_p c5 h
        refine x_aload_n dX6_hunt_41 rfl ?_
        refine x_iconst (v := 0) dX6_hunt_42 (by decide) ?_
        refine p_X6_58 (fs' := [_, _, _, _, _, _, _, _, _, _, _, _, _, _, _, _, _, _, _]) (L' := [(27, _), (28, _), (29, _), (30, _)]) rfl dX6_hunt_43 (by decide) rfl (Nat.le_of_ble_eq_true rfl) rfl rfl ?_
        refine x_aload_n dX6_hunt_46 rfl ?_
        refine x_iconst (v := 1) dX6_hunt_47 (by decide) ?_
        refine x_iload_n dX6_hunt_48 rfl ?_
        obtain ⟨q6, hq6, h⟩ := Option.bind_eq_some_iff.mp h
        refine y_callVv (L' := [(27, _), (28, _), (29, _), (30, _)]) mi_X6_become ml_X6_133 im_X6_become se_X6_become (rfl : vwCl[5]? = _) dX6_hunt_49 (fun s1 => v_X6_become_27 s1 _ _ _ _ q6 hq6) (by decide) rfl (Nat.le_of_ble_eq_true rfl) rfl (by decide) (Nat.le_of_ble_eq_true rfl) rfl rfl rfl rfl ?_
        cases h
        exact x_vret dX6_hunt_52 ⟨rfl, rfl, rfl⟩
def b_X6_watch_27_78  (o27 : Nat → Int32) (a28 : Nat → Int32) (a29 : Nat → Int32) (t1 : Int32) : Option (((Nat → Int32) × (Nat → Int32))) := (bif xb t1 then (some (upd o27 12 t1, a29)) else none)
set_option maxRecDepth 100000 in
set_option maxHeartbeats 400000 in
theorem vb_X6_watch_27_78 (s0 : XW)  (o27 : Nat → Int32) (a28 : Nat → Int32) (a29 : Nat → Int32) (t1 : Int32) (q : ((Nat → Int32) × (Nat → Int32))) (h : b_X6_watch_27_78 o27 a28 a29 t1 = some q) : V yX6_watch cX6_watch none 0 61 (0, 0) 78 [none, none, none] [.int t1, .ref 27] (xof s0 [W_27 o27, W_28 a28, W_29 a29]) (xq 61 none (xof s0 [W_27 q.1, W_28 a28, W_29 q.2])) := by
  unfold b_X6_watch_27_78 at h
  obtain ⟨c6, h⟩ := xck h
  refine p_X6_71 (fs' := [_, _, _, _, _, _, _, _, _, _, _, _, _, _, _, _, _, _, _]) (L' := [(27, _), (28, _), (29, _)]) rfl dX6_watch_78 (xb_ok c6) (by decide) rfl (Nat.le_of_ble_eq_true rfl) rfl rfl ?_
  cases h
  exact x_vret dX6_watch_81 ⟨rfl, rfl, rfl⟩
def b_X6_watch_27_68  (o27 : Nat → Int32) (a28 : Nat → Int32) (a29 : Nat → Int32) (l2 : Int32) : Option (((Nat → Int32) × (Nat → Int32))) := (if l2 = 0 then (b_X6_watch_27_78 o27 a28 a29 1) else (b_X6_watch_27_78 o27 a28 a29 0))
set_option maxRecDepth 100000 in
set_option maxHeartbeats 400000 in
theorem vb_X6_watch_27_68 (s0 : XW)  (o27 : Nat → Int32) (a28 : Nat → Int32) (a29 : Nat → Int32) (l2 : Int32) (q : ((Nat → Int32) × (Nat → Int32))) (h : b_X6_watch_27_68 o27 a28 a29 l2 = some q) : V yX6_watch cX6_watch none 0 61 (0, 0) 68 [some (.ref 27), none, some (.int l2)] [] (xof s0 [W_27 o27, W_28 a28, W_29 a29]) (xq 61 none (xof s0 [W_27 q.1, W_28 a28, W_29 q.2])) := by
  unfold b_X6_watch_27_68 at h
  refine x_aload_n dX6_watch_68 rfl ?_
  refine x_iload_n dX6_watch_69 rfl ?_
  refine x_if_ne (tgt := 77) dX6_watch_70 (by decide) (fun c5 => ?_) (fun c5 => ?_)
  · replace h := xif_n c5 h
    refine x_iconst (v := 0) dX6_watch_77 (by decide) ?_
    refine V.drop1 (i := 0) (ls' := [_, _, _]) rfl ?_
    refine V.drop1 (i := 2) (ls' := [_, _, _]) rfl ?_
    show V yX6_watch cX6_watch none 0 61 (0, 0) 78 [none, none, none] [.int 0, .ref 27] (xof s0 [W_27 o27, W_28 a28, W_29 a29]) _
    exact vb_X6_watch_27_78 s0 o27 a28 a29 0 q h
  · replace h := xif_p c5 h
    refine x_iconst (v := 1) dX6_watch_73 (by decide) ?_
    refine x_goto (tgt := 78) dX6_watch_74 (by decide) ?_
    refine V.drop1 (i := 0) (ls' := [_, _, _]) rfl ?_
    refine V.drop1 (i := 2) (ls' := [_, _, _]) rfl ?_
    show V yX6_watch cX6_watch none 0 61 (0, 0) 78 [none, none, none] [.int 1, .ref 27] (xof s0 [W_27 o27, W_28 a28, W_29 a29]) _
    exact vb_X6_watch_27_78 s0 o27 a28 a29 1 q h
def b_X6_watch_27_30  (o27 : Nat → Int32) (a28 : Nat → Int32) (a29 : Nat → Int32) (l2 : Int32) (t1 : Int32) : Option (((Nat → Int32) × (Nat → Int32))) := (if t1 < (a28 4) then (some (upd o27 13 t1, a29)) else (if l2 = 0 then (if (o27 12) = 0 then (b_X6_watch_27_68 (upd o27 13 t1) a28 (upd a29 11 (((a29 11) + 1))) l2) else (b_X6_watch_27_68 (upd o27 13 t1) a28 a29 l2)) else (b_X6_watch_27_68 (upd o27 13 t1) a28 a29 l2)))
set_option maxRecDepth 100000 in
set_option maxHeartbeats 400000 in
theorem vb_X6_watch_27_30 (s0 : XW)  (o27 : Nat → Int32) (a28 : Nat → Int32) (a29 : Nat → Int32) (l2 : Int32) (t1 : Int32) (q : ((Nat → Int32) × (Nat → Int32))) (h : b_X6_watch_27_30 o27 a28 a29 l2 t1 = some q) : V yX6_watch cX6_watch none 0 61 (0, 0) 30 [some (.ref 27), none, some (.int l2)] [.int t1, .ref 27] (xof s0 [W_27 o27, W_28 a28, W_29 a29]) (xq 61 none (xof s0 [W_27 q.1, W_28 a28, W_29 q.2])) := by
  unfold b_X6_watch_27_30 at h
  refine p_X6_74 (fs' := [_, _, _, _, _, _, _, _, _, _, _, _, _, _, _, _, _, _, _]) (L' := [(27, _), (28, _), (29, _)]) rfl dX6_watch_30 (by decide) rfl (Nat.le_of_ble_eq_true rfl) rfl rfl ?_
  refine x_aload_n dX6_watch_33 rfl ?_
  refine g_X6_74 rfl dX6_watch_34 (by decide) rfl rfl ?_
  refine x_aload_n dX6_watch_37 rfl ?_
  refine g_X6_33 rfl dX6_watch_38 (by decide) rfl rfl ?_
  refine x_iconst (v := 4) dX6_watch_41 (by decide) ?_
  refine x_ialdK (jn := 4) (v := (a28 4)) dX6_watch_42 (by decide) rfl (xin_ok (by decide)) (by decide) rfl ?_
  refine x_icmp_lt (tgt := 81) dX6_watch_43 (by decide) (fun c3 => ?_) (fun c3 => ?_)
  · replace h := xif_p c3 h
    cases h
    exact x_vret dX6_watch_81 ⟨rfl, rfl, rfl⟩
  · replace h := xif_n c3 h
    refine x_iload_n dX6_watch_46 rfl ?_
    refine x_if_ne (tgt := 68) dX6_watch_47 (by decide) (fun c4 => ?_) (fun c4 => ?_)
    · replace h := xif_n c4 h
      show V yX6_watch cX6_watch none 0 61 (0, 0) 68 [some (.ref 27), none, some (.int l2)] [] (xof s0 [W_27 (upd o27 13 t1), W_28 a28, W_29 a29]) _
      exact vb_X6_watch_27_68 s0 (upd o27 13 t1) a28 a29 l2 q h
    · replace h := xif_p c4 h
      refine x_aload_n dX6_watch_50 rfl ?_
      refine g_X6_71 rfl dX6_watch_51 (by decide) rfl rfl ?_
      refine x_if_ne (tgt := 68) dX6_watch_54 (by decide) (fun c7 => ?_) (fun c7 => ?_)
      · replace h := xif_n c7 h
        show V yX6_watch cX6_watch none 0 61 (0, 0) 68 [some (.ref 27), none, some (.int l2)] [] (xof s0 [W_27 (upd o27 13 t1), W_28 a28, W_29 a29]) _
        exact vb_X6_watch_27_68 s0 (upd o27 13 t1) a28 a29 l2 q h
      · replace h := xif_p c7 h
        refine x_aload_n dX6_watch_57 rfl ?_
        refine g_X6_9 rfl dX6_watch_58 (by decide) rfl rfl ?_
        refine x_bipush (v := 11) dX6_watch_61 (by decide) ?_
        refine x_dup2 dX6_watch_63 rfl rfl ?_
        refine x_ialdK (jn := 11) (v := (a29 11)) dX6_watch_64 (by decide) rfl (xin_ok (by decide)) (by decide) rfl ?_
        refine x_iconst (v := 1) dX6_watch_65 (by decide) ?_
        refine x_iadd dX6_watch_66 ?_
        refine x_iastK (jn := 11) (L' := [(27, _), (28, _), (29, _)]) dX6_watch_67 (by decide) rfl (xin_ok (by decide)) (by decide) rfl ?_
        show V yX6_watch cX6_watch none 0 61 (0, 0) 68 [some (.ref 27), none, some (.int l2)] [] (xof s0 [W_27 (upd o27 13 t1), W_28 a28, W_29 (upd a29 11 (((a29 11) + 1)))]) _
        exact vb_X6_watch_27_68 s0 (upd o27 13 t1) a28 (upd a29 11 (((a29 11) + 1))) l2 q h
def b_X6_watch_27_13  (o27 : Nat → Int32) (a28 : Nat → Int32) (a29 : Nat → Int32) (l1 : Int32) (t0 : Int32) : Option (((Nat → Int32) × (Nat → Int32))) := (if t0 = l1 then (b_X6_watch_27_30 o27 a28 a29 t0 (((o27 13) + 1))) else (b_X6_watch_27_30 o27 a28 a29 t0 1))
set_option maxRecDepth 100000 in
set_option maxHeartbeats 400000 in
theorem vb_X6_watch_27_13 (s0 : XW)  (o27 : Nat → Int32) (a28 : Nat → Int32) (a29 : Nat → Int32) (l1 : Int32) (t0 : Int32) (q : ((Nat → Int32) × (Nat → Int32))) (h : b_X6_watch_27_13 o27 a28 a29 l1 t0 = some q) : V yX6_watch cX6_watch none 0 61 (0, 0) 13 [some (.ref 27), some (.int l1), none] [.int t0] (xof s0 [W_27 o27, W_28 a28, W_29 a29]) (xq 61 none (xof s0 [W_27 q.1, W_28 a28, W_29 q.2])) := by
  unfold b_X6_watch_27_13 at h
  refine x_istore_n (ls' := [_, _, _]) dX6_watch_13 rfl rfl ?_
  refine x_aload_n dX6_watch_14 rfl ?_
  refine x_iload_n dX6_watch_15 rfl ?_
  refine x_iload_n dX6_watch_16 rfl ?_
  refine x_icmp_ne (tgt := 29) dX6_watch_17 (by decide) (fun c2 => ?_) (fun c2 => ?_)
  · replace h := xif_n c2 h
    refine x_iconst (v := 1) dX6_watch_29 (by decide) ?_
    refine V.drop1 (i := 1) (ls' := [_, _, _]) rfl ?_
    show V yX6_watch cX6_watch none 0 61 (0, 0) 30 [some (.ref 27), none, some (.int t0)] [.int 1, .ref 27] (xof s0 [W_27 o27, W_28 a28, W_29 a29]) _
    exact vb_X6_watch_27_30 s0 o27 a28 a29 t0 1 q h
  · replace h := xif_p c2 h
    refine x_aload_n dX6_watch_20 rfl ?_
    refine g_X6_74 rfl dX6_watch_21 (by decide) rfl rfl ?_
    refine x_iconst (v := 1) dX6_watch_24 (by decide) ?_
    refine x_iadd dX6_watch_25 ?_
    refine x_goto (tgt := 30) dX6_watch_26 (by decide) ?_
    refine V.drop1 (i := 1) (ls' := [_, _, _]) rfl ?_
    show V yX6_watch cX6_watch none 0 61 (0, 0) 30 [some (.ref 27), none, some (.int t0)] [.int (((o27 13) + 1)), .ref 27] (xof s0 [W_27 o27, W_28 a28, W_29 a29]) _
    exact vb_X6_watch_27_30 s0 o27 a28 a29 t0 (((o27 13) + 1)) q h
def f_X6_watch_27 (o27 : Nat → Int32) (a28 : Nat → Int32) (a29 : Nat → Int32) (p1 : Int32) : Option (((Nat → Int32) × (Nat → Int32))) := (if (o27 7) = 2 then (b_X6_watch_27_13 o27 a28 a29 p1 1) else (b_X6_watch_27_13 o27 a28 a29 p1 0))
set_option maxRecDepth 100000 in
set_option maxHeartbeats 400000 in
theorem v_X6_watch_27 (s0 : XW) (o27 : Nat → Int32) (a28 : Nat → Int32) (a29 : Nat → Int32) (p1 : Int32) (q : ((Nat → Int32) × (Nat → Int32))) (h : f_X6_watch_27 o27 a28 a29 p1 = some q) : C_X6_watch 0 61 [.ref 27, .int p1] (xof s0 [W_27 o27, W_28 a28, W_29 a29]) none (xof s0 [W_27 q.1, W_28 a28, W_29 q.2]) := by
  unfold f_X6_watch_27 at h
  show V yX6_watch cX6_watch none 0 61 (0, 0) 0 [some (.ref 27), some (.int p1), none] [] (xof s0 [W_27 o27, W_28 a28, W_29 a29]) _
  refine x_aload_n dX6_watch_0 rfl ?_
  refine g_X6_54 rfl dX6_watch_1 (by decide) rfl rfl ?_
  refine x_iconst (v := 2) dX6_watch_4 (by decide) ?_
  refine x_icmp_ne (tgt := 12) dX6_watch_5 (by decide) (fun c1 => ?_) (fun c1 => ?_)
  · replace h := xif_n c1 h
    refine x_iconst (v := 0) dX6_watch_12 (by decide) ?_
    show V yX6_watch cX6_watch none 0 61 (0, 0) 13 [some (.ref 27), some (.int p1), none] [.int 0] (xof s0 [W_27 o27, W_28 a28, W_29 a29]) _
    exact vb_X6_watch_27_13 s0 o27 a28 a29 p1 0 q h
  · replace h := xif_p c1 h
    refine x_iconst (v := 1) dX6_watch_8 (by decide) ?_
    refine x_goto (tgt := 13) dX6_watch_9 (by decide) ?_
    show V yX6_watch cX6_watch none 0 61 (0, 0) 13 [some (.ref 27), some (.int p1), none] [.int 1] (xof s0 [W_27 o27, W_28 a28, W_29 a29]) _
    exact vb_X6_watch_27_13 s0 o27 a28 a29 p1 1 q h
def f_X2_push_31 (j31 : Int64) (p1 : Int32) : Option Int64 := (some ((((j31 <<< (Int32.toInt64 1 &&& 63)) ||| (Int32.toInt64 p1)) &&& 8796093022207)))
set_option maxRecDepth 100000 in
set_option maxHeartbeats 400000 in
theorem v_X2_push_31 (s0 : XW) (j31 : Int64) (p1 : Int32) (q : Int64) (h : f_X2_push_31 j31 p1 = some q) : C_X2_push 0 61 [.ref 31, .int p1] (xof s0 [W_31 j31]) none (xof s0 [W_31 q]) := by
  unfold f_X2_push_31 at h
  show V yX2_push cX2_push none 0 61 (0, 0) 0 [some (.ref 31), some (.int p1)] [] (xof s0 [W_31 j31]) _
  refine x_aload_n dX2_push_0 rfl ?_
  refine x_aload_n dX2_push_1 rfl ?_
  refine g_X2_9 rfl dX2_push_2 (by decide) rfl rfl ?_
  refine x_iconst (v := 1) dX2_push_5 (by decide) ?_
  refine x_lshl dX2_push_6 ?_
  refine x_iload_n dX2_push_7 rfl ?_
  refine x_i2l dX2_push_8 ?_
  refine x_lor dX2_push_9 ?_
  refine x_ldc2 dX2_push_10 cn_X2_17 ?_
  refine x_land dX2_push_13 ?_
  refine p_X2_9 (fs' := [_]) (L' := [(31, _)]) rfl dX2_push_14 (by decide) rfl (Nat.le_of_ble_eq_true rfl) rfl rfl ?_
  cases h
  exact x_vret dX2_push_17 ⟨rfl, rfl, rfl⟩
def l_X8_isLoadLike_4_32_37 (n : Nat) (o4 : Nat → Int32) (a7 : Nat → Int32) (a32 : Nat → Int32) (l3 : Int32) (l4 : Int32) (l5 : Int32) : Nat → (Int32) → Option (Int32 ⊕ Int32)
  | 0, _ => none
  | k + 1, l6 => (if l4 ≤ l6 then (some (Sum.inr l6)) else (bif xin (l5 + l6) 3072 then (bif xin (l3 + l6) 48 then (if (a7 (Int32.toNatClampNeg (l5 + l6))) = (a32 (Int32.toNatClampNeg (l3 + l6))) then (l_X8_isLoadLike_4_32_37 n o4 a7 a32 l3 l4 l5 k ((l6 + 1))) else (some (Sum.inl 0))) else none) else none))
set_option maxRecDepth 100000 in
set_option maxHeartbeats 400000 in
theorem lv_X8_isLoadLike_4_32_37 (s0 : XW) (n : Nat) (o4 : Nat → Int32) (a7 : Nat → Int32) (a32 : Nat → Int32) (l3 : Int32) (l4 : Int32) (l5 : Int32) (Q : Nat → Option Value → XW → Prop) : ∀ (k : Nat) (l6 : Int32) (o : Int32 ⊕ Int32), l_X8_isLoadLike_4_32_37 n o4 a7 a32 l3 l4 l5 k l6 = some o → ((∀ z, o = Sum.inl z → Q 61 (some (.int z)) (xof s0 [W_4 o4, W_7 a7, W_32 a32])) ∧ (∀ z, o = Sum.inr z → V yX8_isLoadLike cX8_isLoadLike (some .boolean) 0 61 (0, 0) 71 [none, none, none, none, none, none, none] [] (xof s0 [W_4 o4, W_7 a7, W_32 a32]) Q)) → V yX8_isLoadLike cX8_isLoadLike (some .boolean) 0 61 (0, 0) 37 [some (.ref 4), none, some (.ref 32), some (.int l3), some (.int l4), some (.int l5), some (.int l6)] [] (xof s0 [W_4 o4, W_7 a7, W_32 a32]) Q := by
  intro k
  induction k with
  | zero =>
    intro _ _ h
    simp [l_X8_isLoadLike_4_32_37] at h
  | succ k ih =>
    intro l6 o h hk
    rw [l_X8_isLoadLike_4_32_37] at h
    refine x_iload dX8_isLoadLike_37 rfl ?_
    refine x_iload dX8_isLoadLike_39 rfl ?_
    refine x_icmp_ge (tgt := 71) dX8_isLoadLike_41 (by decide) (fun c4 => ?_) (fun c4 => ?_)
    · replace h := xif_p c4 h
      refine V.drop1 (i := 0) (ls' := [_, _, _, _, _, _, _]) rfl ?_
      refine V.drop1 (i := 2) (ls' := [_, _, _, _, _, _, _]) rfl ?_
      refine V.drop1 (i := 3) (ls' := [_, _, _, _, _, _, _]) rfl ?_
      refine V.drop1 (i := 4) (ls' := [_, _, _, _, _, _, _]) rfl ?_
      refine V.drop1 (i := 5) (ls' := [_, _, _, _, _, _, _]) rfl ?_
      refine V.drop1 (i := 6) (ls' := [_, _, _, _, _, _, _]) rfl ?_
      show V yX8_isLoadLike cX8_isLoadLike (some .boolean) 0 61 (0, 0) 71 [none, none, none, none, none, none, none] [] (xof s0 [W_4 o4, W_7 a7, W_32 a32]) _
      cases h
      exact hk.2 l6 rfl
    · replace h := xif_n c4 h
      refine x_aload_n dX8_isLoadLike_44 rfl ?_
      refine g_X8_22 rfl dX8_isLoadLike_45 (by decide) rfl rfl ?_
      refine x_iload dX8_isLoadLike_48 rfl ?_
      refine x_iload dX8_isLoadLike_50 rfl ?_
      refine x_iadd dX8_isLoadLike_52 ?_
      obtain ⟨c5, h⟩ := xck h
      refine x_baldK (jn := (Int32.toNatClampNeg (l5 + l6))) (v := (a7 (Int32.toNatClampNeg (l5 + l6)))) dX8_isLoadLike_53 (by decide) rfl (xin_ok c5) rfl rfl ?_
      refine x_aload_n dX8_isLoadLike_54 rfl ?_
      refine x_iload_n dX8_isLoadLike_55 rfl ?_
      refine x_iload dX8_isLoadLike_56 rfl ?_
      refine x_iadd dX8_isLoadLike_58 ?_
      obtain ⟨c6, h⟩ := xck h
      refine x_baldK (jn := (Int32.toNatClampNeg (l3 + l6))) (v := (a32 (Int32.toNatClampNeg (l3 + l6)))) dX8_isLoadLike_59 (by decide) rfl (xin_ok c6) rfl rfl ?_
      refine x_icmp_eq (tgt := 65) dX8_isLoadLike_60 (by decide) (fun c7 => ?_) (fun c7 => ?_)
      · replace h := xif_p c7 h
        refine x_iinc (v := l6 + 1) (ls' := [_, _, _, _, _, _, _]) dX8_isLoadLike_65 rfl rfl rfl rfl ?_
        refine x_goto (tgt := 37) dX8_isLoadLike_68 (by decide) ?_
        show V yX8_isLoadLike cX8_isLoadLike (some .boolean) 0 61 (0, 0) 37 [some (.ref 4), none, some (.ref 32), some (.int l3), some (.int l4), some (.int l5), some (.int ((l6 + 1)))] [] (xof s0 [W_4 o4, W_7 a7, W_32 a32]) _
        exact ih ((l6 + 1)) _ h hk
      · replace h := xif_n c7 h
        refine x_iconst (v := 0) dX8_isLoadLike_63 (by decide) ?_
        cases h
        exact x_zret dX8_isLoadLike_64 (Or.inl rfl) (hk.1 0 rfl)
def f_X8_isLoadLike_4_32 (n : Nat) (o4 : Nat → Int32) (a7 : Nat → Int32) (a32 : Nat → Int32) (p1 : Int32) (p3 : Int32) (p4 : Int32) : Option Int32 := (if p3 < 0 then (some 0) else (if (48 - p3) < p4 then (some 0) else (if p4 ≤ (3072 - (p1 * 48)) then (Option.bind (l_X8_isLoadLike_4_32_37 n o4 a7 a32 p3 p4 ((p1 * 48)) n 0) (fun u8 => Sum.elim (fun z9 => some z9) (fun z9 => (some 1)) u8)) else (some 0))))
set_option maxRecDepth 100000 in
set_option maxHeartbeats 400000 in
theorem v_X8_isLoadLike_4_32 (s0 : XW) (n : Nat) (o4 : Nat → Int32) (a7 : Nat → Int32) (a32 : Nat → Int32) (p1 : Int32) (p3 : Int32) (p4 : Int32) (q : Int32) (h : f_X8_isLoadLike_4_32 n o4 a7 a32 p1 p3 p4 = some q) : C_X8_isLoadLike 0 61 [.ref 4, .int p1, .ref 32, .int p3, .int p4] (xof s0 [W_4 o4, W_7 a7, W_32 a32]) (some (.int q)) (xof s0 [W_4 o4, W_7 a7, W_32 a32]) := by
  unfold f_X8_isLoadLike_4_32 at h
  show V yX8_isLoadLike cX8_isLoadLike (some .boolean) 0 61 (0, 0) 0 [some (.ref 4), some (.int p1), some (.ref 32), some (.int p3), some (.int p4), none, none] [] (xof s0 [W_4 o4, W_7 a7, W_32 a32]) _
  refine x_iload_n dX8_isLoadLike_0 rfl ?_
  refine x_bipush (v := 48) dX8_isLoadLike_1 (by decide) ?_
  refine x_imul dX8_isLoadLike_3 ?_
  refine x_istore (ls' := [_, _, _, _, _, _, _]) dX8_isLoadLike_4 rfl rfl ?_
  refine x_iload_n dX8_isLoadLike_6 rfl ?_
  refine x_if_lt (tgt := 32) dX8_isLoadLike_7 (by decide) (fun c1 => ?_) (fun c1 => ?_)
  · replace h := xif_p c1 h
    refine x_iconst (v := 0) dX8_isLoadLike_32 (by decide) ?_
    cases h
    exact x_zret dX8_isLoadLike_33 (Or.inl rfl) ⟨rfl, rfl, rfl⟩
  · replace h := xif_n c1 h
    refine x_iload dX8_isLoadLike_10 rfl ?_
    refine x_aload_n dX8_isLoadLike_12 rfl ?_
    refine x_alen (v := 48) dX8_isLoadLike_13 (by decide) rfl (by decide) rfl ?_
    refine x_iload_n dX8_isLoadLike_14 rfl ?_
    refine x_isub dX8_isLoadLike_15 ?_
    refine x_icmp_gt (tgt := 32) dX8_isLoadLike_16 (by decide) (fun c2 => ?_) (fun c2 => ?_)
    · replace h := xif_p c2 h
      refine x_iconst (v := 0) dX8_isLoadLike_32 (by decide) ?_
      cases h
      exact x_zret dX8_isLoadLike_33 (Or.inl rfl) ⟨rfl, rfl, rfl⟩
    · replace h := xif_n c2 h
      refine x_iload dX8_isLoadLike_19 rfl ?_
      refine x_aload_n dX8_isLoadLike_21 rfl ?_
      refine g_X8_22 rfl dX8_isLoadLike_22 (by decide) rfl rfl ?_
      refine x_alen (v := 3072) dX8_isLoadLike_25 (by decide) rfl (by decide) rfl ?_
      refine x_iload dX8_isLoadLike_26 rfl ?_
      refine x_isub dX8_isLoadLike_28 ?_
      refine x_icmp_le (tgt := 34) dX8_isLoadLike_29 (by decide) (fun c3 => ?_) (fun c3 => ?_)
      · replace h := xif_p c3 h
        refine x_iconst (v := 0) dX8_isLoadLike_34 (by decide) ?_
        refine x_istore (ls' := [_, _, _, _, _, _, _]) dX8_isLoadLike_35 rfl rfl ?_
        refine V.drop1 (i := 1) (ls' := [_, _, _, _, _, _, _]) rfl ?_
        obtain ⟨u8, hu8, h⟩ := Option.bind_eq_some_iff.mp h
        show V yX8_isLoadLike cX8_isLoadLike (some .boolean) 0 61 (0, 0) 37 [some (.ref 4), none, some (.ref 32), some (.int p3), some (.int p4), some (.int ((p1 * 48))), some (.int 0)] [] (xof s0 [W_4 o4, W_7 a7, W_32 a32]) _
        refine lv_X8_isLoadLike_4_32_37 s0 _ o4 a7 a32 p3 p4 ((p1 * 48)) _ n 0 _ hu8 ⟨fun z9 hz => ?_, fun z9 hz => ?_⟩
        · subst hz
          replace h := xsl h
          cases h
          exact ⟨rfl, rfl, rfl⟩
        subst hz
        replace h := xsr h
        refine x_iconst (v := 1) dX8_isLoadLike_71 (by decide) ?_
        cases h
        exact x_zret dX8_isLoadLike_72 (Or.inr rfl) ⟨rfl, rfl, rfl⟩
      · replace h := xif_n c3 h
        refine x_iconst (v := 0) dX8_isLoadLike_32 (by decide) ?_
        cases h
        exact x_zret dX8_isLoadLike_33 (Or.inl rfl) ⟨rfl, rfl, rfl⟩
def l_X8_firstLike_4_32_3 (n : Nat) (o4 : Nat → Int32) (a6 : Nat → Int32) (a7 : Nat → Int32) (a32 : Nat → Int32) (l1 : Int32) (l3 : Int32) (l4 : Int32) : Nat → (Int32) → Option (Int32 ⊕ Int32)
  | 0, _ => none
  | k + 1, l5 => (if (o4 3) ≤ l5 then (some (Sum.inr l5)) else (if 64 ≤ l5 then (some (Sum.inr l5)) else (bif xin l5 64 then (if (a6 (Int32.toNatClampNeg l5)) = l1 then (Option.bind (f_X8_isLoadLike_4_32 n o4 a7 a32 l5 l3 l4) (fun q5 => (if q5 = 0 then (l_X8_firstLike_4_32_3 n o4 a6 a7 a32 l1 l3 l4 k ((l5 + 1))) else (some (Sum.inl l5))))) else (l_X8_firstLike_4_32_3 n o4 a6 a7 a32 l1 l3 l4 k ((l5 + 1)))) else none)))
set_option maxRecDepth 100000 in
set_option maxHeartbeats 400000 in
theorem lv_X8_firstLike_4_32_3 (s0 : XW) (n : Nat) (o4 : Nat → Int32) (a6 : Nat → Int32) (a7 : Nat → Int32) (a32 : Nat → Int32) (l1 : Int32) (l3 : Int32) (l4 : Int32) (Q : Nat → Option Value → XW → Prop) : ∀ (k : Nat) (l5 : Int32) (o : Int32 ⊕ Int32), l_X8_firstLike_4_32_3 n o4 a6 a7 a32 l1 l3 l4 k l5 = some o → ((∀ z, o = Sum.inl z → Q 61 (some (.int z)) (xof s0 [W_4 o4, W_6 a6, W_7 a7, W_32 a32])) ∧ (∀ z, o = Sum.inr z → V yX8_firstLike cX8_firstLike (some .int) 1 61 (0, 0) 55 [none, none, none, none, none, none] [] (xof s0 [W_4 o4, W_6 a6, W_7 a7, W_32 a32]) Q)) → V yX8_firstLike cX8_firstLike (some .int) 1 61 (0, 0) 3 [some (.ref 4), some (.int l1), some (.ref 32), some (.int l3), some (.int l4), some (.int l5)] [] (xof s0 [W_4 o4, W_6 a6, W_7 a7, W_32 a32]) Q := by
  intro k
  induction k with
  | zero =>
    intro _ _ h
    simp [l_X8_firstLike_4_32_3] at h
  | succ k ih =>
    intro l5 o h hk
    rw [l_X8_firstLike_4_32_3] at h
    refine x_iload dX8_firstLike_3 rfl ?_
    refine x_aload_n dX8_firstLike_5 rfl ?_
    refine g_X8_26 rfl dX8_firstLike_6 (by decide) rfl rfl ?_
    refine x_icmp_ge (tgt := 55) dX8_firstLike_9 (by decide) (fun c1 => ?_) (fun c1 => ?_)
    · replace h := xif_p c1 h
      refine V.drop1 (i := 0) (ls' := [_, _, _, _, _, _]) rfl ?_
      refine V.drop1 (i := 1) (ls' := [_, _, _, _, _, _]) rfl ?_
      refine V.drop1 (i := 2) (ls' := [_, _, _, _, _, _]) rfl ?_
      refine V.drop1 (i := 3) (ls' := [_, _, _, _, _, _]) rfl ?_
      refine V.drop1 (i := 4) (ls' := [_, _, _, _, _, _]) rfl ?_
      refine V.drop1 (i := 5) (ls' := [_, _, _, _, _, _]) rfl ?_
      show V yX8_firstLike cX8_firstLike (some .int) 1 61 (0, 0) 55 [none, none, none, none, none, none] [] (xof s0 [W_4 o4, W_6 a6, W_7 a7, W_32 a32]) _
      cases h
      exact hk.2 l5 rfl
    · replace h := xif_n c1 h
      refine x_iload dX8_firstLike_12 rfl ?_
      refine x_aload_n dX8_firstLike_14 rfl ?_
      refine g_X8_18 rfl dX8_firstLike_15 (by decide) rfl rfl ?_
      refine x_alen (v := 64) dX8_firstLike_18 (by decide) rfl (by decide) rfl ?_
      refine x_icmp_ge (tgt := 55) dX8_firstLike_19 (by decide) (fun c2 => ?_) (fun c2 => ?_)
      · replace h := xif_p c2 h
        refine V.drop1 (i := 0) (ls' := [_, _, _, _, _, _]) rfl ?_
        refine V.drop1 (i := 1) (ls' := [_, _, _, _, _, _]) rfl ?_
        refine V.drop1 (i := 2) (ls' := [_, _, _, _, _, _]) rfl ?_
        refine V.drop1 (i := 3) (ls' := [_, _, _, _, _, _]) rfl ?_
        refine V.drop1 (i := 4) (ls' := [_, _, _, _, _, _]) rfl ?_
        refine V.drop1 (i := 5) (ls' := [_, _, _, _, _, _]) rfl ?_
        show V yX8_firstLike cX8_firstLike (some .int) 1 61 (0, 0) 55 [none, none, none, none, none, none] [] (xof s0 [W_4 o4, W_6 a6, W_7 a7, W_32 a32]) _
        cases h
        exact hk.2 l5 rfl
      · replace h := xif_n c2 h
        refine x_aload_n dX8_firstLike_22 rfl ?_
        refine g_X8_18 rfl dX8_firstLike_23 (by decide) rfl rfl ?_
        refine x_iload dX8_firstLike_26 rfl ?_
        obtain ⟨c3, h⟩ := xck h
        refine x_ialdK (jn := (Int32.toNatClampNeg l5)) (v := (a6 (Int32.toNatClampNeg l5))) dX8_firstLike_28 (by decide) rfl (xin_ok c3) rfl rfl ?_
        refine x_iload_n dX8_firstLike_29 rfl ?_
        refine x_icmp_ne (tgt := 49) dX8_firstLike_30 (by decide) (fun c4 => ?_) (fun c4 => ?_)
        · replace h := xif_n c4 h
          refine x_iinc (v := l5 + 1) (ls' := [_, _, _, _, _, _]) dX8_firstLike_49 rfl rfl rfl rfl ?_
          refine x_goto (tgt := 3) dX8_firstLike_52 (by decide) ?_
          show V yX8_firstLike cX8_firstLike (some .int) 1 61 (0, 0) 3 [some (.ref 4), some (.int l1), some (.ref 32), some (.int l3), some (.int l4), some (.int ((l5 + 1)))] [] (xof s0 [W_4 o4, W_6 a6, W_7 a7, W_32 a32]) _
          exact ih ((l5 + 1)) _ h hk
        · replace h := xif_p c4 h
          refine x_aload_n dX8_firstLike_33 rfl ?_
          refine x_iload dX8_firstLike_34 rfl ?_
          refine x_aload_n dX8_firstLike_36 rfl ?_
          refine x_iload_n dX8_firstLike_37 rfl ?_
          refine x_iload dX8_firstLike_38 rfl ?_
          obtain ⟨q5, hq5, h⟩ := Option.bind_eq_some_iff.mp h
          refine y_callVi (L' := [(4, _), (6, _), (7, _), (32, _)]) mi_X8_isLoadLike ml_X8_60 im_X8_isLoadLike se_X8_isLoadLike (rfl : vwCl[7]? = _) dX8_firstLike_40 (fun s1 => v_X8_isLoadLike_4_32 s1 n _ _ _ _ _ _ q5 hq5) (by decide) rfl (Nat.le_of_ble_eq_true rfl) rfl (by decide) (Nat.le_of_ble_eq_true rfl) rfl rfl rfl rfl ?_
          refine x_if_eq (tgt := 49) dX8_firstLike_43 (by decide) (fun c6 => ?_) (fun c6 => ?_)
          · replace h := xif_p c6 h
            refine x_iinc (v := l5 + 1) (ls' := [_, _, _, _, _, _]) dX8_firstLike_49 rfl rfl rfl rfl ?_
            refine x_goto (tgt := 3) dX8_firstLike_52 (by decide) ?_
            show V yX8_firstLike cX8_firstLike (some .int) 1 61 (0, 0) 3 [some (.ref 4), some (.int l1), some (.ref 32), some (.int l3), some (.int l4), some (.int ((l5 + 1)))] [] (xof s0 [W_4 o4, W_6 a6, W_7 a7, W_32 a32]) _
            exact ih ((l5 + 1)) _ h hk
          · replace h := xif_n c6 h
            refine x_iload dX8_firstLike_46 rfl ?_
            cases h
            exact x_iret dX8_firstLike_48 (hk.1 l5 rfl)
def f_X8_firstLike_4_32 (n : Nat) (o4 : Nat → Int32) (a6 : Nat → Int32) (a7 : Nat → Int32) (a32 : Nat → Int32) (p1 : Int32) (p3 : Int32) (p4 : Int32) : Option Int32 := (Option.bind (l_X8_firstLike_4_32_3 n o4 a6 a7 a32 p1 p3 p4 n 0) (fun u7 => Sum.elim (fun z8 => some z8) (fun z8 => (some ((-1)))) u7))
set_option maxRecDepth 100000 in
set_option maxHeartbeats 400000 in
theorem v_X8_firstLike_4_32 (s0 : XW) (n : Nat) (o4 : Nat → Int32) (a6 : Nat → Int32) (a7 : Nat → Int32) (a32 : Nat → Int32) (p1 : Int32) (p3 : Int32) (p4 : Int32) (q : Int32) (h : f_X8_firstLike_4_32 n o4 a6 a7 a32 p1 p3 p4 = some q) : C_X8_firstLike 1 61 [.ref 4, .int p1, .ref 32, .int p3, .int p4] (xof s0 [W_4 o4, W_6 a6, W_7 a7, W_32 a32]) (some (.int q)) (xof s0 [W_4 o4, W_6 a6, W_7 a7, W_32 a32]) := by
  unfold f_X8_firstLike_4_32 at h
  show V yX8_firstLike cX8_firstLike (some .int) 1 61 (0, 0) 0 [some (.ref 4), some (.int p1), some (.ref 32), some (.int p3), some (.int p4), none] [] (xof s0 [W_4 o4, W_6 a6, W_7 a7, W_32 a32]) _
  refine x_iconst (v := 0) dX8_firstLike_0 (by decide) ?_
  refine x_istore (ls' := [_, _, _, _, _, _]) dX8_firstLike_1 rfl rfl ?_
  obtain ⟨u7, hu7, h⟩ := Option.bind_eq_some_iff.mp h
  show V yX8_firstLike cX8_firstLike (some .int) 1 61 (0, 0) 3 [some (.ref 4), some (.int p1), some (.ref 32), some (.int p3), some (.int p4), some (.int 0)] [] (xof s0 [W_4 o4, W_6 a6, W_7 a7, W_32 a32]) _
  refine lv_X8_firstLike_4_32_3 s0 _ o4 a6 a7 a32 p1 p3 p4 _ n 0 _ hu7 ⟨fun z8 hz => ?_, fun z8 hz => ?_⟩
  · subst hz
    replace h := xsl h
    cases h
    exact ⟨rfl, rfl, rfl⟩
  subst hz
  replace h := xsr h
  refine x_iconst (v := -1) dX8_firstLike_55 (by decide) ?_
  cases h
  exact x_iret dX8_firstLike_56 ⟨rfl, rfl, rfl⟩
def b_X6_endLoad_27_90 (n : Nat) (o4 : Nat → Int32) (a6 : Nat → Int32) (a7 : Nat → Int32) (o27 : Nat → Int32) (a28 : Nat → Int32) (a29 : Nat → Int32) (a32 : Nat → Int32)  : Option (((Nat → Int32) × (Nat → Int32))) := (some (o27, a29))
set_option maxRecDepth 100000 in
set_option maxHeartbeats 400000 in
theorem vb_X6_endLoad_27_90 (s0 : XW) (n : Nat) (o4 : Nat → Int32) (a6 : Nat → Int32) (a7 : Nat → Int32) (o27 : Nat → Int32) (a28 : Nat → Int32) (a29 : Nat → Int32) (a32 : Nat → Int32)  (q : ((Nat → Int32) × (Nat → Int32))) (h : b_X6_endLoad_27_90 n o4 a6 a7 o27 a28 a29 a32 = some q) : V yX6_endLoad cX6_endLoad none 2 61 (0, 0) 90 [some (.ref 27)] [] (xof s0 [W_4 o4, W_6 a6, W_7 a7, W_27 o27, W_28 a28, W_29 a29, W_32 a32]) (xq 61 none (xof s0 [W_4 o4, W_6 a6, W_7 a7, W_27 q.1, W_28 a28, W_29 q.2, W_32 a32])) := by
  unfold b_X6_endLoad_27_90 at h
  refine x_aload_n dX6_endLoad_90 rfl ?_
  refine g_X6_40 rfl dX6_endLoad_91 (by decide) rfl rfl ?_
  refine x_ifnullN (tgt := 120) dX6_endLoad_94 (by decide) ?_
  cases h
  exact x_vret dX6_endLoad_120 ⟨rfl, rfl, rfl⟩
def b_X6_endLoad_27_43 (n : Nat) (o4 : Nat → Int32) (a6 : Nat → Int32) (a7 : Nat → Int32) (o27 : Nat → Int32) (a28 : Nat → Int32) (a29 : Nat → Int32) (a32 : Nat → Int32)  : Option (((Nat → Int32) × (Nat → Int32))) := (Option.bind (f_X8_firstLike_4_32 n o4 a6 a7 a32 ((o27 16)) 0 ((a28 0))) (fun q3 => (if q3 = (-1) then (b_X6_endLoad_27_90 n o4 a6 a7 o27 a28 (upd (upd a29 3 (((a29 3) + 1))) 9 (((a29 9) + 1))) a32) else (b_X6_endLoad_27_90 n o4 a6 a7 o27 a28 (upd a29 3 (((a29 3) + 1))) a32))))
set_option maxRecDepth 100000 in
set_option maxHeartbeats 400000 in
theorem vb_X6_endLoad_27_43 (s0 : XW) (n : Nat) (o4 : Nat → Int32) (a6 : Nat → Int32) (a7 : Nat → Int32) (o27 : Nat → Int32) (a28 : Nat → Int32) (a29 : Nat → Int32) (a32 : Nat → Int32)  (q : ((Nat → Int32) × (Nat → Int32))) (h : b_X6_endLoad_27_43 n o4 a6 a7 o27 a28 a29 a32 = some q) : V yX6_endLoad cX6_endLoad none 2 61 (0, 0) 43 [some (.ref 27)] [] (xof s0 [W_4 o4, W_6 a6, W_7 a7, W_27 o27, W_28 a28, W_29 a29, W_32 a32]) (xq 61 none (xof s0 [W_4 o4, W_6 a6, W_7 a7, W_27 q.1, W_28 a28, W_29 q.2, W_32 a32])) := by
  unfold b_X6_endLoad_27_43 at h
  refine x_aload_n dX6_endLoad_43 rfl ?_
  refine g_X6_9 rfl dX6_endLoad_44 (by decide) rfl rfl ?_
  refine x_iconst (v := 3) dX6_endLoad_47 (by decide) ?_
  refine x_dup2 dX6_endLoad_48 rfl rfl ?_
  refine x_ialdK (jn := 3) (v := (a29 3)) dX6_endLoad_49 (by decide) rfl (xin_ok (by decide)) (by decide) rfl ?_
  refine x_iconst (v := 1) dX6_endLoad_50 (by decide) ?_
  refine x_iadd dX6_endLoad_51 ?_
  refine x_iastK (jn := 3) (L' := [(4, _), (6, _), (7, _), (27, _), (28, _), (29, _), (32, _)]) dX6_endLoad_52 (by decide) rfl (xin_ok (by decide)) (by decide) rfl ?_
  refine x_aload_n dX6_endLoad_53 rfl ?_
  refine g_X6_36 rfl dX6_endLoad_54 (by decide) rfl rfl ?_
  refine x_aload_n dX6_endLoad_57 rfl ?_
  refine g_X6_96 rfl dX6_endLoad_58 (by decide) rfl rfl ?_
  refine x_aload_n dX6_endLoad_61 rfl ?_
  refine g_X6_29 rfl dX6_endLoad_62 (by decide) rfl rfl ?_
  refine x_iconst (v := 0) dX6_endLoad_65 (by decide) ?_
  refine x_aload_n dX6_endLoad_66 rfl ?_
  refine g_X6_33 rfl dX6_endLoad_67 (by decide) rfl rfl ?_
  refine x_iconst (v := 0) dX6_endLoad_70 (by decide) ?_
  refine x_ialdK (jn := 0) (v := (a28 0)) dX6_endLoad_71 (by decide) rfl (xin_ok (by decide)) (by decide) rfl ?_
  obtain ⟨q3, hq3, h⟩ := Option.bind_eq_some_iff.mp h
  refine y_callVi (L' := [(4, _), (6, _), (7, _), (27, _), (28, _), (29, _), (32, _)]) mi_X8_firstLike ml_X6_141 im_X8_firstLike se_X8_firstLike (rfl : vwCl[7]? = _) dX6_endLoad_72 (fun s1 => v_X8_firstLike_4_32 s1 n _ _ _ _ _ _ _ q3 hq3) (by decide) rfl (Nat.le_of_ble_eq_true rfl) rfl (by decide) (Nat.le_of_ble_eq_true rfl) rfl rfl rfl rfl ?_
  refine x_iconst (v := -1) dX6_endLoad_75 (by decide) ?_
  refine x_icmp_ne (tgt := 90) dX6_endLoad_76 (by decide) (fun c4 => ?_) (fun c4 => ?_)
  · replace h := xif_n c4 h
    show V yX6_endLoad cX6_endLoad none 2 61 (0, 0) 90 [some (.ref 27)] [] (xof s0 [W_4 o4, W_6 a6, W_7 a7, W_27 o27, W_28 a28, W_29 (upd a29 3 (((a29 3) + 1))), W_32 a32]) _
    exact vb_X6_endLoad_27_90 s0 n o4 a6 a7 o27 a28 (upd a29 3 (((a29 3) + 1))) a32 q h
  · replace h := xif_p c4 h
    refine x_aload_n dX6_endLoad_79 rfl ?_
    refine g_X6_9 rfl dX6_endLoad_80 (by decide) rfl rfl ?_
    refine x_bipush (v := 9) dX6_endLoad_83 (by decide) ?_
    refine x_dup2 dX6_endLoad_85 rfl rfl ?_
    refine x_ialdK (jn := 9) (v := (a29 9)) dX6_endLoad_86 (by decide) rfl (xin_ok (by decide)) (by decide) rfl ?_
    refine x_iconst (v := 1) dX6_endLoad_87 (by decide) ?_
    refine x_iadd dX6_endLoad_88 ?_
    refine x_iastK (jn := 9) (L' := [(4, _), (6, _), (7, _), (27, _), (28, _), (29, _), (32, _)]) dX6_endLoad_89 (by decide) rfl (xin_ok (by decide)) (by decide) rfl ?_
    show V yX6_endLoad cX6_endLoad none 2 61 (0, 0) 90 [some (.ref 27)] [] (xof s0 [W_4 o4, W_6 a6, W_7 a7, W_27 o27, W_28 a28, W_29 (upd (upd a29 3 (((a29 3) + 1))) 9 (((a29 9) + 1))), W_32 a32]) _
    exact vb_X6_endLoad_27_90 s0 n o4 a6 a7 o27 a28 (upd (upd a29 3 (((a29 3) + 1))) 9 (((a29 9) + 1))) a32 q h
def f_X6_endLoad_27 (n : Nat) (o4 : Nat → Int32) (a6 : Nat → Int32) (a7 : Nat → Int32) (o27 : Nat → Int32) (a28 : Nat → Int32) (a29 : Nat → Int32) (a32 : Nat → Int32)  : Option (((Nat → Int32) × (Nat → Int32))) := (if (o27 11) = 0 then (some (o27, a29)) else (if (a28 5) = 1 then (if (o27 16) = 1 then (some (upd o27 11 0, upd a29 10 (((a29 10) + 1)))) else (b_X6_endLoad_27_43 n o4 a6 a7 (upd o27 11 0) a28 a29 a32)) else (b_X6_endLoad_27_43 n o4 a6 a7 (upd o27 11 0) a28 a29 a32)))
set_option maxRecDepth 100000 in
set_option maxHeartbeats 400000 in
theorem v_X6_endLoad_27 (s0 : XW) (n : Nat) (o4 : Nat → Int32) (a6 : Nat → Int32) (a7 : Nat → Int32) (o27 : Nat → Int32) (a28 : Nat → Int32) (a29 : Nat → Int32) (a32 : Nat → Int32)  (q : ((Nat → Int32) × (Nat → Int32))) (h : f_X6_endLoad_27 n o4 a6 a7 o27 a28 a29 a32 = some q) : C_X6_endLoad 2 61 [.ref 27] (xof s0 [W_4 o4, W_6 a6, W_7 a7, W_27 o27, W_28 a28, W_29 a29, W_32 a32]) none (xof s0 [W_4 o4, W_6 a6, W_7 a7, W_27 q.1, W_28 a28, W_29 q.2, W_32 a32]) := by
  unfold f_X6_endLoad_27 at h
  show V yX6_endLoad cX6_endLoad none 2 61 (0, 0) 0 [some (.ref 27)] [] (xof s0 [W_4 o4, W_6 a6, W_7 a7, W_27 o27, W_28 a28, W_29 a29, W_32 a32]) _
  refine x_aload_n dX6_endLoad_0 rfl ?_
  refine g_X6_67 rfl dX6_endLoad_1 (by decide) rfl rfl ?_
  refine x_if_ne (tgt := 8) dX6_endLoad_4 (by decide) (fun c1 => ?_) (fun c1 => ?_)
  · replace h := xif_n c1 h
    refine x_aload_n dX6_endLoad_8 rfl ?_
    refine x_iconst (v := 0) dX6_endLoad_9 (by decide) ?_
    refine p_X6_67 (fs' := [_, _, _, _, _, _, _, _, _, _, _, _, _, _, _, _, _, _, _]) (L' := [(4, _), (6, _), (7, _), (27, _), (28, _), (29, _), (32, _)]) rfl dX6_endLoad_10 (Or.inl rfl) (by decide) rfl (Nat.le_of_ble_eq_true rfl) rfl rfl ?_
    refine x_aload_n dX6_endLoad_13 rfl ?_
    refine g_X6_33 rfl dX6_endLoad_14 (by decide) rfl rfl ?_
    refine x_iconst (v := 5) dX6_endLoad_17 (by decide) ?_
    refine x_ialdK (jn := 5) (v := (a28 5)) dX6_endLoad_18 (by decide) rfl (xin_ok (by decide)) (by decide) rfl ?_
    refine x_iconst (v := 1) dX6_endLoad_19 (by decide) ?_
    refine x_icmp_ne (tgt := 43) dX6_endLoad_20 (by decide) (fun c2 => ?_) (fun c2 => ?_)
    · replace h := xif_n c2 h
      show V yX6_endLoad cX6_endLoad none 2 61 (0, 0) 43 [some (.ref 27)] [] (xof s0 [W_4 o4, W_6 a6, W_7 a7, W_27 (upd o27 11 0), W_28 a28, W_29 a29, W_32 a32]) _
      exact vb_X6_endLoad_27_43 s0 n o4 a6 a7 (upd o27 11 0) a28 a29 a32 q h
    · replace h := xif_p c2 h
      refine x_aload_n dX6_endLoad_23 rfl ?_
      refine g_X6_96 rfl dX6_endLoad_24 (by decide) rfl rfl ?_
      refine x_iconst (v := 1) dX6_endLoad_27 (by decide) ?_
      refine x_icmp_ne (tgt := 43) dX6_endLoad_28 (by decide) (fun c5 => ?_) (fun c5 => ?_)
      · replace h := xif_n c5 h
        show V yX6_endLoad cX6_endLoad none 2 61 (0, 0) 43 [some (.ref 27)] [] (xof s0 [W_4 o4, W_6 a6, W_7 a7, W_27 (upd o27 11 0), W_28 a28, W_29 a29, W_32 a32]) _
        exact vb_X6_endLoad_27_43 s0 n o4 a6 a7 (upd o27 11 0) a28 a29 a32 q h
      · replace h := xif_p c5 h
        refine x_aload_n dX6_endLoad_31 rfl ?_
        refine g_X6_9 rfl dX6_endLoad_32 (by decide) rfl rfl ?_
        refine x_bipush (v := 10) dX6_endLoad_35 (by decide) ?_
        refine x_dup2 dX6_endLoad_37 rfl rfl ?_
        refine x_ialdK (jn := 10) (v := (a29 10)) dX6_endLoad_38 (by decide) rfl (xin_ok (by decide)) (by decide) rfl ?_
        refine x_iconst (v := 1) dX6_endLoad_39 (by decide) ?_
        refine x_iadd dX6_endLoad_40 ?_
        refine x_iastK (jn := 10) (L' := [(4, _), (6, _), (7, _), (27, _), (28, _), (29, _), (32, _)]) dX6_endLoad_41 (by decide) rfl (xin_ok (by decide)) (by decide) rfl ?_
        cases h
        exact x_vret dX6_endLoad_42 ⟨rfl, rfl, rfl⟩
  · replace h := xif_p c1 h
    cases h
    exact x_vret dX6_endLoad_7 ⟨rfl, rfl, rfl⟩
def b_X6_carry_27_51 (n : Nat) (o4 : Nat → Int32) (a6 : Nat → Int32) (a7 : Nat → Int32) (o27 : Nat → Int32) (a28 : Nat → Int32) (a29 : Nat → Int32) (j31 : Int64) (a32 : Nat → Int32)  : Option (((Nat → Int32) × (Nat → Int32) × (Int64) × (Nat → Int32))) := (Option.bind (f_X6_loadBits_27 (upd o27 15 (((o27 15) + 1))) a28) (fun q4 => (if ((o27 15) + 1) = q4 then (Option.bind (f_X6_endLoad_27 n o4 a6 a7 (upd o27 15 (((o27 15) + 1))) a28 a29 a32) (fun q6 => (some (q6.1, q6.2, j31, a32)))) else (some (upd o27 15 (((o27 15) + 1)), a29, j31, a32)))))
set_option maxRecDepth 100000 in
set_option maxHeartbeats 400000 in
theorem vb_X6_carry_27_51 (s0 : XW) (n : Nat) (o4 : Nat → Int32) (a6 : Nat → Int32) (a7 : Nat → Int32) (o27 : Nat → Int32) (a28 : Nat → Int32) (a29 : Nat → Int32) (j31 : Int64) (a32 : Nat → Int32)  (q : ((Nat → Int32) × (Nat → Int32) × (Int64) × (Nat → Int32))) (h : b_X6_carry_27_51 n o4 a6 a7 o27 a28 a29 j31 a32 = some q) : V yX6_carry cX6_carry none 3 61 (0, 0) 51 [some (.ref 27), none, none, none] [] (xof s0 [W_4 o4, W_6 a6, W_7 a7, W_27 o27, W_28 a28, W_29 a29, W_31 j31, W_32 a32]) (xq 61 none (xof s0 [W_4 o4, W_6 a6, W_7 a7, W_27 q.1, W_28 a28, W_29 q.2.1, W_31 q.2.2.1, W_32 q.2.2.2])) := by
  unfold b_X6_carry_27_51 at h
  refine x_aload_n dX6_carry_51 rfl ?_
  refine x_dup dX6_carry_52 rfl ?_
  refine g_X6_80 rfl dX6_carry_53 (by decide) rfl rfl ?_
  refine x_iconst (v := 1) dX6_carry_56 (by decide) ?_
  refine x_iadd dX6_carry_57 ?_
  refine p_X6_80 (fs' := [_, _, _, _, _, _, _, _, _, _, _, _, _, _, _, _, _, _, _]) (L' := [(4, _), (6, _), (7, _), (27, _), (28, _), (29, _), (31, _), (32, _)]) rfl dX6_carry_58 (by decide) rfl (Nat.le_of_ble_eq_true rfl) rfl rfl ?_
  refine x_aload_n dX6_carry_61 rfl ?_
  refine g_X6_80 rfl dX6_carry_62 (by decide) rfl rfl ?_
  refine x_aload_n dX6_carry_65 rfl ?_
  obtain ⟨q4, hq4, h⟩ := Option.bind_eq_some_iff.mp h
  refine y_callVi (L' := [(4, _), (6, _), (7, _), (27, _), (28, _), (29, _), (31, _), (32, _)]) mi_X6_loadBits ml_X6_105 im_X6_loadBits se_X6_loadBits (rfl : vwCl[5]? = _) dX6_carry_66 (fun s1 => v_X6_loadBits_27 s1 _ _ q4 hq4) (by decide) rfl (Nat.le_of_ble_eq_true rfl) rfl (by decide) (Nat.le_of_ble_eq_true rfl) rfl rfl rfl rfl ?_
  refine x_icmp_ne (tgt := 76) dX6_carry_69 (by decide) (fun c5 => ?_) (fun c5 => ?_)
  · replace h := xif_n c5 h
    cases h
    exact x_vret dX6_carry_76 ⟨rfl, rfl, rfl⟩
  · replace h := xif_p c5 h
    refine x_aload_n dX6_carry_72 rfl ?_
    obtain ⟨q6, hq6, h⟩ := Option.bind_eq_some_iff.mp h
    refine y_callVv (L' := [(4, _), (6, _), (7, _), (27, _), (28, _), (29, _), (31, _), (32, _)]) mi_X6_endLoad ml_X6_138 im_X6_endLoad se_X6_endLoad (rfl : vwCl[5]? = _) dX6_carry_73 (fun s1 => v_X6_endLoad_27 s1 n _ _ _ _ _ _ _ q6 hq6) (by decide) rfl (Nat.le_of_ble_eq_true rfl) rfl (by decide) (Nat.le_of_ble_eq_true rfl) rfl rfl rfl rfl ?_
    cases h
    exact x_vret dX6_carry_76 ⟨rfl, rfl, rfl⟩
def f_X6_carry_27 (n : Nat) (o4 : Nat → Int32) (a6 : Nat → Int32) (a7 : Nat → Int32) (o27 : Nat → Int32) (a28 : Nat → Int32) (a29 : Nat → Int32) (j31 : Int64) (a32 : Nat → Int32) (p1 : Int32) : Option (((Nat → Int32) × (Nat → Int32) × (Int64) × (Nat → Int32))) := (Option.bind (f_X2_oldest_31 j31) (fun q1 => (Option.bind (f_X2_push_31 j31 p1) (fun q2 => (if 48 ≤ (xus (o27 15) 3) then (b_X6_carry_27_51 n o4 a6 a7 o27 a28 a29 q2 a32) else (bif xin (xus (o27 15) 3) 48 then (bif xin (xus (o27 15) 3) 48 then (b_X6_carry_27_51 n o4 a6 a7 o27 a28 a29 q2 (upd a32 ((Int32.toNatClampNeg (xus (o27 15) 3))) ((vp_nar .byte (Int8.toInt32 (Int32.toInt8 (((a32 (Int32.toNatClampNeg (xus (o27 15) 3))) <<< (1 &&& 31)) ||| (p1 ^^^ q1)))))))) else none) else none))))))
set_option maxRecDepth 100000 in
set_option maxHeartbeats 400000 in
theorem v_X6_carry_27 (s0 : XW) (n : Nat) (o4 : Nat → Int32) (a6 : Nat → Int32) (a7 : Nat → Int32) (o27 : Nat → Int32) (a28 : Nat → Int32) (a29 : Nat → Int32) (j31 : Int64) (a32 : Nat → Int32) (p1 : Int32) (q : ((Nat → Int32) × (Nat → Int32) × (Int64) × (Nat → Int32))) (h : f_X6_carry_27 n o4 a6 a7 o27 a28 a29 j31 a32 p1 = some q) : C_X6_carry 3 61 [.ref 27, .int p1] (xof s0 [W_4 o4, W_6 a6, W_7 a7, W_27 o27, W_28 a28, W_29 a29, W_31 j31, W_32 a32]) none (xof s0 [W_4 o4, W_6 a6, W_7 a7, W_27 q.1, W_28 a28, W_29 q.2.1, W_31 q.2.2.1, W_32 q.2.2.2]) := by
  unfold f_X6_carry_27 at h
  show V yX6_carry cX6_carry none 3 61 (0, 0) 0 [some (.ref 27), some (.int p1), none, none] [] (xof s0 [W_4 o4, W_6 a6, W_7 a7, W_27 o27, W_28 a28, W_29 a29, W_31 j31, W_32 a32]) _
  refine x_iload_n dX6_carry_0 rfl ?_
  refine x_aload_n dX6_carry_1 rfl ?_
  refine g_X6_25 rfl dX6_carry_2 (by decide) rfl rfl ?_
  obtain ⟨q1, hq1, h⟩ := Option.bind_eq_some_iff.mp h
  refine y_callVi (L' := [(4, _), (6, _), (7, _), (27, _), (28, _), (29, _), (31, _), (32, _)]) mi_X2_oldest ml_X6_109 im_X2_oldest se_X2_oldest (rfl : vwCl[1]? = _) dX6_carry_5 (fun s1 => v_X2_oldest_31 s1 _ q1 hq1) (by decide) rfl (Nat.le_of_ble_eq_true rfl) rfl (by decide) (Nat.le_of_ble_eq_true rfl) rfl rfl rfl rfl ?_
  refine x_ixor dX6_carry_8 ?_
  refine x_istore_n (ls' := [_, _, _, _]) dX6_carry_9 rfl rfl ?_
  refine x_aload_n dX6_carry_10 rfl ?_
  refine g_X6_25 rfl dX6_carry_11 (by decide) rfl rfl ?_
  refine x_iload_n dX6_carry_14 rfl ?_
  obtain ⟨q2, hq2, h⟩ := Option.bind_eq_some_iff.mp h
  refine y_callVv (L' := [(4, _), (6, _), (7, _), (27, _), (28, _), (29, _), (31, _), (32, _)]) mi_X2_push ml_X6_137 im_X2_push se_X2_push (rfl : vwCl[1]? = _) dX6_carry_15 (fun s1 => v_X2_push_31 s1 _ _ q2 hq2) (by decide) rfl (Nat.le_of_ble_eq_true rfl) rfl (by decide) (Nat.le_of_ble_eq_true rfl) rfl rfl rfl rfl ?_
  refine x_aload_n dX6_carry_18 rfl ?_
  refine g_X6_80 rfl dX6_carry_19 (by decide) rfl rfl ?_
  refine x_iconst (v := 3) dX6_carry_22 (by decide) ?_
  refine x_iushr dX6_carry_23 ?_
  refine x_istore_n (ls' := [_, _, _, _]) dX6_carry_24 rfl rfl ?_
  refine x_iload_n dX6_carry_25 rfl ?_
  refine x_aload_n dX6_carry_26 rfl ?_
  refine g_X6_29 rfl dX6_carry_27 (by decide) rfl rfl ?_
  refine x_alen (v := 48) dX6_carry_30 (by decide) rfl (by decide) rfl ?_
  refine x_icmp_ge (tgt := 51) dX6_carry_31 (by decide) (fun c3 => ?_) (fun c3 => ?_)
  · replace h := xif_p c3 h
    refine V.drop1 (i := 1) (ls' := [_, _, _, _]) rfl ?_
    refine V.drop1 (i := 2) (ls' := [_, _, _, _]) rfl ?_
    refine V.drop1 (i := 3) (ls' := [_, _, _, _]) rfl ?_
    show V yX6_carry cX6_carry none 3 61 (0, 0) 51 [some (.ref 27), none, none, none] [] (xof s0 [W_4 o4, W_6 a6, W_7 a7, W_27 o27, W_28 a28, W_29 a29, W_31 q2, W_32 a32]) _
    exact vb_X6_carry_27_51 s0 n o4 a6 a7 o27 a28 a29 q2 a32 q h
  · replace h := xif_n c3 h
    refine x_aload_n dX6_carry_34 rfl ?_
    refine g_X6_29 rfl dX6_carry_35 (by decide) rfl rfl ?_
    refine x_iload_n dX6_carry_38 rfl ?_
    refine x_aload_n dX6_carry_39 rfl ?_
    refine g_X6_29 rfl dX6_carry_40 (by decide) rfl rfl ?_
    refine x_iload_n dX6_carry_43 rfl ?_
    obtain ⟨c7, h⟩ := xck h
    refine x_baldK (jn := (Int32.toNatClampNeg (xus (o27 15) 3))) (v := (a32 (Int32.toNatClampNeg (xus (o27 15) 3)))) dX6_carry_44 (by decide) rfl (xin_ok c7) rfl rfl ?_
    refine x_iconst (v := 1) dX6_carry_45 (by decide) ?_
    refine x_ishl dX6_carry_46 ?_
    refine x_iload_n dX6_carry_47 rfl ?_
    refine x_ior dX6_carry_48 ?_
    refine x_i2b dX6_carry_49 ?_
    obtain ⟨c8, h⟩ := xck h
    refine x_bastK (jn := (Int32.toNatClampNeg (xus (o27 15) 3))) (L' := [(4, _), (6, _), (7, _), (27, _), (28, _), (29, _), (31, _), (32, _)]) dX6_carry_50 (by decide) rfl (xin_ok c8) rfl rfl ?_
    refine V.drop1 (i := 1) (ls' := [_, _, _, _]) rfl ?_
    refine V.drop1 (i := 2) (ls' := [_, _, _, _]) rfl ?_
    refine V.drop1 (i := 3) (ls' := [_, _, _, _]) rfl ?_
    show V yX6_carry cX6_carry none 3 61 (0, 0) 51 [some (.ref 27), none, none, none] [] (xof s0 [W_4 o4, W_6 a6, W_7 a7, W_27 o27, W_28 a28, W_29 a29, W_31 q2, W_32 (upd a32 ((Int32.toNatClampNeg (xus (o27 15) 3))) ((vp_nar .byte (Int8.toInt32 (Int32.toInt8 (((a32 (Int32.toNatClampNeg (xus (o27 15) 3))) <<< (1 &&& 31)) ||| (p1 ^^^ q1)))))))]) _
    exact vb_X6_carry_27_51 s0 n o4 a6 a7 o27 a28 a29 q2 (upd a32 ((Int32.toNatClampNeg (xus (o27 15) 3))) ((vp_nar .byte (Int8.toInt32 (Int32.toInt8 (((a32 (Int32.toNatClampNeg (xus (o27 15) 3))) <<< (1 &&& 31)) ||| (p1 ^^^ q1))))))) q h
def f_X10_syndromeNow_30 (o30 : Nat → Int32) (j30 : Int64)  : Option Int32 := (some (((o30 1) ^^^ 85)))
set_option maxRecDepth 100000 in
set_option maxHeartbeats 400000 in
theorem v_X10_syndromeNow_30 (s0 : XW) (o30 : Nat → Int32) (j30 : Int64)  (q : Int32) (h : f_X10_syndromeNow_30 o30 j30 = some q) : C_X10_syndromeNow 0 61 [.ref 30] (xof s0 [W_30 o30 j30]) (some (.int q)) (xof s0 [W_30 o30 j30]) := by
  unfold f_X10_syndromeNow_30 at h
  show V yX10_syndromeNow cX10_syndromeNow (some .int) 0 61 (0, 0) 0 [some (.ref 30)] [] (xof s0 [W_30 o30 j30]) _
  refine x_aload_n dX10_syndromeNow_0 rfl ?_
  refine g_X10_15 rfl dX10_syndromeNow_1 (by decide) rfl rfl ?_
  refine x_bipush (v := 85) dX10_syndromeNow_4 (by decide) ?_
  refine x_ixor dX10_syndromeNow_6 ?_
  cases h
  exact x_iret dX10_syndromeNow_7 ⟨rfl, rfl, rfl⟩
def f_X10_headerNow_30 (o30 : Nat → Int32) (j30 : Int64)  : Option Int32 := (some ((Int64.toInt32 (xul j30 8))))
set_option maxRecDepth 100000 in
set_option maxHeartbeats 400000 in
theorem v_X10_headerNow_30 (s0 : XW) (o30 : Nat → Int32) (j30 : Int64)  (q : Int32) (h : f_X10_headerNow_30 o30 j30 = some q) : C_X10_headerNow 0 61 [.ref 30] (xof s0 [W_30 o30 j30]) (some (.int q)) (xof s0 [W_30 o30 j30]) := by
  unfold f_X10_headerNow_30 at h
  show V yX10_headerNow cX10_headerNow (some .int) 0 61 (0, 0) 0 [some (.ref 30)] [] (xof s0 [W_30 o30 j30]) _
  refine x_aload_n dX10_headerNow_0 rfl ?_
  refine g_X10_9 rfl dX10_headerNow_1 (by decide) rfl rfl ?_
  refine x_bipush (v := 8) dX10_headerNow_4 (by decide) ?_
  refine x_lushr dX10_headerNow_6 ?_
  refine x_l2i dX10_headerNow_7 ?_
  cases h
  exact x_iret dX10_headerNow_8 ⟨rfl, rfl, rfl⟩
def b_X6_acceptRight_27_47  (o27 : Nat → Int32) (a28 : Nat → Int32) (a29 : Nat → Int32)  : Option (((Int32) × (Nat → Int32) × (Nat → Int32))) := (if (o27 7) = 2 then (some (0, upd (upd (upd o27 9 0) 10 1) 11 1, a29)) else (some (0, o27, a29)))
set_option maxRecDepth 100000 in
set_option maxHeartbeats 400000 in
theorem vb_X6_acceptRight_27_47 (s0 : XW)  (o27 : Nat → Int32) (a28 : Nat → Int32) (a29 : Nat → Int32)  (q : ((Int32) × (Nat → Int32) × (Nat → Int32))) (h : b_X6_acceptRight_27_47 o27 a28 a29 = some q) : V yX6_acceptRight cX6_acceptRight (some .int) 1 61 (0, 0) 47 [some (.ref 27), none] [] (xof s0 [W_27 o27, W_28 a28, W_29 a29]) (xq 61 (some (.int q.1)) (xof s0 [W_27 q.2.1, W_28 a28, W_29 q.2.2])) := by
  unfold b_X6_acceptRight_27_47 at h
  refine x_aload_n dX6_acceptRight_47 rfl ?_
  refine g_X6_54 rfl dX6_acceptRight_48 (by decide) rfl rfl ?_
  refine x_iconst (v := 2) dX6_acceptRight_51 (by decide) ?_
  refine x_icmp_ne (tgt := 70) dX6_acceptRight_52 (by decide) (fun c2 => ?_) (fun c2 => ?_)
  · replace h := xif_n c2 h
    refine x_iconst (v := 0) dX6_acceptRight_70 (by decide) ?_
    cases h
    exact x_iret dX6_acceptRight_71 ⟨rfl, rfl, rfl⟩
  · replace h := xif_p c2 h
    refine x_aload_n dX6_acceptRight_55 rfl ?_
    refine x_iconst (v := 0) dX6_acceptRight_56 (by decide) ?_
    refine p_X6_61 (fs' := [_, _, _, _, _, _, _, _, _, _, _, _, _, _, _, _, _, _, _]) (L' := [(27, _), (28, _), (29, _)]) rfl dX6_acceptRight_57 (by decide) rfl (Nat.le_of_ble_eq_true rfl) rfl rfl ?_
    refine x_aload_n dX6_acceptRight_60 rfl ?_
    refine x_iconst (v := 1) dX6_acceptRight_61 (by decide) ?_
    refine p_X6_64 (fs' := [_, _, _, _, _, _, _, _, _, _, _, _, _, _, _, _, _, _, _]) (L' := [(27, _), (28, _), (29, _)]) rfl dX6_acceptRight_62 (by decide) rfl (Nat.le_of_ble_eq_true rfl) rfl rfl ?_
    refine x_aload_n dX6_acceptRight_65 rfl ?_
    refine x_iconst (v := 1) dX6_acceptRight_66 (by decide) ?_
    refine p_X6_67 (fs' := [_, _, _, _, _, _, _, _, _, _, _, _, _, _, _, _, _, _, _]) (L' := [(27, _), (28, _), (29, _)]) rfl dX6_acceptRight_67 (Or.inr rfl) (by decide) rfl (Nat.le_of_ble_eq_true rfl) rfl rfl ?_
    refine x_iconst (v := 0) dX6_acceptRight_70 (by decide) ?_
    cases h
    exact x_iret dX6_acceptRight_71 ⟨rfl, rfl, rfl⟩
def f_X6_acceptRight_27 (o27 : Nat → Int32) (a28 : Nat → Int32) (a29 : Nat → Int32) (p1 : Int32) : Option (((Int32) × (Nat → Int32) × (Nat → Int32))) := (if (o27 7) = 1 then (if ((o27 8) + 1) < (a28 2) then (b_X6_acceptRight_27_47 (upd o27 8 (((o27 8) + 1))) a28 (upd a29 0 (((a29 0) + 1)))) else (Option.bind (f_X6_become_27 (upd o27 8 (((o27 8) + 1))) (upd a29 0 (((a29 0) + 1))) 2 p1) (fun q4 => (b_X6_acceptRight_27_47 q4.1 a28 q4.2)))) else (b_X6_acceptRight_27_47 o27 a28 (upd a29 0 (((a29 0) + 1)))))
set_option maxRecDepth 100000 in
set_option maxHeartbeats 400000 in
theorem v_X6_acceptRight_27 (s0 : XW) (o27 : Nat → Int32) (a28 : Nat → Int32) (a29 : Nat → Int32) (p1 : Int32) (q : ((Int32) × (Nat → Int32) × (Nat → Int32))) (h : f_X6_acceptRight_27 o27 a28 a29 p1 = some q) : C_X6_acceptRight 1 61 [.ref 27, .int p1] (xof s0 [W_27 o27, W_28 a28, W_29 a29]) (some (.int q.1)) (xof s0 [W_27 q.2.1, W_28 a28, W_29 q.2.2]) := by
  unfold f_X6_acceptRight_27 at h
  show V yX6_acceptRight cX6_acceptRight (some .int) 1 61 (0, 0) 0 [some (.ref 27), some (.int p1)] [] (xof s0 [W_27 o27, W_28 a28, W_29 a29]) _
  refine x_aload_n dX6_acceptRight_0 rfl ?_
  refine g_X6_9 rfl dX6_acceptRight_1 (by decide) rfl rfl ?_
  refine x_iconst (v := 0) dX6_acceptRight_4 (by decide) ?_
  refine x_dup2 dX6_acceptRight_5 rfl rfl ?_
  refine x_ialdK (jn := 0) (v := (a29 0)) dX6_acceptRight_6 (by decide) rfl (xin_ok (by decide)) (by decide) rfl ?_
  refine x_iconst (v := 1) dX6_acceptRight_7 (by decide) ?_
  refine x_iadd dX6_acceptRight_8 ?_
  refine x_iastK (jn := 0) (L' := [(27, _), (28, _), (29, _)]) dX6_acceptRight_9 (by decide) rfl (xin_ok (by decide)) (by decide) rfl ?_
  refine x_aload_n dX6_acceptRight_10 rfl ?_
  refine g_X6_54 rfl dX6_acceptRight_11 (by decide) rfl rfl ?_
  refine x_iconst (v := 1) dX6_acceptRight_14 (by decide) ?_
  refine x_icmp_ne (tgt := 47) dX6_acceptRight_15 (by decide) (fun c1 => ?_) (fun c1 => ?_)
  · replace h := xif_n c1 h
    refine V.drop1 (i := 1) (ls' := [_, _]) rfl ?_
    show V yX6_acceptRight cX6_acceptRight (some .int) 1 61 (0, 0) 47 [some (.ref 27), none] [] (xof s0 [W_27 o27, W_28 a28, W_29 (upd a29 0 (((a29 0) + 1)))]) _
    exact vb_X6_acceptRight_27_47 s0 o27 a28 (upd a29 0 (((a29 0) + 1))) q h
  · replace h := xif_p c1 h
    refine x_aload_n dX6_acceptRight_18 rfl ?_
    refine x_dup dX6_acceptRight_19 rfl ?_
    refine g_X6_58 rfl dX6_acceptRight_20 (by decide) rfl rfl ?_
    refine x_iconst (v := 1) dX6_acceptRight_23 (by decide) ?_
    refine x_iadd dX6_acceptRight_24 ?_
    refine p_X6_58 (fs' := [_, _, _, _, _, _, _, _, _, _, _, _, _, _, _, _, _, _, _]) (L' := [(27, _), (28, _), (29, _)]) rfl dX6_acceptRight_25 (by decide) rfl (Nat.le_of_ble_eq_true rfl) rfl rfl ?_
    refine x_aload_n dX6_acceptRight_28 rfl ?_
    refine g_X6_58 rfl dX6_acceptRight_29 (by decide) rfl rfl ?_
    refine x_aload_n dX6_acceptRight_32 rfl ?_
    refine g_X6_33 rfl dX6_acceptRight_33 (by decide) rfl rfl ?_
    refine x_iconst (v := 2) dX6_acceptRight_36 (by decide) ?_
    refine x_ialdK (jn := 2) (v := (a28 2)) dX6_acceptRight_37 (by decide) rfl (xin_ok (by decide)) (by decide) rfl ?_
    refine x_icmp_lt (tgt := 47) dX6_acceptRight_38 (by decide) (fun c3 => ?_) (fun c3 => ?_)
    · replace h := xif_p c3 h
      refine V.drop1 (i := 1) (ls' := [_, _]) rfl ?_
      show V yX6_acceptRight cX6_acceptRight (some .int) 1 61 (0, 0) 47 [some (.ref 27), none] [] (xof s0 [W_27 (upd o27 8 (((o27 8) + 1))), W_28 a28, W_29 (upd a29 0 (((a29 0) + 1)))]) _
      exact vb_X6_acceptRight_27_47 s0 (upd o27 8 (((o27 8) + 1))) a28 (upd a29 0 (((a29 0) + 1))) q h
    · replace h := xif_n c3 h
      refine x_aload_n dX6_acceptRight_41 rfl ?_
      refine x_iconst (v := 2) dX6_acceptRight_42 (by decide) ?_
      refine x_iload_n dX6_acceptRight_43 rfl ?_
      obtain ⟨q4, hq4, h⟩ := Option.bind_eq_some_iff.mp h
      refine y_callVv (L' := [(27, _), (28, _), (29, _)]) mi_X6_become ml_X6_133 im_X6_become se_X6_become (rfl : vwCl[5]? = _) dX6_acceptRight_44 (fun s1 => v_X6_become_27 s1 _ _ _ _ q4 hq4) (by decide) rfl (Nat.le_of_ble_eq_true rfl) rfl (by decide) (Nat.le_of_ble_eq_true rfl) rfl rfl rfl rfl ?_
      refine V.drop1 (i := 1) (ls' := [_, _]) rfl ?_
      show V yX6_acceptRight cX6_acceptRight (some .int) 1 61 (0, 0) 47 [some (.ref 27), none] [] (xof s0 [W_27 q4.1, W_28 a28, W_29 q4.2]) _
      exact vb_X6_acceptRight_27_47 s0 q4.1 a28 q4.2 q h
def b_X6_faceWrong_27_39 (n : Nat) (o27 : Nat → Int32) (a28 : Nat → Int32) (a29 : Nat → Int32) (l2 : Int32) : Option (((Int32) × (Nat → Int32) × (Nat → Int32))) := (Option.bind (f_X6_become_27 o27 a29 0 l2) (fun q3 => (some (3, q3.1, q3.2))))
set_option maxRecDepth 100000 in
set_option maxHeartbeats 400000 in
theorem vb_X6_faceWrong_27_39 (s0 : XW) (n : Nat) (o27 : Nat → Int32) (a28 : Nat → Int32) (a29 : Nat → Int32) (l2 : Int32) (q : ((Int32) × (Nat → Int32) × (Nat → Int32))) (h : b_X6_faceWrong_27_39 n o27 a28 a29 l2 = some q) : V yX6_faceWrong cX6_faceWrong (some .int) 2 61 (0, 0) 39 [some (.ref 27), none, some (.int l2), none, none] [] (xof s0 [W_27 o27, W_28 a28, W_29 a29]) (xq 61 (some (.int q.1)) (xof s0 [W_27 q.2.1, W_28 a28, W_29 q.2.2])) := by
  unfold b_X6_faceWrong_27_39 at h
  refine x_aload_n dX6_faceWrong_39 rfl ?_
  refine x_iconst (v := 0) dX6_faceWrong_40 (by decide) ?_
  refine x_iload_n dX6_faceWrong_41 rfl ?_
  obtain ⟨q3, hq3, h⟩ := Option.bind_eq_some_iff.mp h
  refine y_callVv (L' := [(27, _), (28, _), (29, _)]) mi_X6_become ml_X6_133 im_X6_become se_X6_become (rfl : vwCl[5]? = _) dX6_faceWrong_42 (fun s1 => v_X6_become_27 s1 _ _ _ _ q3 hq3) (by decide) rfl (Nat.le_of_ble_eq_true rfl) rfl (by decide) (Nat.le_of_ble_eq_true rfl) rfl rfl rfl rfl ?_
  refine x_iconst (v := 3) dX6_faceWrong_45 (by decide) ?_
  cases h
  exact x_iret dX6_faceWrong_46 ⟨rfl, rfl, rfl⟩
def b_X6_faceWrong_27_83 (n : Nat) (o27 : Nat → Int32) (a28 : Nat → Int32) (a29 : Nat → Int32) (t0 : Int32) : Option (((Int32) × (Nat → Int32) × (Nat → Int32))) := (if t0 = (-1) then (some (2, upd o27 10 0, upd a29 2 (((a29 2) + 1)))) else (Option.bind (f_X1_mendedHeader ((o27 16)) t0) (fun q8 => (some (1, upd (upd (upd (upd o27 10 0) 11 1) 16 q8) 17 1, upd a29 1 (((a29 1) + 1)))))))
set_option maxRecDepth 100000 in
set_option maxHeartbeats 400000 in
theorem vb_X6_faceWrong_27_83 (s0 : XW) (n : Nat) (o27 : Nat → Int32) (a28 : Nat → Int32) (a29 : Nat → Int32) (t0 : Int32) (q : ((Int32) × (Nat → Int32) × (Nat → Int32))) (h : b_X6_faceWrong_27_83 n o27 a28 a29 t0 = some q) : V yX6_faceWrong cX6_faceWrong (some .int) 2 61 (0, 0) 83 [some (.ref 27), none, none, none, none] [.int t0] (xof s0 [W_27 o27, W_28 a28, W_29 a29]) (xq 61 (some (.int q.1)) (xof s0 [W_27 q.2.1, W_28 a28, W_29 q.2.2])) := by
  unfold b_X6_faceWrong_27_83 at h
  refine x_istore (ls' := [_, _, _, _, _]) dX6_faceWrong_83 rfl rfl ?_
  refine x_aload_n dX6_faceWrong_85 rfl ?_
  refine x_iconst (v := 0) dX6_faceWrong_86 (by decide) ?_
  refine p_X6_64 (fs' := [_, _, _, _, _, _, _, _, _, _, _, _, _, _, _, _, _, _, _]) (L' := [(27, _), (28, _), (29, _)]) rfl dX6_faceWrong_87 (by decide) rfl (Nat.le_of_ble_eq_true rfl) rfl rfl ?_
  refine x_iload dX6_faceWrong_90 rfl ?_
  refine x_iconst (v := -1) dX6_faceWrong_92 (by decide) ?_
  refine x_icmp_ne (tgt := 108) dX6_faceWrong_93 (by decide) (fun c7 => ?_) (fun c7 => ?_)
  · replace h := xif_n c7 h
    refine x_aload_n dX6_faceWrong_108 rfl ?_
    refine x_aload_n dX6_faceWrong_109 rfl ?_
    refine g_X6_96 rfl dX6_faceWrong_110 (by decide) rfl rfl ?_
    refine x_iload dX6_faceWrong_113 rfl ?_
    obtain ⟨q8, hq8, h⟩ := Option.bind_eq_some_iff.mp h
    refine y_callSi (L' := [(27, _), (28, _), (29, _)]) mi_X1_mendedHeader ml_X6_182 st_X1_mendedHeader dX6_faceWrong_115 (fun s1 => v_X1_mendedHeader 61 s1 _ _ q8 hq8) (Nat.le_of_ble_eq_true rfl) rfl (by decide) (Nat.le_of_ble_eq_true rfl) rfl rfl rfl rfl ?_
    refine p_X6_96 (fs' := [_, _, _, _, _, _, _, _, _, _, _, _, _, _, _, _, _, _, _]) (L' := [(27, _), (28, _), (29, _)]) rfl dX6_faceWrong_118 (by decide) rfl (Nat.le_of_ble_eq_true rfl) rfl rfl ?_
    refine x_aload_n dX6_faceWrong_121 rfl ?_
    refine x_iconst (v := 1) dX6_faceWrong_122 (by decide) ?_
    refine p_X6_99 (fs' := [_, _, _, _, _, _, _, _, _, _, _, _, _, _, _, _, _, _, _]) (L' := [(27, _), (28, _), (29, _)]) rfl dX6_faceWrong_123 (by decide) rfl (Nat.le_of_ble_eq_true rfl) rfl rfl ?_
    refine x_aload_n dX6_faceWrong_126 rfl ?_
    refine g_X6_9 rfl dX6_faceWrong_127 (by decide) rfl rfl ?_
    refine x_iconst (v := 1) dX6_faceWrong_130 (by decide) ?_
    refine x_dup2 dX6_faceWrong_131 rfl rfl ?_
    refine x_ialdK (jn := 1) (v := (a29 1)) dX6_faceWrong_132 (by decide) rfl (xin_ok (by decide)) (by decide) rfl ?_
    refine x_iconst (v := 1) dX6_faceWrong_133 (by decide) ?_
    refine x_iadd dX6_faceWrong_134 ?_
    refine x_iastK (jn := 1) (L' := [(27, _), (28, _), (29, _)]) dX6_faceWrong_135 (by decide) rfl (xin_ok (by decide)) (by decide) rfl ?_
    refine x_aload_n dX6_faceWrong_136 rfl ?_
    refine x_iconst (v := 1) dX6_faceWrong_137 (by decide) ?_
    refine p_X6_67 (fs' := [_, _, _, _, _, _, _, _, _, _, _, _, _, _, _, _, _, _, _]) (L' := [(27, _), (28, _), (29, _)]) rfl dX6_faceWrong_138 (Or.inr rfl) (by decide) rfl (Nat.le_of_ble_eq_true rfl) rfl rfl ?_
    refine x_iconst (v := 1) dX6_faceWrong_141 (by decide) ?_
    cases h
    exact x_iret dX6_faceWrong_142 ⟨rfl, rfl, rfl⟩
  · replace h := xif_p c7 h
    refine x_aload_n dX6_faceWrong_96 rfl ?_
    refine g_X6_9 rfl dX6_faceWrong_97 (by decide) rfl rfl ?_
    refine x_iconst (v := 2) dX6_faceWrong_100 (by decide) ?_
    refine x_dup2 dX6_faceWrong_101 rfl rfl ?_
    refine x_ialdK (jn := 2) (v := (a29 2)) dX6_faceWrong_102 (by decide) rfl (xin_ok (by decide)) (by decide) rfl ?_
    refine x_iconst (v := 1) dX6_faceWrong_103 (by decide) ?_
    refine x_iadd dX6_faceWrong_104 ?_
    refine x_iastK (jn := 2) (L' := [(27, _), (28, _), (29, _)]) dX6_faceWrong_105 (by decide) rfl (xin_ok (by decide)) (by decide) rfl ?_
    refine x_iconst (v := 2) dX6_faceWrong_106 (by decide) ?_
    cases h
    exact x_iret dX6_faceWrong_107 ⟨rfl, rfl, rfl⟩
def b_X6_faceWrong_27_70 (n : Nat) (o27 : Nat → Int32) (a28 : Nat → Int32) (a29 : Nat → Int32) (l1 : Int32) (t0 : Int32) : Option (((Int32) × (Nat → Int32) × (Nat → Int32))) := (if t0 = 0 then (b_X6_faceWrong_27_83 n o27 a28 a29 ((-1))) else (Option.bind (f_X1_bitOf n l1) (fun q9 => (b_X6_faceWrong_27_83 n o27 a28 a29 q9))))
set_option maxRecDepth 100000 in
set_option maxHeartbeats 400000 in
theorem vb_X6_faceWrong_27_70 (s0 : XW) (n : Nat) (o27 : Nat → Int32) (a28 : Nat → Int32) (a29 : Nat → Int32) (l1 : Int32) (t0 : Int32) (q : ((Int32) × (Nat → Int32) × (Nat → Int32))) (h : b_X6_faceWrong_27_70 n o27 a28 a29 l1 t0 = some q) : V yX6_faceWrong cX6_faceWrong (some .int) 2 61 (0, 0) 70 [some (.ref 27), some (.int l1), none, none, none] [.int t0] (xof s0 [W_27 o27, W_28 a28, W_29 a29]) (xq 61 (some (.int q.1)) (xof s0 [W_27 q.2.1, W_28 a28, W_29 q.2.2])) := by
  unfold b_X6_faceWrong_27_70 at h
  refine x_istore_n (ls' := [_, _, _, _, _]) dX6_faceWrong_70 rfl rfl ?_
  refine x_iload_n dX6_faceWrong_71 rfl ?_
  refine x_if_eq (tgt := 82) dX6_faceWrong_72 (by decide) (fun c6 => ?_) (fun c6 => ?_)
  · replace h := xif_p c6 h
    refine x_iconst (v := -1) dX6_faceWrong_82 (by decide) ?_
    refine V.drop1 (i := 1) (ls' := [_, _, _, _, _]) rfl ?_
    refine V.drop1 (i := 3) (ls' := [_, _, _, _, _]) rfl ?_
    show V yX6_faceWrong cX6_faceWrong (some .int) 2 61 (0, 0) 83 [some (.ref 27), none, none, none, none] [.int ((-1))] (xof s0 [W_27 o27, W_28 a28, W_29 a29]) _
    exact vb_X6_faceWrong_27_83 s0 n o27 a28 a29 ((-1)) q h
  · replace h := xif_n c6 h
    refine x_iload_n dX6_faceWrong_75 rfl ?_
    obtain ⟨q9, hq9, h⟩ := Option.bind_eq_some_iff.mp h
    refine y_callSi (L' := [(27, _), (28, _), (29, _)]) mi_X1_bitOf ml_X6_177 st_X1_bitOf dX6_faceWrong_76 (fun s1 => v_X1_bitOf 61 s1 n _ q9 hq9) (Nat.le_of_ble_eq_true rfl) rfl (by decide) (Nat.le_of_ble_eq_true rfl) rfl rfl rfl rfl ?_
    refine x_goto (tgt := 83) dX6_faceWrong_79 (by decide) ?_
    refine V.drop1 (i := 1) (ls' := [_, _, _, _, _]) rfl ?_
    refine V.drop1 (i := 3) (ls' := [_, _, _, _, _]) rfl ?_
    show V yX6_faceWrong cX6_faceWrong (some .int) 2 61 (0, 0) 83 [some (.ref 27), none, none, none, none] [.int q9] (xof s0 [W_27 o27, W_28 a28, W_29 a29]) _
    exact vb_X6_faceWrong_27_83 s0 n o27 a28 a29 q9 q h
def b_X6_faceWrong_27_69 (n : Nat) (o27 : Nat → Int32) (a28 : Nat → Int32) (a29 : Nat → Int32) (l1 : Int32) : Option (((Int32) × (Nat → Int32) × (Nat → Int32))) := (b_X6_faceWrong_27_70 n o27 a28 a29 l1 0)
set_option maxRecDepth 100000 in
set_option maxHeartbeats 400000 in
theorem vb_X6_faceWrong_27_69 (s0 : XW) (n : Nat) (o27 : Nat → Int32) (a28 : Nat → Int32) (a29 : Nat → Int32) (l1 : Int32) (q : ((Int32) × (Nat → Int32) × (Nat → Int32))) (h : b_X6_faceWrong_27_69 n o27 a28 a29 l1 = some q) : V yX6_faceWrong cX6_faceWrong (some .int) 2 61 (0, 0) 69 [some (.ref 27), some (.int l1), none, none, none] [] (xof s0 [W_27 o27, W_28 a28, W_29 a29]) (xq 61 (some (.int q.1)) (xof s0 [W_27 q.2.1, W_28 a28, W_29 q.2.2])) := by
  unfold b_X6_faceWrong_27_69 at h
  refine x_iconst (v := 0) dX6_faceWrong_69 (by decide) ?_
  show V yX6_faceWrong cX6_faceWrong (some .int) 2 61 (0, 0) 70 [some (.ref 27), some (.int l1), none, none, none] [.int 0] (xof s0 [W_27 o27, W_28 a28, W_29 a29]) _
  exact vb_X6_faceWrong_27_70 s0 n o27 a28 a29 l1 0 q h
def b_X6_faceWrong_27_18 (n : Nat) (o27 : Nat → Int32) (a28 : Nat → Int32) (a29 : Nat → Int32) (l1 : Int32) (l2 : Int32) : Option (((Int32) × (Nat → Int32) × (Nat → Int32))) := (if (o27 7) = 1 then (b_X6_faceWrong_27_39 n o27 a28 a29 l2) else (if (o27 9) < (a28 1) then (if (o27 10) = 1 then (if (a28 3) = 1 then (b_X6_faceWrong_27_70 n o27 a28 a29 l1 1) else (b_X6_faceWrong_27_69 n o27 a28 a29 l1)) else (b_X6_faceWrong_27_69 n o27 a28 a29 l1)) else (b_X6_faceWrong_27_39 n o27 a28 a29 l2)))
set_option maxRecDepth 100000 in
set_option maxHeartbeats 400000 in
theorem vb_X6_faceWrong_27_18 (s0 : XW) (n : Nat) (o27 : Nat → Int32) (a28 : Nat → Int32) (a29 : Nat → Int32) (l1 : Int32) (l2 : Int32) (q : ((Int32) × (Nat → Int32) × (Nat → Int32))) (h : b_X6_faceWrong_27_18 n o27 a28 a29 l1 l2 = some q) : V yX6_faceWrong cX6_faceWrong (some .int) 2 61 (0, 0) 18 [some (.ref 27), some (.int l1), some (.int l2), none, none] [] (xof s0 [W_27 o27, W_28 a28, W_29 a29]) (xq 61 (some (.int q.1)) (xof s0 [W_27 q.2.1, W_28 a28, W_29 q.2.2])) := by
  unfold b_X6_faceWrong_27_18 at h
  refine x_aload_n dX6_faceWrong_18 rfl ?_
  refine g_X6_54 rfl dX6_faceWrong_19 (by decide) rfl rfl ?_
  refine x_iconst (v := 1) dX6_faceWrong_22 (by decide) ?_
  refine x_icmp_eq (tgt := 39) dX6_faceWrong_23 (by decide) (fun c2 => ?_) (fun c2 => ?_)
  · replace h := xif_p c2 h
    refine V.drop1 (i := 1) (ls' := [_, _, _, _, _]) rfl ?_
    show V yX6_faceWrong cX6_faceWrong (some .int) 2 61 (0, 0) 39 [some (.ref 27), none, some (.int l2), none, none] [] (xof s0 [W_27 o27, W_28 a28, W_29 a29]) _
    exact vb_X6_faceWrong_27_39 s0 n o27 a28 a29 l2 q h
  · replace h := xif_n c2 h
    refine x_aload_n dX6_faceWrong_26 rfl ?_
    refine g_X6_61 rfl dX6_faceWrong_27 (by decide) rfl rfl ?_
    refine x_aload_n dX6_faceWrong_30 rfl ?_
    refine g_X6_33 rfl dX6_faceWrong_31 (by decide) rfl rfl ?_
    refine x_iconst (v := 1) dX6_faceWrong_34 (by decide) ?_
    refine x_ialdK (jn := 1) (v := (a28 1)) dX6_faceWrong_35 (by decide) rfl (xin_ok (by decide)) (by decide) rfl ?_
    refine x_icmp_lt (tgt := 47) dX6_faceWrong_36 (by decide) (fun c4 => ?_) (fun c4 => ?_)
    · replace h := xif_p c4 h
      refine x_aload_n dX6_faceWrong_47 rfl ?_
      refine g_X6_64 rfl dX6_faceWrong_48 (by decide) rfl rfl ?_
      refine x_iconst (v := 1) dX6_faceWrong_51 (by decide) ?_
      refine x_icmp_ne (tgt := 69) dX6_faceWrong_52 (by decide) (fun c5 => ?_) (fun c5 => ?_)
      · replace h := xif_n c5 h
        refine V.drop1 (i := 2) (ls' := [_, _, _, _, _]) rfl ?_
        show V yX6_faceWrong cX6_faceWrong (some .int) 2 61 (0, 0) 69 [some (.ref 27), some (.int l1), none, none, none] [] (xof s0 [W_27 o27, W_28 a28, W_29 a29]) _
        exact vb_X6_faceWrong_27_69 s0 n o27 a28 a29 l1 q h
      · replace h := xif_p c5 h
        refine x_aload_n dX6_faceWrong_55 rfl ?_
        refine g_X6_33 rfl dX6_faceWrong_56 (by decide) rfl rfl ?_
        refine x_iconst (v := 3) dX6_faceWrong_59 (by decide) ?_
        refine x_ialdK (jn := 3) (v := (a28 3)) dX6_faceWrong_60 (by decide) rfl (xin_ok (by decide)) (by decide) rfl ?_
        refine x_iconst (v := 1) dX6_faceWrong_61 (by decide) ?_
        refine x_icmp_ne (tgt := 69) dX6_faceWrong_62 (by decide) (fun c10 => ?_) (fun c10 => ?_)
        · replace h := xif_n c10 h
          refine V.drop1 (i := 2) (ls' := [_, _, _, _, _]) rfl ?_
          show V yX6_faceWrong cX6_faceWrong (some .int) 2 61 (0, 0) 69 [some (.ref 27), some (.int l1), none, none, none] [] (xof s0 [W_27 o27, W_28 a28, W_29 a29]) _
          exact vb_X6_faceWrong_27_69 s0 n o27 a28 a29 l1 q h
        · replace h := xif_p c10 h
          refine x_iconst (v := 1) dX6_faceWrong_65 (by decide) ?_
          refine x_goto (tgt := 70) dX6_faceWrong_66 (by decide) ?_
          refine V.drop1 (i := 2) (ls' := [_, _, _, _, _]) rfl ?_
          show V yX6_faceWrong cX6_faceWrong (some .int) 2 61 (0, 0) 70 [some (.ref 27), some (.int l1), none, none, none] [.int 1] (xof s0 [W_27 o27, W_28 a28, W_29 a29]) _
          exact vb_X6_faceWrong_27_70 s0 n o27 a28 a29 l1 1 q h
    · replace h := xif_n c4 h
      refine V.drop1 (i := 1) (ls' := [_, _, _, _, _]) rfl ?_
      show V yX6_faceWrong cX6_faceWrong (some .int) 2 61 (0, 0) 39 [some (.ref 27), none, some (.int l2), none, none] [] (xof s0 [W_27 o27, W_28 a28, W_29 a29]) _
      exact vb_X6_faceWrong_27_39 s0 n o27 a28 a29 l2 q h
def f_X6_faceWrong_27 (n : Nat) (o27 : Nat → Int32) (a28 : Nat → Int32) (a29 : Nat → Int32) (p1 : Int32) (p2 : Int32) : Option (((Int32) × (Nat → Int32) × (Nat → Int32))) := (if (o27 7) = 2 then (b_X6_faceWrong_27_18 n (upd o27 9 (((o27 9) + 1))) a28 a29 p1 p2) else (b_X6_faceWrong_27_18 n o27 a28 a29 p1 p2))
set_option maxRecDepth 100000 in
set_option maxHeartbeats 400000 in
theorem v_X6_faceWrong_27 (s0 : XW) (n : Nat) (o27 : Nat → Int32) (a28 : Nat → Int32) (a29 : Nat → Int32) (p1 : Int32) (p2 : Int32) (q : ((Int32) × (Nat → Int32) × (Nat → Int32))) (h : f_X6_faceWrong_27 n o27 a28 a29 p1 p2 = some q) : C_X6_faceWrong 2 61 [.ref 27, .int p1, .int p2] (xof s0 [W_27 o27, W_28 a28, W_29 a29]) (some (.int q.1)) (xof s0 [W_27 q.2.1, W_28 a28, W_29 q.2.2]) := by
  unfold f_X6_faceWrong_27 at h
  show V yX6_faceWrong cX6_faceWrong (some .int) 2 61 (0, 0) 0 [some (.ref 27), some (.int p1), some (.int p2), none, none] [] (xof s0 [W_27 o27, W_28 a28, W_29 a29]) _
  refine x_aload_n dX6_faceWrong_0 rfl ?_
  refine g_X6_54 rfl dX6_faceWrong_1 (by decide) rfl rfl ?_
  refine x_iconst (v := 2) dX6_faceWrong_4 (by decide) ?_
  refine x_icmp_ne (tgt := 18) dX6_faceWrong_5 (by decide) (fun c1 => ?_) (fun c1 => ?_)
  · replace h := xif_n c1 h
    show V yX6_faceWrong cX6_faceWrong (some .int) 2 61 (0, 0) 18 [some (.ref 27), some (.int p1), some (.int p2), none, none] [] (xof s0 [W_27 o27, W_28 a28, W_29 a29]) _
    exact vb_X6_faceWrong_27_18 s0 n o27 a28 a29 p1 p2 q h
  · replace h := xif_p c1 h
    refine x_aload_n dX6_faceWrong_8 rfl ?_
    refine x_dup dX6_faceWrong_9 rfl ?_
    refine g_X6_61 rfl dX6_faceWrong_10 (by decide) rfl rfl ?_
    refine x_iconst (v := 1) dX6_faceWrong_13 (by decide) ?_
    refine x_iadd dX6_faceWrong_14 ?_
    refine p_X6_61 (fs' := [_, _, _, _, _, _, _, _, _, _, _, _, _, _, _, _, _, _, _]) (L' := [(27, _), (28, _), (29, _)]) rfl dX6_faceWrong_15 (by decide) rfl (Nat.le_of_ble_eq_true rfl) rfl rfl ?_
    show V yX6_faceWrong cX6_faceWrong (some .int) 2 61 (0, 0) 18 [some (.ref 27), some (.int p1), some (.int p2), none, none] [] (xof s0 [W_27 (upd o27 9 (((o27 9) + 1))), W_28 a28, W_29 a29]) _
    exact vb_X6_faceWrong_27_18 s0 n (upd o27 9 (((o27 9) + 1))) a28 a29 p1 p2 q h
def b_X6_judge_27_55 (n : Nat) (o27 : Nat → Int32) (a28 : Nat → Int32) (a29 : Nat → Int32) (o30 : Nat → Int32) (j30 : Int64) (l2 : Int32) (t0 : Int32) : Option (((Nat → Int32) × (Nat → Int32))) := (some (o27, upd a29 8 (((a29 8) + 1))))
set_option maxRecDepth 100000 in
set_option maxHeartbeats 400000 in
theorem vb_X6_judge_27_55 (s0 : XW) (n : Nat) (o27 : Nat → Int32) (a28 : Nat → Int32) (a29 : Nat → Int32) (o30 : Nat → Int32) (j30 : Int64) (l2 : Int32) (t0 : Int32) (q : ((Nat → Int32) × (Nat → Int32))) (h : b_X6_judge_27_55 n o27 a28 a29 o30 j30 l2 t0 = some q) : V yX6_judge cX6_judge none 3 61 (0, 0) 55 [some (.ref 27), none, some (.int l2), none] [.int t0] (xof s0 [W_27 o27, W_28 a28, W_29 a29, W_30 o30 j30]) (xq 61 none (xof s0 [W_27 q.1, W_28 a28, W_29 q.2, W_30 o30 j30])) := by
  unfold b_X6_judge_27_55 at h
  refine x_istore_n (ls' := [_, _, _, _]) dX6_judge_55 rfl rfl ?_
  refine x_aload_n dX6_judge_56 rfl ?_
  refine g_X6_9 rfl dX6_judge_57 (by decide) rfl rfl ?_
  refine x_bipush (v := 8) dX6_judge_60 (by decide) ?_
  refine x_dup2 dX6_judge_62 rfl rfl ?_
  refine x_ialdK (jn := 8) (v := (a29 8)) dX6_judge_63 (by decide) rfl (xin_ok (by decide)) (by decide) rfl ?_
  refine x_iconst (v := 1) dX6_judge_64 (by decide) ?_
  refine x_iadd dX6_judge_65 ?_
  refine x_iastK (jn := 8) (L' := [(27, _), (28, _), (29, _), (30, _)]) dX6_judge_66 (by decide) rfl (xin_ok (by decide)) (by decide) rfl ?_
  refine x_aload_n dX6_judge_67 rfl ?_
  refine g_X6_40 rfl dX6_judge_68 (by decide) rfl rfl ?_
  refine x_ifnullN (tgt := 90) dX6_judge_71 (by decide) ?_
  cases h
  exact x_vret dX6_judge_90 ⟨rfl, rfl, rfl⟩
def f_X6_judge_27 (n : Nat) (o27 : Nat → Int32) (a28 : Nat → Int32) (a29 : Nat → Int32) (o30 : Nat → Int32) (j30 : Int64) (p1 : Int32) : Option (((Nat → Int32) × (Nat → Int32))) := (Option.bind (f_X10_syndromeNow_30 o30 j30) (fun q1 => (Option.bind (f_X10_headerNow_30 o30 j30) (fun q2 => (if q1 = 0 then (Option.bind (f_X6_acceptRight_27 (upd (upd (upd (upd o27 15 0) 16 q2) 17 0) 18 ((p1 - 40))) a28 a29 p1) (fun q5 => (b_X6_judge_27_55 n q5.2.1 a28 q5.2.2 o30 j30 q1 q5.1))) else (Option.bind (f_X6_faceWrong_27 n (upd (upd (upd (upd o27 15 0) 16 q2) 17 0) 18 ((p1 - 40))) a28 a29 q1 p1) (fun q4 => (b_X6_judge_27_55 n q4.2.1 a28 q4.2.2 o30 j30 q1 q4.1))))))))
set_option maxRecDepth 100000 in
set_option maxHeartbeats 400000 in
theorem v_X6_judge_27 (s0 : XW) (n : Nat) (o27 : Nat → Int32) (a28 : Nat → Int32) (a29 : Nat → Int32) (o30 : Nat → Int32) (j30 : Int64) (p1 : Int32) (q : ((Nat → Int32) × (Nat → Int32))) (h : f_X6_judge_27 n o27 a28 a29 o30 j30 p1 = some q) : C_X6_judge 3 61 [.ref 27, .int p1] (xof s0 [W_27 o27, W_28 a28, W_29 a29, W_30 o30 j30]) none (xof s0 [W_27 q.1, W_28 a28, W_29 q.2, W_30 o30 j30]) := by
  unfold f_X6_judge_27 at h
  show V yX6_judge cX6_judge none 3 61 (0, 0) 0 [some (.ref 27), some (.int p1), none, none] [] (xof s0 [W_27 o27, W_28 a28, W_29 a29, W_30 o30 j30]) _
  refine x_aload_n dX6_judge_0 rfl ?_
  refine x_iconst (v := 0) dX6_judge_1 (by decide) ?_
  refine p_X6_80 (fs' := [_, _, _, _, _, _, _, _, _, _, _, _, _, _, _, _, _, _, _]) (L' := [(27, _), (28, _), (29, _), (30, _)]) rfl dX6_judge_2 (by decide) rfl (Nat.le_of_ble_eq_true rfl) rfl rfl ?_
  refine x_aload_n dX6_judge_5 rfl ?_
  refine g_X6_18 rfl dX6_judge_6 (by decide) rfl rfl ?_
  obtain ⟨q1, hq1, h⟩ := Option.bind_eq_some_iff.mp h
  refine y_callVi (L' := [(27, _), (28, _), (29, _), (30, _)]) mi_X10_syndromeNow ml_X6_153 im_X10_syndromeNow se_X10_syndromeNow (rfl : vwCl[9]? = _) dX6_judge_9 (fun s1 => v_X10_syndromeNow_30 s1 _ _ q1 hq1) (by decide) rfl (Nat.le_of_ble_eq_true rfl) rfl (by decide) (Nat.le_of_ble_eq_true rfl) rfl rfl rfl rfl ?_
  refine x_istore_n (ls' := [_, _, _, _]) dX6_judge_12 rfl rfl ?_
  refine x_aload_n dX6_judge_13 rfl ?_
  refine x_aload_n dX6_judge_14 rfl ?_
  refine g_X6_18 rfl dX6_judge_15 (by decide) rfl rfl ?_
  obtain ⟨q2, hq2, h⟩ := Option.bind_eq_some_iff.mp h
  refine y_callVi (L' := [(27, _), (28, _), (29, _), (30, _)]) mi_X10_headerNow ml_X6_156 im_X10_headerNow se_X10_headerNow (rfl : vwCl[9]? = _) dX6_judge_18 (fun s1 => v_X10_headerNow_30 s1 _ _ q2 hq2) (by decide) rfl (Nat.le_of_ble_eq_true rfl) rfl (by decide) (Nat.le_of_ble_eq_true rfl) rfl rfl rfl rfl ?_
  refine p_X6_96 (fs' := [_, _, _, _, _, _, _, _, _, _, _, _, _, _, _, _, _, _, _]) (L' := [(27, _), (28, _), (29, _), (30, _)]) rfl dX6_judge_21 (by decide) rfl (Nat.le_of_ble_eq_true rfl) rfl rfl ?_
  refine x_aload_n dX6_judge_24 rfl ?_
  refine x_iconst (v := 0) dX6_judge_25 (by decide) ?_
  refine p_X6_99 (fs' := [_, _, _, _, _, _, _, _, _, _, _, _, _, _, _, _, _, _, _]) (L' := [(27, _), (28, _), (29, _), (30, _)]) rfl dX6_judge_26 (by decide) rfl (Nat.le_of_ble_eq_true rfl) rfl rfl ?_
  refine x_aload_n dX6_judge_29 rfl ?_
  refine x_iload_n dX6_judge_30 rfl ?_
  refine x_bipush (v := 40) dX6_judge_31 (by decide) ?_
  refine x_isub dX6_judge_33 ?_
  refine p_X6_102 (fs' := [_, _, _, _, _, _, _, _, _, _, _, _, _, _, _, _, _, _, _]) (L' := [(27, _), (28, _), (29, _), (30, _)]) rfl dX6_judge_34 (by decide) rfl (Nat.le_of_ble_eq_true rfl) rfl rfl ?_
  refine x_iload_n dX6_judge_37 rfl ?_
  refine x_if_ne (tgt := 49) dX6_judge_38 (by decide) (fun c3 => ?_) (fun c3 => ?_)
  · replace h := xif_n c3 h
    refine x_aload_n dX6_judge_49 rfl ?_
    refine x_iload_n dX6_judge_50 rfl ?_
    refine x_iload_n dX6_judge_51 rfl ?_
    obtain ⟨q4, hq4, h⟩ := Option.bind_eq_some_iff.mp h
    refine y_callVi (L' := [(27, _), (28, _), (29, _), (30, _)]) mi_X6_faceWrong ml_X6_163 im_X6_faceWrong se_X6_faceWrong (rfl : vwCl[5]? = _) dX6_judge_52 (fun s1 => v_X6_faceWrong_27 s1 n _ _ _ _ _ q4 hq4) (by decide) rfl (Nat.le_of_ble_eq_true rfl) rfl (by decide) (Nat.le_of_ble_eq_true rfl) rfl rfl rfl rfl ?_
    refine V.drop1 (i := 1) (ls' := [_, _, _, _]) rfl ?_
    show V yX6_judge cX6_judge none 3 61 (0, 0) 55 [some (.ref 27), none, some (.int q1), none] [.int q4.1] (xof s0 [W_27 q4.2.1, W_28 a28, W_29 q4.2.2, W_30 o30 j30]) _
    exact vb_X6_judge_27_55 s0 n q4.2.1 a28 q4.2.2 o30 j30 q1 q4.1 q h
  · replace h := xif_p c3 h
    refine x_aload_n dX6_judge_41 rfl ?_
    refine x_iload_n dX6_judge_42 rfl ?_
    obtain ⟨q5, hq5, h⟩ := Option.bind_eq_some_iff.mp h
    refine y_callVi (L' := [(27, _), (28, _), (29, _), (30, _)]) mi_X6_acceptRight ml_X6_159 im_X6_acceptRight se_X6_acceptRight (rfl : vwCl[5]? = _) dX6_judge_43 (fun s1 => v_X6_acceptRight_27 s1 _ _ _ _ q5 hq5) (by decide) rfl (Nat.le_of_ble_eq_true rfl) rfl (by decide) (Nat.le_of_ble_eq_true rfl) rfl rfl rfl rfl ?_
    refine x_goto (tgt := 55) dX6_judge_46 (by decide) ?_
    refine V.drop1 (i := 1) (ls' := [_, _, _, _]) rfl ?_
    show V yX6_judge cX6_judge none 3 61 (0, 0) 55 [some (.ref 27), none, some (.int q1), none] [.int q5.1] (xof s0 [W_27 q5.2.1, W_28 a28, W_29 q5.2.2, W_30 o30 j30]) _
    exact vb_X6_judge_27_55 s0 n q5.2.1 a28 q5.2.2 o30 j30 q1 q5.1 q h
def b_X6_receive_27_116 (n : Nat) (o4 : Nat → Int32) (a6 : Nat → Int32) (a7 : Nat → Int32) (o27 : Nat → Int32) (a28 : Nat → Int32) (a29 : Nat → Int32) (o30 : Nat → Int32) (j30 : Int64) (j31 : Int64) (a32 : Nat → Int32) (t1 : Int32) : Option (((Nat → Int32) × (Nat → Int32) × (Nat → Int32) × (Int64) × (Int64) × (Nat → Int32))) := (Option.bind (f_X6_watch_27 o27 a28 a29 t1) (fun q11 => (some (q11.1, q11.2, o30, j30, j31, a32))))
set_option maxRecDepth 100000 in
set_option maxHeartbeats 400000 in
theorem vb_X6_receive_27_116 (s0 : XW) (n : Nat) (o4 : Nat → Int32) (a6 : Nat → Int32) (a7 : Nat → Int32) (o27 : Nat → Int32) (a28 : Nat → Int32) (a29 : Nat → Int32) (o30 : Nat → Int32) (j30 : Int64) (j31 : Int64) (a32 : Nat → Int32) (t1 : Int32) (q : ((Nat → Int32) × (Nat → Int32) × (Nat → Int32) × (Int64) × (Int64) × (Nat → Int32))) (h : b_X6_receive_27_116 n o4 a6 a7 o27 a28 a29 o30 j30 j31 a32 t1 = some q) : V yX6_receive cX6_receive none 4 61 (0, 0) 116 [none, none, none, none] [.int t1, .ref 27] (xof s0 [W_4 o4, W_6 a6, W_7 a7, W_27 o27, W_28 a28, W_29 a29, W_30 o30 j30, W_31 j31, W_32 a32]) (xq 61 none (xof s0 [W_4 o4, W_6 a6, W_7 a7, W_27 q.1, W_28 a28, W_29 q.2.1, W_30 q.2.2.1 q.2.2.2.1, W_31 q.2.2.2.2.1, W_32 q.2.2.2.2.2])) := by
  unfold b_X6_receive_27_116 at h
  obtain ⟨q11, hq11, h⟩ := Option.bind_eq_some_iff.mp h
  refine y_callVv (L' := [(4, _), (6, _), (7, _), (27, _), (28, _), (29, _), (30, _), (31, _), (32, _)]) mi_X6_watch ml_X6_125 im_X6_watch se_X6_watch (rfl : vwCl[5]? = _) dX6_receive_116 (fun s1 => v_X6_watch_27 s1 _ _ _ _ q11 hq11) (by decide) rfl (Nat.le_of_ble_eq_true rfl) rfl (by decide) (Nat.le_of_ble_eq_true rfl) rfl rfl rfl rfl ?_
  cases h
  exact x_vret dX6_receive_119 ⟨rfl, rfl, rfl⟩
def b_X6_receive_27_105 (n : Nat) (o4 : Nat → Int32) (a6 : Nat → Int32) (a7 : Nat → Int32) (o27 : Nat → Int32) (a28 : Nat → Int32) (a29 : Nat → Int32) (o30 : Nat → Int32) (j30 : Int64) (j31 : Int64) (a32 : Nat → Int32) (l3 : Int32) : Option (((Nat → Int32) × (Nat → Int32) × (Nat → Int32) × (Int64) × (Int64) × (Nat → Int32))) := (if l3 = 2 then (b_X6_receive_27_116 n o4 a6 a7 o27 a28 a29 o30 j30 j31 a32 1) else (b_X6_receive_27_116 n o4 a6 a7 o27 a28 a29 o30 j30 j31 a32 0))
set_option maxRecDepth 100000 in
set_option maxHeartbeats 400000 in
theorem vb_X6_receive_27_105 (s0 : XW) (n : Nat) (o4 : Nat → Int32) (a6 : Nat → Int32) (a7 : Nat → Int32) (o27 : Nat → Int32) (a28 : Nat → Int32) (a29 : Nat → Int32) (o30 : Nat → Int32) (j30 : Int64) (j31 : Int64) (a32 : Nat → Int32) (l3 : Int32) (q : ((Nat → Int32) × (Nat → Int32) × (Nat → Int32) × (Int64) × (Int64) × (Nat → Int32))) (h : b_X6_receive_27_105 n o4 a6 a7 o27 a28 a29 o30 j30 j31 a32 l3 = some q) : V yX6_receive cX6_receive none 4 61 (0, 0) 105 [some (.ref 27), none, none, some (.int l3)] [] (xof s0 [W_4 o4, W_6 a6, W_7 a7, W_27 o27, W_28 a28, W_29 a29, W_30 o30 j30, W_31 j31, W_32 a32]) (xq 61 none (xof s0 [W_4 o4, W_6 a6, W_7 a7, W_27 q.1, W_28 a28, W_29 q.2.1, W_30 q.2.2.1 q.2.2.2.1, W_31 q.2.2.2.2.1, W_32 q.2.2.2.2.2])) := by
  unfold b_X6_receive_27_105 at h
  refine x_aload_n dX6_receive_105 rfl ?_
  refine x_iload_n dX6_receive_106 rfl ?_
  refine x_iconst (v := 2) dX6_receive_107 (by decide) ?_
  refine x_icmp_ne (tgt := 115) dX6_receive_108 (by decide) (fun c10 => ?_) (fun c10 => ?_)
  · replace h := xif_n c10 h
    refine x_iconst (v := 0) dX6_receive_115 (by decide) ?_
    refine V.drop1 (i := 0) (ls' := [_, _, _, _]) rfl ?_
    refine V.drop1 (i := 3) (ls' := [_, _, _, _]) rfl ?_
    show V yX6_receive cX6_receive none 4 61 (0, 0) 116 [none, none, none, none] [.int 0, .ref 27] (xof s0 [W_4 o4, W_6 a6, W_7 a7, W_27 o27, W_28 a28, W_29 a29, W_30 o30 j30, W_31 j31, W_32 a32]) _
    exact vb_X6_receive_27_116 s0 n o4 a6 a7 o27 a28 a29 o30 j30 j31 a32 0 q h
  · replace h := xif_p c10 h
    refine x_iconst (v := 1) dX6_receive_111 (by decide) ?_
    refine x_goto (tgt := 116) dX6_receive_112 (by decide) ?_
    refine V.drop1 (i := 0) (ls' := [_, _, _, _]) rfl ?_
    refine V.drop1 (i := 3) (ls' := [_, _, _, _]) rfl ?_
    show V yX6_receive cX6_receive none 4 61 (0, 0) 116 [none, none, none, none] [.int 1, .ref 27] (xof s0 [W_4 o4, W_6 a6, W_7 a7, W_27 o27, W_28 a28, W_29 a29, W_30 o30 j30, W_31 j31, W_32 a32]) _
    exact vb_X6_receive_27_116 s0 n o4 a6 a7 o27 a28 a29 o30 j30 j31 a32 1 q h
def b_X6_receive_27_52 (n : Nat) (o4 : Nat → Int32) (a6 : Nat → Int32) (a7 : Nat → Int32) (o27 : Nat → Int32) (a28 : Nat → Int32) (a29 : Nat → Int32) (o30 : Nat → Int32) (j30 : Int64) (j31 : Int64) (a32 : Nat → Int32) (l1 : Int32) (l2 : Int32) (l3 : Int32) (t1 : Int32) : Option (((Nat → Int32) × (Nat → Int32) × (Nat → Int32) × (Int64) × (Int64) × (Nat → Int32))) := (bif xin t1 14 then (bif xin t1 14 then (Option.bind (f_X6_loadBits_27 o27 a28) (fun q6 => (if q6 ≤ (o27 15) then (Option.bind (f_X6_loadBits_27 (upd o27 15 (((o27 15) + 1))) a28) (fun q8 => (if (((o27 15) + 1) - q8) = 40 then (Option.bind (f_X6_judge_27 n (upd o27 15 (((o27 15) + 1))) a28 (upd a29 ((Int32.toNatClampNeg t1)) (((a29 (Int32.toNatClampNeg t1)) + 1))) o30 j30 l2) (fun q12 => (b_X6_receive_27_105 n o4 a6 a7 q12.1 a28 q12.2 o30 j30 j31 a32 l3))) else (b_X6_receive_27_105 n o4 a6 a7 (upd o27 15 (((o27 15) + 1))) a28 (upd a29 ((Int32.toNatClampNeg t1)) (((a29 (Int32.toNatClampNeg t1)) + 1))) o30 j30 j31 a32 l3)))) else (Option.bind (f_X6_carry_27 n o4 a6 a7 o27 a28 (upd a29 ((Int32.toNatClampNeg t1)) (((a29 (Int32.toNatClampNeg t1)) + 1))) j31 a32 l1) (fun q13 => (b_X6_receive_27_105 n o4 a6 a7 q13.1 a28 q13.2.1 o30 j30 q13.2.2.1 q13.2.2.2 l3)))))) else none) else none)
set_option maxRecDepth 100000 in
set_option maxHeartbeats 400000 in
theorem vb_X6_receive_27_52 (s0 : XW) (n : Nat) (o4 : Nat → Int32) (a6 : Nat → Int32) (a7 : Nat → Int32) (o27 : Nat → Int32) (a28 : Nat → Int32) (a29 : Nat → Int32) (o30 : Nat → Int32) (j30 : Int64) (j31 : Int64) (a32 : Nat → Int32) (l1 : Int32) (l2 : Int32) (l3 : Int32) (t1 : Int32) (q : ((Nat → Int32) × (Nat → Int32) × (Nat → Int32) × (Int64) × (Int64) × (Nat → Int32))) (h : b_X6_receive_27_52 n o4 a6 a7 o27 a28 a29 o30 j30 j31 a32 l1 l2 l3 t1 = some q) : V yX6_receive cX6_receive none 4 61 (0, 0) 52 [some (.ref 27), some (.int l1), some (.int l2), some (.int l3)] [.int t1, .ref 29] (xof s0 [W_4 o4, W_6 a6, W_7 a7, W_27 o27, W_28 a28, W_29 a29, W_30 o30 j30, W_31 j31, W_32 a32]) (xq 61 none (xof s0 [W_4 o4, W_6 a6, W_7 a7, W_27 q.1, W_28 a28, W_29 q.2.1, W_30 q.2.2.1 q.2.2.2.1, W_31 q.2.2.2.2.1, W_32 q.2.2.2.2.2])) := by
  unfold b_X6_receive_27_52 at h
  refine x_dup2 dX6_receive_52 rfl rfl ?_
  obtain ⟨c4, h⟩ := xck h
  refine x_ialdK (jn := (Int32.toNatClampNeg t1)) (v := (a29 (Int32.toNatClampNeg t1))) dX6_receive_53 (by decide) rfl (xin_ok c4) rfl rfl ?_
  refine x_iconst (v := 1) dX6_receive_54 (by decide) ?_
  refine x_iadd dX6_receive_55 ?_
  obtain ⟨c5, h⟩ := xck h
  refine x_iastK (jn := (Int32.toNatClampNeg t1)) (L' := [(4, _), (6, _), (7, _), (27, _), (28, _), (29, _), (30, _), (31, _), (32, _)]) dX6_receive_56 (by decide) rfl (xin_ok c5) rfl rfl ?_
  refine x_aload_n dX6_receive_57 rfl ?_
  refine g_X6_80 rfl dX6_receive_58 (by decide) rfl rfl ?_
  refine x_aload_n dX6_receive_61 rfl ?_
  obtain ⟨q6, hq6, h⟩ := Option.bind_eq_some_iff.mp h
  refine y_callVi (L' := [(4, _), (6, _), (7, _), (27, _), (28, _), (29, _), (30, _), (31, _), (32, _)]) mi_X6_loadBits ml_X6_105 im_X6_loadBits se_X6_loadBits (rfl : vwCl[5]? = _) dX6_receive_62 (fun s1 => v_X6_loadBits_27 s1 _ _ q6 hq6) (by decide) rfl (Nat.le_of_ble_eq_true rfl) rfl (by decide) (Nat.le_of_ble_eq_true rfl) rfl rfl rfl rfl ?_
  refine x_icmp_ge (tgt := 76) dX6_receive_65 (by decide) (fun c7 => ?_) (fun c7 => ?_)
  · replace h := xif_p c7 h
    refine x_aload_n dX6_receive_76 rfl ?_
    refine x_dup dX6_receive_77 rfl ?_
    refine g_X6_80 rfl dX6_receive_78 (by decide) rfl rfl ?_
    refine x_iconst (v := 1) dX6_receive_81 (by decide) ?_
    refine x_iadd dX6_receive_82 ?_
    refine p_X6_80 (fs' := [_, _, _, _, _, _, _, _, _, _, _, _, _, _, _, _, _, _, _]) (L' := [(4, _), (6, _), (7, _), (27, _), (28, _), (29, _), (30, _), (31, _), (32, _)]) rfl dX6_receive_83 (by decide) rfl (Nat.le_of_ble_eq_true rfl) rfl rfl ?_
    refine x_aload_n dX6_receive_86 rfl ?_
    refine g_X6_80 rfl dX6_receive_87 (by decide) rfl rfl ?_
    refine x_aload_n dX6_receive_90 rfl ?_
    obtain ⟨q8, hq8, h⟩ := Option.bind_eq_some_iff.mp h
    refine y_callVi (L' := [(4, _), (6, _), (7, _), (27, _), (28, _), (29, _), (30, _), (31, _), (32, _)]) mi_X6_loadBits ml_X6_105 im_X6_loadBits se_X6_loadBits (rfl : vwCl[5]? = _) dX6_receive_91 (fun s1 => v_X6_loadBits_27 s1 _ _ q8 hq8) (by decide) rfl (Nat.le_of_ble_eq_true rfl) rfl (by decide) (Nat.le_of_ble_eq_true rfl) rfl rfl rfl rfl ?_
    refine x_isub dX6_receive_94 ?_
    refine x_bipush (v := 40) dX6_receive_95 (by decide) ?_
    refine x_icmp_ne (tgt := 105) dX6_receive_97 (by decide) (fun c9 => ?_) (fun c9 => ?_)
    · replace h := xif_n c9 h
      refine V.drop1 (i := 1) (ls' := [_, _, _, _]) rfl ?_
      refine V.drop1 (i := 2) (ls' := [_, _, _, _]) rfl ?_
      show V yX6_receive cX6_receive none 4 61 (0, 0) 105 [some (.ref 27), none, none, some (.int l3)] [] (xof s0 [W_4 o4, W_6 a6, W_7 a7, W_27 (upd o27 15 (((o27 15) + 1))), W_28 a28, W_29 (upd a29 ((Int32.toNatClampNeg t1)) (((a29 (Int32.toNatClampNeg t1)) + 1))), W_30 o30 j30, W_31 j31, W_32 a32]) _
      exact vb_X6_receive_27_105 s0 n o4 a6 a7 (upd o27 15 (((o27 15) + 1))) a28 (upd a29 ((Int32.toNatClampNeg t1)) (((a29 (Int32.toNatClampNeg t1)) + 1))) o30 j30 j31 a32 l3 q h
    · replace h := xif_p c9 h
      refine x_aload_n dX6_receive_100 rfl ?_
      refine x_iload_n dX6_receive_101 rfl ?_
      obtain ⟨q12, hq12, h⟩ := Option.bind_eq_some_iff.mp h
      refine y_callVv (L' := [(4, _), (6, _), (7, _), (27, _), (28, _), (29, _), (30, _), (31, _), (32, _)]) mi_X6_judge ml_X6_122 im_X6_judge se_X6_judge (rfl : vwCl[5]? = _) dX6_receive_102 (fun s1 => v_X6_judge_27 s1 n _ _ _ _ _ _ q12 hq12) (by decide) rfl (Nat.le_of_ble_eq_true rfl) rfl (by decide) (Nat.le_of_ble_eq_true rfl) rfl rfl rfl rfl ?_
      refine V.drop1 (i := 1) (ls' := [_, _, _, _]) rfl ?_
      refine V.drop1 (i := 2) (ls' := [_, _, _, _]) rfl ?_
      show V yX6_receive cX6_receive none 4 61 (0, 0) 105 [some (.ref 27), none, none, some (.int l3)] [] (xof s0 [W_4 o4, W_6 a6, W_7 a7, W_27 q12.1, W_28 a28, W_29 q12.2, W_30 o30 j30, W_31 j31, W_32 a32]) _
      exact vb_X6_receive_27_105 s0 n o4 a6 a7 q12.1 a28 q12.2 o30 j30 j31 a32 l3 q h
  · replace h := xif_n c7 h
    refine x_aload_n dX6_receive_68 rfl ?_
    refine x_iload_n dX6_receive_69 rfl ?_
    obtain ⟨q13, hq13, h⟩ := Option.bind_eq_some_iff.mp h
    refine y_callVv (L' := [(4, _), (6, _), (7, _), (27, _), (28, _), (29, _), (30, _), (31, _), (32, _)]) mi_X6_carry ml_X6_119 im_X6_carry se_X6_carry (rfl : vwCl[5]? = _) dX6_receive_70 (fun s1 => v_X6_carry_27 s1 n _ _ _ _ _ _ _ _ _ q13 hq13) (by decide) rfl (Nat.le_of_ble_eq_true rfl) rfl (by decide) (Nat.le_of_ble_eq_true rfl) rfl rfl rfl rfl ?_
    refine x_goto (tgt := 105) dX6_receive_73 (by decide) ?_
    refine V.drop1 (i := 1) (ls' := [_, _, _, _]) rfl ?_
    refine V.drop1 (i := 2) (ls' := [_, _, _, _]) rfl ?_
    show V yX6_receive cX6_receive none 4 61 (0, 0) 105 [some (.ref 27), none, none, some (.int l3)] [] (xof s0 [W_4 o4, W_6 a6, W_7 a7, W_27 q13.1, W_28 a28, W_29 q13.2.1, W_30 o30 j30, W_31 q13.2.2.1, W_32 q13.2.2.2]) _
    exact vb_X6_receive_27_105 s0 n o4 a6 a7 q13.1 a28 q13.2.1 o30 j30 q13.2.2.1 q13.2.2.2 l3 q h
def f_X6_receive_27 (n : Nat) (o4 : Nat → Int32) (a6 : Nat → Int32) (a7 : Nat → Int32) (o27 : Nat → Int32) (a28 : Nat → Int32) (a29 : Nat → Int32) (o30 : Nat → Int32) (j30 : Int64) (j31 : Int64) (a32 : Nat → Int32) (p1 : Int32) (p2 : Int32) : Option (((Nat → Int32) × (Nat → Int32) × (Nat → Int32) × (Int64) × (Int64) × (Nat → Int32))) := (Option.bind (f_X10_push_30 o30 j30 p1) (fun q1 => (if (o27 7) = 0 then (Option.bind (f_X6_hunt_27 o27 a28 (upd a29 6 (((a29 6) + 1))) q1.1 q1.2 p2) (fun q14 => (b_X6_receive_27_105 n o4 a6 a7 q14.1 a28 q14.2 q1.1 q1.2 j31 a32 ((o27 7))))) else (if (o27 7) = 1 then (b_X6_receive_27_52 n o4 a6 a7 o27 a28 a29 q1.1 q1.2 j31 a32 p1 p2 ((o27 7)) 12) else (b_X6_receive_27_52 n o4 a6 a7 o27 a28 a29 q1.1 q1.2 j31 a32 p1 p2 ((o27 7)) 13)))))
set_option maxRecDepth 100000 in
set_option maxHeartbeats 400000 in
theorem v_X6_receive_27 (s0 : XW) (n : Nat) (o4 : Nat → Int32) (a6 : Nat → Int32) (a7 : Nat → Int32) (o27 : Nat → Int32) (a28 : Nat → Int32) (a29 : Nat → Int32) (o30 : Nat → Int32) (j30 : Int64) (j31 : Int64) (a32 : Nat → Int32) (p1 : Int32) (p2 : Int32) (q : ((Nat → Int32) × (Nat → Int32) × (Nat → Int32) × (Int64) × (Int64) × (Nat → Int32))) (h : f_X6_receive_27 n o4 a6 a7 o27 a28 a29 o30 j30 j31 a32 p1 p2 = some q) : C_X6_receive 4 61 [.ref 27, .int p1, .int p2] (xof s0 [W_4 o4, W_6 a6, W_7 a7, W_27 o27, W_28 a28, W_29 a29, W_30 o30 j30, W_31 j31, W_32 a32]) none (xof s0 [W_4 o4, W_6 a6, W_7 a7, W_27 q.1, W_28 a28, W_29 q.2.1, W_30 q.2.2.1 q.2.2.2.1, W_31 q.2.2.2.2.1, W_32 q.2.2.2.2.2]) := by
  unfold f_X6_receive_27 at h
  show V yX6_receive cX6_receive none 4 61 (0, 0) 0 [some (.ref 27), some (.int p1), some (.int p2), none] [] (xof s0 [W_4 o4, W_6 a6, W_7 a7, W_27 o27, W_28 a28, W_29 a29, W_30 o30 j30, W_31 j31, W_32 a32]) _
  refine x_aload_n dX6_receive_0 rfl ?_
  refine g_X6_54 rfl dX6_receive_1 (by decide) rfl rfl ?_
  refine x_istore_n (ls' := [_, _, _, _]) dX6_receive_4 rfl rfl ?_
  refine x_aload_n dX6_receive_5 rfl ?_
  refine g_X6_18 rfl dX6_receive_6 (by decide) rfl rfl ?_
  refine x_iload_n dX6_receive_9 rfl ?_
  obtain ⟨q1, hq1, h⟩ := Option.bind_eq_some_iff.mp h
  refine y_callVv (L' := [(4, _), (6, _), (7, _), (27, _), (28, _), (29, _), (30, _), (31, _), (32, _)]) mi_X10_push ml_X6_112 im_X10_push se_X10_push (rfl : vwCl[9]? = _) dX6_receive_10 (fun s1 => v_X10_push_30 s1 _ _ _ q1 hq1) (by decide) rfl (Nat.le_of_ble_eq_true rfl) rfl (by decide) (Nat.le_of_ble_eq_true rfl) rfl rfl rfl rfl ?_
  refine x_iload_n dX6_receive_13 rfl ?_
  refine x_if_ne (tgt := 36) dX6_receive_14 (by decide) (fun c2 => ?_) (fun c2 => ?_)
  · replace h := xif_n c2 h
    refine x_aload_n dX6_receive_36 rfl ?_
    refine g_X6_9 rfl dX6_receive_37 (by decide) rfl rfl ?_
    refine x_iload_n dX6_receive_40 rfl ?_
    refine x_iconst (v := 1) dX6_receive_41 (by decide) ?_
    refine x_icmp_ne (tgt := 50) dX6_receive_42 (by decide) (fun c3 => ?_) (fun c3 => ?_)
    · replace h := xif_n c3 h
      refine x_bipush (v := 13) dX6_receive_50 (by decide) ?_
      show V yX6_receive cX6_receive none 4 61 (0, 0) 52 [some (.ref 27), some (.int p1), some (.int p2), some (.int ((o27 7)))] [.int 13, .ref 29] (xof s0 [W_4 o4, W_6 a6, W_7 a7, W_27 o27, W_28 a28, W_29 a29, W_30 q1.1 q1.2, W_31 j31, W_32 a32]) _
      exact vb_X6_receive_27_52 s0 n o4 a6 a7 o27 a28 a29 q1.1 q1.2 j31 a32 p1 p2 ((o27 7)) 13 q h
    · replace h := xif_p c3 h
      refine x_bipush (v := 12) dX6_receive_45 (by decide) ?_
      refine x_goto (tgt := 52) dX6_receive_47 (by decide) ?_
      show V yX6_receive cX6_receive none 4 61 (0, 0) 52 [some (.ref 27), some (.int p1), some (.int p2), some (.int ((o27 7)))] [.int 12, .ref 29] (xof s0 [W_4 o4, W_6 a6, W_7 a7, W_27 o27, W_28 a28, W_29 a29, W_30 q1.1 q1.2, W_31 j31, W_32 a32]) _
      exact vb_X6_receive_27_52 s0 n o4 a6 a7 o27 a28 a29 q1.1 q1.2 j31 a32 p1 p2 ((o27 7)) 12 q h
  · replace h := xif_p c2 h
    refine x_aload_n dX6_receive_17 rfl ?_
    refine g_X6_9 rfl dX6_receive_18 (by decide) rfl rfl ?_
    refine x_bipush (v := 6) dX6_receive_21 (by decide) ?_
    refine x_dup2 dX6_receive_23 rfl rfl ?_
    refine x_ialdK (jn := 6) (v := (a29 6)) dX6_receive_24 (by decide) rfl (xin_ok (by decide)) (by decide) rfl ?_
    refine x_iconst (v := 1) dX6_receive_25 (by decide) ?_
    refine x_iadd dX6_receive_26 ?_
    refine x_iastK (jn := 6) (L' := [(4, _), (6, _), (7, _), (27, _), (28, _), (29, _), (30, _), (31, _), (32, _)]) dX6_receive_27 (by decide) rfl (xin_ok (by decide)) (by decide) rfl ?_
    refine x_aload_n dX6_receive_28 rfl ?_
    refine x_iload_n dX6_receive_29 rfl ?_
    obtain ⟨q14, hq14, h⟩ := Option.bind_eq_some_iff.mp h
    refine y_callVv (L' := [(4, _), (6, _), (7, _), (27, _), (28, _), (29, _), (30, _), (31, _), (32, _)]) mi_X6_hunt ml_X6_116 im_X6_hunt se_X6_hunt (rfl : vwCl[5]? = _) dX6_receive_30 (fun s1 => v_X6_hunt_27 s1 _ _ _ _ _ _ q14 hq14) (by decide) rfl (Nat.le_of_ble_eq_true rfl) rfl (by decide) (Nat.le_of_ble_eq_true rfl) rfl rfl rfl rfl ?_
    refine x_goto (tgt := 105) dX6_receive_33 (by decide) ?_
    refine V.drop1 (i := 1) (ls' := [_, _, _, _]) rfl ?_
    refine V.drop1 (i := 2) (ls' := [_, _, _, _]) rfl ?_
    show V yX6_receive cX6_receive none 4 61 (0, 0) 105 [some (.ref 27), none, none, some (.int ((o27 7)))] [] (xof s0 [W_4 o4, W_6 a6, W_7 a7, W_27 q14.1, W_28 a28, W_29 q14.2, W_30 q1.1 q1.2, W_31 j31, W_32 a32]) _
    exact vb_X6_receive_27_105 s0 n o4 a6 a7 q14.1 a28 q14.2 q1.1 q1.2 j31 a32 ((o27 7)) q h
def l_X11_spread_0_69 (n : Nat) (a1 : Nat → Int32) (o2 : Nat → Int32) (a3 : Nat → Int32) (o4 : Nat → Int32) (a6 : Nat → Int32) (a7 : Nat → Int32) (o16 : Nat → Int32) (a17 : Nat → Int32) (o18 : Nat → Int32) (j18 : Int64) (j19 : Int64) (a20 : Nat → Int32) (a22 : Nat → Int32) (a28 : Nat → Int32) (l1 : Int32) (l2 : Int32) : Nat → (Int32) → (Int32) → (Nat → Int32) → (Nat → Int32) → (Nat → Int32) → (Int64) → (Int64) → (Nat → Int32) → (Nat → Int32) → (Nat → Int32) → (Nat → Int32) → (Int64) → (Int64) → (Nat → Int32) → Option ((((Int32) × (Nat → Int32) × (Nat → Int32) × (Nat → Int32) × (Nat → Int32) × (Int64) × (Int64) × (Nat → Int32) × (Nat → Int32) × (Nat → Int32) × (Nat → Int32) × (Nat → Int32) × (Int64) × (Int64) × (Nat → Int32))) ⊕ (((Int32) × (Int32) × (Nat → Int32) × (Nat → Int32) × (Nat → Int32) × (Int64) × (Int64) × (Nat → Int32) × (Nat → Int32) × (Nat → Int32) × (Nat → Int32) × (Int64) × (Int64) × (Nat → Int32))))
  | 0, _, _, _, _, _, _, _, _, _, _, _, _, _, _ => none
  | k + 1, l3, l4, o21, a23, o24, j24, j25, a26, o27, a29, o30, j30, j31, a32 => (if (o2 1) ≤ l4 then (some (Sum.inr (l3, l4, o21, a23, o24, j24, j25, a26, o27, a29, o30, j30, j31, a32))) else (Option.bind (f_X4_bitAt_2 o2 a3 l4) (fun q8 => (if l4 = l1 then (Option.bind (f_X6_plainOf_21 o21 a22 j25 q8) (fun q24 => (Option.bind (f_X6_plainOf_27 o27 a28 j31 ((1 - q8))) (fun q25 => (if q24 = (-1) then (Option.bind (f_X6_receive_21 n o4 a6 a7 o21 a22 a23 o24 j24 j25 a26 q8 ((l4 + 1))) (fun q27 => (Option.bind (f_X6_receive_27 n o4 a6 a7 o27 a28 a29 o30 j30 j31 a32 ((1 - q8)) ((l4 + 1))) (fun q28 => (l_X11_spread_0_69 n a1 o2 a3 o4 a6 a7 o16 a17 o18 j18 j19 a20 a22 a28 l1 l2 k l3 ((l4 + 1)) q27.1 q27.2.1 q27.2.2.1 q27.2.2.2.1 q27.2.2.2.2.1 q27.2.2.2.2.2 q28.1 q28.2.1 q28.2.2.1 q28.2.2.2.1 q28.2.2.2.2.1 q28.2.2.2.2.2))))) else (if q25 = (-1) then (Option.bind (f_X6_receive_21 n o4 a6 a7 o21 a22 a23 o24 j24 j25 a26 q8 ((l4 + 1))) (fun q30 => (Option.bind (f_X6_receive_27 n o4 a6 a7 o27 a28 a29 o30 j30 j31 a32 ((1 - q8)) ((l4 + 1))) (fun q31 => (l_X11_spread_0_69 n a1 o2 a3 o4 a6 a7 o16 a17 o18 j18 j19 a20 a22 a28 l1 l2 k l3 ((l4 + 1)) q30.1 q30.2.1 q30.2.2.1 q30.2.2.2.1 q30.2.2.2.2.1 q30.2.2.2.2.2 q31.1 q31.2.1 q31.2.2.1 q31.2.2.2.1 q31.2.2.2.2.1 q31.2.2.2.2.2))))) else (if q24 = q25 then (Option.bind (f_X6_receive_21 n o4 a6 a7 o21 a22 a23 o24 j24 j25 a26 q8 ((l4 + 1))) (fun q33 => (Option.bind (f_X6_receive_27 n o4 a6 a7 o27 a28 a29 o30 j30 j31 a32 ((1 - q8)) ((l4 + 1))) (fun q34 => (l_X11_spread_0_69 n a1 o2 a3 o4 a6 a7 o16 a17 o18 j18 j19 a20 a22 a28 l1 l2 k l3 ((l4 + 1)) q33.1 q33.2.1 q33.2.2.1 q33.2.2.2.1 q33.2.2.2.2.1 q33.2.2.2.2.2 q34.1 q34.2.1 q34.2.2.1 q34.2.2.2.1 q34.2.2.2.2.1 q34.2.2.2.2.2))))) else (if l3 = l2 then (some (Sum.inl (l4, o21, a22, a23, o24, j24, j25, a26, o27, a28, a29, o30, j30, j31, a32))) else (Option.bind (f_X6_receive_21 n o4 a6 a7 o21 a22 a23 o24 j24 j25 a26 q8 ((l4 + 1))) (fun q36 => (Option.bind (f_X6_receive_27 n o4 a6 a7 o27 a28 a29 o30 j30 j31 a32 ((1 - q8)) ((l4 + 1))) (fun q37 => (l_X11_spread_0_69 n a1 o2 a3 o4 a6 a7 o16 a17 o18 j18 j19 a20 a22 a28 l1 l2 k ((l3 + 1)) ((l4 + 1)) q36.1 q36.2.1 q36.2.2.1 q36.2.2.2.1 q36.2.2.2.2.1 q36.2.2.2.2.2 q37.1 q37.2.1 q37.2.2.1 q37.2.2.2.1 q37.2.2.2.2.1 q37.2.2.2.2.2))))))))))))) else (Option.bind (f_X6_plainOf_21 o21 a22 j25 q8) (fun q10 => (Option.bind (f_X6_plainOf_27 o27 a28 j31 q8) (fun q11 => (if q10 = (-1) then (Option.bind (f_X6_receive_21 n o4 a6 a7 o21 a22 a23 o24 j24 j25 a26 q8 ((l4 + 1))) (fun q13 => (Option.bind (f_X6_receive_27 n o4 a6 a7 o27 a28 a29 o30 j30 j31 a32 q8 ((l4 + 1))) (fun q14 => (l_X11_spread_0_69 n a1 o2 a3 o4 a6 a7 o16 a17 o18 j18 j19 a20 a22 a28 l1 l2 k l3 ((l4 + 1)) q13.1 q13.2.1 q13.2.2.1 q13.2.2.2.1 q13.2.2.2.2.1 q13.2.2.2.2.2 q14.1 q14.2.1 q14.2.2.1 q14.2.2.2.1 q14.2.2.2.2.1 q14.2.2.2.2.2))))) else (if q11 = (-1) then (Option.bind (f_X6_receive_21 n o4 a6 a7 o21 a22 a23 o24 j24 j25 a26 q8 ((l4 + 1))) (fun q16 => (Option.bind (f_X6_receive_27 n o4 a6 a7 o27 a28 a29 o30 j30 j31 a32 q8 ((l4 + 1))) (fun q17 => (l_X11_spread_0_69 n a1 o2 a3 o4 a6 a7 o16 a17 o18 j18 j19 a20 a22 a28 l1 l2 k l3 ((l4 + 1)) q16.1 q16.2.1 q16.2.2.1 q16.2.2.2.1 q16.2.2.2.2.1 q16.2.2.2.2.2 q17.1 q17.2.1 q17.2.2.1 q17.2.2.2.1 q17.2.2.2.2.1 q17.2.2.2.2.2))))) else (if q10 = q11 then (Option.bind (f_X6_receive_21 n o4 a6 a7 o21 a22 a23 o24 j24 j25 a26 q8 ((l4 + 1))) (fun q19 => (Option.bind (f_X6_receive_27 n o4 a6 a7 o27 a28 a29 o30 j30 j31 a32 q8 ((l4 + 1))) (fun q20 => (l_X11_spread_0_69 n a1 o2 a3 o4 a6 a7 o16 a17 o18 j18 j19 a20 a22 a28 l1 l2 k l3 ((l4 + 1)) q19.1 q19.2.1 q19.2.2.1 q19.2.2.2.1 q19.2.2.2.2.1 q19.2.2.2.2.2 q20.1 q20.2.1 q20.2.2.1 q20.2.2.2.1 q20.2.2.2.2.1 q20.2.2.2.2.2))))) else (if l3 = l2 then (some (Sum.inl (l4, o21, a22, a23, o24, j24, j25, a26, o27, a28, a29, o30, j30, j31, a32))) else (Option.bind (f_X6_receive_21 n o4 a6 a7 o21 a22 a23 o24 j24 j25 a26 q8 ((l4 + 1))) (fun q22 => (Option.bind (f_X6_receive_27 n o4 a6 a7 o27 a28 a29 o30 j30 j31 a32 q8 ((l4 + 1))) (fun q23 => (l_X11_spread_0_69 n a1 o2 a3 o4 a6 a7 o16 a17 o18 j18 j19 a20 a22 a28 l1 l2 k ((l3 + 1)) ((l4 + 1)) q22.1 q22.2.1 q22.2.2.1 q22.2.2.2.1 q22.2.2.2.2.1 q22.2.2.2.2.2 q23.1 q23.2.1 q23.2.2.1 q23.2.2.2.1 q23.2.2.2.2.1 q23.2.2.2.2.2)))))))))))))))))
set_option maxRecDepth 100000 in
set_option maxHeartbeats 400000 in
theorem lv_X11_spread_0_69 (s0 : XW) (n : Nat) (a1 : Nat → Int32) (o2 : Nat → Int32) (a3 : Nat → Int32) (o4 : Nat → Int32) (a6 : Nat → Int32) (a7 : Nat → Int32) (o16 : Nat → Int32) (a17 : Nat → Int32) (o18 : Nat → Int32) (j18 : Int64) (j19 : Int64) (a20 : Nat → Int32) (a22 : Nat → Int32) (a28 : Nat → Int32) (l1 : Int32) (l2 : Int32) (Q : Nat → Option Value → XW → Prop) : ∀ (k : Nat) (l3 : Int32) (l4 : Int32) (o21 : Nat → Int32) (a23 : Nat → Int32) (o24 : Nat → Int32) (j24 : Int64) (j25 : Int64) (a26 : Nat → Int32) (o27 : Nat → Int32) (a29 : Nat → Int32) (o30 : Nat → Int32) (j30 : Int64) (j31 : Int64) (a32 : Nat → Int32) (o : (((Int32) × (Nat → Int32) × (Nat → Int32) × (Nat → Int32) × (Nat → Int32) × (Int64) × (Int64) × (Nat → Int32) × (Nat → Int32) × (Nat → Int32) × (Nat → Int32) × (Nat → Int32) × (Int64) × (Int64) × (Nat → Int32))) ⊕ (((Int32) × (Int32) × (Nat → Int32) × (Nat → Int32) × (Nat → Int32) × (Int64) × (Int64) × (Nat → Int32) × (Nat → Int32) × (Nat → Int32) × (Nat → Int32) × (Int64) × (Int64) × (Nat → Int32)))), l_X11_spread_0_69 n a1 o2 a3 o4 a6 a7 o16 a17 o18 j18 j19 a20 a22 a28 l1 l2 k l3 l4 o21 a23 o24 j24 j25 a26 o27 a29 o30 j30 j31 a32 = some o → ((∀ z, o = Sum.inl z → Q 61 (some (.int z.1)) (xof s0 [W_0, W_1 a1, W_2 o2, W_3 a3, W_4 o4, W_6 a6, W_7 a7, W_16 o16, W_17 a17, W_18 o18 j18, W_19 j19, W_20 a20, W_21 z.2.1, W_22 z.2.2.1, W_23 z.2.2.2.1, W_24 z.2.2.2.2.1 z.2.2.2.2.2.1, W_25 z.2.2.2.2.2.2.1, W_26 z.2.2.2.2.2.2.2.1, W_27 z.2.2.2.2.2.2.2.2.1, W_28 z.2.2.2.2.2.2.2.2.2.1, W_29 z.2.2.2.2.2.2.2.2.2.2.1, W_30 z.2.2.2.2.2.2.2.2.2.2.2.1 z.2.2.2.2.2.2.2.2.2.2.2.2.1, W_31 z.2.2.2.2.2.2.2.2.2.2.2.2.2.1, W_32 z.2.2.2.2.2.2.2.2.2.2.2.2.2.2])) ∧ (∀ z, o = Sum.inr z → V yX11_spread cX11_spread (some .int) 5 61 (0, 0) 193 [none, none, some (.int l2), some (.int z.1), none, none, none, none, none] [] (xof s0 [W_0, W_1 a1, W_2 o2, W_3 a3, W_4 o4, W_6 a6, W_7 a7, W_16 o16, W_17 a17, W_18 o18 j18, W_19 j19, W_20 a20, W_21 z.2.2.1, W_22 a22, W_23 z.2.2.2.1, W_24 z.2.2.2.2.1 z.2.2.2.2.2.1, W_25 z.2.2.2.2.2.2.1, W_26 z.2.2.2.2.2.2.2.1, W_27 z.2.2.2.2.2.2.2.2.1, W_28 a28, W_29 z.2.2.2.2.2.2.2.2.2.1, W_30 z.2.2.2.2.2.2.2.2.2.2.1 z.2.2.2.2.2.2.2.2.2.2.2.1, W_31 z.2.2.2.2.2.2.2.2.2.2.2.2.1, W_32 z.2.2.2.2.2.2.2.2.2.2.2.2.2]) Q)) → V yX11_spread cX11_spread (some .int) 5 61 (0, 0) 69 [some (.ref 0), some (.int l1), some (.int l2), some (.int l3), some (.int l4), none, none, none, none] [] (xof s0 [W_0, W_1 a1, W_2 o2, W_3 a3, W_4 o4, W_6 a6, W_7 a7, W_16 o16, W_17 a17, W_18 o18 j18, W_19 j19, W_20 a20, W_21 o21, W_22 a22, W_23 a23, W_24 o24 j24, W_25 j25, W_26 a26, W_27 o27, W_28 a28, W_29 a29, W_30 o30 j30, W_31 j31, W_32 a32]) Q := by
  intro k
  induction k with
  | zero =>
    intro _ _ _ _ _ _ _ _ _ _ _ _ _ _ _ h
    simp [l_X11_spread_0_69] at h
  | succ k ih =>
    intro l3 l4 o21 a23 o24 j24 j25 a26 o27 a29 o30 j30 j31 a32 o h hk
    rw [l_X11_spread_0_69] at h
    refine x_iload dX11_spread_69 rfl ?_
    refine x_aload_n dX11_spread_71 rfl ?_
    refine g_X11_24 rfl dX11_spread_72 (by decide) rfl rfl ?_
    refine g_X11_96 rfl dX11_spread_75 (by decide) rfl rfl ?_
    refine x_icmp_ge (tgt := 193) dX11_spread_78 (by decide) (fun c7 => ?_) (fun c7 => ?_)
    · replace h := xif_p c7 h
      refine V.drop1 (i := 0) (ls' := [_, _, _, _, _, _, _, _, _]) rfl ?_
      refine V.drop1 (i := 1) (ls' := [_, _, _, _, _, _, _, _, _]) rfl ?_
      refine V.drop1 (i := 4) (ls' := [_, _, _, _, _, _, _, _, _]) rfl ?_
      show V yX11_spread cX11_spread (some .int) 5 61 (0, 0) 193 [none, none, some (.int l2), some (.int l3), none, none, none, none, none] [] (xof s0 [W_0, W_1 a1, W_2 o2, W_3 a3, W_4 o4, W_6 a6, W_7 a7, W_16 o16, W_17 a17, W_18 o18 j18, W_19 j19, W_20 a20, W_21 o21, W_22 a22, W_23 a23, W_24 o24 j24, W_25 j25, W_26 a26, W_27 o27, W_28 a28, W_29 a29, W_30 o30 j30, W_31 j31, W_32 a32]) _
      cases h
      exact hk.2 (l3, l4, o21, a23, o24, j24, j25, a26, o27, a29, o30, j30, j31, a32) rfl
    · replace h := xif_n c7 h
      refine x_aload_n dX11_spread_81 rfl ?_
      refine g_X11_24 rfl dX11_spread_82 (by decide) rfl rfl ?_
      refine x_iload dX11_spread_85 rfl ?_
      obtain ⟨q8, hq8, h⟩ := Option.bind_eq_some_iff.mp h
      refine y_callVi (L' := [(0, _), (1, _), (2, _), (3, _), (4, _), (6, _), (7, _), (16, _), (17, _), (18, _), (19, _), (20, _), (21, _), (22, _), (23, _), (24, _), (25, _), (26, _), (27, _), (28, _), (29, _), (30, _), (31, _), (32, _)]) mi_X4_bitAt ml_X11_131 im_X4_bitAt se_X4_bitAt (rfl : vwCl[3]? = _) dX11_spread_87 (fun s1 => v_X4_bitAt_2 s1 _ _ _ q8 hq8) (by decide) rfl (Nat.le_of_ble_eq_true rfl) rfl (by decide) (Nat.le_of_ble_eq_true rfl) rfl rfl rfl rfl ?_
      refine x_istore (ls' := [_, _, _, _, _, _, _, _, _]) dX11_spread_90 rfl rfl ?_
      refine x_iload dX11_spread_92 rfl ?_
      refine x_iload_n dX11_spread_94 rfl ?_
      refine x_icmp_ne (tgt := 105) dX11_spread_95 (by decide) (fun c9 => ?_) (fun c9 => ?_)
      · replace h := xif_n c9 h
        refine x_iload dX11_spread_105 rfl ?_
        refine x_istore (ls' := [_, _, _, _, _, _, _, _, _]) dX11_spread_107 rfl rfl ?_
        refine x_aload_n dX11_spread_109 rfl ?_
        refine g_X11_51 rfl dX11_spread_110 (by decide) rfl rfl ?_
        refine x_iload dX11_spread_113 rfl ?_
        obtain ⟨q10, hq10, h⟩ := Option.bind_eq_some_iff.mp h
        refine y_callVi (L' := [(0, _), (1, _), (2, _), (3, _), (4, _), (6, _), (7, _), (16, _), (17, _), (18, _), (19, _), (20, _), (21, _), (22, _), (23, _), (24, _), (25, _), (26, _), (27, _), (28, _), (29, _), (30, _), (31, _), (32, _)]) mi_X6_plainOf ml_X11_280 im_X6_plainOf se_X6_plainOf (rfl : vwCl[5]? = _) dX11_spread_115 (fun s1 => v_X6_plainOf_21 s1 _ _ _ _ q10 hq10) (by decide) rfl (Nat.le_of_ble_eq_true rfl) rfl (by decide) (Nat.le_of_ble_eq_true rfl) rfl rfl rfl rfl ?_
        refine x_istore (ls' := [_, _, _, _, _, _, _, _, _]) dX11_spread_118 rfl rfl ?_
        refine x_aload_n dX11_spread_120 rfl ?_
        refine g_X11_54 rfl dX11_spread_121 (by decide) rfl rfl ?_
        refine x_iload dX11_spread_124 rfl ?_
        obtain ⟨q11, hq11, h⟩ := Option.bind_eq_some_iff.mp h
        refine y_callVi (L' := [(0, _), (1, _), (2, _), (3, _), (4, _), (6, _), (7, _), (16, _), (17, _), (18, _), (19, _), (20, _), (21, _), (22, _), (23, _), (24, _), (25, _), (26, _), (27, _), (28, _), (29, _), (30, _), (31, _), (32, _)]) mi_X6_plainOf ml_X11_280 im_X6_plainOf se_X6_plainOf (rfl : vwCl[5]? = _) dX11_spread_126 (fun s1 => v_X6_plainOf_27 s1 _ _ _ _ q11 hq11) (by decide) rfl (Nat.le_of_ble_eq_true rfl) rfl (by decide) (Nat.le_of_ble_eq_true rfl) rfl rfl rfl rfl ?_
        refine x_istore (ls' := [_, _, _, _, _, _, _, _, _]) dX11_spread_129 rfl rfl ?_
        refine x_iload dX11_spread_131 rfl ?_
        refine x_iconst (v := -1) dX11_spread_133 (by decide) ?_
        refine x_icmp_eq (tgt := 161) dX11_spread_134 (by decide) (fun c12 => ?_) (fun c12 => ?_)
        · replace h := xif_p c12 h
          refine x_aload_n dX11_spread_161 rfl ?_
          refine g_X11_51 rfl dX11_spread_162 (by decide) rfl rfl ?_
          refine x_iload dX11_spread_165 rfl ?_
          refine x_iload dX11_spread_167 rfl ?_
          refine x_iconst (v := 1) dX11_spread_169 (by decide) ?_
          refine x_iadd dX11_spread_170 ?_
          obtain ⟨q13, hq13, h⟩ := Option.bind_eq_some_iff.mp h
          refine y_callVv (L' := [(0, _), (1, _), (2, _), (3, _), (4, _), (6, _), (7, _), (16, _), (17, _), (18, _), (19, _), (20, _), (21, _), (22, _), (23, _), (24, _), (25, _), (26, _), (27, _), (28, _), (29, _), (30, _), (31, _), (32, _)]) mi_X6_receive ml_X11_271 im_X6_receive se_X6_receive (rfl : vwCl[5]? = _) dX11_spread_171 (fun s1 => v_X6_receive_21 s1 n _ _ _ _ _ _ _ _ _ _ _ _ q13 hq13) (by decide) rfl (Nat.le_of_ble_eq_true rfl) rfl (by decide) (Nat.le_of_ble_eq_true rfl) rfl rfl rfl rfl ?_
          refine x_aload_n dX11_spread_174 rfl ?_
          refine g_X11_54 rfl dX11_spread_175 (by decide) rfl rfl ?_
          refine x_iload dX11_spread_178 rfl ?_
          refine x_iload dX11_spread_180 rfl ?_
          refine x_iconst (v := 1) dX11_spread_182 (by decide) ?_
          refine x_iadd dX11_spread_183 ?_
          obtain ⟨q14, hq14, h⟩ := Option.bind_eq_some_iff.mp h
          refine y_callVv (L' := [(0, _), (1, _), (2, _), (3, _), (4, _), (6, _), (7, _), (16, _), (17, _), (18, _), (19, _), (20, _), (21, _), (22, _), (23, _), (24, _), (25, _), (26, _), (27, _), (28, _), (29, _), (30, _), (31, _), (32, _)]) mi_X6_receive ml_X11_271 im_X6_receive se_X6_receive (rfl : vwCl[5]? = _) dX11_spread_184 (fun s1 => v_X6_receive_27 s1 n _ _ _ _ _ _ _ _ _ _ _ _ q14 hq14) (by decide) rfl (Nat.le_of_ble_eq_true rfl) rfl (by decide) (Nat.le_of_ble_eq_true rfl) rfl rfl rfl rfl ?_
          refine x_iinc (v := l4 + 1) (ls' := [_, _, _, _, _, _, _, _, _]) dX11_spread_187 rfl rfl rfl rfl ?_
          refine x_goto (tgt := 69) dX11_spread_190 (by decide) ?_
          refine V.drop1 (i := 5) (ls' := [_, _, _, _, _, _, _, _, _]) rfl ?_
          refine V.drop1 (i := 6) (ls' := [_, _, _, _, _, _, _, _, _]) rfl ?_
          refine V.drop1 (i := 7) (ls' := [_, _, _, _, _, _, _, _, _]) rfl ?_
          refine V.drop1 (i := 8) (ls' := [_, _, _, _, _, _, _, _, _]) rfl ?_
          show V yX11_spread cX11_spread (some .int) 5 61 (0, 0) 69 [some (.ref 0), some (.int l1), some (.int l2), some (.int l3), some (.int ((l4 + 1))), none, none, none, none] [] (xof s0 [W_0, W_1 a1, W_2 o2, W_3 a3, W_4 o4, W_6 a6, W_7 a7, W_16 o16, W_17 a17, W_18 o18 j18, W_19 j19, W_20 a20, W_21 q13.1, W_22 a22, W_23 q13.2.1, W_24 q13.2.2.1 q13.2.2.2.1, W_25 q13.2.2.2.2.1, W_26 q13.2.2.2.2.2, W_27 q14.1, W_28 a28, W_29 q14.2.1, W_30 q14.2.2.1 q14.2.2.2.1, W_31 q14.2.2.2.2.1, W_32 q14.2.2.2.2.2]) _
          exact ih l3 ((l4 + 1)) q13.1 q13.2.1 q13.2.2.1 q13.2.2.2.1 q13.2.2.2.2.1 q13.2.2.2.2.2 q14.1 q14.2.1 q14.2.2.1 q14.2.2.2.1 q14.2.2.2.2.1 q14.2.2.2.2.2 _ h hk
        · replace h := xif_n c12 h
          refine x_iload dX11_spread_137 rfl ?_
          refine x_iconst (v := -1) dX11_spread_139 (by decide) ?_
          refine x_icmp_eq (tgt := 161) dX11_spread_140 (by decide) (fun c15 => ?_) (fun c15 => ?_)
          · replace h := xif_p c15 h
            refine x_aload_n dX11_spread_161 rfl ?_
            refine g_X11_51 rfl dX11_spread_162 (by decide) rfl rfl ?_
            refine x_iload dX11_spread_165 rfl ?_
            refine x_iload dX11_spread_167 rfl ?_
            refine x_iconst (v := 1) dX11_spread_169 (by decide) ?_
            refine x_iadd dX11_spread_170 ?_
            obtain ⟨q16, hq16, h⟩ := Option.bind_eq_some_iff.mp h
            refine y_callVv (L' := [(0, _), (1, _), (2, _), (3, _), (4, _), (6, _), (7, _), (16, _), (17, _), (18, _), (19, _), (20, _), (21, _), (22, _), (23, _), (24, _), (25, _), (26, _), (27, _), (28, _), (29, _), (30, _), (31, _), (32, _)]) mi_X6_receive ml_X11_271 im_X6_receive se_X6_receive (rfl : vwCl[5]? = _) dX11_spread_171 (fun s1 => v_X6_receive_21 s1 n _ _ _ _ _ _ _ _ _ _ _ _ q16 hq16) (by decide) rfl (Nat.le_of_ble_eq_true rfl) rfl (by decide) (Nat.le_of_ble_eq_true rfl) rfl rfl rfl rfl ?_
            refine x_aload_n dX11_spread_174 rfl ?_
            refine g_X11_54 rfl dX11_spread_175 (by decide) rfl rfl ?_
            refine x_iload dX11_spread_178 rfl ?_
            refine x_iload dX11_spread_180 rfl ?_
            refine x_iconst (v := 1) dX11_spread_182 (by decide) ?_
            refine x_iadd dX11_spread_183 ?_
            obtain ⟨q17, hq17, h⟩ := Option.bind_eq_some_iff.mp h
            refine y_callVv (L' := [(0, _), (1, _), (2, _), (3, _), (4, _), (6, _), (7, _), (16, _), (17, _), (18, _), (19, _), (20, _), (21, _), (22, _), (23, _), (24, _), (25, _), (26, _), (27, _), (28, _), (29, _), (30, _), (31, _), (32, _)]) mi_X6_receive ml_X11_271 im_X6_receive se_X6_receive (rfl : vwCl[5]? = _) dX11_spread_184 (fun s1 => v_X6_receive_27 s1 n _ _ _ _ _ _ _ _ _ _ _ _ q17 hq17) (by decide) rfl (Nat.le_of_ble_eq_true rfl) rfl (by decide) (Nat.le_of_ble_eq_true rfl) rfl rfl rfl rfl ?_
            refine x_iinc (v := l4 + 1) (ls' := [_, _, _, _, _, _, _, _, _]) dX11_spread_187 rfl rfl rfl rfl ?_
            refine x_goto (tgt := 69) dX11_spread_190 (by decide) ?_
            refine V.drop1 (i := 5) (ls' := [_, _, _, _, _, _, _, _, _]) rfl ?_
            refine V.drop1 (i := 6) (ls' := [_, _, _, _, _, _, _, _, _]) rfl ?_
            refine V.drop1 (i := 7) (ls' := [_, _, _, _, _, _, _, _, _]) rfl ?_
            refine V.drop1 (i := 8) (ls' := [_, _, _, _, _, _, _, _, _]) rfl ?_
            show V yX11_spread cX11_spread (some .int) 5 61 (0, 0) 69 [some (.ref 0), some (.int l1), some (.int l2), some (.int l3), some (.int ((l4 + 1))), none, none, none, none] [] (xof s0 [W_0, W_1 a1, W_2 o2, W_3 a3, W_4 o4, W_6 a6, W_7 a7, W_16 o16, W_17 a17, W_18 o18 j18, W_19 j19, W_20 a20, W_21 q16.1, W_22 a22, W_23 q16.2.1, W_24 q16.2.2.1 q16.2.2.2.1, W_25 q16.2.2.2.2.1, W_26 q16.2.2.2.2.2, W_27 q17.1, W_28 a28, W_29 q17.2.1, W_30 q17.2.2.1 q17.2.2.2.1, W_31 q17.2.2.2.2.1, W_32 q17.2.2.2.2.2]) _
            exact ih l3 ((l4 + 1)) q16.1 q16.2.1 q16.2.2.1 q16.2.2.2.1 q16.2.2.2.2.1 q16.2.2.2.2.2 q17.1 q17.2.1 q17.2.2.1 q17.2.2.2.1 q17.2.2.2.2.1 q17.2.2.2.2.2 _ h hk
          · replace h := xif_n c15 h
            refine x_iload dX11_spread_143 rfl ?_
            refine x_iload dX11_spread_145 rfl ?_
            refine x_icmp_eq (tgt := 161) dX11_spread_147 (by decide) (fun c18 => ?_) (fun c18 => ?_)
            · replace h := xif_p c18 h
              refine x_aload_n dX11_spread_161 rfl ?_
              refine g_X11_51 rfl dX11_spread_162 (by decide) rfl rfl ?_
              refine x_iload dX11_spread_165 rfl ?_
              refine x_iload dX11_spread_167 rfl ?_
              refine x_iconst (v := 1) dX11_spread_169 (by decide) ?_
              refine x_iadd dX11_spread_170 ?_
              obtain ⟨q19, hq19, h⟩ := Option.bind_eq_some_iff.mp h
              refine y_callVv (L' := [(0, _), (1, _), (2, _), (3, _), (4, _), (6, _), (7, _), (16, _), (17, _), (18, _), (19, _), (20, _), (21, _), (22, _), (23, _), (24, _), (25, _), (26, _), (27, _), (28, _), (29, _), (30, _), (31, _), (32, _)]) mi_X6_receive ml_X11_271 im_X6_receive se_X6_receive (rfl : vwCl[5]? = _) dX11_spread_171 (fun s1 => v_X6_receive_21 s1 n _ _ _ _ _ _ _ _ _ _ _ _ q19 hq19) (by decide) rfl (Nat.le_of_ble_eq_true rfl) rfl (by decide) (Nat.le_of_ble_eq_true rfl) rfl rfl rfl rfl ?_
              refine x_aload_n dX11_spread_174 rfl ?_
              refine g_X11_54 rfl dX11_spread_175 (by decide) rfl rfl ?_
              refine x_iload dX11_spread_178 rfl ?_
              refine x_iload dX11_spread_180 rfl ?_
              refine x_iconst (v := 1) dX11_spread_182 (by decide) ?_
              refine x_iadd dX11_spread_183 ?_
              obtain ⟨q20, hq20, h⟩ := Option.bind_eq_some_iff.mp h
              refine y_callVv (L' := [(0, _), (1, _), (2, _), (3, _), (4, _), (6, _), (7, _), (16, _), (17, _), (18, _), (19, _), (20, _), (21, _), (22, _), (23, _), (24, _), (25, _), (26, _), (27, _), (28, _), (29, _), (30, _), (31, _), (32, _)]) mi_X6_receive ml_X11_271 im_X6_receive se_X6_receive (rfl : vwCl[5]? = _) dX11_spread_184 (fun s1 => v_X6_receive_27 s1 n _ _ _ _ _ _ _ _ _ _ _ _ q20 hq20) (by decide) rfl (Nat.le_of_ble_eq_true rfl) rfl (by decide) (Nat.le_of_ble_eq_true rfl) rfl rfl rfl rfl ?_
              refine x_iinc (v := l4 + 1) (ls' := [_, _, _, _, _, _, _, _, _]) dX11_spread_187 rfl rfl rfl rfl ?_
              refine x_goto (tgt := 69) dX11_spread_190 (by decide) ?_
              refine V.drop1 (i := 5) (ls' := [_, _, _, _, _, _, _, _, _]) rfl ?_
              refine V.drop1 (i := 6) (ls' := [_, _, _, _, _, _, _, _, _]) rfl ?_
              refine V.drop1 (i := 7) (ls' := [_, _, _, _, _, _, _, _, _]) rfl ?_
              refine V.drop1 (i := 8) (ls' := [_, _, _, _, _, _, _, _, _]) rfl ?_
              show V yX11_spread cX11_spread (some .int) 5 61 (0, 0) 69 [some (.ref 0), some (.int l1), some (.int l2), some (.int l3), some (.int ((l4 + 1))), none, none, none, none] [] (xof s0 [W_0, W_1 a1, W_2 o2, W_3 a3, W_4 o4, W_6 a6, W_7 a7, W_16 o16, W_17 a17, W_18 o18 j18, W_19 j19, W_20 a20, W_21 q19.1, W_22 a22, W_23 q19.2.1, W_24 q19.2.2.1 q19.2.2.2.1, W_25 q19.2.2.2.2.1, W_26 q19.2.2.2.2.2, W_27 q20.1, W_28 a28, W_29 q20.2.1, W_30 q20.2.2.1 q20.2.2.2.1, W_31 q20.2.2.2.2.1, W_32 q20.2.2.2.2.2]) _
              exact ih l3 ((l4 + 1)) q19.1 q19.2.1 q19.2.2.1 q19.2.2.2.1 q19.2.2.2.2.1 q19.2.2.2.2.2 q20.1 q20.2.1 q20.2.2.1 q20.2.2.2.1 q20.2.2.2.2.1 q20.2.2.2.2.2 _ h hk
            · replace h := xif_n c18 h
              refine x_iload_n dX11_spread_150 rfl ?_
              refine x_iload_n dX11_spread_151 rfl ?_
              refine x_icmp_ne (tgt := 158) dX11_spread_152 (by decide) (fun c21 => ?_) (fun c21 => ?_)
              · replace h := xif_n c21 h
                refine x_iinc (v := l3 + 1) (ls' := [_, _, _, _, _, _, _, _, _]) dX11_spread_158 rfl rfl rfl rfl ?_
                refine x_aload_n dX11_spread_161 rfl ?_
                refine g_X11_51 rfl dX11_spread_162 (by decide) rfl rfl ?_
                refine x_iload dX11_spread_165 rfl ?_
                refine x_iload dX11_spread_167 rfl ?_
                refine x_iconst (v := 1) dX11_spread_169 (by decide) ?_
                refine x_iadd dX11_spread_170 ?_
                obtain ⟨q22, hq22, h⟩ := Option.bind_eq_some_iff.mp h
                refine y_callVv (L' := [(0, _), (1, _), (2, _), (3, _), (4, _), (6, _), (7, _), (16, _), (17, _), (18, _), (19, _), (20, _), (21, _), (22, _), (23, _), (24, _), (25, _), (26, _), (27, _), (28, _), (29, _), (30, _), (31, _), (32, _)]) mi_X6_receive ml_X11_271 im_X6_receive se_X6_receive (rfl : vwCl[5]? = _) dX11_spread_171 (fun s1 => v_X6_receive_21 s1 n _ _ _ _ _ _ _ _ _ _ _ _ q22 hq22) (by decide) rfl (Nat.le_of_ble_eq_true rfl) rfl (by decide) (Nat.le_of_ble_eq_true rfl) rfl rfl rfl rfl ?_
                refine x_aload_n dX11_spread_174 rfl ?_
                refine g_X11_54 rfl dX11_spread_175 (by decide) rfl rfl ?_
                refine x_iload dX11_spread_178 rfl ?_
                refine x_iload dX11_spread_180 rfl ?_
                refine x_iconst (v := 1) dX11_spread_182 (by decide) ?_
                refine x_iadd dX11_spread_183 ?_
                obtain ⟨q23, hq23, h⟩ := Option.bind_eq_some_iff.mp h
                refine y_callVv (L' := [(0, _), (1, _), (2, _), (3, _), (4, _), (6, _), (7, _), (16, _), (17, _), (18, _), (19, _), (20, _), (21, _), (22, _), (23, _), (24, _), (25, _), (26, _), (27, _), (28, _), (29, _), (30, _), (31, _), (32, _)]) mi_X6_receive ml_X11_271 im_X6_receive se_X6_receive (rfl : vwCl[5]? = _) dX11_spread_184 (fun s1 => v_X6_receive_27 s1 n _ _ _ _ _ _ _ _ _ _ _ _ q23 hq23) (by decide) rfl (Nat.le_of_ble_eq_true rfl) rfl (by decide) (Nat.le_of_ble_eq_true rfl) rfl rfl rfl rfl ?_
                refine x_iinc (v := l4 + 1) (ls' := [_, _, _, _, _, _, _, _, _]) dX11_spread_187 rfl rfl rfl rfl ?_
                refine x_goto (tgt := 69) dX11_spread_190 (by decide) ?_
                refine V.drop1 (i := 5) (ls' := [_, _, _, _, _, _, _, _, _]) rfl ?_
                refine V.drop1 (i := 6) (ls' := [_, _, _, _, _, _, _, _, _]) rfl ?_
                refine V.drop1 (i := 7) (ls' := [_, _, _, _, _, _, _, _, _]) rfl ?_
                refine V.drop1 (i := 8) (ls' := [_, _, _, _, _, _, _, _, _]) rfl ?_
                show V yX11_spread cX11_spread (some .int) 5 61 (0, 0) 69 [some (.ref 0), some (.int l1), some (.int l2), some (.int ((l3 + 1))), some (.int ((l4 + 1))), none, none, none, none] [] (xof s0 [W_0, W_1 a1, W_2 o2, W_3 a3, W_4 o4, W_6 a6, W_7 a7, W_16 o16, W_17 a17, W_18 o18 j18, W_19 j19, W_20 a20, W_21 q22.1, W_22 a22, W_23 q22.2.1, W_24 q22.2.2.1 q22.2.2.2.1, W_25 q22.2.2.2.2.1, W_26 q22.2.2.2.2.2, W_27 q23.1, W_28 a28, W_29 q23.2.1, W_30 q23.2.2.1 q23.2.2.2.1, W_31 q23.2.2.2.2.1, W_32 q23.2.2.2.2.2]) _
                exact ih ((l3 + 1)) ((l4 + 1)) q22.1 q22.2.1 q22.2.2.1 q22.2.2.2.1 q22.2.2.2.2.1 q22.2.2.2.2.2 q23.1 q23.2.1 q23.2.2.1 q23.2.2.2.1 q23.2.2.2.2.1 q23.2.2.2.2.2 _ h hk
              · replace h := xif_p c21 h
                refine x_iload dX11_spread_155 rfl ?_
                cases h
                exact x_iret dX11_spread_157 (hk.1 (l4, o21, a22, a23, o24, j24, j25, a26, o27, a28, a29, o30, j30, j31, a32) rfl)
      · replace h := xif_p c9 h
        refine x_iconst (v := 1) dX11_spread_98 (by decide) ?_
        refine x_iload dX11_spread_99 rfl ?_
        refine x_isub dX11_spread_101 ?_
        refine x_goto (tgt := 107) dX11_spread_102 (by decide) ?_
        refine x_istore (ls' := [_, _, _, _, _, _, _, _, _]) dX11_spread_107 rfl rfl ?_
        refine x_aload_n dX11_spread_109 rfl ?_
        refine g_X11_51 rfl dX11_spread_110 (by decide) rfl rfl ?_
        refine x_iload dX11_spread_113 rfl ?_
        obtain ⟨q24, hq24, h⟩ := Option.bind_eq_some_iff.mp h
        refine y_callVi (L' := [(0, _), (1, _), (2, _), (3, _), (4, _), (6, _), (7, _), (16, _), (17, _), (18, _), (19, _), (20, _), (21, _), (22, _), (23, _), (24, _), (25, _), (26, _), (27, _), (28, _), (29, _), (30, _), (31, _), (32, _)]) mi_X6_plainOf ml_X11_280 im_X6_plainOf se_X6_plainOf (rfl : vwCl[5]? = _) dX11_spread_115 (fun s1 => v_X6_plainOf_21 s1 _ _ _ _ q24 hq24) (by decide) rfl (Nat.le_of_ble_eq_true rfl) rfl (by decide) (Nat.le_of_ble_eq_true rfl) rfl rfl rfl rfl ?_
        refine x_istore (ls' := [_, _, _, _, _, _, _, _, _]) dX11_spread_118 rfl rfl ?_
        refine x_aload_n dX11_spread_120 rfl ?_
        refine g_X11_54 rfl dX11_spread_121 (by decide) rfl rfl ?_
        refine x_iload dX11_spread_124 rfl ?_
        obtain ⟨q25, hq25, h⟩ := Option.bind_eq_some_iff.mp h
        refine y_callVi (L' := [(0, _), (1, _), (2, _), (3, _), (4, _), (6, _), (7, _), (16, _), (17, _), (18, _), (19, _), (20, _), (21, _), (22, _), (23, _), (24, _), (25, _), (26, _), (27, _), (28, _), (29, _), (30, _), (31, _), (32, _)]) mi_X6_plainOf ml_X11_280 im_X6_plainOf se_X6_plainOf (rfl : vwCl[5]? = _) dX11_spread_126 (fun s1 => v_X6_plainOf_27 s1 _ _ _ _ q25 hq25) (by decide) rfl (Nat.le_of_ble_eq_true rfl) rfl (by decide) (Nat.le_of_ble_eq_true rfl) rfl rfl rfl rfl ?_
        refine x_istore (ls' := [_, _, _, _, _, _, _, _, _]) dX11_spread_129 rfl rfl ?_
        refine x_iload dX11_spread_131 rfl ?_
        refine x_iconst (v := -1) dX11_spread_133 (by decide) ?_
        refine x_icmp_eq (tgt := 161) dX11_spread_134 (by decide) (fun c26 => ?_) (fun c26 => ?_)
        · replace h := xif_p c26 h
          refine x_aload_n dX11_spread_161 rfl ?_
          refine g_X11_51 rfl dX11_spread_162 (by decide) rfl rfl ?_
          refine x_iload dX11_spread_165 rfl ?_
          refine x_iload dX11_spread_167 rfl ?_
          refine x_iconst (v := 1) dX11_spread_169 (by decide) ?_
          refine x_iadd dX11_spread_170 ?_
          obtain ⟨q27, hq27, h⟩ := Option.bind_eq_some_iff.mp h
          refine y_callVv (L' := [(0, _), (1, _), (2, _), (3, _), (4, _), (6, _), (7, _), (16, _), (17, _), (18, _), (19, _), (20, _), (21, _), (22, _), (23, _), (24, _), (25, _), (26, _), (27, _), (28, _), (29, _), (30, _), (31, _), (32, _)]) mi_X6_receive ml_X11_271 im_X6_receive se_X6_receive (rfl : vwCl[5]? = _) dX11_spread_171 (fun s1 => v_X6_receive_21 s1 n _ _ _ _ _ _ _ _ _ _ _ _ q27 hq27) (by decide) rfl (Nat.le_of_ble_eq_true rfl) rfl (by decide) (Nat.le_of_ble_eq_true rfl) rfl rfl rfl rfl ?_
          refine x_aload_n dX11_spread_174 rfl ?_
          refine g_X11_54 rfl dX11_spread_175 (by decide) rfl rfl ?_
          refine x_iload dX11_spread_178 rfl ?_
          refine x_iload dX11_spread_180 rfl ?_
          refine x_iconst (v := 1) dX11_spread_182 (by decide) ?_
          refine x_iadd dX11_spread_183 ?_
          obtain ⟨q28, hq28, h⟩ := Option.bind_eq_some_iff.mp h
          refine y_callVv (L' := [(0, _), (1, _), (2, _), (3, _), (4, _), (6, _), (7, _), (16, _), (17, _), (18, _), (19, _), (20, _), (21, _), (22, _), (23, _), (24, _), (25, _), (26, _), (27, _), (28, _), (29, _), (30, _), (31, _), (32, _)]) mi_X6_receive ml_X11_271 im_X6_receive se_X6_receive (rfl : vwCl[5]? = _) dX11_spread_184 (fun s1 => v_X6_receive_27 s1 n _ _ _ _ _ _ _ _ _ _ _ _ q28 hq28) (by decide) rfl (Nat.le_of_ble_eq_true rfl) rfl (by decide) (Nat.le_of_ble_eq_true rfl) rfl rfl rfl rfl ?_
          refine x_iinc (v := l4 + 1) (ls' := [_, _, _, _, _, _, _, _, _]) dX11_spread_187 rfl rfl rfl rfl ?_
          refine x_goto (tgt := 69) dX11_spread_190 (by decide) ?_
          refine V.drop1 (i := 5) (ls' := [_, _, _, _, _, _, _, _, _]) rfl ?_
          refine V.drop1 (i := 6) (ls' := [_, _, _, _, _, _, _, _, _]) rfl ?_
          refine V.drop1 (i := 7) (ls' := [_, _, _, _, _, _, _, _, _]) rfl ?_
          refine V.drop1 (i := 8) (ls' := [_, _, _, _, _, _, _, _, _]) rfl ?_
          show V yX11_spread cX11_spread (some .int) 5 61 (0, 0) 69 [some (.ref 0), some (.int l1), some (.int l2), some (.int l3), some (.int ((l4 + 1))), none, none, none, none] [] (xof s0 [W_0, W_1 a1, W_2 o2, W_3 a3, W_4 o4, W_6 a6, W_7 a7, W_16 o16, W_17 a17, W_18 o18 j18, W_19 j19, W_20 a20, W_21 q27.1, W_22 a22, W_23 q27.2.1, W_24 q27.2.2.1 q27.2.2.2.1, W_25 q27.2.2.2.2.1, W_26 q27.2.2.2.2.2, W_27 q28.1, W_28 a28, W_29 q28.2.1, W_30 q28.2.2.1 q28.2.2.2.1, W_31 q28.2.2.2.2.1, W_32 q28.2.2.2.2.2]) _
          exact ih l3 ((l4 + 1)) q27.1 q27.2.1 q27.2.2.1 q27.2.2.2.1 q27.2.2.2.2.1 q27.2.2.2.2.2 q28.1 q28.2.1 q28.2.2.1 q28.2.2.2.1 q28.2.2.2.2.1 q28.2.2.2.2.2 _ h hk
        · replace h := xif_n c26 h
          refine x_iload dX11_spread_137 rfl ?_
          refine x_iconst (v := -1) dX11_spread_139 (by decide) ?_
          refine x_icmp_eq (tgt := 161) dX11_spread_140 (by decide) (fun c29 => ?_) (fun c29 => ?_)
          · replace h := xif_p c29 h
            refine x_aload_n dX11_spread_161 rfl ?_
            refine g_X11_51 rfl dX11_spread_162 (by decide) rfl rfl ?_
            refine x_iload dX11_spread_165 rfl ?_
            refine x_iload dX11_spread_167 rfl ?_
            refine x_iconst (v := 1) dX11_spread_169 (by decide) ?_
            refine x_iadd dX11_spread_170 ?_
            obtain ⟨q30, hq30, h⟩ := Option.bind_eq_some_iff.mp h
            refine y_callVv (L' := [(0, _), (1, _), (2, _), (3, _), (4, _), (6, _), (7, _), (16, _), (17, _), (18, _), (19, _), (20, _), (21, _), (22, _), (23, _), (24, _), (25, _), (26, _), (27, _), (28, _), (29, _), (30, _), (31, _), (32, _)]) mi_X6_receive ml_X11_271 im_X6_receive se_X6_receive (rfl : vwCl[5]? = _) dX11_spread_171 (fun s1 => v_X6_receive_21 s1 n _ _ _ _ _ _ _ _ _ _ _ _ q30 hq30) (by decide) rfl (Nat.le_of_ble_eq_true rfl) rfl (by decide) (Nat.le_of_ble_eq_true rfl) rfl rfl rfl rfl ?_
            refine x_aload_n dX11_spread_174 rfl ?_
            refine g_X11_54 rfl dX11_spread_175 (by decide) rfl rfl ?_
            refine x_iload dX11_spread_178 rfl ?_
            refine x_iload dX11_spread_180 rfl ?_
            refine x_iconst (v := 1) dX11_spread_182 (by decide) ?_
            refine x_iadd dX11_spread_183 ?_
            obtain ⟨q31, hq31, h⟩ := Option.bind_eq_some_iff.mp h
            refine y_callVv (L' := [(0, _), (1, _), (2, _), (3, _), (4, _), (6, _), (7, _), (16, _), (17, _), (18, _), (19, _), (20, _), (21, _), (22, _), (23, _), (24, _), (25, _), (26, _), (27, _), (28, _), (29, _), (30, _), (31, _), (32, _)]) mi_X6_receive ml_X11_271 im_X6_receive se_X6_receive (rfl : vwCl[5]? = _) dX11_spread_184 (fun s1 => v_X6_receive_27 s1 n _ _ _ _ _ _ _ _ _ _ _ _ q31 hq31) (by decide) rfl (Nat.le_of_ble_eq_true rfl) rfl (by decide) (Nat.le_of_ble_eq_true rfl) rfl rfl rfl rfl ?_
            refine x_iinc (v := l4 + 1) (ls' := [_, _, _, _, _, _, _, _, _]) dX11_spread_187 rfl rfl rfl rfl ?_
            refine x_goto (tgt := 69) dX11_spread_190 (by decide) ?_
            refine V.drop1 (i := 5) (ls' := [_, _, _, _, _, _, _, _, _]) rfl ?_
            refine V.drop1 (i := 6) (ls' := [_, _, _, _, _, _, _, _, _]) rfl ?_
            refine V.drop1 (i := 7) (ls' := [_, _, _, _, _, _, _, _, _]) rfl ?_
            refine V.drop1 (i := 8) (ls' := [_, _, _, _, _, _, _, _, _]) rfl ?_
            show V yX11_spread cX11_spread (some .int) 5 61 (0, 0) 69 [some (.ref 0), some (.int l1), some (.int l2), some (.int l3), some (.int ((l4 + 1))), none, none, none, none] [] (xof s0 [W_0, W_1 a1, W_2 o2, W_3 a3, W_4 o4, W_6 a6, W_7 a7, W_16 o16, W_17 a17, W_18 o18 j18, W_19 j19, W_20 a20, W_21 q30.1, W_22 a22, W_23 q30.2.1, W_24 q30.2.2.1 q30.2.2.2.1, W_25 q30.2.2.2.2.1, W_26 q30.2.2.2.2.2, W_27 q31.1, W_28 a28, W_29 q31.2.1, W_30 q31.2.2.1 q31.2.2.2.1, W_31 q31.2.2.2.2.1, W_32 q31.2.2.2.2.2]) _
            exact ih l3 ((l4 + 1)) q30.1 q30.2.1 q30.2.2.1 q30.2.2.2.1 q30.2.2.2.2.1 q30.2.2.2.2.2 q31.1 q31.2.1 q31.2.2.1 q31.2.2.2.1 q31.2.2.2.2.1 q31.2.2.2.2.2 _ h hk
          · replace h := xif_n c29 h
            refine x_iload dX11_spread_143 rfl ?_
            refine x_iload dX11_spread_145 rfl ?_
            refine x_icmp_eq (tgt := 161) dX11_spread_147 (by decide) (fun c32 => ?_) (fun c32 => ?_)
            · replace h := xif_p c32 h
              refine x_aload_n dX11_spread_161 rfl ?_
              refine g_X11_51 rfl dX11_spread_162 (by decide) rfl rfl ?_
              refine x_iload dX11_spread_165 rfl ?_
              refine x_iload dX11_spread_167 rfl ?_
              refine x_iconst (v := 1) dX11_spread_169 (by decide) ?_
              refine x_iadd dX11_spread_170 ?_
              obtain ⟨q33, hq33, h⟩ := Option.bind_eq_some_iff.mp h
              refine y_callVv (L' := [(0, _), (1, _), (2, _), (3, _), (4, _), (6, _), (7, _), (16, _), (17, _), (18, _), (19, _), (20, _), (21, _), (22, _), (23, _), (24, _), (25, _), (26, _), (27, _), (28, _), (29, _), (30, _), (31, _), (32, _)]) mi_X6_receive ml_X11_271 im_X6_receive se_X6_receive (rfl : vwCl[5]? = _) dX11_spread_171 (fun s1 => v_X6_receive_21 s1 n _ _ _ _ _ _ _ _ _ _ _ _ q33 hq33) (by decide) rfl (Nat.le_of_ble_eq_true rfl) rfl (by decide) (Nat.le_of_ble_eq_true rfl) rfl rfl rfl rfl ?_
              refine x_aload_n dX11_spread_174 rfl ?_
              refine g_X11_54 rfl dX11_spread_175 (by decide) rfl rfl ?_
              refine x_iload dX11_spread_178 rfl ?_
              refine x_iload dX11_spread_180 rfl ?_
              refine x_iconst (v := 1) dX11_spread_182 (by decide) ?_
              refine x_iadd dX11_spread_183 ?_
              obtain ⟨q34, hq34, h⟩ := Option.bind_eq_some_iff.mp h
              refine y_callVv (L' := [(0, _), (1, _), (2, _), (3, _), (4, _), (6, _), (7, _), (16, _), (17, _), (18, _), (19, _), (20, _), (21, _), (22, _), (23, _), (24, _), (25, _), (26, _), (27, _), (28, _), (29, _), (30, _), (31, _), (32, _)]) mi_X6_receive ml_X11_271 im_X6_receive se_X6_receive (rfl : vwCl[5]? = _) dX11_spread_184 (fun s1 => v_X6_receive_27 s1 n _ _ _ _ _ _ _ _ _ _ _ _ q34 hq34) (by decide) rfl (Nat.le_of_ble_eq_true rfl) rfl (by decide) (Nat.le_of_ble_eq_true rfl) rfl rfl rfl rfl ?_
              refine x_iinc (v := l4 + 1) (ls' := [_, _, _, _, _, _, _, _, _]) dX11_spread_187 rfl rfl rfl rfl ?_
              refine x_goto (tgt := 69) dX11_spread_190 (by decide) ?_
              refine V.drop1 (i := 5) (ls' := [_, _, _, _, _, _, _, _, _]) rfl ?_
              refine V.drop1 (i := 6) (ls' := [_, _, _, _, _, _, _, _, _]) rfl ?_
              refine V.drop1 (i := 7) (ls' := [_, _, _, _, _, _, _, _, _]) rfl ?_
              refine V.drop1 (i := 8) (ls' := [_, _, _, _, _, _, _, _, _]) rfl ?_
              show V yX11_spread cX11_spread (some .int) 5 61 (0, 0) 69 [some (.ref 0), some (.int l1), some (.int l2), some (.int l3), some (.int ((l4 + 1))), none, none, none, none] [] (xof s0 [W_0, W_1 a1, W_2 o2, W_3 a3, W_4 o4, W_6 a6, W_7 a7, W_16 o16, W_17 a17, W_18 o18 j18, W_19 j19, W_20 a20, W_21 q33.1, W_22 a22, W_23 q33.2.1, W_24 q33.2.2.1 q33.2.2.2.1, W_25 q33.2.2.2.2.1, W_26 q33.2.2.2.2.2, W_27 q34.1, W_28 a28, W_29 q34.2.1, W_30 q34.2.2.1 q34.2.2.2.1, W_31 q34.2.2.2.2.1, W_32 q34.2.2.2.2.2]) _
              exact ih l3 ((l4 + 1)) q33.1 q33.2.1 q33.2.2.1 q33.2.2.2.1 q33.2.2.2.2.1 q33.2.2.2.2.2 q34.1 q34.2.1 q34.2.2.1 q34.2.2.2.1 q34.2.2.2.2.1 q34.2.2.2.2.2 _ h hk
            · replace h := xif_n c32 h
              refine x_iload_n dX11_spread_150 rfl ?_
              refine x_iload_n dX11_spread_151 rfl ?_
              refine x_icmp_ne (tgt := 158) dX11_spread_152 (by decide) (fun c35 => ?_) (fun c35 => ?_)
              · replace h := xif_n c35 h
                refine x_iinc (v := l3 + 1) (ls' := [_, _, _, _, _, _, _, _, _]) dX11_spread_158 rfl rfl rfl rfl ?_
                refine x_aload_n dX11_spread_161 rfl ?_
                refine g_X11_51 rfl dX11_spread_162 (by decide) rfl rfl ?_
                refine x_iload dX11_spread_165 rfl ?_
                refine x_iload dX11_spread_167 rfl ?_
                refine x_iconst (v := 1) dX11_spread_169 (by decide) ?_
                refine x_iadd dX11_spread_170 ?_
                obtain ⟨q36, hq36, h⟩ := Option.bind_eq_some_iff.mp h
                refine y_callVv (L' := [(0, _), (1, _), (2, _), (3, _), (4, _), (6, _), (7, _), (16, _), (17, _), (18, _), (19, _), (20, _), (21, _), (22, _), (23, _), (24, _), (25, _), (26, _), (27, _), (28, _), (29, _), (30, _), (31, _), (32, _)]) mi_X6_receive ml_X11_271 im_X6_receive se_X6_receive (rfl : vwCl[5]? = _) dX11_spread_171 (fun s1 => v_X6_receive_21 s1 n _ _ _ _ _ _ _ _ _ _ _ _ q36 hq36) (by decide) rfl (Nat.le_of_ble_eq_true rfl) rfl (by decide) (Nat.le_of_ble_eq_true rfl) rfl rfl rfl rfl ?_
                refine x_aload_n dX11_spread_174 rfl ?_
                refine g_X11_54 rfl dX11_spread_175 (by decide) rfl rfl ?_
                refine x_iload dX11_spread_178 rfl ?_
                refine x_iload dX11_spread_180 rfl ?_
                refine x_iconst (v := 1) dX11_spread_182 (by decide) ?_
                refine x_iadd dX11_spread_183 ?_
                obtain ⟨q37, hq37, h⟩ := Option.bind_eq_some_iff.mp h
                refine y_callVv (L' := [(0, _), (1, _), (2, _), (3, _), (4, _), (6, _), (7, _), (16, _), (17, _), (18, _), (19, _), (20, _), (21, _), (22, _), (23, _), (24, _), (25, _), (26, _), (27, _), (28, _), (29, _), (30, _), (31, _), (32, _)]) mi_X6_receive ml_X11_271 im_X6_receive se_X6_receive (rfl : vwCl[5]? = _) dX11_spread_184 (fun s1 => v_X6_receive_27 s1 n _ _ _ _ _ _ _ _ _ _ _ _ q37 hq37) (by decide) rfl (Nat.le_of_ble_eq_true rfl) rfl (by decide) (Nat.le_of_ble_eq_true rfl) rfl rfl rfl rfl ?_
                refine x_iinc (v := l4 + 1) (ls' := [_, _, _, _, _, _, _, _, _]) dX11_spread_187 rfl rfl rfl rfl ?_
                refine x_goto (tgt := 69) dX11_spread_190 (by decide) ?_
                refine V.drop1 (i := 5) (ls' := [_, _, _, _, _, _, _, _, _]) rfl ?_
                refine V.drop1 (i := 6) (ls' := [_, _, _, _, _, _, _, _, _]) rfl ?_
                refine V.drop1 (i := 7) (ls' := [_, _, _, _, _, _, _, _, _]) rfl ?_
                refine V.drop1 (i := 8) (ls' := [_, _, _, _, _, _, _, _, _]) rfl ?_
                show V yX11_spread cX11_spread (some .int) 5 61 (0, 0) 69 [some (.ref 0), some (.int l1), some (.int l2), some (.int ((l3 + 1))), some (.int ((l4 + 1))), none, none, none, none] [] (xof s0 [W_0, W_1 a1, W_2 o2, W_3 a3, W_4 o4, W_6 a6, W_7 a7, W_16 o16, W_17 a17, W_18 o18 j18, W_19 j19, W_20 a20, W_21 q36.1, W_22 a22, W_23 q36.2.1, W_24 q36.2.2.1 q36.2.2.2.1, W_25 q36.2.2.2.2.1, W_26 q36.2.2.2.2.2, W_27 q37.1, W_28 a28, W_29 q37.2.1, W_30 q37.2.2.1 q37.2.2.2.1, W_31 q37.2.2.2.2.1, W_32 q37.2.2.2.2.2]) _
                exact ih ((l3 + 1)) ((l4 + 1)) q36.1 q36.2.1 q36.2.2.1 q36.2.2.2.1 q36.2.2.2.2.1 q36.2.2.2.2.2 q37.1 q37.2.1 q37.2.2.1 q37.2.2.2.1 q37.2.2.2.2.1 q37.2.2.2.2.2 _ h hk
              · replace h := xif_p c35 h
                refine x_iload dX11_spread_155 rfl ?_
                cases h
                exact x_iret dX11_spread_157 (hk.1 (l4, o21, a22, a23, o24, j24, j25, a26, o27, a28, a29, o30, j30, j31, a32) rfl)
def f_X11_spread_0 (n : Nat) (a1 : Nat → Int32) (o2 : Nat → Int32) (a3 : Nat → Int32) (o4 : Nat → Int32) (a6 : Nat → Int32) (a7 : Nat → Int32) (o16 : Nat → Int32) (a17 : Nat → Int32) (o18 : Nat → Int32) (j18 : Int64) (j19 : Int64) (a20 : Nat → Int32) (o21 : Nat → Int32) (a22 : Nat → Int32) (a23 : Nat → Int32) (o24 : Nat → Int32) (j24 : Int64) (j25 : Int64) (a26 : Nat → Int32) (o27 : Nat → Int32) (a28 : Nat → Int32) (a29 : Nat → Int32) (o30 : Nat → Int32) (j30 : Int64) (j31 : Int64) (a32 : Nat → Int32) (p1 : Int32) (p2 : Int32) : Option (((Int32) × (Nat → Int32) × (Nat → Int32) × (Nat → Int32) × (Nat → Int32) × (Int64) × (Int64) × (Nat → Int32) × (Nat → Int32) × (Nat → Int32) × (Nat → Int32) × (Nat → Int32) × (Int64) × (Int64) × (Nat → Int32))) := (Option.bind (f_X4_has_2 o2 a3 p1) (fun q1 => (if q1 = 0 then (some ((-2), o21, a22, a23, o24, j24, j25, a26, o27, a28, a29, o30, j30, j31, a32)) else (if (-1) ≤ p2 then (if (o2 2) ≤ p1 then (Option.bind (f_X6_mirror_21_16 a1 o16 a17 o18 j18 j19 a20 o21 a22 a23 o24 j24 j25 a26) (fun q5 => (Option.bind (f_X6_mirror_27_16 a1 o16 a17 o18 j18 j19 a20 o27 a28 a29 o30 j30 j31 a32) (fun q6 => (Option.bind (l_X11_spread_0_69 n a1 o2 a3 o4 a6 a7 o16 a17 o18 j18 j19 a20 q5.2.1 q6.2.1 p1 p2 n 0 ((o2 2)) q5.1 q5.2.2.1 q5.2.2.2.1 q5.2.2.2.2.1 q5.2.2.2.2.2.1 q5.2.2.2.2.2.2 q6.1 q6.2.2.1 q6.2.2.2.1 q6.2.2.2.2.1 q6.2.2.2.2.2.1 q6.2.2.2.2.2.2) (fun u38 => Sum.elim (fun z39 => some z39) (fun z39 => (if p2 = (-1) then (some (z39.1, z39.2.2.1, q5.2.1, z39.2.2.2.1, z39.2.2.2.2.1, z39.2.2.2.2.2.1, z39.2.2.2.2.2.2.1, z39.2.2.2.2.2.2.2.1, z39.2.2.2.2.2.2.2.2.1, q6.2.1, z39.2.2.2.2.2.2.2.2.2.1, z39.2.2.2.2.2.2.2.2.2.2.1, z39.2.2.2.2.2.2.2.2.2.2.2.1, z39.2.2.2.2.2.2.2.2.2.2.2.2.1, z39.2.2.2.2.2.2.2.2.2.2.2.2.2)) else (some ((-1), z39.2.2.1, q5.2.1, z39.2.2.2.1, z39.2.2.2.2.1, z39.2.2.2.2.2.1, z39.2.2.2.2.2.2.1, z39.2.2.2.2.2.2.2.1, z39.2.2.2.2.2.2.2.2.1, q6.2.1, z39.2.2.2.2.2.2.2.2.2.1, z39.2.2.2.2.2.2.2.2.2.2.1, z39.2.2.2.2.2.2.2.2.2.2.2.1, z39.2.2.2.2.2.2.2.2.2.2.2.2.1, z39.2.2.2.2.2.2.2.2.2.2.2.2.2)))) u38)))))) else (some ((-5), o21, a22, a23, o24, j24, j25, a26, o27, a28, a29, o30, j30, j31, a32))) else (some ((-3), o21, a22, a23, o24, j24, j25, a26, o27, a28, a29, o30, j30, j31, a32))))))
set_option maxRecDepth 100000 in
set_option maxHeartbeats 400000 in
theorem v_X11_spread_0 (s0 : XW) (n : Nat) (a1 : Nat → Int32) (o2 : Nat → Int32) (a3 : Nat → Int32) (o4 : Nat → Int32) (a6 : Nat → Int32) (a7 : Nat → Int32) (o16 : Nat → Int32) (a17 : Nat → Int32) (o18 : Nat → Int32) (j18 : Int64) (j19 : Int64) (a20 : Nat → Int32) (o21 : Nat → Int32) (a22 : Nat → Int32) (a23 : Nat → Int32) (o24 : Nat → Int32) (j24 : Int64) (j25 : Int64) (a26 : Nat → Int32) (o27 : Nat → Int32) (a28 : Nat → Int32) (a29 : Nat → Int32) (o30 : Nat → Int32) (j30 : Int64) (j31 : Int64) (a32 : Nat → Int32) (p1 : Int32) (p2 : Int32) (q : ((Int32) × (Nat → Int32) × (Nat → Int32) × (Nat → Int32) × (Nat → Int32) × (Int64) × (Int64) × (Nat → Int32) × (Nat → Int32) × (Nat → Int32) × (Nat → Int32) × (Nat → Int32) × (Int64) × (Int64) × (Nat → Int32))) (h : f_X11_spread_0 n a1 o2 a3 o4 a6 a7 o16 a17 o18 j18 j19 a20 o21 a22 a23 o24 j24 j25 a26 o27 a28 a29 o30 j30 j31 a32 p1 p2 = some q) : C_X11_spread 5 61 [.ref 0, .int p1, .int p2] (xof s0 [W_0, W_1 a1, W_2 o2, W_3 a3, W_4 o4, W_6 a6, W_7 a7, W_16 o16, W_17 a17, W_18 o18 j18, W_19 j19, W_20 a20, W_21 o21, W_22 a22, W_23 a23, W_24 o24 j24, W_25 j25, W_26 a26, W_27 o27, W_28 a28, W_29 a29, W_30 o30 j30, W_31 j31, W_32 a32]) (some (.int q.1)) (xof s0 [W_0, W_1 a1, W_2 o2, W_3 a3, W_4 o4, W_6 a6, W_7 a7, W_16 o16, W_17 a17, W_18 o18 j18, W_19 j19, W_20 a20, W_21 q.2.1, W_22 q.2.2.1, W_23 q.2.2.2.1, W_24 q.2.2.2.2.1 q.2.2.2.2.2.1, W_25 q.2.2.2.2.2.2.1, W_26 q.2.2.2.2.2.2.2.1, W_27 q.2.2.2.2.2.2.2.2.1, W_28 q.2.2.2.2.2.2.2.2.2.1, W_29 q.2.2.2.2.2.2.2.2.2.2.1, W_30 q.2.2.2.2.2.2.2.2.2.2.2.1 q.2.2.2.2.2.2.2.2.2.2.2.2.1, W_31 q.2.2.2.2.2.2.2.2.2.2.2.2.2.1, W_32 q.2.2.2.2.2.2.2.2.2.2.2.2.2.2]) := by
  unfold f_X11_spread_0 at h
  show V yX11_spread cX11_spread (some .int) 5 61 (0, 0) 0 [some (.ref 0), some (.int p1), some (.int p2), none, none, none, none, none, none] [] (xof s0 [W_0, W_1 a1, W_2 o2, W_3 a3, W_4 o4, W_6 a6, W_7 a7, W_16 o16, W_17 a17, W_18 o18 j18, W_19 j19, W_20 a20, W_21 o21, W_22 a22, W_23 a23, W_24 o24 j24, W_25 j25, W_26 a26, W_27 o27, W_28 a28, W_29 a29, W_30 o30 j30, W_31 j31, W_32 a32]) _
  refine x_aload_n dX11_spread_0 rfl ?_
  refine g_X11_24 rfl dX11_spread_1 (by decide) rfl rfl ?_
  refine x_iload_n dX11_spread_4 rfl ?_
  obtain ⟨q1, hq1, h⟩ := Option.bind_eq_some_iff.mp h
  refine y_callVi (L' := [(0, _), (1, _), (2, _), (3, _), (4, _), (6, _), (7, _), (16, _), (17, _), (18, _), (19, _), (20, _), (21, _), (22, _), (23, _), (24, _), (25, _), (26, _), (27, _), (28, _), (29, _), (30, _), (31, _), (32, _)]) mi_X4_has ml_X11_122 im_X4_has se_X4_has (rfl : vwCl[3]? = _) dX11_spread_5 (fun s1 => v_X4_has_2 s1 _ _ _ q1 hq1) (by decide) rfl (Nat.le_of_ble_eq_true rfl) rfl (by decide) (Nat.le_of_ble_eq_true rfl) rfl rfl rfl rfl ?_
  refine x_if_ne (tgt := 14) dX11_spread_8 (by decide) (fun c2 => ?_) (fun c2 => ?_)
  · replace h := xif_n c2 h
    refine x_iload_n dX11_spread_14 rfl ?_
    refine x_iconst (v := -1) dX11_spread_15 (by decide) ?_
    refine x_icmp_ge (tgt := 22) dX11_spread_16 (by decide) (fun c3 => ?_) (fun c3 => ?_)
    · replace h := xif_p c3 h
      refine x_iload_n dX11_spread_22 rfl ?_
      refine x_aload_n dX11_spread_23 rfl ?_
      refine g_X11_24 rfl dX11_spread_24 (by decide) rfl rfl ?_
      refine g_X11_125 rfl dX11_spread_27 (by decide) rfl rfl ?_
      refine x_icmp_ge (tgt := 36) dX11_spread_30 (by decide) (fun c4 => ?_) (fun c4 => ?_)
      · replace h := xif_p c4 h
        refine x_aload_n dX11_spread_36 rfl ?_
        refine g_X11_51 rfl dX11_spread_37 (by decide) rfl rfl ?_
        refine x_aload_n dX11_spread_40 rfl ?_
        refine g_X11_47 rfl dX11_spread_41 (by decide) rfl rfl ?_
        obtain ⟨q5, hq5, h⟩ := Option.bind_eq_some_iff.mp h
        refine y_callVv (L' := [(0, _), (1, _), (2, _), (3, _), (4, _), (6, _), (7, _), (16, _), (17, _), (18, _), (19, _), (20, _), (21, _), (22, _), (23, _), (24, _), (25, _), (26, _), (27, _), (28, _), (29, _), (30, _), (31, _), (32, _)]) mi_X6_mirror ml_X11_267 im_X6_mirror se_X6_mirror (rfl : vwCl[5]? = _) dX11_spread_44 (fun s1 => v_X6_mirror_21_16 s1 _ _ _ _ _ _ _ _ _ _ _ _ _ _ q5 hq5) (by decide) rfl (Nat.le_of_ble_eq_true rfl) rfl (by decide) (Nat.le_of_ble_eq_true rfl) rfl rfl rfl rfl ?_
        refine x_aload_n dX11_spread_47 rfl ?_
        refine g_X11_54 rfl dX11_spread_48 (by decide) rfl rfl ?_
        refine x_aload_n dX11_spread_51 rfl ?_
        refine g_X11_47 rfl dX11_spread_52 (by decide) rfl rfl ?_
        obtain ⟨q6, hq6, h⟩ := Option.bind_eq_some_iff.mp h
        refine y_callVv (L' := [(0, _), (1, _), (2, _), (3, _), (4, _), (6, _), (7, _), (16, _), (17, _), (18, _), (19, _), (20, _), (21, _), (22, _), (23, _), (24, _), (25, _), (26, _), (27, _), (28, _), (29, _), (30, _), (31, _), (32, _)]) mi_X6_mirror ml_X11_267 im_X6_mirror se_X6_mirror (rfl : vwCl[5]? = _) dX11_spread_55 (fun s1 => v_X6_mirror_27_16 s1 _ _ _ _ _ _ _ _ _ _ _ _ _ _ q6 hq6) (by decide) rfl (Nat.le_of_ble_eq_true rfl) rfl (by decide) (Nat.le_of_ble_eq_true rfl) rfl rfl rfl rfl ?_
        refine x_iconst (v := 0) dX11_spread_58 (by decide) ?_
        refine x_istore_n (ls' := [_, _, _, _, _, _, _, _, _]) dX11_spread_59 rfl rfl ?_
        refine x_aload_n dX11_spread_60 rfl ?_
        refine g_X11_24 rfl dX11_spread_61 (by decide) rfl rfl ?_
        refine g_X11_125 rfl dX11_spread_64 (by decide) rfl rfl ?_
        refine x_istore (ls' := [_, _, _, _, _, _, _, _, _]) dX11_spread_67 rfl rfl ?_
        obtain ⟨u38, hu38, h⟩ := Option.bind_eq_some_iff.mp h
        show V yX11_spread cX11_spread (some .int) 5 61 (0, 0) 69 [some (.ref 0), some (.int p1), some (.int p2), some (.int 0), some (.int ((o2 2))), none, none, none, none] [] (xof s0 [W_0, W_1 a1, W_2 o2, W_3 a3, W_4 o4, W_6 a6, W_7 a7, W_16 o16, W_17 a17, W_18 o18 j18, W_19 j19, W_20 a20, W_21 q5.1, W_22 q5.2.1, W_23 q5.2.2.1, W_24 q5.2.2.2.1 q5.2.2.2.2.1, W_25 q5.2.2.2.2.2.1, W_26 q5.2.2.2.2.2.2, W_27 q6.1, W_28 q6.2.1, W_29 q6.2.2.1, W_30 q6.2.2.2.1 q6.2.2.2.2.1, W_31 q6.2.2.2.2.2.1, W_32 q6.2.2.2.2.2.2]) _
        refine lv_X11_spread_0_69 s0 _ a1 o2 a3 o4 a6 a7 o16 a17 o18 j18 j19 a20 q5.2.1 q6.2.1 p1 p2 _ n 0 ((o2 2)) q5.1 q5.2.2.1 q5.2.2.2.1 q5.2.2.2.2.1 q5.2.2.2.2.2.1 q5.2.2.2.2.2.2 q6.1 q6.2.2.1 q6.2.2.2.1 q6.2.2.2.2.1 q6.2.2.2.2.2.1 q6.2.2.2.2.2.2 _ hu38 ⟨fun z39 hz => ?_, fun z39 hz => ?_⟩
        · subst hz
          replace h := xsl h
          cases h
          exact ⟨rfl, rfl, rfl⟩
        subst hz
        replace h := xsr h
        refine x_iload_n dX11_spread_193 rfl ?_
        refine x_iconst (v := -1) dX11_spread_194 (by decide) ?_
        refine x_icmp_ne (tgt := 202) dX11_spread_195 (by decide) (fun c40 => ?_) (fun c40 => ?_)
        · replace h := xif_n c40 h
          refine x_iconst (v := -1) dX11_spread_202 (by decide) ?_
          cases h
          exact x_iret dX11_spread_203 ⟨rfl, rfl, rfl⟩
        · replace h := xif_p c40 h
          refine x_iload_n dX11_spread_198 rfl ?_
          refine x_goto (tgt := 203) dX11_spread_199 (by decide) ?_
          cases h
          exact x_iret dX11_spread_203 ⟨rfl, rfl, rfl⟩
      · replace h := xif_n c4 h
        refine x_bipush (v := -5) dX11_spread_33 (by decide) ?_
        cases h
        exact x_iret dX11_spread_35 ⟨rfl, rfl, rfl⟩
    · replace h := xif_n c3 h
      refine x_bipush (v := -3) dX11_spread_19 (by decide) ?_
      cases h
      exact x_iret dX11_spread_21 ⟨rfl, rfl, rfl⟩
  · replace h := xif_p c2 h
    refine x_bipush (v := -2) dX11_spread_11 (by decide) ?_
    cases h
    exact x_iret dX11_spread_13 ⟨rfl, rfl, rfl⟩
def f_X10_clear_33 (o33 : Nat → Int32) (j33 : Int64)  : Option (((Nat → Int32) × (Int64))) := (some (upd (upd o33 1 0) 2 0, 0))
set_option maxRecDepth 100000 in
set_option maxHeartbeats 400000 in
theorem v_X10_clear_33 (s0 : XW) (o33 : Nat → Int32) (j33 : Int64)  (q : ((Nat → Int32) × (Int64))) (h : f_X10_clear_33 o33 j33 = some q) : C_X10_clear 0 61 [.ref 33] (xof s0 [W_33 o33 j33]) none (xof s0 [W_33 q.1 q.2]) := by
  unfold f_X10_clear_33 at h
  show V yX10_clear cX10_clear none 0 61 (0, 0) 0 [some (.ref 33)] [] (xof s0 [W_33 o33 j33]) _
  refine x_aload_n dX10_clear_0 rfl ?_
  refine x_lconst (v := 0) dX10_clear_1 (by decide) ?_
  refine p_X10_9 (fs' := [_, _, _]) (L' := [(33, _)]) rfl dX10_clear_2 (by decide) rfl (Nat.le_of_ble_eq_true rfl) rfl rfl ?_
  refine x_aload_n dX10_clear_5 rfl ?_
  refine x_iconst (v := 0) dX10_clear_6 (by decide) ?_
  refine p_X10_15 (fs' := [_, _, _]) (L' := [(33, _)]) rfl dX10_clear_7 (by decide) rfl (Nat.le_of_ble_eq_true rfl) rfl rfl ?_
  refine x_aload_n dX10_clear_10 rfl ?_
  refine x_iconst (v := 0) dX10_clear_11 (by decide) ?_
  refine p_X10_19 (fs' := [_, _, _]) (L' := [(33, _)]) rfl dX10_clear_12 (by decide) rfl (Nat.le_of_ble_eq_true rfl) rfl rfl ?_
  cases h
  exact x_vret dX10_clear_15 ⟨rfl, rfl, rfl⟩
def b_X10_push_33_18  (o33 : Nat → Int32) (j33 : Int64) (l1 : Int32) (t0 : Int32) : Option (((Nat → Int32) × (Int64))) := (Option.bind (f_X1_timesX ((o33 1))) (fun q2 => (some (upd (upd o33 1 (((q2 ^^^ l1) ^^^ t0))) 2 (((o33 2) + 1)), (((j33 <<< (Int32.toInt64 1 &&& 63)) ||| (Int32.toInt64 l1)) &&& 1099511627775)))))
set_option maxRecDepth 100000 in
set_option maxHeartbeats 400000 in
theorem vb_X10_push_33_18 (s0 : XW)  (o33 : Nat → Int32) (j33 : Int64) (l1 : Int32) (t0 : Int32) (q : ((Nat → Int32) × (Int64))) (h : b_X10_push_33_18 o33 j33 l1 t0 = some q) : V yX10_push cX10_push none 1 61 (0, 0) 18 [some (.ref 33), some (.int l1), none] [.int t0] (xof s0 [W_33 o33 j33]) (xq 61 none (xof s0 [W_33 q.1 q.2])) := by
  unfold b_X10_push_33_18 at h
  refine x_istore_n (ls' := [_, _, _]) dX10_push_18 rfl rfl ?_
  refine x_aload_n dX10_push_19 rfl ?_
  refine x_aload_n dX10_push_20 rfl ?_
  refine g_X10_9 rfl dX10_push_21 (by decide) rfl rfl ?_
  refine x_iconst (v := 1) dX10_push_24 (by decide) ?_
  refine x_lshl dX10_push_25 ?_
  refine x_iload_n dX10_push_26 rfl ?_
  refine x_i2l dX10_push_27 ?_
  refine x_lor dX10_push_28 ?_
  refine x_ldc2 dX10_push_29 cn_X10_22 ?_
  refine x_land dX10_push_32 ?_
  refine p_X10_9 (fs' := [_, _, _]) (L' := [(33, _)]) rfl dX10_push_33 (by decide) rfl (Nat.le_of_ble_eq_true rfl) rfl rfl ?_
  refine x_aload_n dX10_push_36 rfl ?_
  refine x_aload_n dX10_push_37 rfl ?_
  refine g_X10_15 rfl dX10_push_38 (by decide) rfl rfl ?_
  obtain ⟨q2, hq2, h⟩ := Option.bind_eq_some_iff.mp h
  refine y_callSi (L' := [(33, _)]) mi_X1_timesX ml_X10_24 st_X1_timesX dX10_push_41 (fun s1 => v_X1_timesX 61 s1 _ q2 hq2) (Nat.le_of_ble_eq_true rfl) rfl (by decide) (Nat.le_of_ble_eq_true rfl) rfl rfl rfl rfl ?_
  refine x_iload_n dX10_push_44 rfl ?_
  refine x_ixor dX10_push_45 ?_
  refine x_iload_n dX10_push_46 rfl ?_
  refine x_ixor dX10_push_47 ?_
  refine p_X10_15 (fs' := [_, _, _]) (L' := [(33, _)]) rfl dX10_push_48 (by decide) rfl (Nat.le_of_ble_eq_true rfl) rfl rfl ?_
  refine x_aload_n dX10_push_51 rfl ?_
  refine x_dup dX10_push_52 rfl ?_
  refine g_X10_19 rfl dX10_push_53 (by decide) rfl rfl ?_
  refine x_iconst (v := 1) dX10_push_56 (by decide) ?_
  refine x_iadd dX10_push_57 ?_
  refine p_X10_19 (fs' := [_, _, _]) (L' := [(33, _)]) rfl dX10_push_58 (by decide) rfl (Nat.le_of_ble_eq_true rfl) rfl rfl ?_
  cases h
  exact x_vret dX10_push_61 ⟨rfl, rfl, rfl⟩
def f_X10_push_33 (o33 : Nat → Int32) (j33 : Int64) (p1 : Int32) : Option (((Nat → Int32) × (Int64))) := (if (lg_cmp (xul j33 39) 0) = 0 then (b_X10_push_33_18 o33 j33 p1 0) else (b_X10_push_33_18 o33 j33 p1 98))
set_option maxRecDepth 100000 in
set_option maxHeartbeats 400000 in
theorem v_X10_push_33 (s0 : XW) (o33 : Nat → Int32) (j33 : Int64) (p1 : Int32) (q : ((Nat → Int32) × (Int64))) (h : f_X10_push_33 o33 j33 p1 = some q) : C_X10_push 1 61 [.ref 33, .int p1] (xof s0 [W_33 o33 j33]) none (xof s0 [W_33 q.1 q.2]) := by
  unfold f_X10_push_33 at h
  show V yX10_push cX10_push none 1 61 (0, 0) 0 [some (.ref 33), some (.int p1), none] [] (xof s0 [W_33 o33 j33]) _
  refine x_aload_n dX10_push_0 rfl ?_
  refine g_X10_9 rfl dX10_push_1 (by decide) rfl rfl ?_
  refine x_bipush (v := 39) dX10_push_4 (by decide) ?_
  refine x_lushr dX10_push_6 ?_
  refine x_lconst (v := 0) dX10_push_7 (by decide) ?_
  refine x_lcmp dX10_push_8 ?_
  refine x_if_ne (tgt := 16) dX10_push_9 (by decide) (fun c1 => ?_) (fun c1 => ?_)
  · replace h := xif_n c1 h
    refine x_bipush (v := 98) dX10_push_16 (by decide) ?_
    show V yX10_push cX10_push none 1 61 (0, 0) 18 [some (.ref 33), some (.int p1), none] [.int 98] (xof s0 [W_33 o33 j33]) _
    exact vb_X10_push_33_18 s0 o33 j33 p1 98 q h
  · replace h := xif_p c1 h
    refine x_iconst (v := 0) dX10_push_12 (by decide) ?_
    refine x_goto (tgt := 18) dX10_push_13 (by decide) ?_
    show V yX10_push cX10_push none 1 61 (0, 0) 18 [some (.ref 33), some (.int p1), none] [.int 0] (xof s0 [W_33 o33 j33]) _
    exact vb_X10_push_33_18 s0 o33 j33 p1 0 q h
def f_X10_looksRight_33 (o33 : Nat → Int32) (j33 : Int64)  : Option Int32 := (if (o33 1) = 85 then (if (o33 2) < 40 then (some 0) else (some 1)) else (some 0))
set_option maxRecDepth 100000 in
set_option maxHeartbeats 400000 in
theorem v_X10_looksRight_33 (s0 : XW) (o33 : Nat → Int32) (j33 : Int64)  (q : Int32) (h : f_X10_looksRight_33 o33 j33 = some q) : C_X10_looksRight 0 61 [.ref 33] (xof s0 [W_33 o33 j33]) (some (.int q)) (xof s0 [W_33 o33 j33]) := by
  unfold f_X10_looksRight_33 at h
  show V yX10_looksRight cX10_looksRight (some .boolean) 0 61 (0, 0) 0 [some (.ref 33)] [] (xof s0 [W_33 o33 j33]) _
  refine x_aload_n dX10_looksRight_0 rfl ?_
  refine g_X10_15 rfl dX10_looksRight_1 (by decide) rfl rfl ?_
  refine x_bipush (v := 85) dX10_looksRight_4 (by decide) ?_
  refine x_icmp_ne (tgt := 22) dX10_looksRight_6 (by decide) (fun c1 => ?_) (fun c1 => ?_)
  · replace h := xif_n c1 h
    refine x_iconst (v := 0) dX10_looksRight_22 (by decide) ?_
    cases h
    exact x_zret dX10_looksRight_23 (Or.inl rfl) ⟨rfl, rfl, rfl⟩
  · replace h := xif_p c1 h
    refine x_aload_n dX10_looksRight_9 rfl ?_
    refine g_X10_19 rfl dX10_looksRight_10 (by decide) rfl rfl ?_
    refine x_bipush (v := 40) dX10_looksRight_13 (by decide) ?_
    refine x_icmp_lt (tgt := 22) dX10_looksRight_15 (by decide) (fun c2 => ?_) (fun c2 => ?_)
    · replace h := xif_p c2 h
      refine x_iconst (v := 0) dX10_looksRight_22 (by decide) ?_
      cases h
      exact x_zret dX10_looksRight_23 (Or.inl rfl) ⟨rfl, rfl, rfl⟩
    · replace h := xif_n c2 h
      refine x_iconst (v := 1) dX10_looksRight_18 (by decide) ?_
      refine x_goto (tgt := 23) dX10_looksRight_19 (by decide) ?_
      cases h
      exact x_zret dX10_looksRight_23 (Or.inr rfl) ⟨rfl, rfl, rfl⟩
def l_X11_rights_0_66 (n : Nat) (o2 : Nat → Int32) (a3 : Nat → Int32) (l3 : Int32) (l4 : Int32) : Nat → (Int32) → (Int32) → (Nat → Int32) → (Int64) → Option ((((Int32) × (Nat → Int32) × (Int64))) ⊕ (((Int32) × (Int32) × (Nat → Int32) × (Int64))))
  | 0, _, _, _, _ => none
  | k + 1, l5, l6, o33, j33 => (if l4 ≤ l6 then (some (Sum.inr (l5, l6, o33, j33))) else (Option.bind (f_X4_bitAt_2 o2 a3 l6) (fun q8 => (Option.bind (f_X10_push_33 o33 j33 q8) (fun q9 => (Option.bind (f_X10_looksRight_33 q9.1 q9.2) (fun q10 => (if q10 = 0 then (l_X11_rights_0_66 n o2 a3 l3 l4 k l5 ((l6 + 1)) q9.1 q9.2) else (if l5 = l3 then (some (Sum.inl (((l6 + 1) - 40), q9.1, q9.2))) else (l_X11_rights_0_66 n o2 a3 l3 l4 k ((l5 + 1)) ((l6 + 1)) q9.1 q9.2))))))))))
set_option maxRecDepth 100000 in
set_option maxHeartbeats 400000 in
theorem lv_X11_rights_0_66 (s0 : XW) (n : Nat) (o2 : Nat → Int32) (a3 : Nat → Int32) (l3 : Int32) (l4 : Int32) (Q : Nat → Option Value → XW → Prop) : ∀ (k : Nat) (l5 : Int32) (l6 : Int32) (o33 : Nat → Int32) (j33 : Int64) (o : (((Int32) × (Nat → Int32) × (Int64))) ⊕ (((Int32) × (Int32) × (Nat → Int32) × (Int64)))), l_X11_rights_0_66 n o2 a3 l3 l4 k l5 l6 o33 j33 = some o → ((∀ z, o = Sum.inl z → Q 61 (some (.int z.1)) (xof s0 [W_0, W_2 o2, W_3 a3, W_33 z.2.1 z.2.2])) ∧ (∀ z, o = Sum.inr z → V yX11_rights cX11_rights (some .int) 2 61 (0, 0) 122 [none, none, none, some (.int l3), none, some (.int z.1), none] [] (xof s0 [W_0, W_2 o2, W_3 a3, W_33 z.2.2.1 z.2.2.2]) Q)) → V yX11_rights cX11_rights (some .int) 2 61 (0, 0) 66 [some (.ref 0), none, none, some (.int l3), some (.int l4), some (.int l5), some (.int l6)] [] (xof s0 [W_0, W_2 o2, W_3 a3, W_33 o33 j33]) Q := by
  intro k
  induction k with
  | zero =>
    intro _ _ _ _ _ h
    simp [l_X11_rights_0_66] at h
  | succ k ih =>
    intro l5 l6 o33 j33 o h hk
    rw [l_X11_rights_0_66] at h
    refine x_iload dX11_rights_66 rfl ?_
    refine x_iload dX11_rights_68 rfl ?_
    refine x_icmp_ge (tgt := 122) dX11_rights_70 (by decide) (fun c7 => ?_) (fun c7 => ?_)
    · replace h := xif_p c7 h
      refine V.drop1 (i := 0) (ls' := [_, _, _, _, _, _, _]) rfl ?_
      refine V.drop1 (i := 4) (ls' := [_, _, _, _, _, _, _]) rfl ?_
      refine V.drop1 (i := 6) (ls' := [_, _, _, _, _, _, _]) rfl ?_
      show V yX11_rights cX11_rights (some .int) 2 61 (0, 0) 122 [none, none, none, some (.int l3), none, some (.int l5), none] [] (xof s0 [W_0, W_2 o2, W_3 a3, W_33 o33 j33]) _
      cases h
      exact hk.2 (l5, l6, o33, j33) rfl
    · replace h := xif_n c7 h
      refine x_aload_n dX11_rights_73 rfl ?_
      refine g_X11_60 rfl dX11_rights_74 (by decide) rfl rfl ?_
      refine x_aload_n dX11_rights_77 rfl ?_
      refine g_X11_24 rfl dX11_rights_78 (by decide) rfl rfl ?_
      refine x_iload dX11_rights_81 rfl ?_
      obtain ⟨q8, hq8, h⟩ := Option.bind_eq_some_iff.mp h
      refine y_callVi (L' := [(0, _), (2, _), (3, _), (33, _)]) mi_X4_bitAt ml_X11_131 im_X4_bitAt se_X4_bitAt (rfl : vwCl[3]? = _) dX11_rights_83 (fun s1 => v_X4_bitAt_2 s1 _ _ _ q8 hq8) (by decide) rfl (Nat.le_of_ble_eq_true rfl) rfl (by decide) (Nat.le_of_ble_eq_true rfl) rfl rfl rfl rfl ?_
      obtain ⟨q9, hq9, h⟩ := Option.bind_eq_some_iff.mp h
      refine y_callVv (L' := [(0, _), (2, _), (3, _), (33, _)]) mi_X10_push ml_X11_289 im_X10_push se_X10_push (rfl : vwCl[9]? = _) dX11_rights_86 (fun s1 => v_X10_push_33 s1 _ _ _ q9 hq9) (by decide) rfl (Nat.le_of_ble_eq_true rfl) rfl (by decide) (Nat.le_of_ble_eq_true rfl) rfl rfl rfl rfl ?_
      refine x_aload_n dX11_rights_89 rfl ?_
      refine g_X11_60 rfl dX11_rights_90 (by decide) rfl rfl ?_
      obtain ⟨q10, hq10, h⟩ := Option.bind_eq_some_iff.mp h
      refine y_callVi (L' := [(0, _), (2, _), (3, _), (33, _)]) mi_X10_looksRight ml_X11_292 im_X10_looksRight se_X10_looksRight (rfl : vwCl[9]? = _) dX11_rights_93 (fun s1 => v_X10_looksRight_33 s1 _ _ q10 hq10) (by decide) rfl (Nat.le_of_ble_eq_true rfl) rfl (by decide) (Nat.le_of_ble_eq_true rfl) rfl rfl rfl rfl ?_
      refine x_if_eq (tgt := 116) dX11_rights_96 (by decide) (fun c11 => ?_) (fun c11 => ?_)
      · replace h := xif_p c11 h
        refine x_iinc (v := l6 + 1) (ls' := [_, _, _, _, _, _, _]) dX11_rights_116 rfl rfl rfl rfl ?_
        refine x_goto (tgt := 66) dX11_rights_119 (by decide) ?_
        show V yX11_rights cX11_rights (some .int) 2 61 (0, 0) 66 [some (.ref 0), none, none, some (.int l3), some (.int l4), some (.int l5), some (.int ((l6 + 1)))] [] (xof s0 [W_0, W_2 o2, W_3 a3, W_33 q9.1 q9.2]) _
        exact ih l5 ((l6 + 1)) q9.1 q9.2 _ h hk
      · replace h := xif_n c11 h
        refine x_iload dX11_rights_99 rfl ?_
        refine x_iload_n dX11_rights_101 rfl ?_
        refine x_icmp_ne (tgt := 113) dX11_rights_102 (by decide) (fun c12 => ?_) (fun c12 => ?_)
        · replace h := xif_n c12 h
          refine x_iinc (v := l5 + 1) (ls' := [_, _, _, _, _, _, _]) dX11_rights_113 rfl rfl rfl rfl ?_
          refine x_iinc (v := l6 + 1) (ls' := [_, _, _, _, _, _, _]) dX11_rights_116 rfl rfl rfl rfl ?_
          refine x_goto (tgt := 66) dX11_rights_119 (by decide) ?_
          show V yX11_rights cX11_rights (some .int) 2 61 (0, 0) 66 [some (.ref 0), none, none, some (.int l3), some (.int l4), some (.int ((l5 + 1))), some (.int ((l6 + 1)))] [] (xof s0 [W_0, W_2 o2, W_3 a3, W_33 q9.1 q9.2]) _
          exact ih ((l5 + 1)) ((l6 + 1)) q9.1 q9.2 _ h hk
        · replace h := xif_p c12 h
          refine x_iload dX11_rights_105 rfl ?_
          refine x_iconst (v := 1) dX11_rights_107 (by decide) ?_
          refine x_iadd dX11_rights_108 ?_
          refine x_bipush (v := 40) dX11_rights_109 (by decide) ?_
          refine x_isub dX11_rights_111 ?_
          cases h
          exact x_iret dX11_rights_112 (hk.1 (((l6 + 1) - 40), q9.1, q9.2) rfl)
