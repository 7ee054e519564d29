def f_X12_field_44 (o44 : Nat → Int32) (a51 : Nat → Int32) (p1 : Int32) (p2 : Int32) : Option (((Int32) × (Nat → Int32))) := (Option.bind (f_X12_cellAt_44 (upd o44 0 0) a51 p1) (fun q1 => (if q1 = (-1) then (some ((-2), upd o44 0 0)) else (if p2 = 0 then (bif xin q1 875 then (some ((xus (a51 (Int32.toNatClampNeg q1)) 28), upd o44 0 0)) else none) else (if p2 = 1 then (bif xin q1 875 then (some (((xus (a51 (Int32.toNatClampNeg q1)) 20) &&& 255), upd o44 0 0)) else none) else (if p2 = 2 then (bif xin q1 875 then (some (((xus (a51 (Int32.toNatClampNeg q1)) 4) &&& 65535), upd o44 0 0)) else none) else (if p2 = 3 then (bif xin q1 875 then (some (((xus (a51 (Int32.toNatClampNeg q1)) 1) &&& 7), upd o44 0 0)) else none) else (if p2 = 4 then (bif xin q1 875 then (some (((a51 (Int32.toNatClampNeg q1)) &&& 1), upd o44 0 0)) else none) else (some ((-2), upd o44 0 0))))))))))
set_option maxRecDepth 100000 in
set_option maxHeartbeats 400000 in
theorem v_X12_field_44 (s0 : XW) (o44 : Nat → Int32) (a51 : Nat → Int32) (p1 : Int32) (p2 : Int32) (q : ((Int32) × (Nat → Int32))) (h : f_X12_field_44 o44 a51 p1 p2 = some q) : C_X12_field 2 61 [.ref 44, .int p1, .int p2] (xof s0 [W_44 o44, W_51 a51]) (some (.int q.1)) (xof s0 [W_44 q.2, W_51 a51]) := by
  unfold f_X12_field_44 at h
  show V yX12_field cX12_field (some .int) 2 61 (0, 0) 0 [some (.ref 44), some (.int p1), some (.int p2), none] [] (xof s0 [W_44 o44, W_51 a51]) _
  refine x_aload_n dX12_field_0 rfl ?_
  refine x_iconst (v := 0) dX12_field_1 (by decide) ?_
  refine p_X12_1 (fs' := [_, _, _, _, _, _, _, _, _, _, _, _, _, _, _, _, _, _, _, _, _, _]) (L' := [(44, _), (51, _)]) rfl dX12_field_2 (by decide) rfl (Nat.le_of_ble_eq_true rfl) rfl rfl ?_
  refine x_aload_n dX12_field_5 rfl ?_
  refine x_iload_n dX12_field_6 rfl ?_
  obtain ⟨q1, hq1, h⟩ := Option.bind_eq_some_iff.mp h
  refine y_callVi (L' := [(44, _), (51, _)]) mi_X12_cellAt ml_X12_204 im_X12_cellAt se_X12_cellAt (rfl : vwCl[11]? = _) dX12_field_7 (fun s1 => v_X12_cellAt_44 s1 _ _ _ q1 hq1) (by decide) rfl (Nat.le_of_ble_eq_true rfl) rfl (by decide) (Nat.le_of_ble_eq_true rfl) rfl rfl rfl rfl ?_
  refine x_istore_n (ls' := [_, _, _, _]) dX12_field_10 rfl rfl ?_
  refine x_iload_n dX12_field_11 rfl ?_
  refine x_iconst (v := -1) dX12_field_12 (by decide) ?_
  refine x_icmp_ne (tgt := 19) dX12_field_13 (by decide) (fun c2 => ?_) (fun c2 => ?_)
  · replace h := xif_n c2 h
    refine x_iload_n dX12_field_19 rfl ?_
    by_cases c3 : p2 = 0
    · replace h := xif_p c3 h
      refine x_tableIn (tgt := 56) dX12_field_20 (by rw [c3]; decide) (by rw [c3]; decide) (by rw [c3]; rfl) (by decide) ?_
      refine x_aload_n dX12_field_56 rfl ?_
      refine g_X12_32 rfl dX12_field_57 (by decide) rfl rfl ?_
      refine x_iload_n dX12_field_60 rfl ?_
      obtain ⟨c4, h⟩ := xck h
      refine x_ialdK (jn := (Int32.toNatClampNeg q1)) (v := (a51 (Int32.toNatClampNeg q1))) dX12_field_61 (by decide) rfl (xin_ok c4) rfl rfl ?_
      refine x_bipush (v := 28) dX12_field_62 (by decide) ?_
      refine x_iushr dX12_field_64 ?_
      cases h
      exact x_iret dX12_field_65 ⟨rfl, rfl, rfl⟩
    replace h := xif_n c3 h
    by_cases c5 : p2 = 1
    · replace h := xif_p c5 h
      refine x_tableIn (tgt := 66) dX12_field_20 (by rw [c5]; decide) (by rw [c5]; decide) (by rw [c5]; rfl) (by decide) ?_
      refine x_aload_n dX12_field_66 rfl ?_
      refine g_X12_32 rfl dX12_field_67 (by decide) rfl rfl ?_
      refine x_iload_n dX12_field_70 rfl ?_
      obtain ⟨c6, h⟩ := xck h
      refine x_ialdK (jn := (Int32.toNatClampNeg q1)) (v := (a51 (Int32.toNatClampNeg q1))) dX12_field_71 (by decide) rfl (xin_ok c6) rfl rfl ?_
      refine x_bipush (v := 20) dX12_field_72 (by decide) ?_
      refine x_iushr dX12_field_74 ?_
      refine x_sipush (v := 255) dX12_field_75 (by decide) ?_
      refine x_iand dX12_field_78 ?_
      cases h
      exact x_iret dX12_field_79 ⟨rfl, rfl, rfl⟩
    replace h := xif_n c5 h
    by_cases c7 : p2 = 2
    · replace h := xif_p c7 h
      refine x_tableIn (tgt := 80) dX12_field_20 (by rw [c7]; decide) (by rw [c7]; decide) (by rw [c7]; rfl) (by decide) ?_
      refine x_aload_n dX12_field_80 rfl ?_
      refine g_X12_32 rfl dX12_field_81 (by decide) rfl rfl ?_
      refine x_iload_n dX12_field_84 rfl ?_
      obtain ⟨c8, h⟩ := xck h
      refine x_ialdK (jn := (Int32.toNatClampNeg q1)) (v := (a51 (Int32.toNatClampNeg q1))) dX12_field_85 (by decide) rfl (xin_ok c8) rfl rfl ?_
      refine x_iconst (v := 4) dX12_field_86 (by decide) ?_
      refine x_iushr dX12_field_87 ?_
      refine x_ldc dX12_field_88 cn_X12_209 ?_
      refine x_iand dX12_field_90 ?_
      cases h
      exact x_iret dX12_field_91 ⟨rfl, rfl, rfl⟩
    replace h := xif_n c7 h
    by_cases c9 : p2 = 3
    · replace h := xif_p c9 h
      refine x_tableIn (tgt := 92) dX12_field_20 (by rw [c9]; decide) (by rw [c9]; decide) (by rw [c9]; rfl) (by decide) ?_
      refine x_aload_n dX12_field_92 rfl ?_
      refine g_X12_32 rfl dX12_field_93 (by decide) rfl rfl ?_
      refine x_iload_n dX12_field_96 rfl ?_
      obtain ⟨c10, h⟩ := xck h
      refine x_ialdK (jn := (Int32.toNatClampNeg q1)) (v := (a51 (Int32.toNatClampNeg q1))) dX12_field_97 (by decide) rfl (xin_ok c10) rfl rfl ?_
      refine x_iconst (v := 1) dX12_field_98 (by decide) ?_
      refine x_iushr dX12_field_99 ?_
      refine x_bipush (v := 7) dX12_field_100 (by decide) ?_
      refine x_iand dX12_field_102 ?_
      cases h
      exact x_iret dX12_field_103 ⟨rfl, rfl, rfl⟩
    replace h := xif_n c9 h
    by_cases c11 : p2 = 4
    · replace h := xif_p c11 h
      refine x_tableIn (tgt := 104) dX12_field_20 (by rw [c11]; decide) (by rw [c11]; decide) (by rw [c11]; rfl) (by decide) ?_
      refine x_aload_n dX12_field_104 rfl ?_
      refine g_X12_32 rfl dX12_field_105 (by decide) rfl rfl ?_
      refine x_iload_n dX12_field_108 rfl ?_
      obtain ⟨c12, h⟩ := xck h
      refine x_ialdK (jn := (Int32.toNatClampNeg q1)) (v := (a51 (Int32.toNatClampNeg q1))) dX12_field_109 (by decide) rfl (xin_ok c12) rfl rfl ?_
      refine x_iconst (v := 1) dX12_field_110 (by decide) ?_
      refine x_iand dX12_field_111 ?_
      cases h
      exact x_iret dX12_field_112 ⟨rfl, rfl, rfl⟩
    replace h := xif_n c11 h
    have c3t := lv_neT c3 (show Int32.toInt 0 = 0 from rfl)
    have c5t := lv_neT c5 (show Int32.toInt 1 = 1 from rfl)
    have c7t := lv_neT c7 (show Int32.toInt 2 = 2 from rfl)
    have c9t := lv_neT c9 (show Int32.toInt 3 = 3 from rfl)
    have c11t := lv_neT c11 (show Int32.toInt 4 = 4 from rfl)
    refine x_tableOut (tgt := 113) dX12_field_20 (by omega) (by decide) ?_
    refine x_bipush (v := -2) dX12_field_113 (by decide) ?_
    cases h
    exact x_iret dX12_field_115 ⟨rfl, rfl, rfl⟩
  · replace h := xif_p c2 h
    refine x_bipush (v := -2) dX12_field_16 (by decide) ?_
    cases h
    exact x_iret dX12_field_18 ⟨rfl, rfl, rfl⟩
def f_X12_judged_44 (o44 : Nat → Int32) (a51 : Nat → Int32) (p1 : Int32) (p2 : Int32) : Option (((Int32) × (Nat → Int32))) := (Option.bind (f_X12_isKept p1 ((a51 21)) 32) (fun q1 => (if q1 = 0 then (some ((-2), upd o44 0 0)) else (Option.bind (f_X12_isIn ((Int32.toInt64 p2)) 0 2) (fun q3 => (if q3 = 0 then (some ((-2), upd o44 0 0)) else (bif xin ((776 + (3 * (p1 - p1 / 32 * 32))) + p2) 875 then (some ((a51 (Int32.toNatClampNeg ((776 + (3 * (p1 - p1 / 32 * 32))) + p2))), upd o44 0 0)) else none)))))))
set_option maxRecDepth 100000 in
set_option maxHeartbeats 400000 in
theorem v_X12_judged_44 (s0 : XW) (o44 : Nat → Int32) (a51 : Nat → Int32) (p1 : Int32) (p2 : Int32) (q : ((Int32) × (Nat → Int32))) (h : f_X12_judged_44 o44 a51 p1 p2 = some q) : C_X12_judged 1 61 [.ref 44, .int p1, .int p2] (xof s0 [W_44 o44, W_51 a51]) (some (.int q.1)) (xof s0 [W_44 q.2, W_51 a51]) := by
  unfold f_X12_judged_44 at h
  show V yX12_judged cX12_judged (some .int) 1 61 (0, 0) 0 [some (.ref 44), some (.int p1), some (.int p2)] [] (xof s0 [W_44 o44, W_51 a51]) _
  refine x_aload_n dX12_judged_0 rfl ?_
  refine x_iconst (v := 0) dX12_judged_1 (by decide) ?_
  refine p_X12_1 (fs' := [_, _, _, _, _, _, _, _, _, _, _, _, _, _, _, _, _, _, _, _, _, _]) (L' := [(44, _), (51, _)]) rfl dX12_judged_2 (by decide) rfl (Nat.le_of_ble_eq_true rfl) rfl rfl ?_
  refine x_iload_n dX12_judged_5 rfl ?_
  refine x_aload_n dX12_judged_6 rfl ?_
  refine g_X12_32 rfl dX12_judged_7 (by decide) rfl rfl ?_
  refine x_bipush (v := 21) dX12_judged_10 (by decide) ?_
  refine x_ialdK (jn := 21) (v := (a51 21)) dX12_judged_12 (by decide) rfl (xin_ok (by decide)) (by decide) rfl ?_
  refine x_bipush (v := 32) dX12_judged_13 (by decide) ?_
  obtain ⟨q1, hq1, h⟩ := Option.bind_eq_some_iff.mp h
  refine y_callSi (L' := [(44, _), (51, _)]) mi_X12_isKept ml_X12_196 st_X12_isKept dX12_judged_15 (fun s1 => v_X12_isKept 61 s1 _ _ _ q1 hq1) (Nat.le_of_ble_eq_true rfl) rfl (by decide) (Nat.le_of_ble_eq_true rfl) rfl rfl rfl rfl ?_
  refine x_if_eq (tgt := 53) dX12_judged_18 (by decide) (fun c2 => ?_) (fun c2 => ?_)
  · replace h := xif_p c2 h
    refine x_bipush (v := -2) dX12_judged_53 (by decide) ?_
    cases h
    exact x_iret dX12_judged_55 ⟨rfl, rfl, rfl⟩
  · replace h := xif_n c2 h
    refine x_iload_n dX12_judged_21 rfl ?_
    refine x_i2l dX12_judged_22 ?_
    refine x_lconst (v := 0) dX12_judged_23 (by decide) ?_
    refine x_ldc2 dX12_judged_24 cn_X12_99 ?_
    obtain ⟨q3, hq3, h⟩ := Option.bind_eq_some_iff.mp h
    refine y_callSi (L' := [(44, _), (51, _)]) mi_X12_isIn ml_X12_77 st_X12_isIn dX12_judged_27 (fun s1 => v_X12_isIn 61 s1 _ _ _ q3 hq3) (Nat.le_of_ble_eq_true rfl) rfl (by decide) (Nat.le_of_ble_eq_true rfl) rfl rfl rfl rfl ?_
    refine x_if_eq (tgt := 53) dX12_judged_30 (by decide) (fun c4 => ?_) (fun c4 => ?_)
    · replace h := xif_p c4 h
      refine x_bipush (v := -2) dX12_judged_53 (by decide) ?_
      cases h
      exact x_iret dX12_judged_55 ⟨rfl, rfl, rfl⟩
    · replace h := xif_n c4 h
      refine x_aload_n dX12_judged_33 rfl ?_
      refine g_X12_32 rfl dX12_judged_34 (by decide) rfl rfl ?_
      refine x_sipush (v := 776) dX12_judged_37 (by decide) ?_
      refine x_iconst (v := 3) dX12_judged_40 (by decide) ?_
      refine x_iload_n dX12_judged_41 rfl ?_
      refine x_bipush (v := 32) dX12_judged_42 (by decide) ?_
      refine x_irem dX12_judged_44 (by decide) ?_
      refine x_imul dX12_judged_45 ?_
      refine x_iadd dX12_judged_46 ?_
      refine x_iload_n dX12_judged_47 rfl ?_
      refine x_iadd dX12_judged_48 ?_
      obtain ⟨c5, h⟩ := xck h
      refine x_ialdK (jn := (Int32.toNatClampNeg ((776 + (3 * (p1 - p1 / 32 * 32))) + p2))) (v := (a51 (Int32.toNatClampNeg ((776 + (3 * (p1 - p1 / 32 * 32))) + p2)))) dX12_judged_49 (by decide) rfl (xin_ok c5) rfl rfl ?_
      refine x_goto (tgt := 55) dX12_judged_50 (by decide) ?_
      cases h
      exact x_iret dX12_judged_55 ⟨rfl, rfl, rfl⟩
def f_X12_turn_44 (o44 : Nat → Int32) (a51 : Nat → Int32) (p1 : Int32) (p2 : Int32) : Option (((Int32) × (Nat → Int32))) := (Option.bind (f_X12_isKept p1 ((a51 20)) 24) (fun q1 => (if q1 = 0 then (some ((-2), upd o44 0 0)) else (Option.bind (f_X12_isIn ((Int32.toInt64 p2)) 0 2) (fun q3 => (if q3 = 0 then (some ((-2), upd o44 0 0)) else (bif xin ((704 + (3 * (p1 - p1 / 24 * 24))) + p2) 875 then (some ((a51 (Int32.toNatClampNeg ((704 + (3 * (p1 - p1 / 24 * 24))) + p2))), upd o44 0 0)) else none)))))))
set_option maxRecDepth 100000 in
set_option maxHeartbeats 400000 in
theorem v_X12_turn_44 (s0 : XW) (o44 : Nat → Int32) (a51 : Nat → Int32) (p1 : Int32) (p2 : Int32) (q : ((Int32) × (Nat → Int32))) (h : f_X12_turn_44 o44 a51 p1 p2 = some q) : C_X12_turn 1 61 [.ref 44, .int p1, .int p2] (xof s0 [W_44 o44, W_51 a51]) (some (.int q.1)) (xof s0 [W_44 q.2, W_51 a51]) := by
  unfold f_X12_turn_44 at h
  show V yX12_turn cX12_turn (some .int) 1 61 (0, 0) 0 [some (.ref 44), some (.int p1), some (.int p2)] [] (xof s0 [W_44 o44, W_51 a51]) _
  refine x_aload_n dX12_turn_0 rfl ?_
  refine x_iconst (v := 0) dX12_turn_1 (by decide) ?_
  refine p_X12_1 (fs' := [_, _, _, _, _, _, _, _, _, _, _, _, _, _, _, _, _, _, _, _, _, _]) (L' := [(44, _), (51, _)]) rfl dX12_turn_2 (by decide) rfl (Nat.le_of_ble_eq_true rfl) rfl rfl ?_
  refine x_iload_n dX12_turn_5 rfl ?_
  refine x_aload_n dX12_turn_6 rfl ?_
  refine g_X12_32 rfl dX12_turn_7 (by decide) rfl rfl ?_
  refine x_bipush (v := 20) dX12_turn_10 (by decide) ?_
  refine x_ialdK (jn := 20) (v := (a51 20)) dX12_turn_12 (by decide) rfl (xin_ok (by decide)) (by decide) rfl ?_
  refine x_bipush (v := 24) dX12_turn_13 (by decide) ?_
  obtain ⟨q1, hq1, h⟩ := Option.bind_eq_some_iff.mp h
  refine y_callSi (L' := [(44, _), (51, _)]) mi_X12_isKept ml_X12_196 st_X12_isKept dX12_turn_15 (fun s1 => v_X12_isKept 61 s1 _ _ _ q1 hq1) (Nat.le_of_ble_eq_true rfl) rfl (by decide) (Nat.le_of_ble_eq_true rfl) rfl rfl rfl rfl ?_
  refine x_if_eq (tgt := 53) dX12_turn_18 (by decide) (fun c2 => ?_) (fun c2 => ?_)
  · replace h := xif_p c2 h
    refine x_bipush (v := -2) dX12_turn_53 (by decide) ?_
    cases h
    exact x_iret dX12_turn_55 ⟨rfl, rfl, rfl⟩
  · replace h := xif_n c2 h
    refine x_iload_n dX12_turn_21 rfl ?_
    refine x_i2l dX12_turn_22 ?_
    refine x_lconst (v := 0) dX12_turn_23 (by decide) ?_
    refine x_ldc2 dX12_turn_24 cn_X12_99 ?_
    obtain ⟨q3, hq3, h⟩ := Option.bind_eq_some_iff.mp h
    refine y_callSi (L' := [(44, _), (51, _)]) mi_X12_isIn ml_X12_77 st_X12_isIn dX12_turn_27 (fun s1 => v_X12_isIn 61 s1 _ _ _ q3 hq3) (Nat.le_of_ble_eq_true rfl) rfl (by decide) (Nat.le_of_ble_eq_true rfl) rfl rfl rfl rfl ?_
    refine x_if_eq (tgt := 53) dX12_turn_30 (by decide) (fun c4 => ?_) (fun c4 => ?_)
    · replace h := xif_p c4 h
      refine x_bipush (v := -2) dX12_turn_53 (by decide) ?_
      cases h
      exact x_iret dX12_turn_55 ⟨rfl, rfl, rfl⟩
    · replace h := xif_n c4 h
      refine x_aload_n dX12_turn_33 rfl ?_
      refine g_X12_32 rfl dX12_turn_34 (by decide) rfl rfl ?_
      refine x_sipush (v := 704) dX12_turn_37 (by decide) ?_
      refine x_iconst (v := 3) dX12_turn_40 (by decide) ?_
      refine x_iload_n dX12_turn_41 rfl ?_
      refine x_bipush (v := 24) dX12_turn_42 (by decide) ?_
      refine x_irem dX12_turn_44 (by decide) ?_
      refine x_imul dX12_turn_45 ?_
      refine x_iadd dX12_turn_46 ?_
      refine x_iload_n dX12_turn_47 rfl ?_
      refine x_iadd dX12_turn_48 ?_
      obtain ⟨c5, h⟩ := xck h
      refine x_ialdK (jn := (Int32.toNatClampNeg ((704 + (3 * (p1 - p1 / 24 * 24))) + p2))) (v := (a51 (Int32.toNatClampNeg ((704 + (3 * (p1 - p1 / 24 * 24))) + p2)))) dX12_turn_49 (by decide) rfl (xin_ok c5) rfl rfl ?_
      refine x_goto (tgt := 55) dX12_turn_50 (by decide) ?_
      cases h
      exact x_iret dX12_turn_55 ⟨rfl, rfl, rfl⟩
def l_X12_lost_44_7 (n : Nat) (o44 : Nat → Int32) (a49 : Nat → Int32) (a51 : Nat → Int32) : Nat → (Int32) → (Nat → Int32) → Option (((Int32) × (Nat → Int32)))
  | 0, _, _ => none
  | k + 1, l1, a55 => (if 64 ≤ l1 then (some (l1, a55)) else (bif xin l1 64 then (l_X12_lost_44_7 n o44 a49 a51 k ((l1 + 1)) (upd a55 ((Int32.toNatClampNeg l1)) ((vp_nar .boolean 0)))) else none))
set_option maxRecDepth 100000 in
set_option maxHeartbeats 400000 in
theorem lv_X12_lost_44_7 (s0 : XW) (n : Nat) (o44 : Nat → Int32) (a49 : Nat → Int32) (a51 : Nat → Int32) (Q : Nat → Option Value → XW → Prop) : ∀ (k : Nat) (l1 : Int32) (a55 : Nat → Int32) (o : ((Int32) × (Nat → Int32))), l_X12_lost_44_7 n o44 a49 a51 k l1 a55 = some o → (V yX12_lost cX12_lost (some .int) 2 61 (0, 0) 26 [some (.ref 44), none, none, none, none] [] (xof s0 [W_44 o44, W_49 a49, W_51 a51, W_55 o.2]) Q) → V yX12_lost cX12_lost (some .int) 2 61 (0, 0) 7 [some (.ref 44), some (.int l1), none, none, none] [] (xof s0 [W_44 o44, W_49 a49, W_51 a51, W_55 a55]) Q := by
  intro k
  induction k with
  | zero =>
    intro _ _ _ h
    simp [l_X12_lost_44_7] at h
  | succ k ih =>
    intro l1 a55 o h hk
    rw [l_X12_lost_44_7] at h
    refine x_iload_n dX12_lost_7 rfl ?_
    refine x_bipush (v := 64) dX12_lost_8 (by decide) ?_
    refine x_icmp_ge (tgt := 26) dX12_lost_10 (by decide) (fun c1 => ?_) (fun c1 => ?_)
    · replace h := xif_p c1 h
      refine V.drop1 (i := 1) (ls' := [_, _, _, _, _]) rfl ?_
      show V yX12_lost cX12_lost (some .int) 2 61 (0, 0) 26 [some (.ref 44), none, none, none, none] [] (xof s0 [W_44 o44, W_49 a49, W_51 a51, W_55 a55]) _
      cases h
      exact hk
    · replace h := xif_n c1 h
      refine x_aload_n dX12_lost_13 rfl ?_
      refine g_X12_44 rfl dX12_lost_14 (by decide) rfl rfl ?_
      refine x_iload_n dX12_lost_17 rfl ?_
      refine x_iconst (v := 0) dX12_lost_18 (by decide) ?_
      obtain ⟨c2, h⟩ := xck h
      refine x_zastK (jn := (Int32.toNatClampNeg l1)) (L' := [(44, _), (49, _), (51, _), (55, _)]) dX12_lost_19 (by decide) rfl (xin_ok c2) rfl rfl ?_
      refine x_iinc (v := l1 + 1) (ls' := [_, _, _, _, _]) dX12_lost_20 rfl rfl rfl rfl ?_
      refine x_goto (tgt := 7) dX12_lost_23 (by decide) ?_
      show V yX12_lost cX12_lost (some .int) 2 61 (0, 0) 7 [some (.ref 44), some (.int ((l1 + 1))), none, none, none] [] (xof s0 [W_44 o44, W_49 a49, W_51 a51, W_55 (upd a55 ((Int32.toNatClampNeg l1)) ((vp_nar .boolean 0)))]) _
      exact ih ((l1 + 1)) (upd a55 ((Int32.toNatClampNeg l1)) ((vp_nar .boolean 0))) _ h hk
def l_X12_lost_44_33 (n : Nat) (o44 : Nat → Int32) (a49 : Nat → Int32) (a51 : Nat → Int32) : Nat → (Int32) → (Int32) → (Nat → Int32) → Option (((Int32) × (Int32) × (Nat → Int32)))
  | 0, _, _, _ => none
  | k + 1, l1, l2, a55 => (if 12 ≤ l2 then (some (l1, l2, a55)) else (Option.bind (f_X12_cellAt_44 o44 a51 ((((a51 16) - 1) - l2))) (fun q5 => (if q5 = (-1) then (l_X12_lost_44_33 n o44 a49 a51 k l1 ((l2 + 1)) a55) else (Option.bind (f_X12_foundOf_44 n o44 a49 a51 q5) (fun q7 => (if q7 = (-1) then (l_X12_lost_44_33 n o44 a49 a51 k l1 ((l2 + 1)) a55) else (bif xin q7 64 then (if (a55 (Int32.toNatClampNeg q7)) = 0 then (bif xin q7 64 then (l_X12_lost_44_33 n o44 a49 a51 k ((l1 + (-1))) ((l2 + 1)) (upd a55 ((Int32.toNatClampNeg q7)) ((vp_nar .boolean 1)))) else none) else (l_X12_lost_44_33 n o44 a49 a51 k l1 ((l2 + 1)) a55)) else none))))))))
set_option maxRecDepth 100000 in
set_option maxHeartbeats 400000 in
theorem lv_X12_lost_44_33 (s0 : XW) (n : Nat) (o44 : Nat → Int32) (a49 : Nat → Int32) (a51 : Nat → Int32) (Q : Nat → Option Value → XW → Prop) : ∀ (k : Nat) (l1 : Int32) (l2 : Int32) (a55 : Nat → Int32) (o : ((Int32) × (Int32) × (Nat → Int32))), l_X12_lost_44_33 n o44 a49 a51 k l1 l2 a55 = some o → (V yX12_lost cX12_lost (some .int) 2 61 (0, 0) 107 [none, some (.int o.1), none, none, none] [] (xof s0 [W_44 o44, W_49 a49, W_51 a51, W_55 o.2.2]) Q) → V yX12_lost cX12_lost (some .int) 2 61 (0, 0) 33 [some (.ref 44), some (.int l1), some (.int l2), none, none] [] (xof s0 [W_44 o44, W_49 a49, W_51 a51, W_55 a55]) Q := by
  intro k
  induction k with
  | zero =>
    intro _ _ _ _ h
    simp [l_X12_lost_44_33] at h
  | succ k ih =>
    intro l1 l2 a55 o h hk
    rw [l_X12_lost_44_33] at h
    refine x_iload_n dX12_lost_33 rfl ?_
    refine x_bipush (v := 12) dX12_lost_34 (by decide) ?_
    refine x_icmp_ge (tgt := 107) dX12_lost_36 (by decide) (fun c4 => ?_) (fun c4 => ?_)
    · replace h := xif_p c4 h
      refine V.drop1 (i := 0) (ls' := [_, _, _, _, _]) rfl ?_
      refine V.drop1 (i := 2) (ls' := [_, _, _, _, _]) rfl ?_
      show V yX12_lost cX12_lost (some .int) 2 61 (0, 0) 107 [none, some (.int l1), none, none, none] [] (xof s0 [W_44 o44, W_49 a49, W_51 a51, W_55 a55]) _
      cases h
      exact hk
    · replace h := xif_n c4 h
      refine x_aload_n dX12_lost_39 rfl ?_
      refine x_aload_n dX12_lost_40 rfl ?_
      refine g_X12_32 rfl dX12_lost_41 (by decide) rfl rfl ?_
      refine x_bipush (v := 16) dX12_lost_44 (by decide) ?_
      refine x_ialdK (jn := 16) (v := (a51 16)) dX12_lost_46 (by decide) rfl (xin_ok (by decide)) (by decide) rfl ?_
      refine x_iconst (v := 1) dX12_lost_47 (by decide) ?_
      refine x_isub dX12_lost_48 ?_
      refine x_iload_n dX12_lost_49 rfl ?_
      refine x_isub dX12_lost_50 ?_
      obtain ⟨q5, hq5, h⟩ := Option.bind_eq_some_iff.mp h
      refine y_callVi (L' := [(44, _), (49, _), (51, _), (55, _)]) mi_X12_cellAt ml_X12_204 im_X12_cellAt se_X12_cellAt (rfl : vwCl[11]? = _) dX12_lost_51 (fun s1 => v_X12_cellAt_44 s1 _ _ _ q5 hq5) (by decide) rfl (Nat.le_of_ble_eq_true rfl) rfl (by decide) (Nat.le_of_ble_eq_true rfl) rfl rfl rfl rfl ?_
      refine x_istore_n (ls' := [_, _, _, _, _]) dX12_lost_54 rfl rfl ?_
      refine x_iload_n dX12_lost_55 rfl ?_
      refine x_iconst (v := -1) dX12_lost_56 (by decide) ?_
      refine x_icmp_ne (tgt := 64) dX12_lost_57 (by decide) (fun c6 => ?_) (fun c6 => ?_)
      · replace h := xif_n c6 h
        refine x_aload_n dX12_lost_64 rfl ?_
        refine x_iload_n dX12_lost_65 rfl ?_
        obtain ⟨q7, hq7, h⟩ := Option.bind_eq_some_iff.mp h
        refine y_callVi (L' := [(44, _), (49, _), (51, _), (55, _)]) mi_X12_foundOf ml_X12_170 im_X12_foundOf se_X12_foundOf (rfl : vwCl[11]? = _) dX12_lost_66 (fun s1 => v_X12_foundOf_44 s1 n _ _ _ _ q7 hq7) (by decide) rfl (Nat.le_of_ble_eq_true rfl) rfl (by decide) (Nat.le_of_ble_eq_true rfl) rfl rfl rfl rfl ?_
        refine x_istore (ls' := [_, _, _, _, _]) dX12_lost_69 rfl rfl ?_
        refine x_iload dX12_lost_71 rfl ?_
        refine x_iconst (v := -1) dX12_lost_73 (by decide) ?_
        refine x_icmp_eq (tgt := 101) dX12_lost_74 (by decide) (fun c8 => ?_) (fun c8 => ?_)
        · replace h := xif_p c8 h
          refine x_iinc (v := l2 + 1) (ls' := [_, _, _, _, _]) dX12_lost_101 rfl rfl rfl rfl ?_
          refine x_goto (tgt := 33) dX12_lost_104 (by decide) ?_
          refine V.drop1 (i := 3) (ls' := [_, _, _, _, _]) rfl ?_
          refine V.drop1 (i := 4) (ls' := [_, _, _, _, _]) rfl ?_
          show V yX12_lost cX12_lost (some .int) 2 61 (0, 0) 33 [some (.ref 44), some (.int l1), some (.int ((l2 + 1))), none, none] [] (xof s0 [W_44 o44, W_49 a49, W_51 a51, W_55 a55]) _
          exact ih l1 ((l2 + 1)) a55 _ h hk
        · replace h := xif_n c8 h
          refine x_aload_n dX12_lost_77 rfl ?_
          refine g_X12_44 rfl dX12_lost_78 (by decide) rfl rfl ?_
          refine x_iload dX12_lost_81 rfl ?_
          obtain ⟨c9, h⟩ := xck h
          refine x_zaldK (jn := (Int32.toNatClampNeg q7)) (v := (a55 (Int32.toNatClampNeg q7))) dX12_lost_83 (by decide) rfl (xin_ok c9) rfl rfl ?_
          refine x_if_eq (tgt := 90) dX12_lost_84 (by decide) (fun c10 => ?_) (fun c10 => ?_)
          · replace h := xif_p c10 h
            refine x_aload_n dX12_lost_90 rfl ?_
            refine g_X12_44 rfl dX12_lost_91 (by decide) rfl rfl ?_
            refine x_iload dX12_lost_94 rfl ?_
            refine x_iconst (v := 1) dX12_lost_96 (by decide) ?_
            obtain ⟨c11, h⟩ := xck h
            refine x_zastK (jn := (Int32.toNatClampNeg q7)) (L' := [(44, _), (49, _), (51, _), (55, _)]) dX12_lost_97 (by decide) rfl (xin_ok c11) rfl rfl ?_
            refine x_iinc (v := l1 + (-1)) (ls' := [_, _, _, _, _]) dX12_lost_98 rfl rfl rfl rfl ?_
            refine x_iinc (v := l2 + 1) (ls' := [_, _, _, _, _]) dX12_lost_101 rfl rfl rfl rfl ?_
            refine x_goto (tgt := 33) dX12_lost_104 (by decide) ?_
            refine V.drop1 (i := 3) (ls' := [_, _, _, _, _]) rfl ?_
            refine V.drop1 (i := 4) (ls' := [_, _, _, _, _]) rfl ?_
            show V yX12_lost cX12_lost (some .int) 2 61 (0, 0) 33 [some (.ref 44), some (.int ((l1 + (-1)))), some (.int ((l2 + 1))), none, none] [] (xof s0 [W_44 o44, W_49 a49, W_51 a51, W_55 (upd a55 ((Int32.toNatClampNeg q7)) ((vp_nar .boolean 1)))]) _
            exact ih ((l1 + (-1))) ((l2 + 1)) (upd a55 ((Int32.toNatClampNeg q7)) ((vp_nar .boolean 1))) _ h hk
          · replace h := xif_n c10 h
            refine x_goto (tgt := 101) dX12_lost_87 (by decide) ?_
            refine x_iinc (v := l2 + 1) (ls' := [_, _, _, _, _]) dX12_lost_101 rfl rfl rfl rfl ?_
            refine x_goto (tgt := 33) dX12_lost_104 (by decide) ?_
            refine V.drop1 (i := 3) (ls' := [_, _, _, _, _]) rfl ?_
            refine V.drop1 (i := 4) (ls' := [_, _, _, _, _]) rfl ?_
            show V yX12_lost cX12_lost (some .int) 2 61 (0, 0) 33 [some (.ref 44), some (.int l1), some (.int ((l2 + 1))), none, none] [] (xof s0 [W_44 o44, W_49 a49, W_51 a51, W_55 a55]) _
            exact ih l1 ((l2 + 1)) a55 _ h hk
      · replace h := xif_p c6 h
        refine x_iconst (v := -1) dX12_lost_60 (by decide) ?_
        refine x_goto (tgt := 69) dX12_lost_61 (by decide) ?_
        refine x_istore (ls' := [_, _, _, _, _]) dX12_lost_69 rfl rfl ?_
        refine x_iload dX12_lost_71 rfl ?_
        refine x_iconst (v := -1) dX12_lost_73 (by decide) ?_
        refine x_icmp_eq (tgt := 101) dX12_lost_74 (by decide) (fun _ => ?_) (fun c12 => absurd (by decide) c12)
        refine x_iinc (v := l2 + 1) (ls' := [_, _, _, _, _]) dX12_lost_101 rfl rfl rfl rfl ?_
        refine x_goto (tgt := 33) dX12_lost_104 (by decide) ?_
        refine V.drop1 (i := 3) (ls' := [_, _, _, _, _]) rfl ?_
        refine V.drop1 (i := 4) (ls' := [_, _, _, _, _]) rfl ?_
        show V yX12_lost cX12_lost (some .int) 2 61 (0, 0) 33 [some (.ref 44), some (.int l1), some (.int ((l2 + 1))), none, none] [] (xof s0 [W_44 o44, W_49 a49, W_51 a51, W_55 a55]) _
        exact ih l1 ((l2 + 1)) a55 _ h hk
def f_X12_lost_44 (n : Nat) (o44 : Nat → Int32) (a49 : Nat → Int32) (a51 : Nat → Int32) (a55 : Nat → Int32)  : Option (((Int32) × (Nat → Int32) × (Nat → Int32))) := (Option.bind (l_X12_lost_44_7 n (upd o44 0 0) a49 a51 n 0 a55) (fun u3 => (Option.bind (l_X12_lost_44_33 n (upd o44 0 0) a49 a51 n ((o44 7)) 0 u3.2) (fun u13 => (some (u13.1, upd o44 0 0, u13.2.2))))))
set_option maxRecDepth 100000 in
set_option maxHeartbeats 400000 in
theorem v_X12_lost_44 (s0 : XW) (n : Nat) (o44 : Nat → Int32) (a49 : Nat → Int32) (a51 : Nat → Int32) (a55 : Nat → Int32)  (q : ((Int32) × (Nat → Int32) × (Nat → Int32))) (h : f_X12_lost_44 n o44 a49 a51 a55 = some q) : C_X12_lost 2 61 [.ref 44] (xof s0 [W_44 o44, W_49 a49, W_51 a51, W_55 a55]) (some (.int q.1)) (xof s0 [W_44 q.2.1, W_49 a49, W_51 a51, W_55 q.2.2]) := by
  unfold f_X12_lost_44 at h
  show V yX12_lost cX12_lost (some .int) 2 61 (0, 0) 0 [some (.ref 44), none, none, none, none] [] (xof s0 [W_44 o44, W_49 a49, W_51 a51, W_55 a55]) _
  refine x_aload_n dX12_lost_0 rfl ?_
  refine x_iconst (v := 0) dX12_lost_1 (by decide) ?_
  refine p_X12_1 (fs' := [_, _, _, _, _, _, _, _, _, _, _, _, _, _, _, _, _, _, _, _, _, _]) (L' := [(44, _), (49, _), (51, _), (55, _)]) rfl dX12_lost_2 (by decide) rfl (Nat.le_of_ble_eq_true rfl) rfl rfl ?_
  refine x_iconst (v := 0) dX12_lost_5 (by decide) ?_
  refine x_istore_n (ls' := [_, _, _, _, _]) dX12_lost_6 rfl rfl ?_
  obtain ⟨u3, hu3, h⟩ := Option.bind_eq_some_iff.mp h
  show V yX12_lost cX12_lost (some .int) 2 61 (0, 0) 7 [some (.ref 44), some (.int 0), none, none, none] [] (xof s0 [W_44 (upd o44 0 0), W_49 a49, W_51 a51, W_55 a55]) _
  refine lv_X12_lost_44_7 s0 _ (upd o44 0 0) a49 a51 _ n 0 a55 _ hu3 ?_
  refine x_aload_n dX12_lost_26 rfl ?_
  refine g_X12_109 rfl dX12_lost_27 (by decide) rfl rfl ?_
  refine x_istore_n (ls' := [_, _, _, _, _]) dX12_lost_30 rfl rfl ?_
  refine x_iconst (v := 0) dX12_lost_31 (by decide) ?_
  refine x_istore_n (ls' := [_, _, _, _, _]) dX12_lost_32 rfl rfl ?_
  obtain ⟨u13, hu13, h⟩ := Option.bind_eq_some_iff.mp h
  show V yX12_lost cX12_lost (some .int) 2 61 (0, 0) 33 [some (.ref 44), some (.int ((o44 7))), some (.int 0), none, none] [] (xof s0 [W_44 (upd o44 0 0), W_49 a49, W_51 a51, W_55 u3.2]) _
  refine lv_X12_lost_44_33 s0 _ (upd o44 0 0) a49 a51 _ n ((o44 7)) 0 u3.2 _ hu13 ?_
  refine x_iload_n dX12_lost_107 rfl ?_
  cases h
  exact x_iret dX12_lost_108 ⟨rfl, rfl, rfl⟩
def l_X12_copies_51_52_3 (n : Nat) (a51 : Nat → Int32) (l1 : Int32) (l3 : Int32) (l4 : Int32) : Nat → (Int32) → (Nat → Int32) → Option (((Int32) × (Nat → Int32)))
  | 0, _, _ => none
  | k + 1, l5, a52 => (if l4 ≤ l5 then (some (l5, a52)) else (bif xin (l1 + l5) 875 then (bif xin (l3 + l5) 875 then (l_X12_copies_51_52_3 n a51 l1 l3 l4 k ((l5 + 1)) (upd a52 ((Int32.toNatClampNeg (l3 + l5))) ((a51 (Int32.toNatClampNeg (l1 + l5)))))) else none) else none))
set_option maxRecDepth 100000 in
set_option maxHeartbeats 400000 in
theorem lv_X12_copies_51_52_3 (s0 : XW) (n : Nat) (a51 : Nat → Int32) (l1 : Int32) (l3 : Int32) (l4 : Int32) (Q : Nat → Option Value → XW → Prop) : ∀ (k : Nat) (l5 : Int32) (a52 : Nat → Int32) (o : ((Int32) × (Nat → Int32))), l_X12_copies_51_52_3 n a51 l1 l3 l4 k l5 a52 = some o → (V yX12_copies cX12_copies none 0 61 (0, 0) 28 [none, none, none, none, none, none] [] (xof s0 [W_51 a51, W_52 o.2]) Q) → V yX12_copies cX12_copies none 0 61 (0, 0) 3 [some (.ref 51), some (.int l1), some (.ref 52), some (.int l3), some (.int l4), some (.int l5)] [] (xof s0 [W_51 a51, W_52 a52]) Q := by
  intro k
  induction k with
  | zero =>
    intro _ _ _ h
    simp [l_X12_copies_51_52_3] at h
  | succ k ih =>
    intro l5 a52 o h hk
    rw [l_X12_copies_51_52_3] at h
    refine x_iload dX12_copies_3 rfl ?_
    refine x_iload dX12_copies_5 rfl ?_
    refine x_icmp_ge (tgt := 28) dX12_copies_7 (by decide) (fun c1 => ?_) (fun c1 => ?_)
    · replace h := xif_p c1 h
      refine V.drop1 (i := 0) (ls' := [_, _, _, _, _, _]) rfl ?_
      refine V.drop1 (i := 1) (ls' := [_, _, _, _, _, _]) rfl ?_
      refine V.drop1 (i := 2) (ls' := [_, _, _, _, _, _]) rfl ?_
      refine V.drop1 (i := 3) (ls' := [_, _, _, _, _, _]) rfl ?_
      refine V.drop1 (i := 4) (ls' := [_, _, _, _, _, _]) rfl ?_
      refine V.drop1 (i := 5) (ls' := [_, _, _, _, _, _]) rfl ?_
      show V yX12_copies cX12_copies none 0 61 (0, 0) 28 [none, none, none, none, none, none] [] (xof s0 [W_51 a51, W_52 a52]) _
      cases h
      exact hk
    · replace h := xif_n c1 h
      refine x_aload_n dX12_copies_10 rfl ?_
      refine x_iload_n dX12_copies_11 rfl ?_
      refine x_iload dX12_copies_12 rfl ?_
      refine x_iadd dX12_copies_14 ?_
      refine x_aload_n dX12_copies_15 rfl ?_
      refine x_iload_n dX12_copies_16 rfl ?_
      refine x_iload dX12_copies_17 rfl ?_
      refine x_iadd dX12_copies_19 ?_
      obtain ⟨c2, h⟩ := xck h
      refine x_ialdK (jn := (Int32.toNatClampNeg (l1 + l5))) (v := (a51 (Int32.toNatClampNeg (l1 + l5)))) dX12_copies_20 (by decide) rfl (xin_ok c2) rfl rfl ?_
      obtain ⟨c3, h⟩ := xck h
      refine x_iastK (jn := (Int32.toNatClampNeg (l3 + l5))) (L' := [(51, _), (52, _)]) dX12_copies_21 (by decide) rfl (xin_ok c3) rfl rfl ?_
      refine x_iinc (v := l5 + 1) (ls' := [_, _, _, _, _, _]) dX12_copies_22 rfl rfl rfl rfl ?_
      refine x_goto (tgt := 3) dX12_copies_25 (by decide) ?_
      show V yX12_copies cX12_copies none 0 61 (0, 0) 3 [some (.ref 51), some (.int l1), some (.ref 52), some (.int l3), some (.int l4), some (.int ((l5 + 1)))] [] (xof s0 [W_51 a51, W_52 (upd a52 ((Int32.toNatClampNeg (l3 + l5))) ((a51 (Int32.toNatClampNeg (l1 + l5)))))]) _
      exact ih ((l5 + 1)) (upd a52 ((Int32.toNatClampNeg (l3 + l5))) ((a51 (Int32.toNatClampNeg (l1 + l5))))) _ h hk
def f_X12_copies_51_52 (n : Nat) (a51 : Nat → Int32) (a52 : Nat → Int32) (p1 : Int32) (p3 : Int32) (p4 : Int32) : Option (Nat → Int32) := (Option.bind (l_X12_copies_51_52_3 n a51 p1 p3 p4 n 0 a52) (fun u4 => (some u4.2)))
set_option maxRecDepth 100000 in
set_option maxHeartbeats 400000 in
theorem v_X12_copies_51_52 (s0 : XW) (n : Nat) (a51 : Nat → Int32) (a52 : Nat → Int32) (p1 : Int32) (p3 : Int32) (p4 : Int32) (q : Nat → Int32) (h : f_X12_copies_51_52 n a51 a52 p1 p3 p4 = some q) : C_X12_copies 0 61 [.ref 51, .int p1, .ref 52, .int p3, .int p4] (xof s0 [W_51 a51, W_52 a52]) none (xof s0 [W_51 a51, W_52 q]) := by
  unfold f_X12_copies_51_52 at h
  show V yX12_copies cX12_copies none 0 61 (0, 0) 0 [some (.ref 51), some (.int p1), some (.ref 52), some (.int p3), some (.int p4), none] [] (xof s0 [W_51 a51, W_52 a52]) _
  refine x_iconst (v := 0) dX12_copies_0 (by decide) ?_
  refine x_istore (ls' := [_, _, _, _, _, _]) dX12_copies_1 rfl rfl ?_
  obtain ⟨u4, hu4, h⟩ := Option.bind_eq_some_iff.mp h
  show V yX12_copies cX12_copies none 0 61 (0, 0) 3 [some (.ref 51), some (.int p1), some (.ref 52), some (.int p3), some (.int p4), some (.int 0)] [] (xof s0 [W_51 a51, W_52 a52]) _
  refine lv_X12_copies_51_52_3 s0 _ a51 p1 p3 p4 _ n 0 a52 _ hu4 ?_
  cases h
  exact x_vret dX12_copies_28 ⟨rfl, rfl, rfl⟩
def f_X12_opens_44 (n : Nat) (o44 : Nat → Int32) (a51 : Nat → Int32) (a52 : Nat → Int32)  : Option (Nat → Int32) := (Option.bind (f_X12_copies_51_52 n a51 a52 0 0 875) (fun q1 => (some q1)))
set_option maxRecDepth 100000 in
set_option maxHeartbeats 400000 in
theorem v_X12_opens_44 (s0 : XW) (n : Nat) (o44 : Nat → Int32) (a51 : Nat → Int32) (a52 : Nat → Int32)  (q : Nat → Int32) (h : f_X12_opens_44 n o44 a51 a52 = some q) : C_X12_opens 1 61 [.ref 44] (xof s0 [W_44 o44, W_51 a51, W_52 a52]) none (xof s0 [W_44 o44, W_51 a51, W_52 q]) := by
  unfold f_X12_opens_44 at h
  show V yX12_opens cX12_opens none 1 61 (0, 0) 0 [some (.ref 44)] [] (xof s0 [W_44 o44, W_51 a51, W_52 a52]) _
  refine x_aload_n dX12_opens_0 rfl ?_
  refine g_X12_32 rfl dX12_opens_1 (by decide) rfl rfl ?_
  refine x_iconst (v := 0) dX12_opens_4 (by decide) ?_
  refine x_aload_n dX12_opens_5 rfl ?_
  refine g_X12_35 rfl dX12_opens_6 (by decide) rfl rfl ?_
  refine x_iconst (v := 0) dX12_opens_9 (by decide) ?_
  refine x_sipush (v := 875) dX12_opens_10 (by decide) ?_
  obtain ⟨q1, hq1, h⟩ := Option.bind_eq_some_iff.mp h
  refine y_callSv (L' := [(44, _), (51, _), (52, _)]) mi_X12_copies ml_X12_166 st_X12_copies dX12_opens_13 (fun s1 => v_X12_copies_51_52 s1 n _ _ _ _ _ q1 hq1) (Nat.le_of_ble_eq_true rfl) rfl (by decide) (Nat.le_of_ble_eq_true rfl) rfl rfl rfl rfl ?_
  cases h
  exact x_vret dX12_opens_16 ⟨rfl, rfl, rfl⟩
def l_X12_copies_52_51_3 (n : Nat) (a52 : Nat → Int32) (l1 : Int32) (l3 : Int32) (l4 : Int32) : Nat → (Int32) → (Nat → Int32) → Option (((Int32) × (Nat → Int32)))
  | 0, _, _ => none
  | k + 1, l5, a51 => (if l4 ≤ l5 then (some (l5, a51)) else (bif xin (l1 + l5) 875 then (bif xin (l3 + l5) 875 then (l_X12_copies_52_51_3 n a52 l1 l3 l4 k ((l5 + 1)) (upd a51 ((Int32.toNatClampNeg (l3 + l5))) ((a52 (Int32.toNatClampNeg (l1 + l5)))))) else none) else none))
set_option maxRecDepth 100000 in
set_option maxHeartbeats 400000 in
theorem lv_X12_copies_52_51_3 (s0 : XW) (n : Nat) (a52 : Nat → Int32) (l1 : Int32) (l3 : Int32) (l4 : Int32) (Q : Nat → Option Value → XW → Prop) : ∀ (k : Nat) (l5 : Int32) (a51 : Nat → Int32) (o : ((Int32) × (Nat → Int32))), l_X12_copies_52_51_3 n a52 l1 l3 l4 k l5 a51 = some o → (V yX12_copies cX12_copies none 0 61 (0, 0) 28 [none, none, none, none, none, none] [] (xof s0 [W_51 o.2, W_52 a52]) Q) → V yX12_copies cX12_copies none 0 61 (0, 0) 3 [some (.ref 52), some (.int l1), some (.ref 51), some (.int l3), some (.int l4), some (.int l5)] [] (xof s0 [W_51 a51, W_52 a52]) Q := by
  intro k
  induction k with
  | zero =>
    intro _ _ _ h
    simp [l_X12_copies_52_51_3] at h
  | succ k ih =>
    intro l5 a51 o h hk
    rw [l_X12_copies_52_51_3] at h
    refine x_iload dX12_copies_3 rfl ?_
    refine x_iload dX12_copies_5 rfl ?_
    refine x_icmp_ge (tgt := 28) dX12_copies_7 (by decide) (fun c1 => ?_) (fun c1 => ?_)
    · replace h := xif_p c1 h
      refine V.drop1 (i := 0) (ls' := [_, _, _, _, _, _]) rfl ?_
      refine V.drop1 (i := 1) (ls' := [_, _, _, _, _, _]) rfl ?_
      refine V.drop1 (i := 2) (ls' := [_, _, _, _, _, _]) rfl ?_
      refine V.drop1 (i := 3) (ls' := [_, _, _, _, _, _]) rfl ?_
      refine V.drop1 (i := 4) (ls' := [_, _, _, _, _, _]) rfl ?_
      refine V.drop1 (i := 5) (ls' := [_, _, _, _, _, _]) rfl ?_
      show V yX12_copies cX12_copies none 0 61 (0, 0) 28 [none, none, none, none, none, none] [] (xof s0 [W_51 a51, W_52 a52]) _
      cases h
      exact hk
    · replace h := xif_n c1 h
      refine x_aload_n dX12_copies_10 rfl ?_
      refine x_iload_n dX12_copies_11 rfl ?_
      refine x_iload dX12_copies_12 rfl ?_
      refine x_iadd dX12_copies_14 ?_
      refine x_aload_n dX12_copies_15 rfl ?_
      refine x_iload_n dX12_copies_16 rfl ?_
      refine x_iload dX12_copies_17 rfl ?_
      refine x_iadd dX12_copies_19 ?_
      obtain ⟨c2, h⟩ := xck h
      refine x_ialdK (jn := (Int32.toNatClampNeg (l1 + l5))) (v := (a52 (Int32.toNatClampNeg (l1 + l5)))) dX12_copies_20 (by decide) rfl (xin_ok c2) rfl rfl ?_
      obtain ⟨c3, h⟩ := xck h
      refine x_iastK (jn := (Int32.toNatClampNeg (l3 + l5))) (L' := [(51, _), (52, _)]) dX12_copies_21 (by decide) rfl (xin_ok c3) rfl rfl ?_
      refine x_iinc (v := l5 + 1) (ls' := [_, _, _, _, _, _]) dX12_copies_22 rfl rfl rfl rfl ?_
      refine x_goto (tgt := 3) dX12_copies_25 (by decide) ?_
      show V yX12_copies cX12_copies none 0 61 (0, 0) 3 [some (.ref 52), some (.int l1), some (.ref 51), some (.int l3), some (.int l4), some (.int ((l5 + 1)))] [] (xof s0 [W_51 (upd a51 ((Int32.toNatClampNeg (l3 + l5))) ((a52 (Int32.toNatClampNeg (l1 + l5))))), W_52 a52]) _
      exact ih ((l5 + 1)) (upd a51 ((Int32.toNatClampNeg (l3 + l5))) ((a52 (Int32.toNatClampNeg (l1 + l5))))) _ h hk
def f_X12_copies_52_51 (n : Nat) (a51 : Nat → Int32) (a52 : Nat → Int32) (p1 : Int32) (p3 : Int32) (p4 : Int32) : Option (Nat → Int32) := (Option.bind (l_X12_copies_52_51_3 n a52 p1 p3 p4 n 0 a51) (fun u4 => (some u4.2)))
set_option maxRecDepth 100000 in
set_option maxHeartbeats 400000 in
theorem v_X12_copies_52_51 (s0 : XW) (n : Nat) (a51 : Nat → Int32) (a52 : Nat → Int32) (p1 : Int32) (p3 : Int32) (p4 : Int32) (q : Nat → Int32) (h : f_X12_copies_52_51 n a51 a52 p1 p3 p4 = some q) : C_X12_copies 0 61 [.ref 52, .int p1, .ref 51, .int p3, .int p4] (xof s0 [W_51 a51, W_52 a52]) none (xof s0 [W_51 q, W_52 a52]) := by
  unfold f_X12_copies_52_51 at h
  show V yX12_copies cX12_copies none 0 61 (0, 0) 0 [some (.ref 52), some (.int p1), some (.ref 51), some (.int p3), some (.int p4), none] [] (xof s0 [W_51 a51, W_52 a52]) _
  refine x_iconst (v := 0) dX12_copies_0 (by decide) ?_
  refine x_istore (ls' := [_, _, _, _, _, _]) dX12_copies_1 rfl rfl ?_
  obtain ⟨u4, hu4, h⟩ := Option.bind_eq_some_iff.mp h
  show V yX12_copies cX12_copies none 0 61 (0, 0) 3 [some (.ref 52), some (.int p1), some (.ref 51), some (.int p3), some (.int p4), some (.int 0)] [] (xof s0 [W_51 a51, W_52 a52]) _
  refine lv_X12_copies_52_51_3 s0 _ a52 p1 p3 p4 _ n 0 a51 _ hu4 ?_
  cases h
  exact x_vret dX12_copies_28 ⟨rfl, rfl, rfl⟩
def f_X12_closes_44 (n : Nat) (o44 : Nat → Int32) (a51 : Nat → Int32) (a52 : Nat → Int32)  : Option (Nat → Int32) := (Option.bind (f_X12_copies_52_51 n a51 a52 0 0 875) (fun q1 => (some q1)))
set_option maxRecDepth 100000 in
set_option maxHeartbeats 400000 in
theorem v_X12_closes_44 (s0 : XW) (n : Nat) (o44 : Nat → Int32) (a51 : Nat → Int32) (a52 : Nat → Int32)  (q : Nat → Int32) (h : f_X12_closes_44 n o44 a51 a52 = some q) : C_X12_closes 1 61 [.ref 44] (xof s0 [W_44 o44, W_51 a51, W_52 a52]) none (xof s0 [W_44 o44, W_51 q, W_52 a52]) := by
  unfold f_X12_closes_44 at h
  show V yX12_closes cX12_closes none 1 61 (0, 0) 0 [some (.ref 44)] [] (xof s0 [W_44 o44, W_51 a51, W_52 a52]) _
  refine x_aload_n dX12_closes_0 rfl ?_
  refine g_X12_35 rfl dX12_closes_1 (by decide) rfl rfl ?_
  refine x_iconst (v := 0) dX12_closes_4 (by decide) ?_
  refine x_aload_n dX12_closes_5 rfl ?_
  refine g_X12_32 rfl dX12_closes_6 (by decide) rfl rfl ?_
  refine x_iconst (v := 0) dX12_closes_9 (by decide) ?_
  refine x_sipush (v := 875) dX12_closes_10 (by decide) ?_
  obtain ⟨q1, hq1, h⟩ := Option.bind_eq_some_iff.mp h
  refine y_callSv (L' := [(44, _), (51, _), (52, _)]) mi_X12_copies ml_X12_166 st_X12_copies dX12_closes_13 (fun s1 => v_X12_copies_52_51 s1 n _ _ _ _ _ q1 hq1) (Nat.le_of_ble_eq_true rfl) rfl (by decide) (Nat.le_of_ble_eq_true rfl) rfl rfl rfl rfl ?_
  cases h
  exact x_vret dX12_closes_16 ⟨rfl, rfl, rfl⟩
def f_X12_look_44 (n : Nat) (o44 : Nat → Int32) (a45 : Nat → Int32) (a48 : Nat → Int32) (a49 : Nat → Int32) (a51 : Nat → Int32) (a52 : Nat → Int32) (a53 : Nat → Int32) (a54 : Nat → Int32) (p1 : Int32) : Option (((Int32) × (Nat → Int32) × (Nat → Int32) × (Nat → Int32) × (Nat → Int32) × (Nat → Int32))) := (Option.bind (f_X12_isIn ((Int32.toInt64 p1)) 0 9600) (fun q1 => (if q1 = 0 then (some ((-3), upd o44 0 0, a51, a52, a53, a54)) else (Option.bind (f_X12_opens_44 n (upd o44 0 0) a51 a52) (fun q3 => (Option.bind (f_X12_takes_44 n (upd o44 0 0) a45 a48 a49 a51 a53 a54 p1) (fun q4 => (Option.bind (f_X12_closes_44 n (upd o44 0 0) q4.1 q3) (fun q5 => (some ((q4.1 1), upd o44 0 0, q5, q3, q4.2.1, q4.2.2)))))))))))
set_option maxRecDepth 100000 in
set_option maxHeartbeats 400000 in
theorem v_X12_look_44 (s0 : XW) (n : Nat) (o44 : Nat → Int32) (a45 : Nat → Int32) (a48 : Nat → Int32) (a49 : Nat → Int32) (a51 : Nat → Int32) (a52 : Nat → Int32) (a53 : Nat → Int32) (a54 : Nat → Int32) (p1 : Int32) (q : ((Int32) × (Nat → Int32) × (Nat → Int32) × (Nat → Int32) × (Nat → Int32) × (Nat → Int32))) (h : f_X12_look_44 n o44 a45 a48 a49 a51 a52 a53 a54 p1 = some q) : C_X12_look 7 61 [.ref 44, .int p1] (xof s0 [W_44 o44, W_45 a45, W_48 a48, W_49 a49, W_51 a51, W_52 a52, W_53 a53, W_54 a54]) (some (.int q.1)) (xof s0 [W_44 q.2.1, W_45 a45, W_48 a48, W_49 a49, W_51 q.2.2.1, W_52 q.2.2.2.1, W_53 q.2.2.2.2.1, W_54 q.2.2.2.2.2]) := by
  unfold f_X12_look_44 at h
  show V yX12_look cX12_look (some .int) 7 61 (0, 0) 0 [some (.ref 44), some (.int p1), none] [] (xof s0 [W_44 o44, W_45 a45, W_48 a48, W_49 a49, W_51 a51, W_52 a52, W_53 a53, W_54 a54]) _
  refine x_aload_n dX12_look_0 rfl ?_
  refine x_iconst (v := 0) dX12_look_1 (by decide) ?_
  refine p_X12_1 (fs' := [_, _, _, _, _, _, _, _, _, _, _, _, _, _, _, _, _, _, _, _, _, _]) (L' := [(44, _), (45, _), (48, _), (49, _), (51, _), (52, _), (53, _), (54, _)]) rfl dX12_look_2 (by decide) rfl (Nat.le_of_ble_eq_true rfl) rfl rfl ?_
  refine x_iload_n dX12_look_5 rfl ?_
  refine x_i2l dX12_look_6 ?_
  refine x_lconst (v := 0) dX12_look_7 (by decide) ?_
  refine x_ldc2 dX12_look_8 cn_X12_186 ?_
  obtain ⟨q1, hq1, h⟩ := Option.bind_eq_some_iff.mp h
  refine y_callSi (L' := [(44, _), (45, _), (48, _), (49, _), (51, _), (52, _), (53, _), (54, _)]) mi_X12_isIn ml_X12_77 st_X12_isIn dX12_look_11 (fun s1 => v_X12_isIn 61 s1 _ _ _ q1 hq1) (Nat.le_of_ble_eq_true rfl) rfl (by decide) (Nat.le_of_ble_eq_true rfl) rfl rfl rfl rfl ?_
  refine x_if_ne (tgt := 20) dX12_look_14 (by decide) (fun c2 => ?_) (fun c2 => ?_)
  · replace h := xif_n c2 h
    refine x_aload_n dX12_look_20 rfl ?_
    obtain ⟨q3, hq3, h⟩ := Option.bind_eq_some_iff.mp h
    refine y_callVv (L' := [(44, _), (45, _), (48, _), (49, _), (51, _), (52, _), (53, _), (54, _)]) mi_X12_opens ml_X12_210 im_X12_opens se_X12_opens (rfl : vwCl[11]? = _) dX12_look_21 (fun s1 => v_X12_opens_44 s1 n _ _ _ q3 hq3) (by decide) rfl (Nat.le_of_ble_eq_true rfl) rfl (by decide) (Nat.le_of_ble_eq_true rfl) rfl rfl rfl rfl ?_
    refine x_aload_n dX12_look_24 rfl ?_
    refine x_iload_n dX12_look_25 rfl ?_
    obtain ⟨q4, hq4, h⟩ := Option.bind_eq_some_iff.mp h
    refine y_callVv (L' := [(44, _), (45, _), (48, _), (49, _), (51, _), (52, _), (53, _), (54, _)]) mi_X12_takes ml_X12_188 im_X12_takes se_X12_takes (rfl : vwCl[11]? = _) dX12_look_26 (fun s1 => v_X12_takes_44 s1 n _ _ _ _ _ _ _ _ q4 hq4) (by decide) rfl (Nat.le_of_ble_eq_true rfl) rfl (by decide) (Nat.le_of_ble_eq_true rfl) rfl rfl rfl rfl ?_
    refine x_aload_n dX12_look_29 rfl ?_
    refine g_X12_32 rfl dX12_look_30 (by decide) rfl rfl ?_
    refine x_iconst (v := 1) dX12_look_33 (by decide) ?_
    refine x_ialdK (jn := 1) (v := (q4.1 1)) dX12_look_34 (by decide) rfl (xin_ok (by decide)) (by decide) rfl ?_
    refine x_istore_n (ls' := [_, _, _]) dX12_look_35 rfl rfl ?_
    refine x_aload_n dX12_look_36 rfl ?_
    obtain ⟨q5, hq5, h⟩ := Option.bind_eq_some_iff.mp h
    refine y_callVv (L' := [(44, _), (45, _), (48, _), (49, _), (51, _), (52, _), (53, _), (54, _)]) mi_X12_closes ml_X12_213 im_X12_closes se_X12_closes (rfl : vwCl[11]? = _) dX12_look_37 (fun s1 => v_X12_closes_44 s1 n _ _ _ q5 hq5) (by decide) rfl (Nat.le_of_ble_eq_true rfl) rfl (by decide) (Nat.le_of_ble_eq_true rfl) rfl rfl rfl rfl ?_
    refine x_iload_n dX12_look_40 rfl ?_
    cases h
    exact x_iret dX12_look_41 ⟨rfl, rfl, rfl⟩
  · replace h := xif_p c2 h
    refine x_bipush (v := -3) dX12_look_17 (by decide) ?_
    cases h
    exact x_iret dX12_look_19 ⟨rfl, rfl, rfl⟩
def l_X12_until_44_26 (n : Nat) (o44 : Nat → Int32) (a45 : Nat → Int32) (a48 : Nat → Int32) (a49 : Nat → Int32) (a52 : Nat → Int32) (l1 : Int32) : Nat → (Int32) → (Nat → Int32) → (Nat → Int32) → (Nat → Int32) → Option (((Int32) × (Nat → Int32) × (Nat → Int32) × (Nat → Int32)))
  | 0, _, _, _, _ => none
  | k + 1, l2, a51, a53, a54 => (if (a51 1) = l1 then (some (l2, a51, a53, a54)) else (if (o44 6) ≤ (a51 0) then (some (l2, a51, a53, a54)) else (Option.bind (f_X12_takesOne_44 n o44 a45 a48 a49 a51 a53 a54) (fun q6 => (l_X12_until_44_26 n o44 a45 a48 a49 a52 l1 k ((l2 + 1)) q6.1 q6.2.1 q6.2.2)))))
set_option maxRecDepth 100000 in
set_option maxHeartbeats 400000 in
theorem lv_X12_until_44_26 (s0 : XW) (n : Nat) (o44 : Nat → Int32) (a45 : Nat → Int32) (a48 : Nat → Int32) (a49 : Nat → Int32) (a52 : Nat → Int32) (l1 : Int32) (Q : Nat → Option Value → XW → Prop) : ∀ (k : Nat) (l2 : Int32) (a51 : Nat → Int32) (a53 : Nat → Int32) (a54 : Nat → Int32) (o : ((Int32) × (Nat → Int32) × (Nat → Int32) × (Nat → Int32))), l_X12_until_44_26 n o44 a45 a48 a49 a52 l1 k l2 a51 a53 a54 = some o → (V yX12_until cX12_until (some .int) 6 61 (0, 0) 59 [some (.ref 44), some (.int l1), some (.int o.1), none] [] (xof s0 [W_44 o44, W_45 a45, W_48 a48, W_49 a49, W_51 o.2.1, W_52 a52, W_53 o.2.2.1, W_54 o.2.2.2]) Q) → V yX12_until cX12_until (some .int) 6 61 (0, 0) 26 [some (.ref 44), some (.int l1), some (.int l2), none] [] (xof s0 [W_44 o44, W_45 a45, W_48 a48, W_49 a49, W_51 a51, W_52 a52, W_53 a53, W_54 a54]) Q := by
  intro k
  induction k with
  | zero =>
    intro _ _ _ _ _ h
    simp [l_X12_until_44_26] at h
  | succ k ih =>
    intro l2 a51 a53 a54 o h hk
    rw [l_X12_until_44_26] at h
    refine x_aload_n dX12_until_26 rfl ?_
    refine g_X12_32 rfl dX12_until_27 (by decide) rfl rfl ?_
    refine x_iconst (v := 1) dX12_until_30 (by decide) ?_
    refine x_ialdK (jn := 1) (v := (a51 1)) dX12_until_31 (by decide) rfl (xin_ok (by decide)) (by decide) rfl ?_
    refine x_iload_n dX12_until_32 rfl ?_
    refine x_icmp_eq (tgt := 59) dX12_until_33 (by decide) (fun c4 => ?_) (fun c4 => ?_)
    · replace h := xif_p c4 h
      show V yX12_until cX12_until (some .int) 6 61 (0, 0) 59 [some (.ref 44), some (.int l1), some (.int l2), none] [] (xof s0 [W_44 o44, W_45 a45, W_48 a48, W_49 a49, W_51 a51, W_52 a52, W_53 a53, W_54 a54]) _
      cases h
      exact hk
    · replace h := xif_n c4 h
      refine x_aload_n dX12_until_36 rfl ?_
      refine g_X12_32 rfl dX12_until_37 (by decide) rfl rfl ?_
      refine x_iconst (v := 0) dX12_until_40 (by decide) ?_
      refine x_ialdK (jn := 0) (v := (a51 0)) dX12_until_41 (by decide) rfl (xin_ok (by decide)) (by decide) rfl ?_
      refine x_aload_n dX12_until_42 rfl ?_
      refine g_X12_64 rfl dX12_until_43 (by decide) rfl rfl ?_
      refine x_icmp_ge (tgt := 59) dX12_until_46 (by decide) (fun c5 => ?_) (fun c5 => ?_)
      · replace h := xif_p c5 h
        show V yX12_until cX12_until (some .int) 6 61 (0, 0) 59 [some (.ref 44), some (.int l1), some (.int l2), none] [] (xof s0 [W_44 o44, W_45 a45, W_48 a48, W_49 a49, W_51 a51, W_52 a52, W_53 a53, W_54 a54]) _
        cases h
        exact hk
      · replace h := xif_n c5 h
        refine x_aload_n dX12_until_49 rfl ?_
        obtain ⟨q6, hq6, h⟩ := Option.bind_eq_some_iff.mp h
        refine y_callVv (L' := [(44, _), (45, _), (48, _), (49, _), (51, _), (52, _), (53, _), (54, _)]) mi_X12_takesOne ml_X12_183 im_X12_takesOne se_X12_takesOne (rfl : vwCl[11]? = _) dX12_until_50 (fun s1 => v_X12_takesOne_44 s1 n _ _ _ _ _ _ _ q6 hq6) (by decide) rfl (Nat.le_of_ble_eq_true rfl) rfl (by decide) (Nat.le_of_ble_eq_true rfl) rfl rfl rfl rfl ?_
        refine x_iinc (v := l2 + 1) (ls' := [_, _, _, _]) dX12_until_53 rfl rfl rfl rfl ?_
        refine x_goto (tgt := 26) dX12_until_56 (by decide) ?_
        show V yX12_until cX12_until (some .int) 6 61 (0, 0) 26 [some (.ref 44), some (.int l1), some (.int ((l2 + 1))), none] [] (xof s0 [W_44 o44, W_45 a45, W_48 a48, W_49 a49, W_51 q6.1, W_52 a52, W_53 q6.2.1, W_54 q6.2.2]) _
        exact ih ((l2 + 1)) q6.1 q6.2.1 q6.2.2 _ h hk
def b_X12_until_44_74 (n : Nat) (o44 : Nat → Int32) (a45 : Nat → Int32) (a48 : Nat → Int32) (a49 : Nat → Int32) (a51 : Nat → Int32) (a52 : Nat → Int32) (a53 : Nat → Int32) (a54 : Nat → Int32) (l2 : Int32) (t0 : Int32) : Option (((Int32) × (Nat → Int32) × (Nat → Int32) × (Nat → Int32) × (Nat → Int32) × (Nat → Int32))) := (Option.bind (f_X12_closes_44 n o44 a51 a52) (fun q9 => (if t0 = 0 then (some ((-1), o44, q9, a52, a53, a54)) else (some (l2, o44, q9, a52, a53, a54)))))
set_option maxRecDepth 100000 in
set_option maxHeartbeats 400000 in
theorem vb_X12_until_44_74 (s0 : XW) (n : Nat) (o44 : Nat → Int32) (a45 : Nat → Int32) (a48 : Nat → Int32) (a49 : Nat → Int32) (a51 : Nat → Int32) (a52 : Nat → Int32) (a53 : Nat → Int32) (a54 : Nat → Int32) (l2 : Int32) (t0 : Int32) (q : ((Int32) × (Nat → Int32) × (Nat → Int32) × (Nat → Int32) × (Nat → Int32) × (Nat → Int32))) (h : b_X12_until_44_74 n o44 a45 a48 a49 a51 a52 a53 a54 l2 t0 = some q) : V yX12_until cX12_until (some .int) 6 61 (0, 0) 74 [some (.ref 44), none, some (.int l2), none] [.int t0] (xof s0 [W_44 o44, W_45 a45, W_48 a48, W_49 a49, W_51 a51, W_52 a52, W_53 a53, W_54 a54]) (xq 61 (some (.int q.1)) (xof s0 [W_44 q.2.1, W_45 a45, W_48 a48, W_49 a49, W_51 q.2.2.1, W_52 q.2.2.2.1, W_53 q.2.2.2.2.1, W_54 q.2.2.2.2.2])) := by
  unfold b_X12_until_44_74 at h
  refine x_istore_n (ls' := [_, _, _, _]) dX12_until_74 rfl rfl ?_
  refine x_aload_n dX12_until_75 rfl ?_
  obtain ⟨q9, hq9, h⟩ := Option.bind_eq_some_iff.mp h
  refine y_callVv (L' := [(44, _), (45, _), (48, _), (49, _), (51, _), (52, _), (53, _), (54, _)]) mi_X12_closes ml_X12_213 im_X12_closes se_X12_closes (rfl : vwCl[11]? = _) dX12_until_76 (fun s1 => v_X12_closes_44 s1 n _ _ _ q9 hq9) (by decide) rfl (Nat.le_of_ble_eq_true rfl) rfl (by decide) (Nat.le_of_ble_eq_true rfl) rfl rfl rfl rfl ?_
  refine x_iload_n dX12_until_79 rfl ?_
  refine x_if_eq (tgt := 87) dX12_until_80 (by decide) (fun c10 => ?_) (fun c10 => ?_)
  · replace h := xif_p c10 h
    refine x_iconst (v := -1) dX12_until_87 (by decide) ?_
    cases h
    exact x_iret dX12_until_88 ⟨rfl, rfl, rfl⟩
  · replace h := xif_n c10 h
    refine x_iload_n dX12_until_83 rfl ?_
    refine x_goto (tgt := 88) dX12_until_84 (by decide) ?_
    cases h
    exact x_iret dX12_until_88 ⟨rfl, rfl, rfl⟩
def b_X12_until_44_59 (n : Nat) (o44 : Nat → Int32) (a45 : Nat → Int32) (a48 : Nat → Int32) (a49 : Nat → Int32) (a51 : Nat → Int32) (a52 : Nat → Int32) (a53 : Nat → Int32) (a54 : Nat → Int32) (l1 : Int32) (l2 : Int32) : Option (((Int32) × (Nat → Int32) × (Nat → Int32) × (Nat → Int32) × (Nat → Int32) × (Nat → Int32))) := (if (a51 1) = l1 then (b_X12_until_44_74 n o44 a45 a48 a49 a51 a52 a53 a54 l2 1) else (b_X12_until_44_74 n o44 a45 a48 a49 a51 a52 a53 a54 l2 0))
set_option maxRecDepth 100000 in
set_option maxHeartbeats 400000 in
theorem vb_X12_until_44_59 (s0 : XW) (n : Nat) (o44 : Nat → Int32) (a45 : Nat → Int32) (a48 : Nat → Int32) (a49 : Nat → Int32) (a51 : Nat → Int32) (a52 : Nat → Int32) (a53 : Nat → Int32) (a54 : Nat → Int32) (l1 : Int32) (l2 : Int32) (q : ((Int32) × (Nat → Int32) × (Nat → Int32) × (Nat → Int32) × (Nat → Int32) × (Nat → Int32))) (h : b_X12_until_44_59 n o44 a45 a48 a49 a51 a52 a53 a54 l1 l2 = some q) : V yX12_until cX12_until (some .int) 6 61 (0, 0) 59 [some (.ref 44), some (.int l1), some (.int l2), none] [] (xof s0 [W_44 o44, W_45 a45, W_48 a48, W_49 a49, W_51 a51, W_52 a52, W_53 a53, W_54 a54]) (xq 61 (some (.int q.1)) (xof s0 [W_44 q.2.1, W_45 a45, W_48 a48, W_49 a49, W_51 q.2.2.1, W_52 q.2.2.2.1, W_53 q.2.2.2.2.1, W_54 q.2.2.2.2.2])) := by
  unfold b_X12_until_44_59 at h
  refine x_aload_n dX12_until_59 rfl ?_
  refine g_X12_32 rfl dX12_until_60 (by decide) rfl rfl ?_
  refine x_iconst (v := 1) dX12_until_63 (by decide) ?_
  refine x_ialdK (jn := 1) (v := (a51 1)) dX12_until_64 (by decide) rfl (xin_ok (by decide)) (by decide) rfl ?_
  refine x_iload_n dX12_until_65 rfl ?_
  refine x_icmp_ne (tgt := 73) dX12_until_66 (by decide) (fun c8 => ?_) (fun c8 => ?_)
  · replace h := xif_n c8 h
    refine x_iconst (v := 0) dX12_until_73 (by decide) ?_
    refine V.drop1 (i := 1) (ls' := [_, _, _, _]) rfl ?_
    show V yX12_until cX12_until (some .int) 6 61 (0, 0) 74 [some (.ref 44), none, some (.int l2), none] [.int 0] (xof s0 [W_44 o44, W_45 a45, W_48 a48, W_49 a49, W_51 a51, W_52 a52, W_53 a53, W_54 a54]) _
    exact vb_X12_until_44_74 s0 n o44 a45 a48 a49 a51 a52 a53 a54 l2 0 q h
  · replace h := xif_p c8 h
    refine x_iconst (v := 1) dX12_until_69 (by decide) ?_
    refine x_goto (tgt := 74) dX12_until_70 (by decide) ?_
    refine V.drop1 (i := 1) (ls' := [_, _, _, _]) rfl ?_
    show V yX12_until cX12_until (some .int) 6 61 (0, 0) 74 [some (.ref 44), none, some (.int l2), none] [.int 1] (xof s0 [W_44 o44, W_45 a45, W_48 a48, W_49 a49, W_51 a51, W_52 a52, W_53 a53, W_54 a54]) _
    exact vb_X12_until_44_74 s0 n o44 a45 a48 a49 a51 a52 a53 a54 l2 1 q h
def f_X12_until_44 (n : Nat) (o44 : Nat → Int32) (a45 : Nat → Int32) (a48 : Nat → Int32) (a49 : Nat → Int32) (a51 : Nat → Int32) (a52 : Nat → Int32) (a53 : Nat → Int32) (a54 : Nat → Int32) (p1 : Int32) : Option (((Int32) × (Nat → Int32) × (Nat → Int32) × (Nat → Int32) × (Nat → Int32) × (Nat → Int32))) := (Option.bind (f_X12_isIn ((Int32.toInt64 p1)) 0 2) (fun q1 => (if q1 = 0 then (some ((-3), upd o44 0 0, a51, a52, a53, a54)) else (Option.bind (f_X12_opens_44 n (upd o44 0 0) a51 a52) (fun q3 => (Option.bind (l_X12_until_44_26 n (upd o44 0 0) a45 a48 a49 q3 p1 n 0 a51 a53 a54) (fun u7 => (b_X12_until_44_59 n (upd o44 0 0) a45 a48 a49 u7.2.1 q3 u7.2.2.1 u7.2.2.2 p1 u7.1))))))))
set_option maxRecDepth 100000 in
set_option maxHeartbeats 400000 in
theorem v_X12_until_44 (s0 : XW) (n : Nat) (o44 : Nat → Int32) (a45 : Nat → Int32) (a48 : Nat → Int32) (a49 : Nat → Int32) (a51 : Nat → Int32) (a52 : Nat → Int32) (a53 : Nat → Int32) (a54 : Nat → Int32) (p1 : Int32) (q : ((Int32) × (Nat → Int32) × (Nat → Int32) × (Nat → Int32) × (Nat → Int32) × (Nat → Int32))) (h : f_X12_until_44 n o44 a45 a48 a49 a51 a52 a53 a54 p1 = some q) : C_X12_until 6 61 [.ref 44, .int p1] (xof s0 [W_44 o44, W_45 a45, W_48 a48, W_49 a49, W_51 a51, W_52 a52, W_53 a53, W_54 a54]) (some (.int q.1)) (xof s0 [W_44 q.2.1, W_45 a45, W_48 a48, W_49 a49, W_51 q.2.2.1, W_52 q.2.2.2.1, W_53 q.2.2.2.2.1, W_54 q.2.2.2.2.2]) := by
  unfold f_X12_until_44 at h
  show V yX12_until cX12_until (some .int) 6 61 (0, 0) 0 [some (.ref 44), some (.int p1), none, none] [] (xof s0 [W_44 o44, W_45 a45, W_48 a48, W_49 a49, W_51 a51, W_52 a52, W_53 a53, W_54 a54]) _
  refine x_aload_n dX12_until_0 rfl ?_
  refine x_iconst (v := 0) dX12_until_1 (by decide) ?_
  refine p_X12_1 (fs' := [_, _, _, _, _, _, _, _, _, _, _, _, _, _, _, _, _, _, _, _, _, _]) (L' := [(44, _), (45, _), (48, _), (49, _), (51, _), (52, _), (53, _), (54, _)]) rfl dX12_until_2 (by decide) rfl (Nat.le_of_ble_eq_true rfl) rfl rfl ?_
  refine x_iload_n dX12_until_5 rfl ?_
  refine x_i2l dX12_until_6 ?_
  refine x_lconst (v := 0) dX12_until_7 (by decide) ?_
  refine x_ldc2 dX12_until_8 cn_X12_99 ?_
  obtain ⟨q1, hq1, h⟩ := Option.bind_eq_some_iff.mp h
  refine y_callSi (L' := [(44, _), (45, _), (48, _), (49, _), (51, _), (52, _), (53, _), (54, _)]) mi_X12_isIn ml_X12_77 st_X12_isIn dX12_until_11 (fun s1 => v_X12_isIn 61 s1 _ _ _ q1 hq1) (Nat.le_of_ble_eq_true rfl) rfl (by decide) (Nat.le_of_ble_eq_true rfl) rfl rfl rfl rfl ?_
  refine x_if_ne (tgt := 20) dX12_until_14 (by decide) (fun c2 => ?_) (fun c2 => ?_)
  · replace h := xif_n c2 h
    refine x_aload_n dX12_until_20 rfl ?_
    obtain ⟨q3, hq3, h⟩ := Option.bind_eq_some_iff.mp h
    refine y_callVv (L' := [(44, _), (45, _), (48, _), (49, _), (51, _), (52, _), (53, _), (54, _)]) mi_X12_opens ml_X12_210 im_X12_opens se_X12_opens (rfl : vwCl[11]? = _) dX12_until_21 (fun s1 => v_X12_opens_44 s1 n _ _ _ q3 hq3) (by decide) rfl (Nat.le_of_ble_eq_true rfl) rfl (by decide) (Nat.le_of_ble_eq_true rfl) rfl rfl rfl rfl ?_
    refine x_iconst (v := 0) dX12_until_24 (by decide) ?_
    refine x_istore_n (ls' := [_, _, _, _]) dX12_until_25 rfl rfl ?_
    obtain ⟨u7, hu7, h⟩ := Option.bind_eq_some_iff.mp h
    show V yX12_until cX12_until (some .int) 6 61 (0, 0) 26 [some (.ref 44), some (.int p1), some (.int 0), none] [] (xof s0 [W_44 (upd o44 0 0), W_45 a45, W_48 a48, W_49 a49, W_51 a51, W_52 q3, W_53 a53, W_54 a54]) _
    refine lv_X12_until_44_26 s0 _ (upd o44 0 0) a45 a48 a49 q3 p1 _ n 0 a51 a53 a54 _ hu7 ?_
    show V yX12_until cX12_until (some .int) 6 61 (0, 0) 59 [some (.ref 44), some (.int p1), some (.int u7.1), none] [] (xof s0 [W_44 (upd o44 0 0), W_45 a45, W_48 a48, W_49 a49, W_51 u7.2.1, W_52 q3, W_53 u7.2.2.1, W_54 u7.2.2.2]) _
    exact vb_X12_until_44_59 s0 n (upd o44 0 0) a45 a48 a49 u7.2.1 q3 u7.2.2.1 u7.2.2.2 p1 u7.1 q h
  · replace h := xif_p c2 h
    refine x_bipush (v := -3) dX12_until_17 (by decide) ?_
    cases h
    exact x_iret dX12_until_19 ⟨rfl, rfl, rfl⟩
def b_X12_would_44_160 (n : Nat) (o44 : Nat → Int32) (a45 : Nat → Int32) (a48 : Nat → Int32) (a49 : Nat → Int32) (a51 : Nat → Int32) (a52 : Nat → Int32) (a53 : Nat → Int32) (a54 : Nat → Int32) (t0 : Int32) : Option (((Int32) × (Nat → Int32) × (Nat → Int32) × (Nat → Int32) × (Nat → Int32) × (Nat → Int32) × (Nat → Int32))) := (Option.bind (f_X12_closes_44 n o44 a51 a52) (fun q17 => (some (t0, o44, a48, q17, a52, a53, a54))))
set_option maxRecDepth 100000 in
set_option maxHeartbeats 400000 in
theorem vb_X12_would_44_160 (s0 : XW) (n : Nat) (o44 : Nat → Int32) (a45 : Nat → Int32) (a48 : Nat → Int32) (a49 : Nat → Int32) (a51 : Nat → Int32) (a52 : Nat → Int32) (a53 : Nat → Int32) (a54 : Nat → Int32) (t0 : Int32) (q : ((Int32) × (Nat → Int32) × (Nat → Int32) × (Nat → Int32) × (Nat → Int32) × (Nat → Int32) × (Nat → Int32))) (h : b_X12_would_44_160 n o44 a45 a48 a49 a51 a52 a53 a54 t0 = some q) : V yX12_would cX12_would (some .int) 7 61 (0, 0) 160 [some (.ref 44), none, none, none] [.int t0] (xof s0 [W_44 o44, W_45 a45, W_48 a48, W_49 a49, W_51 a51, W_52 a52, W_53 a53, W_54 a54]) (xq 61 (some (.int q.1)) (xof s0 [W_44 q.2.1, W_45 a45, W_48 q.2.2.1, W_49 a49, W_51 q.2.2.2.1, W_52 q.2.2.2.2.1, W_53 q.2.2.2.2.2.1, W_54 q.2.2.2.2.2.2])) := by
  unfold b_X12_would_44_160 at h
  refine x_istore_n (ls' := [_, _, _, _]) dX12_would_160 rfl rfl ?_
  refine x_aload_n dX12_would_161 rfl ?_
  obtain ⟨q17, hq17, h⟩ := Option.bind_eq_some_iff.mp h
  refine y_callVv (L' := [(44, _), (45, _), (48, _), (49, _), (51, _), (52, _), (53, _), (54, _)]) mi_X12_closes ml_X12_213 im_X12_closes se_X12_closes (rfl : vwCl[11]? = _) dX12_would_162 (fun s1 => v_X12_closes_44 s1 n _ _ _ q17 hq17) (by decide) rfl (Nat.le_of_ble_eq_true rfl) rfl (by decide) (Nat.le_of_ble_eq_true rfl) rfl rfl rfl rfl ?_
  refine x_iload_n dX12_would_165 rfl ?_
  cases h
  exact x_iret dX12_would_166 ⟨rfl, rfl, rfl⟩
def f_X12_would_44 (n : Nat) (o44 : Nat → Int32) (a45 : Nat → Int32) (a48 : Nat → Int32) (a49 : Nat → Int32) (a51 : Nat → Int32) (a52 : Nat → Int32) (a53 : Nat → Int32) (a54 : Nat → Int32) (p1 : Int32) (p2 : Int32) : Option (((Int32) × (Nat → Int32) × (Nat → Int32) × (Nat → Int32) × (Nat → Int32) × (Nat → Int32) × (Nat → Int32))) := (Option.bind (f_X12_isBit_44 (upd o44 0 0) p1) (fun q1 => (if q1 = 0 then (some ((-2), upd o44 0 0, a48, a51, a52, a53, a54)) else (Option.bind (f_X12_isIn ((Int32.toInt64 p2)) 0 5) (fun q3 => (if q3 = 0 then (some ((-2), upd o44 0 0, a48, a51, a52, a53, a54)) else (if (a51 0) ≤ p1 then (Option.bind (f_X12_opens_44 n (upd o44 0 0) a51 a52) (fun q6 => (bif xin p1 9600 then (bif xin p1 9600 then (Option.bind (f_X12_takes_44 n (upd o44 0 0) a45 (upd a48 ((Int32.toNatClampNeg p1)) ((1 - (a48 (Int32.toNatClampNeg p1))))) a49 a51 a53 a54 9600) (fun q9 => (bif xin p1 9600 then (bif xin p1 9600 then (if p2 = 0 then (b_X12_would_44_160 n (upd o44 0 0) a45 (upd (upd a48 ((Int32.toNatClampNeg p1)) ((1 - (a48 (Int32.toNatClampNeg p1))))) ((Int32.toNatClampNeg p1)) ((1 - ((upd a48 ((Int32.toNatClampNeg p1)) ((1 - (a48 (Int32.toNatClampNeg p1))))) (Int32.toNatClampNeg p1))))) a49 q9.1 q6 q9.2.1 q9.2.2 ((q9.1 16))) else (if p2 = 1 then (b_X12_would_44_160 n (upd o44 0 0) a45 (upd (upd a48 ((Int32.toNatClampNeg p1)) ((1 - (a48 (Int32.toNatClampNeg p1))))) ((Int32.toNatClampNeg p1)) ((1 - ((upd a48 ((Int32.toNatClampNeg p1)) ((1 - (a48 (Int32.toNatClampNeg p1))))) (Int32.toNatClampNeg p1))))) a49 q9.1 q6 q9.2.1 q9.2.2 ((q9.1 14))) else (if p2 = 2 then (b_X12_would_44_160 n (upd o44 0 0) a45 (upd (upd a48 ((Int32.toNatClampNeg p1)) ((1 - (a48 (Int32.toNatClampNeg p1))))) ((Int32.toNatClampNeg p1)) ((1 - ((upd a48 ((Int32.toNatClampNeg p1)) ((1 - (a48 (Int32.toNatClampNeg p1))))) (Int32.toNatClampNeg p1))))) a49 q9.1 q6 q9.2.1 q9.2.2 ((q9.1 15))) else (if p2 = 3 then (b_X12_would_44_160 n (upd o44 0 0) a45 (upd (upd a48 ((Int32.toNatClampNeg p1)) ((1 - (a48 (Int32.toNatClampNeg p1))))) ((Int32.toNatClampNeg p1)) ((1 - ((upd a48 ((Int32.toNatClampNeg p1)) ((1 - (a48 (Int32.toNatClampNeg p1))))) (Int32.toNatClampNeg p1))))) a49 q9.1 q6 q9.2.1 q9.2.2 ((q9.1 18))) else (if p2 = 4 then (b_X12_would_44_160 n (upd o44 0 0) a45 (upd (upd a48 ((Int32.toNatClampNeg p1)) ((1 - (a48 (Int32.toNatClampNeg p1))))) ((Int32.toNatClampNeg p1)) ((1 - ((upd a48 ((Int32.toNatClampNeg p1)) ((1 - (a48 (Int32.toNatClampNeg p1))))) (Int32.toNatClampNeg p1))))) a49 q9.1 q6 q9.2.1 q9.2.2 ((q9.1 1))) else (b_X12_would_44_160 n (upd o44 0 0) a45 (upd (upd a48 ((Int32.toNatClampNeg p1)) ((1 - (a48 (Int32.toNatClampNeg p1))))) ((Int32.toNatClampNeg p1)) ((1 - ((upd a48 ((Int32.toNatClampNeg p1)) ((1 - (a48 (Int32.toNatClampNeg p1))))) (Int32.toNatClampNeg p1))))) a49 q9.1 q6 q9.2.1 q9.2.2 ((q9.1 22)))))))) else none) else none))) else none) else none))) else (some ((-5), upd o44 0 0, a48, a51, a52, a53, a54)))))))))
set_option maxRecDepth 100000 in
set_option maxHeartbeats 400000 in
theorem v_X12_would_44 (s0 : XW) (n : Nat) (o44 : Nat → Int32) (a45 : Nat → Int32) (a48 : Nat → Int32) (a49 : Nat → Int32) (a51 : Nat → Int32) (a52 : Nat → Int32) (a53 : Nat → Int32) (a54 : Nat → Int32) (p1 : Int32) (p2 : Int32) (q : ((Int32) × (Nat → Int32) × (Nat → Int32) × (Nat → Int32) × (Nat → Int32) × (Nat → Int32) × (Nat → Int32))) (h : f_X12_would_44 n o44 a45 a48 a49 a51 a52 a53 a54 p1 p2 = some q) : C_X12_would 7 61 [.ref 44, .int p1, .int p2] (xof s0 [W_44 o44, W_45 a45, W_48 a48, W_49 a49, W_51 a51, W_52 a52, W_53 a53, W_54 a54]) (some (.int q.1)) (xof s0 [W_44 q.2.1, W_45 a45, W_48 q.2.2.1, W_49 a49, W_51 q.2.2.2.1, W_52 q.2.2.2.2.1, W_53 q.2.2.2.2.2.1, W_54 q.2.2.2.2.2.2]) := by
  unfold f_X12_would_44 at h
  show V yX12_would cX12_would (some .int) 7 61 (0, 0) 0 [some (.ref 44), some (.int p1), some (.int p2), none] [] (xof s0 [W_44 o44, W_45 a45, W_48 a48, W_49 a49, W_51 a51, W_52 a52, W_53 a53, W_54 a54]) _
  refine x_aload_n dX12_would_0 rfl ?_
  refine x_iconst (v := 0) dX12_would_1 (by decide) ?_
  refine p_X12_1 (fs' := [_, _, _, _, _, _, _, _, _, _, _, _, _, _, _, _, _, _, _, _, _, _]) (L' := [(44, _), (45, _), (48, _), (49, _), (51, _), (52, _), (53, _), (54, _)]) rfl dX12_would_2 (by decide) rfl (Nat.le_of_ble_eq_true rfl) rfl rfl ?_
  refine x_aload_n dX12_would_5 rfl ?_
  refine x_iload_n dX12_would_6 rfl ?_
  obtain ⟨q1, hq1, h⟩ := Option.bind_eq_some_iff.mp h
  refine y_callVi (L' := [(44, _), (45, _), (48, _), (49, _), (51, _), (52, _), (53, _), (54, _)]) mi_X12_isBit ml_X12_131 im_X12_isBit se_X12_isBit (rfl : vwCl[11]? = _) dX12_would_7 (fun s1 => v_X12_isBit_44 s1 _ _ q1 hq1) (by decide) rfl (Nat.le_of_ble_eq_true rfl) rfl (by decide) (Nat.le_of_ble_eq_true rfl) rfl rfl rfl rfl ?_
  refine x_if_eq (tgt := 25) dX12_would_10 (by decide) (fun c2 => ?_) (fun c2 => ?_)
  · replace h := xif_p c2 h
    refine x_bipush (v := -2) dX12_would_25 (by decide) ?_
    cases h
    exact x_iret dX12_would_27 ⟨rfl, rfl, rfl⟩
  · replace h := xif_n c2 h
    refine x_iload_n dX12_would_13 rfl ?_
    refine x_i2l dX12_would_14 ?_
    refine x_lconst (v := 0) dX12_would_15 (by decide) ?_
    refine x_ldc2 dX12_would_16 cn_X12_216 ?_
    obtain ⟨q3, hq3, h⟩ := Option.bind_eq_some_iff.mp h
    refine y_callSi (L' := [(44, _), (45, _), (48, _), (49, _), (51, _), (52, _), (53, _), (54, _)]) mi_X12_isIn ml_X12_77 st_X12_isIn dX12_would_19 (fun s1 => v_X12_isIn 61 s1 _ _ _ q3 hq3) (Nat.le_of_ble_eq_true rfl) rfl (by decide) (Nat.le_of_ble_eq_true rfl) rfl rfl rfl rfl ?_
    refine x_if_ne (tgt := 28) dX12_would_22 (by decide) (fun c4 => ?_) (fun c4 => ?_)
    · replace h := xif_n c4 h
      refine x_iload_n dX12_would_28 rfl ?_
      refine x_aload_n dX12_would_29 rfl ?_
      refine g_X12_32 rfl dX12_would_30 (by decide) rfl rfl ?_
      refine x_iconst (v := 0) dX12_would_33 (by decide) ?_
      refine x_ialdK (jn := 0) (v := (a51 0)) dX12_would_34 (by decide) rfl (xin_ok (by decide)) (by decide) rfl ?_
      refine x_icmp_ge (tgt := 41) dX12_would_35 (by decide) (fun c5 => ?_) (fun c5 => ?_)
      · replace h := xif_p c5 h
        refine x_aload_n dX12_would_41 rfl ?_
        obtain ⟨q6, hq6, h⟩ := Option.bind_eq_some_iff.mp h
        refine y_callVv (L' := [(44, _), (45, _), (48, _), (49, _), (51, _), (52, _), (53, _), (54, _)]) mi_X12_opens ml_X12_210 im_X12_opens se_X12_opens (rfl : vwCl[11]? = _) dX12_would_42 (fun s1 => v_X12_opens_44 s1 n _ _ _ q6 hq6) (by decide) rfl (Nat.le_of_ble_eq_true rfl) rfl (by decide) (Nat.le_of_ble_eq_true rfl) rfl rfl rfl rfl ?_
        refine x_aload_n dX12_would_45 rfl ?_
        refine g_X12_23 rfl dX12_would_46 (by decide) rfl rfl ?_
        refine x_iload_n dX12_would_49 rfl ?_
        refine x_iconst (v := 1) dX12_would_50 (by decide) ?_
        refine x_aload_n dX12_would_51 rfl ?_
        refine g_X12_23 rfl dX12_would_52 (by decide) rfl rfl ?_
        refine x_iload_n dX12_would_55 rfl ?_
        obtain ⟨c7, h⟩ := xck h
        refine x_ialdK (jn := (Int32.toNatClampNeg p1)) (v := (a48 (Int32.toNatClampNeg p1))) dX12_would_56 (by decide) rfl (xin_ok c7) rfl rfl ?_
        refine x_isub dX12_would_57 ?_
        obtain ⟨c8, h⟩ := xck h
        refine x_iastK (jn := (Int32.toNatClampNeg p1)) (L' := [(44, _), (45, _), (48, _), (49, _), (51, _), (52, _), (53, _), (54, _)]) dX12_would_58 (by decide) rfl (xin_ok c8) rfl rfl ?_
        refine x_aload_n dX12_would_59 rfl ?_
        refine x_sipush (v := 9600) dX12_would_60 (by decide) ?_
        obtain ⟨q9, hq9, h⟩ := Option.bind_eq_some_iff.mp h
        refine y_callVv (L' := [(44, _), (45, _), (48, _), (49, _), (51, _), (52, _), (53, _), (54, _)]) mi_X12_takes ml_X12_188 im_X12_takes se_X12_takes (rfl : vwCl[11]? = _) dX12_would_63 (fun s1 => v_X12_takes_44 s1 n _ _ _ _ _ _ _ _ q9 hq9) (by decide) rfl (Nat.le_of_ble_eq_true rfl) rfl (by decide) (Nat.le_of_ble_eq_true rfl) rfl rfl rfl rfl ?_
        refine x_aload_n dX12_would_66 rfl ?_
        refine g_X12_23 rfl dX12_would_67 (by decide) rfl rfl ?_
        refine x_iload_n dX12_would_70 rfl ?_
        refine x_iconst (v := 1) dX12_would_71 (by decide) ?_
        refine x_aload_n dX12_would_72 rfl ?_
        refine g_X12_23 rfl dX12_would_73 (by decide) rfl rfl ?_
        refine x_iload_n dX12_would_76 rfl ?_
        obtain ⟨c10, h⟩ := xck h
        refine x_ialdK (jn := (Int32.toNatClampNeg p1)) (v := ((upd a48 ((Int32.toNatClampNeg p1)) ((1 - (a48 (Int32.toNatClampNeg p1))))) (Int32.toNatClampNeg p1))) dX12_would_77 (by decide) rfl (xin_ok c10) rfl rfl ?_
        refine x_isub dX12_would_78 ?_
        obtain ⟨c11, h⟩ := xck h
        refine x_iastK (jn := (Int32.toNatClampNeg p1)) (L' := [(44, _), (45, _), (48, _), (49, _), (51, _), (52, _), (53, _), (54, _)]) dX12_would_79 (by decide) rfl (xin_ok c11) rfl rfl ?_
        refine x_iload_n dX12_would_80 rfl ?_
        refine x_if_ne (tgt := 94) dX12_would_81 (by decide) (fun c12 => ?_) (fun c12 => ?_)
        · replace h := xif_n c12 h
          refine x_iload_n dX12_would_94 rfl ?_
          refine x_iconst (v := 1) dX12_would_95 (by decide) ?_
          refine x_icmp_ne (tgt := 109) dX12_would_96 (by decide) (fun c13 => ?_) (fun c13 => ?_)
          · replace h := xif_n c13 h
            refine x_iload_n dX12_would_109 rfl ?_
            refine x_iconst (v := 2) dX12_would_110 (by decide) ?_
            refine x_icmp_ne (tgt := 124) dX12_would_111 (by decide) (fun c14 => ?_) (fun c14 => ?_)
            · replace h := xif_n c14 h
              refine x_iload_n dX12_would_124 rfl ?_
              refine x_iconst (v := 3) dX12_would_125 (by decide) ?_
              refine x_icmp_ne (tgt := 139) dX12_would_126 (by decide) (fun c15 => ?_) (fun c15 => ?_)
              · replace h := xif_n c15 h
                refine x_iload_n dX12_would_139 rfl ?_
                refine x_iconst (v := 4) dX12_would_140 (by decide) ?_
                refine x_icmp_ne (tgt := 153) dX12_would_141 (by decide) (fun c16 => ?_) (fun c16 => ?_)
                · replace h := xif_n c16 h
                  refine x_aload_n dX12_would_153 rfl ?_
                  refine g_X12_32 rfl dX12_would_154 (by decide) rfl rfl ?_
                  refine x_bipush (v := 22) dX12_would_157 (by decide) ?_
                  refine x_ialdK (jn := 22) (v := (q9.1 22)) dX12_would_159 (by decide) rfl (xin_ok (by decide)) (by decide) rfl ?_
                  refine V.drop1 (i := 1) (ls' := [_, _, _, _]) rfl ?_
                  refine V.drop1 (i := 2) (ls' := [_, _, _, _]) rfl ?_
                  show V yX12_would cX12_would (some .int) 7 61 (0, 0) 160 [some (.ref 44), none, none, none] [.int ((q9.1 22))] (xof s0 [W_44 (upd o44 0 0), W_45 a45, W_48 (upd (upd a48 ((Int32.toNatClampNeg p1)) ((1 - (a48 (Int32.toNatClampNeg p1))))) ((Int32.toNatClampNeg p1)) ((1 - ((upd a48 ((Int32.toNatClampNeg p1)) ((1 - (a48 (Int32.toNatClampNeg p1))))) (Int32.toNatClampNeg p1))))), W_49 a49, W_51 q9.1, W_52 q6, W_53 q9.2.1, W_54 q9.2.2]) _
                  exact vb_X12_would_44_160 s0 n (upd o44 0 0) a45 (upd (upd a48 ((Int32.toNatClampNeg p1)) ((1 - (a48 (Int32.toNatClampNeg p1))))) ((Int32.toNatClampNeg p1)) ((1 - ((upd a48 ((Int32.toNatClampNeg p1)) ((1 - (a48 (Int32.toNatClampNeg p1))))) (Int32.toNatClampNeg p1))))) a49 q9.1 q6 q9.2.1 q9.2.2 ((q9.1 22)) q h
                · replace h := xif_p c16 h
                  refine x_aload_n dX12_would_144 rfl ?_
                  refine g_X12_32 rfl dX12_would_145 (by decide) rfl rfl ?_
                  refine x_iconst (v := 1) dX12_would_148 (by decide) ?_
                  refine x_ialdK (jn := 1) (v := (q9.1 1)) dX12_would_149 (by decide) rfl (xin_ok (by decide)) (by decide) rfl ?_
                  refine x_goto (tgt := 160) dX12_would_150 (by decide) ?_
                  refine V.drop1 (i := 1) (ls' := [_, _, _, _]) rfl ?_
                  refine V.drop1 (i := 2) (ls' := [_, _, _, _]) rfl ?_
                  show V yX12_would cX12_would (some .int) 7 61 (0, 0) 160 [some (.ref 44), none, none, none] [.int ((q9.1 1))] (xof s0 [W_44 (upd o44 0 0), W_45 a45, W_48 (upd (upd a48 ((Int32.toNatClampNeg p1)) ((1 - (a48 (Int32.toNatClampNeg p1))))) ((Int32.toNatClampNeg p1)) ((1 - ((upd a48 ((Int32.toNatClampNeg p1)) ((1 - (a48 (Int32.toNatClampNeg p1))))) (Int32.toNatClampNeg p1))))), W_49 a49, W_51 q9.1, W_52 q6, W_53 q9.2.1, W_54 q9.2.2]) _
                  exact vb_X12_would_44_160 s0 n (upd o44 0 0) a45 (upd (upd a48 ((Int32.toNatClampNeg p1)) ((1 - (a48 (Int32.toNatClampNeg p1))))) ((Int32.toNatClampNeg p1)) ((1 - ((upd a48 ((Int32.toNatClampNeg p1)) ((1 - (a48 (Int32.toNatClampNeg p1))))) (Int32.toNatClampNeg p1))))) a49 q9.1 q6 q9.2.1 q9.2.2 ((q9.1 1)) q h
              · replace h := xif_p c15 h
                refine x_aload_n dX12_would_129 rfl ?_
                refine g_X12_32 rfl dX12_would_130 (by decide) rfl rfl ?_
                refine x_bipush (v := 18) dX12_would_133 (by decide) ?_
                refine x_ialdK (jn := 18) (v := (q9.1 18)) dX12_would_135 (by decide) rfl (xin_ok (by decide)) (by decide) rfl ?_
                refine x_goto (tgt := 160) dX12_would_136 (by decide) ?_
                refine V.drop1 (i := 1) (ls' := [_, _, _, _]) rfl ?_
                refine V.drop1 (i := 2) (ls' := [_, _, _, _]) rfl ?_
                show V yX12_would cX12_would (some .int) 7 61 (0, 0) 160 [some (.ref 44), none, none, none] [.int ((q9.1 18))] (xof s0 [W_44 (upd o44 0 0), W_45 a45, W_48 (upd (upd a48 ((Int32.toNatClampNeg p1)) ((1 - (a48 (Int32.toNatClampNeg p1))))) ((Int32.toNatClampNeg p1)) ((1 - ((upd a48 ((Int32.toNatClampNeg p1)) ((1 - (a48 (Int32.toNatClampNeg p1))))) (Int32.toNatClampNeg p1))))), W_49 a49, W_51 q9.1, W_52 q6, W_53 q9.2.1, W_54 q9.2.2]) _
                exact vb_X12_would_44_160 s0 n (upd o44 0 0) a45 (upd (upd a48 ((Int32.toNatClampNeg p1)) ((1 - (a48 (Int32.toNatClampNeg p1))))) ((Int32.toNatClampNeg p1)) ((1 - ((upd a48 ((Int32.toNatClampNeg p1)) ((1 - (a48 (Int32.toNatClampNeg p1))))) (Int32.toNatClampNeg p1))))) a49 q9.1 q6 q9.2.1 q9.2.2 ((q9.1 18)) q h
            · replace h := xif_p c14 h
              refine x_aload_n dX12_would_114 rfl ?_
              refine g_X12_32 rfl dX12_would_115 (by decide) rfl rfl ?_
              refine x_bipush (v := 15) dX12_would_118 (by decide) ?_
              refine x_ialdK (jn := 15) (v := (q9.1 15)) dX12_would_120 (by decide) rfl (xin_ok (by decide)) (by decide) rfl ?_
              refine x_goto (tgt := 160) dX12_would_121 (by decide) ?_
              refine V.drop1 (i := 1) (ls' := [_, _, _, _]) rfl ?_
              refine V.drop1 (i := 2) (ls' := [_, _, _, _]) rfl ?_
              show V yX12_would cX12_would (some .int) 7 61 (0, 0) 160 [some (.ref 44), none, none, none] [.int ((q9.1 15))] (xof s0 [W_44 (upd o44 0 0), W_45 a45, W_48 (upd (upd a48 ((Int32.toNatClampNeg p1)) ((1 - (a48 (Int32.toNatClampNeg p1))))) ((Int32.toNatClampNeg p1)) ((1 - ((upd a48 ((Int32.toNatClampNeg p1)) ((1 - (a48 (Int32.toNatClampNeg p1))))) (Int32.toNatClampNeg p1))))), W_49 a49, W_51 q9.1, W_52 q6, W_53 q9.2.1, W_54 q9.2.2]) _
              exact vb_X12_would_44_160 s0 n (upd o44 0 0) a45 (upd (upd a48 ((Int32.toNatClampNeg p1)) ((1 - (a48 (Int32.toNatClampNeg p1))))) ((Int32.toNatClampNeg p1)) ((1 - ((upd a48 ((Int32.toNatClampNeg p1)) ((1 - (a48 (Int32.toNatClampNeg p1))))) (Int32.toNatClampNeg p1))))) a49 q9.1 q6 q9.2.1 q9.2.2 ((q9.1 15)) q h
          · replace h := xif_p c13 h
            refine x_aload_n dX12_would_99 rfl ?_
            refine g_X12_32 rfl dX12_would_100 (by decide) rfl rfl ?_
            refine x_bipush (v := 14) dX12_would_103 (by decide) ?_
            refine x_ialdK (jn := 14) (v := (q9.1 14)) dX12_would_105 (by decide) rfl (xin_ok (by decide)) (by decide) rfl ?_
            refine x_goto (tgt := 160) dX12_would_106 (by decide) ?_
            refine V.drop1 (i := 1) (ls' := [_, _, _, _]) rfl ?_
            refine V.drop1 (i := 2) (ls' := [_, _, _, _]) rfl ?_
            show V yX12_would cX12_would (some .int) 7 61 (0, 0) 160 [some (.ref 44), none, none, none] [.int ((q9.1 14))] (xof s0 [W_44 (upd o44 0 0), W_45 a45, W_48 (upd (upd a48 ((Int32.toNatClampNeg p1)) ((1 - (a48 (Int32.toNatClampNeg p1))))) ((Int32.toNatClampNeg p1)) ((1 - ((upd a48 ((Int32.toNatClampNeg p1)) ((1 - (a48 (Int32.toNatClampNeg p1))))) (Int32.toNatClampNeg p1))))), W_49 a49, W_51 q9.1, W_52 q6, W_53 q9.2.1, W_54 q9.2.2]) _
            exact vb_X12_would_44_160 s0 n (upd o44 0 0) a45 (upd (upd a48 ((Int32.toNatClampNeg p1)) ((1 - (a48 (Int32.toNatClampNeg p1))))) ((Int32.toNatClampNeg p1)) ((1 - ((upd a48 ((Int32.toNatClampNeg p1)) ((1 - (a48 (Int32.toNatClampNeg p1))))) (Int32.toNatClampNeg p1))))) a49 q9.1 q6 q9.2.1 q9.2.2 ((q9.1 14)) q h
        · replace h := xif_p c12 h
          refine x_aload_n dX12_would_84 rfl ?_
          refine g_X12_32 rfl dX12_would_85 (by decide) rfl rfl ?_
          refine x_bipush (v := 16) dX12_would_88 (by decide) ?_
          refine x_ialdK (jn := 16) (v := (q9.1 16)) dX12_would_90 (by decide) rfl (xin_ok (by decide)) (by decide) rfl ?_
          refine x_goto (tgt := 160) dX12_would_91 (by decide) ?_
          refine V.drop1 (i := 1) (ls' := [_, _, _, _]) rfl ?_
          refine V.drop1 (i := 2) (ls' := [_, _, _, _]) rfl ?_
          show V yX12_would cX12_would (some .int) 7 61 (0, 0) 160 [some (.ref 44), none, none, none] [.int ((q9.1 16))] (xof s0 [W_44 (upd o44 0 0), W_45 a45, W_48 (upd (upd a48 ((Int32.toNatClampNeg p1)) ((1 - (a48 (Int32.toNatClampNeg p1))))) ((Int32.toNatClampNeg p1)) ((1 - ((upd a48 ((Int32.toNatClampNeg p1)) ((1 - (a48 (Int32.toNatClampNeg p1))))) (Int32.toNatClampNeg p1))))), W_49 a49, W_51 q9.1, W_52 q6, W_53 q9.2.1, W_54 q9.2.2]) _
          exact vb_X12_would_44_160 s0 n (upd o44 0 0) a45 (upd (upd a48 ((Int32.toNatClampNeg p1)) ((1 - (a48 (Int32.toNatClampNeg p1))))) ((Int32.toNatClampNeg p1)) ((1 - ((upd a48 ((Int32.toNatClampNeg p1)) ((1 - (a48 (Int32.toNatClampNeg p1))))) (Int32.toNatClampNeg p1))))) a49 q9.1 q6 q9.2.1 q9.2.2 ((q9.1 16)) q h
      · replace h := xif_n c5 h
        refine x_bipush (v := -5) dX12_would_38 (by decide) ?_
        cases h
        exact x_iret dX12_would_40 ⟨rfl, rfl, rfl⟩
    · replace h := xif_p c4 h
      refine x_bipush (v := -2) dX12_would_25 (by decide) ?_
      cases h
      exact x_iret dX12_would_27 ⟨rfl, rfl, rfl⟩
def l_X12_worst_44_19 (n : Nat) (o44 : Nat → Int32) (a45 : Nat → Int32) (a49 : Nat → Int32) (l3 : Int32) : Nat → (Int32) → (Int32) → (Int32) → (Nat → Int32) → (Nat → Int32) → (Nat → Int32) → (Nat → Int32) → (Nat → Int32) → Option (((Int32) × (Int32) × (Int32) × (Nat → Int32) × (Nat → Int32) × (Nat → Int32) × (Nat → Int32) × (Nat → Int32)))
  | 0, _, _, _, _, _, _, _, _ => none
  | k + 1, l1, l2, l4, a48, a51, a52, a53, a54 => (if (l3 + 48) ≤ l4 then (some (l1, l2, l4, a48, a51, a52, a53, a54)) else (if (o44 6) ≤ l4 then (some (l1, l2, l4, a48, a51, a52, a53, a54)) else (Option.bind (f_X12_opens_44 n o44 a51 a52) (fun q3 => (bif xin l4 9600 then (bif xin l4 9600 then (Option.bind (f_X12_takes_44 n o44 a45 (upd a48 ((Int32.toNatClampNeg l4)) ((1 - (a48 (Int32.toNatClampNeg l4))))) a49 a51 a53 a54 4800) (fun q6 => (bif xin l4 9600 then (bif xin l4 9600 then (Option.bind (f_X12_closes_44 n o44 q6.1 q3) (fun q9 => (if l1 = (-1) then (l_X12_worst_44_19 n o44 a45 a49 l3 k l4 ((q6.1 16)) ((l4 + 1)) (upd (upd a48 ((Int32.toNatClampNeg l4)) ((1 - (a48 (Int32.toNatClampNeg l4))))) ((Int32.toNatClampNeg l4)) ((1 - ((upd a48 ((Int32.toNatClampNeg l4)) ((1 - (a48 (Int32.toNatClampNeg l4))))) (Int32.toNatClampNeg l4))))) q9 q3 q6.2.1 q6.2.2) else (if (q6.1 16) < l2 then (l_X12_worst_44_19 n o44 a45 a49 l3 k l4 ((q6.1 16)) ((l4 + 1)) (upd (upd a48 ((Int32.toNatClampNeg l4)) ((1 - (a48 (Int32.toNatClampNeg l4))))) ((Int32.toNatClampNeg l4)) ((1 - ((upd a48 ((Int32.toNatClampNeg l4)) ((1 - (a48 (Int32.toNatClampNeg l4))))) (Int32.toNatClampNeg l4))))) q9 q3 q6.2.1 q6.2.2) else (l_X12_worst_44_19 n o44 a45 a49 l3 k l1 l2 ((l4 + 1)) (upd (upd a48 ((Int32.toNatClampNeg l4)) ((1 - (a48 (Int32.toNatClampNeg l4))))) ((Int32.toNatClampNeg l4)) ((1 - ((upd a48 ((Int32.toNatClampNeg l4)) ((1 - (a48 (Int32.toNatClampNeg l4))))) (Int32.toNatClampNeg l4))))) q9 q3 q6.2.1 q6.2.2))))) else none) else none))) else none) else none)))))
set_option maxRecDepth 100000 in
set_option maxHeartbeats 400000 in
theorem lv_X12_worst_44_19 (s0 : XW) (n : Nat) (o44 : Nat → Int32) (a45 : Nat → Int32) (a49 : Nat → Int32) (l3 : Int32) (Q : Nat → Option Value → XW → Prop) : ∀ (k : Nat) (l1 : Int32) (l2 : Int32) (l4 : Int32) (a48 : Nat → Int32) (a51 : Nat → Int32) (a52 : Nat → Int32) (a53 : Nat → Int32) (a54 : Nat → Int32) (o : ((Int32) × (Int32) × (Int32) × (Nat → Int32) × (Nat → Int32) × (Nat → Int32) × (Nat → Int32) × (Nat → Int32))), l_X12_worst_44_19 n o44 a45 a49 l3 k l1 l2 l4 a48 a51 a52 a53 a54 = some o → (V yX12_worst cX12_worst (some .int) 7 61 (0, 0) 119 [none, some (.int o.1), none, none, none, none] [] (xof s0 [W_44 o44, W_45 a45, W_48 o.2.2.2.1, W_49 a49, W_51 o.2.2.2.2.1, W_52 o.2.2.2.2.2.1, W_53 o.2.2.2.2.2.2.1, W_54 o.2.2.2.2.2.2.2]) Q) → V yX12_worst cX12_worst (some .int) 7 61 (0, 0) 19 [some (.ref 44), some (.int l1), some (.int l2), some (.int l3), some (.int l4), none] [] (xof s0 [W_44 o44, W_45 a45, W_48 a48, W_49 a49, W_51 a51, W_52 a52, W_53 a53, W_54 a54]) Q := by
  intro k
  induction k with
  | zero =>
    intro _ _ _ _ _ _ _ _ _ h
    simp [l_X12_worst_44_19] at h
  | succ k ih =>
    intro l1 l2 l4 a48 a51 a52 a53 a54 o h hk
    rw [l_X12_worst_44_19] at h
    refine x_iload dX12_worst_19 rfl ?_
    refine x_iload_n dX12_worst_21 rfl ?_
    refine x_bipush (v := 48) dX12_worst_22 (by decide) ?_
    refine x_iadd dX12_worst_24 ?_
    refine x_icmp_ge (tgt := 119) dX12_worst_25 (by decide) (fun c1 => ?_) (fun c1 => ?_)
    · replace h := xif_p c1 h
      refine V.drop1 (i := 0) (ls' := [_, _, _, _, _, _]) rfl ?_
      refine V.drop1 (i := 2) (ls' := [_, _, _, _, _, _]) rfl ?_
      refine V.drop1 (i := 3) (ls' := [_, _, _, _, _, _]) rfl ?_
      refine V.drop1 (i := 4) (ls' := [_, _, _, _, _, _]) rfl ?_
      show V yX12_worst cX12_worst (some .int) 7 61 (0, 0) 119 [none, some (.int l1), none, none, none, none] [] (xof s0 [W_44 o44, W_45 a45, W_48 a48, W_49 a49, W_51 a51, W_52 a52, W_53 a53, W_54 a54]) _
      cases h
      exact hk
    · replace h := xif_n c1 h
      refine x_iload dX12_worst_28 rfl ?_
      refine x_aload_n dX12_worst_30 rfl ?_
      refine g_X12_64 rfl dX12_worst_31 (by decide) rfl rfl ?_
      refine x_icmp_ge (tgt := 119) dX12_worst_34 (by decide) (fun c2 => ?_) (fun c2 => ?_)
      · replace h := xif_p c2 h
        refine V.drop1 (i := 0) (ls' := [_, _, _, _, _, _]) rfl ?_
        refine V.drop1 (i := 2) (ls' := [_, _, _, _, _, _]) rfl ?_
        refine V.drop1 (i := 3) (ls' := [_, _, _, _, _, _]) rfl ?_
        refine V.drop1 (i := 4) (ls' := [_, _, _, _, _, _]) rfl ?_
        show V yX12_worst cX12_worst (some .int) 7 61 (0, 0) 119 [none, some (.int l1), none, none, none, none] [] (xof s0 [W_44 o44, W_45 a45, W_48 a48, W_49 a49, W_51 a51, W_52 a52, W_53 a53, W_54 a54]) _
        cases h
        exact hk
      · replace h := xif_n c2 h
        refine x_aload_n dX12_worst_37 rfl ?_
        obtain ⟨q3, hq3, h⟩ := Option.bind_eq_some_iff.mp h
        refine y_callVv (L' := [(44, _), (45, _), (48, _), (49, _), (51, _), (52, _), (53, _), (54, _)]) mi_X12_opens ml_X12_210 im_X12_opens se_X12_opens (rfl : vwCl[11]? = _) dX12_worst_38 (fun s1 => v_X12_opens_44 s1 n _ _ _ q3 hq3) (by decide) rfl (Nat.le_of_ble_eq_true rfl) rfl (by decide) (Nat.le_of_ble_eq_true rfl) rfl rfl rfl rfl ?_
        refine x_aload_n dX12_worst_41 rfl ?_
        refine g_X12_23 rfl dX12_worst_42 (by decide) rfl rfl ?_
        refine x_iload dX12_worst_45 rfl ?_
        refine x_iconst (v := 1) dX12_worst_47 (by decide) ?_
        refine x_aload_n dX12_worst_48 rfl ?_
        refine g_X12_23 rfl dX12_worst_49 (by decide) rfl rfl ?_
        refine x_iload dX12_worst_52 rfl ?_
        obtain ⟨c4, h⟩ := xck h
        refine x_ialdK (jn := (Int32.toNatClampNeg l4)) (v := (a48 (Int32.toNatClampNeg l4))) dX12_worst_54 (by decide) rfl (xin_ok c4) rfl rfl ?_
        refine x_isub dX12_worst_55 ?_
        obtain ⟨c5, h⟩ := xck h
        refine x_iastK (jn := (Int32.toNatClampNeg l4)) (L' := [(44, _), (45, _), (48, _), (49, _), (51, _), (52, _), (53, _), (54, _)]) dX12_worst_56 (by decide) rfl (xin_ok c5) rfl rfl ?_
        refine x_aload_n dX12_worst_57 rfl ?_
        refine x_sipush (v := 4800) dX12_worst_58 (by decide) ?_
        obtain ⟨q6, hq6, h⟩ := Option.bind_eq_some_iff.mp h
        refine y_callVv (L' := [(44, _), (45, _), (48, _), (49, _), (51, _), (52, _), (53, _), (54, _)]) mi_X12_takes ml_X12_188 im_X12_takes se_X12_takes (rfl : vwCl[11]? = _) dX12_worst_61 (fun s1 => v_X12_takes_44 s1 n _ _ _ _ _ _ _ _ q6 hq6) (by decide) rfl (Nat.le_of_ble_eq_true rfl) rfl (by decide) (Nat.le_of_ble_eq_true rfl) rfl rfl rfl rfl ?_
        refine x_aload_n dX12_worst_64 rfl ?_
        refine g_X12_23 rfl dX12_worst_65 (by decide) rfl rfl ?_
        refine x_iload dX12_worst_68 rfl ?_
        refine x_iconst (v := 1) dX12_worst_70 (by decide) ?_
        refine x_aload_n dX12_worst_71 rfl ?_
        refine g_X12_23 rfl dX12_worst_72 (by decide) rfl rfl ?_
        refine x_iload dX12_worst_75 rfl ?_
        obtain ⟨c7, h⟩ := xck h
        refine x_ialdK (jn := (Int32.toNatClampNeg l4)) (v := ((upd a48 ((Int32.toNatClampNeg l4)) ((1 - (a48 (Int32.toNatClampNeg l4))))) (Int32.toNatClampNeg l4))) dX12_worst_77 (by decide) rfl (xin_ok c7) rfl rfl ?_
        refine x_isub dX12_worst_78 ?_
        obtain ⟨c8, h⟩ := xck h
        refine x_iastK (jn := (Int32.toNatClampNeg l4)) (L' := [(44, _), (45, _), (48, _), (49, _), (51, _), (52, _), (53, _), (54, _)]) dX12_worst_79 (by decide) rfl (xin_ok c8) rfl rfl ?_
        refine x_aload_n dX12_worst_80 rfl ?_
        refine g_X12_32 rfl dX12_worst_81 (by decide) rfl rfl ?_
        refine x_bipush (v := 16) dX12_worst_84 (by decide) ?_
        refine x_ialdK (jn := 16) (v := (q6.1 16)) dX12_worst_86 (by decide) rfl (xin_ok (by decide)) (by decide) rfl ?_
        refine x_istore (ls' := [_, _, _, _, _, _]) dX12_worst_87 rfl rfl ?_
        refine x_aload_n dX12_worst_89 rfl ?_
        obtain ⟨q9, hq9, h⟩ := Option.bind_eq_some_iff.mp h
        refine y_callVv (L' := [(44, _), (45, _), (48, _), (49, _), (51, _), (52, _), (53, _), (54, _)]) mi_X12_closes ml_X12_213 im_X12_closes se_X12_closes (rfl : vwCl[11]? = _) dX12_worst_90 (fun s1 => v_X12_closes_44 s1 n _ _ _ q9 hq9) (by decide) rfl (Nat.le_of_ble_eq_true rfl) rfl (by decide) (Nat.le_of_ble_eq_true rfl) rfl rfl rfl rfl ?_
        refine x_iload_n dX12_worst_93 rfl ?_
        refine x_iconst (v := -1) dX12_worst_94 (by decide) ?_
        refine x_icmp_eq (tgt := 107) dX12_worst_95 (by decide) (fun c10 => ?_) (fun c10 => ?_)
        · replace h := xif_p c10 h
          refine x_iload dX12_worst_107 rfl ?_
          refine x_istore_n (ls' := [_, _, _, _, _, _]) dX12_worst_109 rfl rfl ?_
          refine x_iload dX12_worst_110 rfl ?_
          refine x_istore_n (ls' := [_, _, _, _, _, _]) dX12_worst_112 rfl rfl ?_
          refine x_iinc (v := l4 + 1) (ls' := [_, _, _, _, _, _]) dX12_worst_113 rfl rfl rfl rfl ?_
          refine x_goto (tgt := 19) dX12_worst_116 (by decide) ?_
          refine V.drop1 (i := 5) (ls' := [_, _, _, _, _, _]) rfl ?_
          show V yX12_worst cX12_worst (some .int) 7 61 (0, 0) 19 [some (.ref 44), some (.int l4), some (.int ((q6.1 16))), some (.int l3), some (.int ((l4 + 1))), none] [] (xof s0 [W_44 o44, W_45 a45, W_48 (upd (upd a48 ((Int32.toNatClampNeg l4)) ((1 - (a48 (Int32.toNatClampNeg l4))))) ((Int32.toNatClampNeg l4)) ((1 - ((upd a48 ((Int32.toNatClampNeg l4)) ((1 - (a48 (Int32.toNatClampNeg l4))))) (Int32.toNatClampNeg l4))))), W_49 a49, W_51 q9, W_52 q3, W_53 q6.2.1, W_54 q6.2.2]) _
          exact ih l4 ((q6.1 16)) ((l4 + 1)) (upd (upd a48 ((Int32.toNatClampNeg l4)) ((1 - (a48 (Int32.toNatClampNeg l4))))) ((Int32.toNatClampNeg l4)) ((1 - ((upd a48 ((Int32.toNatClampNeg l4)) ((1 - (a48 (Int32.toNatClampNeg l4))))) (Int32.toNatClampNeg l4))))) q9 q3 q6.2.1 q6.2.2 _ h hk
        · replace h := xif_n c10 h
          refine x_iload dX12_worst_98 rfl ?_
          refine x_iload_n dX12_worst_100 rfl ?_
          refine x_icmp_lt (tgt := 107) dX12_worst_101 (by decide) (fun c11 => ?_) (fun c11 => ?_)
          · replace h := xif_p c11 h
            refine x_iload dX12_worst_107 rfl ?_
            refine x_istore_n (ls' := [_, _, _, _, _, _]) dX12_worst_109 rfl rfl ?_
            refine x_iload dX12_worst_110 rfl ?_
            refine x_istore_n (ls' := [_, _, _, _, _, _]) dX12_worst_112 rfl rfl ?_
            refine x_iinc (v := l4 + 1) (ls' := [_, _, _, _, _, _]) dX12_worst_113 rfl rfl rfl rfl ?_
            refine x_goto (tgt := 19) dX12_worst_116 (by decide) ?_
            refine V.drop1 (i := 5) (ls' := [_, _, _, _, _, _]) rfl ?_
            show V yX12_worst cX12_worst (some .int) 7 61 (0, 0) 19 [some (.ref 44), some (.int l4), some (.int ((q6.1 16))), some (.int l3), some (.int ((l4 + 1))), none] [] (xof s0 [W_44 o44, W_45 a45, W_48 (upd (upd a48 ((Int32.toNatClampNeg l4)) ((1 - (a48 (Int32.toNatClampNeg l4))))) ((Int32.toNatClampNeg l4)) ((1 - ((upd a48 ((Int32.toNatClampNeg l4)) ((1 - (a48 (Int32.toNatClampNeg l4))))) (Int32.toNatClampNeg l4))))), W_49 a49, W_51 q9, W_52 q3, W_53 q6.2.1, W_54 q6.2.2]) _
            exact ih l4 ((q6.1 16)) ((l4 + 1)) (upd (upd a48 ((Int32.toNatClampNeg l4)) ((1 - (a48 (Int32.toNatClampNeg l4))))) ((Int32.toNatClampNeg l4)) ((1 - ((upd a48 ((Int32.toNatClampNeg l4)) ((1 - (a48 (Int32.toNatClampNeg l4))))) (Int32.toNatClampNeg l4))))) q9 q3 q6.2.1 q6.2.2 _ h hk
          · replace h := xif_n c11 h
            refine x_goto (tgt := 113) dX12_worst_104 (by decide) ?_
            refine x_iinc (v := l4 + 1) (ls' := [_, _, _, _, _, _]) dX12_worst_113 rfl rfl rfl rfl ?_
            refine x_goto (tgt := 19) dX12_worst_116 (by decide) ?_
            refine V.drop1 (i := 5) (ls' := [_, _, _, _, _, _]) rfl ?_
            show V yX12_worst cX12_worst (some .int) 7 61 (0, 0) 19 [some (.ref 44), some (.int l1), some (.int l2), some (.int l3), some (.int ((l4 + 1))), none] [] (xof s0 [W_44 o44, W_45 a45, W_48 (upd (upd a48 ((Int32.toNatClampNeg l4)) ((1 - (a48 (Int32.toNatClampNeg l4))))) ((Int32.toNatClampNeg l4)) ((1 - ((upd a48 ((Int32.toNatClampNeg l4)) ((1 - (a48 (Int32.toNatClampNeg l4))))) (Int32.toNatClampNeg l4))))), W_49 a49, W_51 q9, W_52 q3, W_53 q6.2.1, W_54 q6.2.2]) _
            exact ih l1 l2 ((l4 + 1)) (upd (upd a48 ((Int32.toNatClampNeg l4)) ((1 - (a48 (Int32.toNatClampNeg l4))))) ((Int32.toNatClampNeg l4)) ((1 - ((upd a48 ((Int32.toNatClampNeg l4)) ((1 - (a48 (Int32.toNatClampNeg l4))))) (Int32.toNatClampNeg l4))))) q9 q3 q6.2.1 q6.2.2 _ h hk
def f_X12_worst_44 (n : Nat) (o44 : Nat → Int32) (a45 : Nat → Int32) (a48 : Nat → Int32) (a49 : Nat → Int32) (a51 : Nat → Int32) (a52 : Nat → Int32) (a53 : Nat → Int32) (a54 : Nat → Int32)  : Option (((Int32) × (Nat → Int32) × (Nat → Int32) × (Nat → Int32) × (Nat → Int32) × (Nat → Int32) × (Nat → Int32))) := (Option.bind (l_X12_worst_44_19 n (upd o44 0 0) a45 a49 ((a51 0)) n ((-1)) 0 ((a51 0)) a48 a51 a52 a53 a54) (fun u12 => (some (u12.1, upd o44 0 0, u12.2.2.2.1, u12.2.2.2.2.1, u12.2.2.2.2.2.1, u12.2.2.2.2.2.2.1, u12.2.2.2.2.2.2.2))))
set_option maxRecDepth 100000 in
set_option maxHeartbeats 400000 in
theorem v_X12_worst_44 (s0 : XW) (n : Nat) (o44 : Nat → Int32) (a45 : Nat → Int32) (a48 : Nat → Int32) (a49 : Nat → Int32) (a51 : Nat → Int32) (a52 : Nat → Int32) (a53 : Nat → Int32) (a54 : Nat → Int32)  (q : ((Int32) × (Nat → Int32) × (Nat → Int32) × (Nat → Int32) × (Nat → Int32) × (Nat → Int32) × (Nat → Int32))) (h : f_X12_worst_44 n o44 a45 a48 a49 a51 a52 a53 a54 = some q) : C_X12_worst 7 61 [.ref 44] (xof s0 [W_44 o44, W_45 a45, W_48 a48, W_49 a49, W_51 a51, W_52 a52, W_53 a53, W_54 a54]) (some (.int q.1)) (xof s0 [W_44 q.2.1, W_45 a45, W_48 q.2.2.1, W_49 a49, W_51 q.2.2.2.1, W_52 q.2.2.2.2.1, W_53 q.2.2.2.2.2.1, W_54 q.2.2.2.2.2.2]) := by
  unfold f_X12_worst_44 at h
  show V yX12_worst cX12_worst (some .int) 7 61 (0, 0) 0 [some (.ref 44), none, none, none, none, none] [] (xof s0 [W_44 o44, W_45 a45, W_48 a48, W_49 a49, W_51 a51, W_52 a52, W_53 a53, W_54 a54]) _
  refine x_aload_n dX12_worst_0 rfl ?_
  refine x_iconst (v := 0) dX12_worst_1 (by decide) ?_
  refine p_X12_1 (fs' := [_, _, _, _, _, _, _, _, _, _, _, _, _, _, _, _, _, _, _, _, _, _]) (L' := [(44, _), (45, _), (48, _), (49, _), (51, _), (52, _), (53, _), (54, _)]) rfl dX12_worst_2 (by decide) rfl (Nat.le_of_ble_eq_true rfl) rfl rfl ?_
  refine x_iconst (v := -1) dX12_worst_5 (by decide) ?_
  refine x_istore_n (ls' := [_, _, _, _, _, _]) dX12_worst_6 rfl rfl ?_
  refine x_iconst (v := 0) dX12_worst_7 (by decide) ?_
  refine x_istore_n (ls' := [_, _, _, _, _, _]) dX12_worst_8 rfl rfl ?_
  refine x_aload_n dX12_worst_9 rfl ?_
  refine g_X12_32 rfl dX12_worst_10 (by decide) rfl rfl ?_
  refine x_iconst (v := 0) dX12_worst_13 (by decide) ?_
  refine x_ialdK (jn := 0) (v := (a51 0)) dX12_worst_14 (by decide) rfl (xin_ok (by decide)) (by decide) rfl ?_
  refine x_istore_n (ls' := [_, _, _, _, _, _]) dX12_worst_15 rfl rfl ?_
  refine x_iload_n dX12_worst_16 rfl ?_
  refine x_istore (ls' := [_, _, _, _, _, _]) dX12_worst_17 rfl rfl ?_
  obtain ⟨u12, hu12, h⟩ := Option.bind_eq_some_iff.mp h
  show V yX12_worst cX12_worst (some .int) 7 61 (0, 0) 19 [some (.ref 44), some (.int ((-1))), some (.int 0), some (.int ((a51 0))), some (.int ((a51 0))), none] [] (xof s0 [W_44 (upd o44 0 0), W_45 a45, W_48 a48, W_49 a49, W_51 a51, W_52 a52, W_53 a53, W_54 a54]) _
  refine lv_X12_worst_44_19 s0 _ (upd o44 0 0) a45 a49 ((a51 0)) _ n ((-1)) 0 ((a51 0)) a48 a51 a52 a53 a54 _ hu12 ?_
  refine x_iload_n dX12_worst_119 rfl ?_
  cases h
  exact x_iret dX12_worst_120 ⟨rfl, rfl, rfl⟩
def l_X12_regainedBy_44_18 (n : Nat) (o44 : Nat → Int32) (a45 : Nat → Int32) (a48 : Nat → Int32) (a49 : Nat → Int32) (a52 : Nat → Int32) : Nat → (Int32) → (Int32) → (Nat → Int32) → (Nat → Int32) → (Nat → Int32) → Option (((Int32) × (Int32) × (Nat → Int32) × (Nat → Int32) × (Nat → Int32)))
  | 0, _, _, _, _, _ => none
  | k + 1, l2, l3, a51, a53, a54 => (if l3 = 0 then (if (o44 6) ≤ (a51 0) then (some (l2, l3, a51, a53, a54)) else (Option.bind (f_X12_takesOne_44 n o44 a45 a48 a49 a51 a53 a54) (fun q4 => (if (q4.1 1) = 2 then (if (a51 1) = 2 then (l_X12_regainedBy_44_18 n o44 a45 a48 a49 a52 k ((l2 + 1)) 0 q4.1 q4.2.1 q4.2.2) else (l_X12_regainedBy_44_18 n o44 a45 a48 a49 a52 k ((l2 + 1)) 1 q4.1 q4.2.1 q4.2.2)) else (l_X12_regainedBy_44_18 n o44 a45 a48 a49 a52 k ((l2 + 1)) 0 q4.1 q4.2.1 q4.2.2))))) else (some (l2, l3, a51, a53, a54)))
set_option maxRecDepth 100000 in
set_option maxHeartbeats 400000 in
theorem lv_X12_regainedBy_44_18 (s0 : XW) (n : Nat) (o44 : Nat → Int32) (a45 : Nat → Int32) (a48 : Nat → Int32) (a49 : Nat → Int32) (a52 : Nat → Int32) (Q : Nat → Option Value → XW → Prop) : ∀ (k : Nat) (l2 : Int32) (l3 : Int32) (a51 : Nat → Int32) (a53 : Nat → Int32) (a54 : Nat → Int32) (o : ((Int32) × (Int32) × (Nat → Int32) × (Nat → Int32) × (Nat → Int32))), l_X12_regainedBy_44_18 n o44 a45 a48 a49 a52 k l2 l3 a51 a53 a54 = some o → (V yX12_regainedBy cX12_regainedBy (some .int) 6 61 (0, 0) 75 [some (.ref 44), none, some (.int o.1), some (.int o.2.1), none] [] (xof s0 [W_44 o44, W_45 a45, W_48 a48, W_49 a49, W_51 o.2.2.1, W_52 a52, W_53 o.2.2.2.1, W_54 o.2.2.2.2]) Q) → V yX12_regainedBy cX12_regainedBy (some .int) 6 61 (0, 0) 18 [some (.ref 44), none, some (.int l2), some (.int l3), none] [] (xof s0 [W_44 o44, W_45 a45, W_48 a48, W_49 a49, W_51 a51, W_52 a52, W_53 a53, W_54 a54]) Q := by
  intro k
  induction k with
  | zero =>
    intro _ _ _ _ _ _ h
    simp [l_X12_regainedBy_44_18] at h
  | succ k ih =>
    intro l2 l3 a51 a53 a54 o h hk
    rw [l_X12_regainedBy_44_18] at h
    refine x_iload_n dX12_regainedBy_18 rfl ?_
    refine x_if_ne (tgt := 75) dX12_regainedBy_19 (by decide) (fun c2 => ?_) (fun c2 => ?_)
    · replace h := xif_n c2 h
      show V yX12_regainedBy cX12_regainedBy (some .int) 6 61 (0, 0) 75 [some (.ref 44), none, some (.int l2), some (.int l3), none] [] (xof s0 [W_44 o44, W_45 a45, W_48 a48, W_49 a49, W_51 a51, W_52 a52, W_53 a53, W_54 a54]) _
      cases h
      exact hk
    · replace h := xif_p c2 h
      refine x_aload_n dX12_regainedBy_22 rfl ?_
      refine g_X12_32 rfl dX12_regainedBy_23 (by decide) rfl rfl ?_
      refine x_iconst (v := 0) dX12_regainedBy_26 (by decide) ?_
      refine x_ialdK (jn := 0) (v := (a51 0)) dX12_regainedBy_27 (by decide) rfl (xin_ok (by decide)) (by decide) rfl ?_
      refine x_aload_n dX12_regainedBy_28 rfl ?_
      refine g_X12_64 rfl dX12_regainedBy_29 (by decide) rfl rfl ?_
      refine x_icmp_ge (tgt := 75) dX12_regainedBy_32 (by decide) (fun c3 => ?_) (fun c3 => ?_)
      · replace h := xif_p c3 h
        show V yX12_regainedBy cX12_regainedBy (some .int) 6 61 (0, 0) 75 [some (.ref 44), none, some (.int l2), some (.int l3), none] [] (xof s0 [W_44 o44, W_45 a45, W_48 a48, W_49 a49, W_51 a51, W_52 a52, W_53 a53, W_54 a54]) _
        cases h
        exact hk
      · replace h := xif_n c3 h
        refine x_aload_n dX12_regainedBy_35 rfl ?_
        refine g_X12_32 rfl dX12_regainedBy_36 (by decide) rfl rfl ?_
        refine x_iconst (v := 1) dX12_regainedBy_39 (by decide) ?_
        refine x_ialdK (jn := 1) (v := (a51 1)) dX12_regainedBy_40 (by decide) rfl (xin_ok (by decide)) (by decide) rfl ?_
        refine x_istore (ls' := [_, _, _, _, _]) dX12_regainedBy_41 rfl rfl ?_
        refine x_aload_n dX12_regainedBy_43 rfl ?_
        obtain ⟨q4, hq4, h⟩ := Option.bind_eq_some_iff.mp h
        refine y_callVv (L' := [(44, _), (45, _), (48, _), (49, _), (51, _), (52, _), (53, _), (54, _)]) mi_X12_takesOne ml_X12_183 im_X12_takesOne se_X12_takesOne (rfl : vwCl[11]? = _) dX12_regainedBy_44 (fun s1 => v_X12_takesOne_44 s1 n _ _ _ _ _ _ _ q4 hq4) (by decide) rfl (Nat.le_of_ble_eq_true rfl) rfl (by decide) (Nat.le_of_ble_eq_true rfl) rfl rfl rfl rfl ?_
        refine x_iinc (v := l2 + 1) (ls' := [_, _, _, _, _]) dX12_regainedBy_47 rfl rfl rfl rfl ?_
        refine x_aload_n dX12_regainedBy_50 rfl ?_
        refine g_X12_32 rfl dX12_regainedBy_51 (by decide) rfl rfl ?_
        refine x_iconst (v := 1) dX12_regainedBy_54 (by decide) ?_
        refine x_ialdK (jn := 1) (v := (q4.1 1)) dX12_regainedBy_55 (by decide) rfl (xin_ok (by decide)) (by decide) rfl ?_
        refine x_iconst (v := 2) dX12_regainedBy_56 (by decide) ?_
        refine x_icmp_ne (tgt := 70) dX12_regainedBy_57 (by decide) (fun c5 => ?_) (fun c5 => ?_)
        · replace h := xif_n c5 h
          refine x_iconst (v := 0) dX12_regainedBy_70 (by decide) ?_
          refine x_istore_n (ls' := [_, _, _, _, _]) dX12_regainedBy_71 rfl rfl ?_
          refine x_goto (tgt := 18) dX12_regainedBy_72 (by decide) ?_
          refine V.drop1 (i := 4) (ls' := [_, _, _, _, _]) rfl ?_
          show V yX12_regainedBy cX12_regainedBy (some .int) 6 61 (0, 0) 18 [some (.ref 44), none, some (.int ((l2 + 1))), some (.int 0), none] [] (xof s0 [W_44 o44, W_45 a45, W_48 a48, W_49 a49, W_51 q4.1, W_52 a52, W_53 q4.2.1, W_54 q4.2.2]) _
          exact ih ((l2 + 1)) 0 q4.1 q4.2.1 q4.2.2 _ h hk
        · replace h := xif_p c5 h
          refine x_iload dX12_regainedBy_60 rfl ?_
          refine x_iconst (v := 2) dX12_regainedBy_62 (by decide) ?_
          refine x_icmp_eq (tgt := 70) dX12_regainedBy_63 (by decide) (fun c6 => ?_) (fun c6 => ?_)
          · replace h := xif_p c6 h
            refine x_iconst (v := 0) dX12_regainedBy_70 (by decide) ?_
            refine x_istore_n (ls' := [_, _, _, _, _]) dX12_regainedBy_71 rfl rfl ?_
            refine x_goto (tgt := 18) dX12_regainedBy_72 (by decide) ?_
            refine V.drop1 (i := 4) (ls' := [_, _, _, _, _]) rfl ?_
            show V yX12_regainedBy cX12_regainedBy (some .int) 6 61 (0, 0) 18 [some (.ref 44), none, some (.int ((l2 + 1))), some (.int 0), none] [] (xof s0 [W_44 o44, W_45 a45, W_48 a48, W_49 a49, W_51 q4.1, W_52 a52, W_53 q4.2.1, W_54 q4.2.2]) _
            exact ih ((l2 + 1)) 0 q4.1 q4.2.1 q4.2.2 _ h hk
          · replace h := xif_n c6 h
            refine x_iconst (v := 1) dX12_regainedBy_66 (by decide) ?_
            refine x_goto (tgt := 71) dX12_regainedBy_67 (by decide) ?_
            refine x_istore_n (ls' := [_, _, _, _, _]) dX12_regainedBy_71 rfl rfl ?_
            refine x_goto (tgt := 18) dX12_regainedBy_72 (by decide) ?_
            refine V.drop1 (i := 4) (ls' := [_, _, _, _, _]) rfl ?_
            show V yX12_regainedBy cX12_regainedBy (some .int) 6 61 (0, 0) 18 [some (.ref 44), none, some (.int ((l2 + 1))), some (.int 1), none] [] (xof s0 [W_44 o44, W_45 a45, W_48 a48, W_49 a49, W_51 q4.1, W_52 a52, W_53 q4.2.1, W_54 q4.2.2]) _
            exact ih ((l2 + 1)) 1 q4.1 q4.2.1 q4.2.2 _ h hk
def b_X12_regainedBy_44_75 (n : Nat) (o44 : Nat → Int32) (a45 : Nat → Int32) (a48 : Nat → Int32) (a49 : Nat → Int32) (a51 : Nat → Int32) (a52 : Nat → Int32) (a53 : Nat → Int32) (a54 : Nat → Int32) (l2 : Int32) (l3 : Int32) : Option (((Int32) × (Nat → Int32) × (Nat → Int32) × (Nat → Int32) × (Nat → Int32))) := (Option.bind (f_X12_closes_44 n o44 a51 a52) (fun q8 => (if l3 = 0 then (some ((-1), q8, a52, a53, a54)) else (some (l2, q8, a52, a53, a54)))))
set_option maxRecDepth 100000 in
set_option maxHeartbeats 400000 in
theorem vb_X12_regainedBy_44_75 (s0 : XW) (n : Nat) (o44 : Nat → Int32) (a45 : Nat → Int32) (a48 : Nat → Int32) (a49 : Nat → Int32) (a51 : Nat → Int32) (a52 : Nat → Int32) (a53 : Nat → Int32) (a54 : Nat → Int32) (l2 : Int32) (l3 : Int32) (q : ((Int32) × (Nat → Int32) × (Nat → Int32) × (Nat → Int32) × (Nat → Int32))) (h : b_X12_regainedBy_44_75 n o44 a45 a48 a49 a51 a52 a53 a54 l2 l3 = some q) : V yX12_regainedBy cX12_regainedBy (some .int) 6 61 (0, 0) 75 [some (.ref 44), none, some (.int l2), some (.int l3), none] [] (xof s0 [W_44 o44, W_45 a45, W_48 a48, W_49 a49, W_51 a51, W_52 a52, W_53 a53, W_54 a54]) (xq 61 (some (.int q.1)) (xof s0 [W_44 o44, W_45 a45, W_48 a48, W_49 a49, W_51 q.2.1, W_52 q.2.2.1, W_53 q.2.2.2.1, W_54 q.2.2.2.2])) := by
  unfold b_X12_regainedBy_44_75 at h
  refine x_aload_n dX12_regainedBy_75 rfl ?_
  obtain ⟨q8, hq8, h⟩ := Option.bind_eq_some_iff.mp h
  refine y_callVv (L' := [(44, _), (45, _), (48, _), (49, _), (51, _), (52, _), (53, _), (54, _)]) mi_X12_closes ml_X12_213 im_X12_closes se_X12_closes (rfl : vwCl[11]? = _) dX12_regainedBy_76 (fun s1 => v_X12_closes_44 s1 n _ _ _ q8 hq8) (by decide) rfl (Nat.le_of_ble_eq_true rfl) rfl (by decide) (Nat.le_of_ble_eq_true rfl) rfl rfl rfl rfl ?_
  refine x_iload_n dX12_regainedBy_79 rfl ?_
  refine x_if_eq (tgt := 87) dX12_regainedBy_80 (by decide) (fun c9 => ?_) (fun c9 => ?_)
  · replace h := xif_p c9 h
    refine x_iconst (v := -1) dX12_regainedBy_87 (by decide) ?_
    cases h
    exact x_iret dX12_regainedBy_88 ⟨rfl, rfl, rfl⟩
  · replace h := xif_n c9 h
    refine x_iload_n dX12_regainedBy_83 rfl ?_
    refine x_goto (tgt := 88) dX12_regainedBy_84 (by decide) ?_
    cases h
    exact x_iret dX12_regainedBy_88 ⟨rfl, rfl, rfl⟩
def f_X12_regainedBy_44 (n : Nat) (o44 : Nat → Int32) (a45 : Nat → Int32) (a48 : Nat → Int32) (a49 : Nat → Int32) (a51 : Nat → Int32) (a52 : Nat → Int32) (a53 : Nat → Int32) (a54 : Nat → Int32) (p1 : Int32) : Option (((Int32) × (Nat → Int32) × (Nat → Int32) × (Nat → Int32) × (Nat → Int32))) := (Option.bind (f_X12_opens_44 n o44 a51 a52) (fun q1 => (Option.bind (l_X12_regainedBy_44_18 n o44 a45 a48 a49 q1 n 0 0 (upd a51 0 (((a51 0) + p1))) a53 a54) (fun u7 => (b_X12_regainedBy_44_75 n o44 a45 a48 a49 u7.2.2.1 q1 u7.2.2.2.1 u7.2.2.2.2 u7.1 u7.2.1)))))
set_option maxRecDepth 100000 in
set_option maxHeartbeats 400000 in
theorem v_X12_regainedBy_44 (s0 : XW) (n : Nat) (o44 : Nat → Int32) (a45 : Nat → Int32) (a48 : Nat → Int32) (a49 : Nat → Int32) (a51 : Nat → Int32) (a52 : Nat → Int32) (a53 : Nat → Int32) (a54 : Nat → Int32) (p1 : Int32) (q : ((Int32) × (Nat → Int32) × (Nat → Int32) × (Nat → Int32) × (Nat → Int32))) (h : f_X12_regainedBy_44 n o44 a45 a48 a49 a51 a52 a53 a54 p1 = some q) : C_X12_regainedBy 6 61 [.ref 44, .int p1] (xof s0 [W_44 o44, W_45 a45, W_48 a48, W_49 a49, W_51 a51, W_52 a52, W_53 a53, W_54 a54]) (some (.int q.1)) (xof s0 [W_44 o44, W_45 a45, W_48 a48, W_49 a49, W_51 q.2.1, W_52 q.2.2.1, W_53 q.2.2.2.1, W_54 q.2.2.2.2]) := by
  unfold f_X12_regainedBy_44 at h
  show V yX12_regainedBy cX12_regainedBy (some .int) 6 61 (0, 0) 0 [some (.ref 44), some (.int p1), none, none, none] [] (xof s0 [W_44 o44, W_45 a45, W_48 a48, W_49 a49, W_51 a51, W_52 a52, W_53 a53, W_54 a54]) _
  refine x_aload_n dX12_regainedBy_0 rfl ?_
  obtain ⟨q1, hq1, h⟩ := Option.bind_eq_some_iff.mp h
  refine y_callVv (L' := [(44, _), (45, _), (48, _), (49, _), (51, _), (52, _), (53, _), (54, _)]) mi_X12_opens ml_X12_210 im_X12_opens se_X12_opens (rfl : vwCl[11]? = _) dX12_regainedBy_1 (fun s1 => v_X12_opens_44 s1 n _ _ _ q1 hq1) (by decide) rfl (Nat.le_of_ble_eq_true rfl) rfl (by decide) (Nat.le_of_ble_eq_true rfl) rfl rfl rfl rfl ?_
  refine x_aload_n dX12_regainedBy_4 rfl ?_
  refine g_X12_32 rfl dX12_regainedBy_5 (by decide) rfl rfl ?_
  refine x_iconst (v := 0) dX12_regainedBy_8 (by decide) ?_
  refine x_dup2 dX12_regainedBy_9 rfl rfl ?_
  refine x_ialdK (jn := 0) (v := (a51 0)) dX12_regainedBy_10 (by decide) rfl (xin_ok (by decide)) (by decide) rfl ?_
  refine x_iload_n dX12_regainedBy_11 rfl ?_
  refine x_iadd dX12_regainedBy_12 ?_
  refine x_iastK (jn := 0) (L' := [(44, _), (45, _), (48, _), (49, _), (51, _), (52, _), (53, _), (54, _)]) dX12_regainedBy_13 (by decide) rfl (xin_ok (by decide)) (by decide) rfl ?_
  refine x_iconst (v := 0) dX12_regainedBy_14 (by decide) ?_
  refine x_istore_n (ls' := [_, _, _, _, _]) dX12_regainedBy_15 rfl rfl ?_
  refine x_iconst (v := 0) dX12_regainedBy_16 (by decide) ?_
  refine x_istore_n (ls' := [_, _, _, _, _]) dX12_regainedBy_17 rfl rfl ?_
  refine V.drop1 (i := 1) (ls' := [_, _, _, _, _]) rfl ?_
  obtain ⟨u7, hu7, h⟩ := Option.bind_eq_some_iff.mp h
  show V yX12_regainedBy cX12_regainedBy (some .int) 6 61 (0, 0) 18 [some (.ref 44), none, some (.int 0), some (.int 0), none] [] (xof s0 [W_44 o44, W_45 a45, W_48 a48, W_49 a49, W_51 (upd a51 0 (((a51 0) + p1))), W_52 q1, W_53 a53, W_54 a54]) _
  refine lv_X12_regainedBy_44_18 s0 _ o44 a45 a48 a49 q1 _ n 0 0 (upd a51 0 (((a51 0) + p1))) a53 a54 _ hu7 ?_
  show V yX12_regainedBy cX12_regainedBy (some .int) 6 61 (0, 0) 75 [some (.ref 44), none, some (.int u7.1), some (.int u7.2.1), none] [] (xof s0 [W_44 o44, W_45 a45, W_48 a48, W_49 a49, W_51 u7.2.2.1, W_52 q1, W_53 u7.2.2.2.1, W_54 u7.2.2.2.2]) _
  exact vb_X12_regainedBy_44_75 s0 n o44 a45 a48 a49 u7.2.2.1 q1 u7.2.2.2.1 u7.2.2.2.2 u7.1 u7.2.1 q h
def f_X12_regained_44 (n : Nat) (o44 : Nat → Int32) (a45 : Nat → Int32) (a48 : Nat → Int32) (a49 : Nat → Int32) (a51 : Nat → Int32) (a52 : Nat → Int32) (a53 : Nat → Int32) (a54 : Nat → Int32) (p1 : Int32) : Option (((Int32) × (Nat → Int32) × (Nat → Int32) × (Nat → Int32) × (Nat → Int32) × (Nat → Int32))) := (Option.bind (f_X12_isIn ((Int32.toInt64 p1)) 1 400) (fun q1 => (if q1 = 0 then (some ((-3), upd o44 0 0, a51, a52, a53, a54)) else (if p1 ≤ ((o44 6) - (a51 0)) then (Option.bind (f_X12_regainedBy_44 n (upd o44 0 0) a45 a48 a49 a51 a52 a53 a54 p1) (fun q4 => (some (q4.1, upd o44 0 0, q4.2.1, q4.2.2.1, q4.2.2.2.1, q4.2.2.2.2)))) else (some ((-3), upd o44 0 0, a51, a52, a53, a54))))))
set_option maxRecDepth 100000 in
set_option maxHeartbeats 400000 in
theorem v_X12_regained_44 (s0 : XW) (n : Nat) (o44 : Nat → Int32) (a45 : Nat → Int32) (a48 : Nat → Int32) (a49 : Nat → Int32) (a51 : Nat → Int32) (a52 : Nat → Int32) (a53 : Nat → Int32) (a54 : Nat → Int32) (p1 : Int32) (q : ((Int32) × (Nat → Int32) × (Nat → Int32) × (Nat → Int32) × (Nat → Int32) × (Nat → Int32))) (h : f_X12_regained_44 n o44 a45 a48 a49 a51 a52 a53 a54 p1 = some q) : C_X12_regained 7 61 [.ref 44, .int p1] (xof s0 [W_44 o44, W_45 a45, W_48 a48, W_49 a49, W_51 a51, W_52 a52, W_53 a53, W_54 a54]) (some (.int q.1)) (xof s0 [W_44 q.2.1, W_45 a45, W_48 a48, W_49 a49, W_51 q.2.2.1, W_52 q.2.2.2.1, W_53 q.2.2.2.2.1, W_54 q.2.2.2.2.2]) := by
  unfold f_X12_regained_44 at h
  show V yX12_regained cX12_regained (some .int) 7 61 (0, 0) 0 [some (.ref 44), some (.int p1)] [] (xof s0 [W_44 o44, W_45 a45, W_48 a48, W_49 a49, W_51 a51, W_52 a52, W_53 a53, W_54 a54]) _
  refine x_aload_n dX12_regained_0 rfl ?_
  refine x_iconst (v := 0) dX12_regained_1 (by decide) ?_
  refine p_X12_1 (fs' := [_, _, _, _, _, _, _, _, _, _, _, _, _, _, _, _, _, _, _, _, _, _]) (L' := [(44, _), (45, _), (48, _), (49, _), (51, _), (52, _), (53, _), (54, _)]) rfl dX12_regained_2 (by decide) rfl (Nat.le_of_ble_eq_true rfl) rfl rfl ?_
  refine x_iload_n dX12_regained_5 rfl ?_
  refine x_i2l dX12_regained_6 ?_
  refine x_lconst (v := 1) dX12_regained_7 (by decide) ?_
  refine x_ldc2 dX12_regained_8 cn_X12_134 ?_
  obtain ⟨q1, hq1, h⟩ := Option.bind_eq_some_iff.mp h
  refine y_callSi (L' := [(44, _), (45, _), (48, _), (49, _), (51, _), (52, _), (53, _), (54, _)]) mi_X12_isIn ml_X12_77 st_X12_isIn dX12_regained_11 (fun s1 => v_X12_isIn 61 s1 _ _ _ q1 hq1) (Nat.le_of_ble_eq_true rfl) rfl (by decide) (Nat.le_of_ble_eq_true rfl) rfl rfl rfl rfl ?_
  refine x_if_eq (tgt := 32) dX12_regained_14 (by decide) (fun c2 => ?_) (fun c2 => ?_)
  · replace h := xif_p c2 h
    refine x_bipush (v := -3) dX12_regained_32 (by decide) ?_
    cases h
    exact x_iret dX12_regained_34 ⟨rfl, rfl, rfl⟩
  · replace h := xif_n c2 h
    refine x_iload_n dX12_regained_17 rfl ?_
    refine x_aload_n dX12_regained_18 rfl ?_
    refine g_X12_64 rfl dX12_regained_19 (by decide) rfl rfl ?_
    refine x_aload_n dX12_regained_22 rfl ?_
    refine g_X12_32 rfl dX12_regained_23 (by decide) rfl rfl ?_
    refine x_iconst (v := 0) dX12_regained_26 (by decide) ?_
    refine x_ialdK (jn := 0) (v := (a51 0)) dX12_regained_27 (by decide) rfl (xin_ok (by decide)) (by decide) rfl ?_
    refine x_isub dX12_regained_28 ?_
    refine x_icmp_le (tgt := 35) dX12_regained_29 (by decide) (fun c3 => ?_) (fun c3 => ?_)
    · replace h := xif_p c3 h
      refine x_aload_n dX12_regained_35 rfl ?_
      refine x_iload_n dX12_regained_36 rfl ?_
      obtain ⟨q4, hq4, h⟩ := Option.bind_eq_some_iff.mp h
      refine y_callVi (L' := [(44, _), (45, _), (48, _), (49, _), (51, _), (52, _), (53, _), (54, _)]) mi_X12_regainedBy ml_X12_218 im_X12_regainedBy se_X12_regainedBy (rfl : vwCl[11]? = _) dX12_regained_37 (fun s1 => v_X12_regainedBy_44 s1 n _ _ _ _ _ _ _ _ _ q4 hq4) (by decide) rfl (Nat.le_of_ble_eq_true rfl) rfl (by decide) (Nat.le_of_ble_eq_true rfl) rfl rfl rfl rfl ?_
      cases h
      exact x_iret dX12_regained_40 ⟨rfl, rfl, rfl⟩
    · replace h := xif_n c3 h
      refine x_bipush (v := -3) dX12_regained_32 (by decide) ?_
      cases h
      exact x_iret dX12_regained_34 ⟨rfl, rfl, rfl⟩
def l_X12_spread_44_39 (n : Nat) (o44 : Nat → Int32) (a45 : Nat → Int32) (a48 : Nat → Int32) (a49 : Nat → Int32) (a51 : Nat → Int32) (a52 : Nat → Int32) (l1 : Int32) (l2 : Int32) : Nat → (Int32) → (Nat → Int32) → (Nat → Int32) → Option (((Int32) × (Nat → Int32) × (Nat → Int32)))
  | 0, _, _, _ => none
  | k + 1, l3, a53, a54 => (if (o44 6) ≤ l3 then (some (l3, a53, a54)) else (bif xin l3 9600 then (bif xin l3 9600 then (l_X12_spread_44_39 n o44 a45 a48 a49 a51 a52 l1 l2 k ((l3 + 1)) (upd a53 ((Int32.toNatClampNeg l3)) 0) (upd a54 ((Int32.toNatClampNeg l3)) 0)) else none) else none))
set_option maxRecDepth 100000 in
set_option maxHeartbeats 400000 in
theorem lv_X12_spread_44_39 (s0 : XW) (n : Nat) (o44 : Nat → Int32) (a45 : Nat → Int32) (a48 : Nat → Int32) (a49 : Nat → Int32) (a51 : Nat → Int32) (a52 : Nat → Int32) (l1 : Int32) (l2 : Int32) (Q : Nat → Option Value → XW → Prop) : ∀ (k : Nat) (l3 : Int32) (a53 : Nat → Int32) (a54 : Nat → Int32) (o : ((Int32) × (Nat → Int32) × (Nat → Int32))), l_X12_spread_44_39 n o44 a45 a48 a49 a51 a52 l1 l2 k l3 a53 a54 = some o → (V yX12_spread cX12_spread (some .int) 7 61 (0, 0) 67 [some (.ref 44), some (.int l1), some (.int l2), none, none] [] (xof s0 [W_44 o44, W_45 a45, W_48 a48, W_49 a49, W_51 a51, W_52 a52, W_53 o.2.1, W_54 o.2.2]) Q) → V yX12_spread cX12_spread (some .int) 7 61 (0, 0) 39 [some (.ref 44), some (.int l1), some (.int l2), some (.int l3), none] [] (xof s0 [W_44 o44, W_45 a45, W_48 a48, W_49 a49, W_51 a51, W_52 a52, W_53 a53, W_54 a54]) Q := by
  intro k
  induction k with
  | zero =>
    intro _ _ _ _ h
    simp [l_X12_spread_44_39] at h
  | succ k ih =>
    intro l3 a53 a54 o h hk
    rw [l_X12_spread_44_39] at h
    refine x_iload_n dX12_spread_39 rfl ?_
    refine x_aload_n dX12_spread_40 rfl ?_
    refine g_X12_64 rfl dX12_spread_41 (by decide) rfl rfl ?_
    refine x_icmp_ge (tgt := 67) dX12_spread_44 (by decide) (fun c5 => ?_) (fun c5 => ?_)
    · replace h := xif_p c5 h
      refine V.drop1 (i := 3) (ls' := [_, _, _, _, _]) rfl ?_
      show V yX12_spread cX12_spread (some .int) 7 61 (0, 0) 67 [some (.ref 44), some (.int l1), some (.int l2), none, none] [] (xof s0 [W_44 o44, W_45 a45, W_48 a48, W_49 a49, W_51 a51, W_52 a52, W_53 a53, W_54 a54]) _
      cases h
      exact hk
    · replace h := xif_n c5 h
      refine x_aload_n dX12_spread_47 rfl ?_
      refine g_X12_38 rfl dX12_spread_48 (by decide) rfl rfl ?_
      refine x_iload_n dX12_spread_51 rfl ?_
      refine x_iconst (v := 0) dX12_spread_52 (by decide) ?_
      obtain ⟨c6, h⟩ := xck h
      refine x_iastK (jn := (Int32.toNatClampNeg l3)) (L' := [(44, _), (45, _), (48, _), (49, _), (51, _), (52, _), (53, _), (54, _)]) dX12_spread_53 (by decide) rfl (xin_ok c6) rfl rfl ?_
      refine x_aload_n dX12_spread_54 rfl ?_
      refine g_X12_41 rfl dX12_spread_55 (by decide) rfl rfl ?_
      refine x_iload_n dX12_spread_58 rfl ?_
      refine x_iconst (v := 0) dX12_spread_59 (by decide) ?_
      obtain ⟨c7, h⟩ := xck h
      refine x_iastK (jn := (Int32.toNatClampNeg l3)) (L' := [(44, _), (45, _), (48, _), (49, _), (51, _), (52, _), (53, _), (54, _)]) dX12_spread_60 (by decide) rfl (xin_ok c7) rfl rfl ?_
      refine x_iinc (v := l3 + 1) (ls' := [_, _, _, _, _]) dX12_spread_61 rfl rfl rfl rfl ?_
      refine x_goto (tgt := 39) dX12_spread_64 (by decide) ?_
      show V yX12_spread cX12_spread (some .int) 7 61 (0, 0) 39 [some (.ref 44), some (.int l1), some (.int l2), some (.int ((l3 + 1))), none] [] (xof s0 [W_44 o44, W_45 a45, W_48 a48, W_49 a49, W_51 a51, W_52 a52, W_53 (upd a53 ((Int32.toNatClampNeg l3)) 0), W_54 (upd a54 ((Int32.toNatClampNeg l3)) 0)]) _
      exact ih ((l3 + 1)) (upd a53 ((Int32.toNatClampNeg l3)) 0) (upd a54 ((Int32.toNatClampNeg l3)) 0) _ h hk
def l_X12_spread_44_72 (n : Nat) (a45 : Nat → Int32) (a49 : Nat → Int32) (l1 : Int32) (l2 : Int32) : Nat → (Nat → Int32) → (Nat → Int32) → (Nat → Int32) → (Nat → Int32) → (Nat → Int32) → (Nat → Int32) → Option (((Nat → Int32) × (Nat → Int32) × (Nat → Int32) × (Nat → Int32) × (Nat → Int32) × (Nat → Int32)))
  | 0, _, _, _, _, _, _ => none
  | k + 1, o44, a48, a51, a52, a53, a54 => (if 3 ≤ (o44 15) then (some (o44, a48, a51, a52, a53, a54)) else (Option.bind (f_X12_opens_44 n o44 a51 a52) (fun q10 => (Option.bind (f_X12_takes_44 n o44 a45 a48 a49 a51 a53 a54 9600) (fun q11 => (Option.bind (f_X12_closes_44 n o44 q11.1 q10) (fun q12 => (bif xin l1 9600 then (bif xin l1 9600 then (l_X12_spread_44_72 n a45 a49 l1 l2 k (upd o44 15 (((o44 15) + 1))) (upd a48 ((Int32.toNatClampNeg l1)) ((1 - (a48 (Int32.toNatClampNeg l1))))) q12 q10 q11.2.1 q11.2.2) else none) else none))))))))
set_option maxRecDepth 100000 in
set_option maxHeartbeats 400000 in
theorem lv_X12_spread_44_72 (s0 : XW) (n : Nat) (a45 : Nat → Int32) (a49 : Nat → Int32) (l1 : Int32) (l2 : Int32) (Q : Nat → Option Value → XW → Prop) : ∀ (k : Nat) (o44 : Nat → Int32) (a48 : Nat → Int32) (a51 : Nat → Int32) (a52 : Nat → Int32) (a53 : Nat → Int32) (a54 : Nat → Int32) (o : ((Nat → Int32) × (Nat → Int32) × (Nat → Int32) × (Nat → Int32) × (Nat → Int32) × (Nat → Int32))), l_X12_spread_44_72 n a45 a49 l1 l2 k o44 a48 a51 a52 a53 a54 = some o → (V yX12_spread cX12_spread (some .int) 7 61 (0, 0) 122 [some (.ref 44), none, some (.int l2), none, none] [] (xof s0 [W_44 o.1, W_45 a45, W_48 o.2.1, W_49 a49, W_51 o.2.2.1, W_52 o.2.2.2.1, W_53 o.2.2.2.2.1, W_54 o.2.2.2.2.2]) Q) → V yX12_spread cX12_spread (some .int) 7 61 (0, 0) 72 [some (.ref 44), some (.int l1), some (.int l2), none, none] [] (xof s0 [W_44 o44, W_45 a45, W_48 a48, W_49 a49, W_51 a51, W_52 a52, W_53 a53, W_54 a54]) Q := by
  intro k
  induction k with
  | zero =>
    intro _ _ _ _ _ _ _ h
    simp [l_X12_spread_44_72] at h
  | succ k ih =>
    intro o44 a48 a51 a52 a53 a54 o h hk
    rw [l_X12_spread_44_72] at h
    refine x_aload_n dX12_spread_72 rfl ?_
    refine g_X12_160 rfl dX12_spread_73 (by decide) rfl rfl ?_
    refine x_iconst (v := 3) dX12_spread_76 (by decide) ?_
    refine x_icmp_ge (tgt := 122) dX12_spread_77 (by decide) (fun c9 => ?_) (fun c9 => ?_)
    · replace h := xif_p c9 h
      refine V.drop1 (i := 1) (ls' := [_, _, _, _, _]) rfl ?_
      show V yX12_spread cX12_spread (some .int) 7 61 (0, 0) 122 [some (.ref 44), none, some (.int l2), none, none] [] (xof s0 [W_44 o44, W_45 a45, W_48 a48, W_49 a49, W_51 a51, W_52 a52, W_53 a53, W_54 a54]) _
      cases h
      exact hk
    · replace h := xif_n c9 h
      refine x_aload_n dX12_spread_80 rfl ?_
      obtain ⟨q10, hq10, h⟩ := Option.bind_eq_some_iff.mp h
      refine y_callVv (L' := [(44, _), (45, _), (48, _), (49, _), (51, _), (52, _), (53, _), (54, _)]) mi_X12_opens ml_X12_210 im_X12_opens se_X12_opens (rfl : vwCl[11]? = _) dX12_spread_81 (fun s1 => v_X12_opens_44 s1 n _ _ _ q10 hq10) (by decide) rfl (Nat.le_of_ble_eq_true rfl) rfl (by decide) (Nat.le_of_ble_eq_true rfl) rfl rfl rfl rfl ?_
      refine x_aload_n dX12_spread_84 rfl ?_
      refine x_sipush (v := 9600) dX12_spread_85 (by decide) ?_
      obtain ⟨q11, hq11, h⟩ := Option.bind_eq_some_iff.mp h
      refine y_callVv (L' := [(44, _), (45, _), (48, _), (49, _), (51, _), (52, _), (53, _), (54, _)]) mi_X12_takes ml_X12_188 im_X12_takes se_X12_takes (rfl : vwCl[11]? = _) dX12_spread_88 (fun s1 => v_X12_takes_44 s1 n _ _ _ _ _ _ _ _ q11 hq11) (by decide) rfl (Nat.le_of_ble_eq_true rfl) rfl (by decide) (Nat.le_of_ble_eq_true rfl) rfl rfl rfl rfl ?_
      refine x_aload_n dX12_spread_91 rfl ?_
      obtain ⟨q12, hq12, h⟩ := Option.bind_eq_some_iff.mp h
      refine y_callVv (L' := [(44, _), (45, _), (48, _), (49, _), (51, _), (52, _), (53, _), (54, _)]) mi_X12_closes ml_X12_213 im_X12_closes se_X12_closes (rfl : vwCl[11]? = _) dX12_spread_92 (fun s1 => v_X12_closes_44 s1 n _ _ _ q12 hq12) (by decide) rfl (Nat.le_of_ble_eq_true rfl) rfl (by decide) (Nat.le_of_ble_eq_true rfl) rfl rfl rfl rfl ?_
      refine x_aload_n dX12_spread_95 rfl ?_
      refine g_X12_23 rfl dX12_spread_96 (by decide) rfl rfl ?_
      refine x_iload_n dX12_spread_99 rfl ?_
      refine x_iconst (v := 1) dX12_spread_100 (by decide) ?_
      refine x_aload_n dX12_spread_101 rfl ?_
      refine g_X12_23 rfl dX12_spread_102 (by decide) rfl rfl ?_
      refine x_iload_n dX12_spread_105 rfl ?_
      obtain ⟨c13, h⟩ := xck h
      refine x_ialdK (jn := (Int32.toNatClampNeg l1)) (v := (a48 (Int32.toNatClampNeg l1))) dX12_spread_106 (by decide) rfl (xin_ok c13) rfl rfl ?_
      refine x_isub dX12_spread_107 ?_
      obtain ⟨c14, h⟩ := xck h
      refine x_iastK (jn := (Int32.toNatClampNeg l1)) (L' := [(44, _), (45, _), (48, _), (49, _), (51, _), (52, _), (53, _), (54, _)]) dX12_spread_108 (by decide) rfl (xin_ok c14) rfl rfl ?_
      refine x_aload_n dX12_spread_109 rfl ?_
      refine x_dup dX12_spread_110 rfl ?_
      refine g_X12_160 rfl dX12_spread_111 (by decide) rfl rfl ?_
      refine x_iconst (v := 1) dX12_spread_114 (by decide) ?_
      refine x_iadd dX12_spread_115 ?_
      refine p_X12_160 (fs' := [_, _, _, _, _, _, _, _, _, _, _, _, _, _, _, _, _, _, _, _, _, _]) (L' := [(44, _), (45, _), (48, _), (49, _), (51, _), (52, _), (53, _), (54, _)]) rfl dX12_spread_116 (by decide) rfl (Nat.le_of_ble_eq_true rfl) rfl rfl ?_
      refine x_goto (tgt := 72) dX12_spread_119 (by decide) ?_
      show V yX12_spread cX12_spread (some .int) 7 61 (0, 0) 72 [some (.ref 44), some (.int l1), some (.int l2), none, none] [] (xof s0 [W_44 (upd o44 15 (((o44 15) + 1))), W_45 a45, W_48 (upd a48 ((Int32.toNatClampNeg l1)) ((1 - (a48 (Int32.toNatClampNeg l1))))), W_49 a49, W_51 q12, W_52 q10, W_53 q11.2.1, W_54 q11.2.2]) _
      exact ih (upd o44 15 (((o44 15) + 1))) (upd a48 ((Int32.toNatClampNeg l1)) ((1 - (a48 (Int32.toNatClampNeg l1))))) q12 q10 q11.2.1 q11.2.2 _ h hk
def l_X12_spread_44_132 (n : Nat) (o44 : Nat → Int32) (a45 : Nat → Int32) (a48 : Nat → Int32) (a49 : Nat → Int32) (a51 : Nat → Int32) (a52 : Nat → Int32) (a53 : Nat → Int32) (a54 : Nat → Int32) (l2 : Int32) : Nat → (Int32) → (Int32) → Option ((((Int32) × (Nat → Int32) × (Nat → Int32) × (Nat → Int32) × (Nat → Int32) × (Nat → Int32) × (Nat → Int32))) ⊕ (((Int32) × (Int32))))
  | 0, _, _ => none
  | k + 1, l3, l4 => (if (o44 6) ≤ l4 then (some (Sum.inr (l3, l4))) else (bif xin l4 9600 then (if (a53 (Int32.toNatClampNeg l4)) = 0 then (l_X12_spread_44_132 n o44 a45 a48 a49 a51 a52 a53 a54 l2 k l3 ((l4 + 1))) else (bif xin l4 9600 then (if (a54 (Int32.toNatClampNeg l4)) = 0 then (l_X12_spread_44_132 n o44 a45 a48 a49 a51 a52 a53 a54 l2 k l3 ((l4 + 1))) else (bif xin l4 9600 then (bif xin l4 9600 then (if (a53 (Int32.toNatClampNeg l4)) = (a54 (Int32.toNatClampNeg l4)) then (l_X12_spread_44_132 n o44 a45 a48 a49 a51 a52 a53 a54 l2 k l3 ((l4 + 1))) else (if l3 = l2 then (some (Sum.inl (l4, o44, a48, a51, a52, a53, a54))) else (l_X12_spread_44_132 n o44 a45 a48 a49 a51 a52 a53 a54 l2 k ((l3 + 1)) ((l4 + 1))))) else none) else none)) else none)) else none))
set_option maxRecDepth 100000 in
set_option maxHeartbeats 400000 in
theorem lv_X12_spread_44_132 (s0 : XW) (n : Nat) (o44 : Nat → Int32) (a45 : Nat → Int32) (a48 : Nat → Int32) (a49 : Nat → Int32) (a51 : Nat → Int32) (a52 : Nat → Int32) (a53 : Nat → Int32) (a54 : Nat → Int32) (l2 : Int32) (Q : Nat → Option Value → XW → Prop) : ∀ (k : Nat) (l3 : Int32) (l4 : Int32) (o : (((Int32) × (Nat → Int32) × (Nat → Int32) × (Nat → Int32) × (Nat → Int32) × (Nat → Int32) × (Nat → Int32))) ⊕ (((Int32) × (Int32)))), l_X12_spread_44_132 n o44 a45 a48 a49 a51 a52 a53 a54 l2 k l3 l4 = some o → ((∀ z, o = Sum.inl z → Q 61 (some (.int z.1)) (xof s0 [W_44 z.2.1, W_45 a45, W_48 z.2.2.1, W_49 a49, W_51 z.2.2.2.1, W_52 z.2.2.2.2.1, W_53 z.2.2.2.2.2.1, W_54 z.2.2.2.2.2.2])) ∧ (∀ z, o = Sum.inr z → V yX12_spread cX12_spread (some .int) 7 61 (0, 0) 198 [none, none, some (.int l2), some (.int z.1), none] [] (xof s0 [W_44 o44, W_45 a45, W_48 a48, W_49 a49, W_51 a51, W_52 a52, W_53 a53, W_54 a54]) Q)) → V yX12_spread cX12_spread (some .int) 7 61 (0, 0) 132 [some (.ref 44), none, some (.int l2), some (.int l3), some (.int l4)] [] (xof s0 [W_44 o44, W_45 a45, W_48 a48, W_49 a49, W_51 a51, W_52 a52, W_53 a53, W_54 a54]) Q := by
  intro k
  induction k with
  | zero =>
    intro _ _ _ h
    simp [l_X12_spread_44_132] at h
  | succ k ih =>
    intro l3 l4 o h hk
    rw [l_X12_spread_44_132] at h
    refine x_iload dX12_spread_132 rfl ?_
    refine x_aload_n dX12_spread_134 rfl ?_
    refine g_X12_64 rfl dX12_spread_135 (by decide) rfl rfl ?_
    refine x_icmp_ge (tgt := 198) dX12_spread_138 (by decide) (fun c16 => ?_) (fun c16 => ?_)
    · replace h := xif_p c16 h
      refine V.drop1 (i := 0) (ls' := [_, _, _, _, _]) rfl ?_
      refine V.drop1 (i := 4) (ls' := [_, _, _, _, _]) rfl ?_
      show V yX12_spread cX12_spread (some .int) 7 61 (0, 0) 198 [none, none, some (.int l2), some (.int l3), none] [] (xof s0 [W_44 o44, W_45 a45, W_48 a48, W_49 a49, W_51 a51, W_52 a52, W_53 a53, W_54 a54]) _
      cases h
      exact hk.2 (l3, l4) rfl
    · replace h := xif_n c16 h
      refine x_aload_n dX12_spread_141 rfl ?_
      refine g_X12_38 rfl dX12_spread_142 (by decide) rfl rfl ?_
      refine x_iload dX12_spread_145 rfl ?_
      obtain ⟨c17, h⟩ := xck h
      refine x_ialdK (jn := (Int32.toNatClampNeg l4)) (v := (a53 (Int32.toNatClampNeg l4))) dX12_spread_147 (by decide) rfl (xin_ok c17) rfl rfl ?_
      refine x_if_eq (tgt := 192) dX12_spread_148 (by decide) (fun c18 => ?_) (fun c18 => ?_)
      · replace h := xif_p c18 h
        refine x_iinc (v := l4 + 1) (ls' := [_, _, _, _, _]) dX12_spread_192 rfl rfl rfl rfl ?_
        refine x_goto (tgt := 132) dX12_spread_195 (by decide) ?_
        show V yX12_spread cX12_spread (some .int) 7 61 (0, 0) 132 [some (.ref 44), none, some (.int l2), some (.int l3), some (.int ((l4 + 1)))] [] (xof s0 [W_44 o44, W_45 a45, W_48 a48, W_49 a49, W_51 a51, W_52 a52, W_53 a53, W_54 a54]) _
        exact ih l3 ((l4 + 1)) _ h hk
      · replace h := xif_n c18 h
        refine x_aload_n dX12_spread_151 rfl ?_
        refine g_X12_41 rfl dX12_spread_152 (by decide) rfl rfl ?_
        refine x_iload dX12_spread_155 rfl ?_
        obtain ⟨c19, h⟩ := xck h
        refine x_ialdK (jn := (Int32.toNatClampNeg l4)) (v := (a54 (Int32.toNatClampNeg l4))) dX12_spread_157 (by decide) rfl (xin_ok c19) rfl rfl ?_
        refine x_if_eq (tgt := 192) dX12_spread_158 (by decide) (fun c20 => ?_) (fun c20 => ?_)
        · replace h := xif_p c20 h
          refine x_iinc (v := l4 + 1) (ls' := [_, _, _, _, _]) dX12_spread_192 rfl rfl rfl rfl ?_
          refine x_goto (tgt := 132) dX12_spread_195 (by decide) ?_
          show V yX12_spread cX12_spread (some .int) 7 61 (0, 0) 132 [some (.ref 44), none, some (.int l2), some (.int l3), some (.int ((l4 + 1)))] [] (xof s0 [W_44 o44, W_45 a45, W_48 a48, W_49 a49, W_51 a51, W_52 a52, W_53 a53, W_54 a54]) _
          exact ih l3 ((l4 + 1)) _ h hk
        · replace h := xif_n c20 h
          refine x_aload_n dX12_spread_161 rfl ?_
          refine g_X12_38 rfl dX12_spread_162 (by decide) rfl rfl ?_
          refine x_iload dX12_spread_165 rfl ?_
          obtain ⟨c21, h⟩ := xck h
          refine x_ialdK (jn := (Int32.toNatClampNeg l4)) (v := (a53 (Int32.toNatClampNeg l4))) dX12_spread_167 (by decide) rfl (xin_ok c21) rfl rfl ?_
          refine x_aload_n dX12_spread_168 rfl ?_
          refine g_X12_41 rfl dX12_spread_169 (by decide) rfl rfl ?_
          refine x_iload dX12_spread_172 rfl ?_
          obtain ⟨c22, h⟩ := xck h
          refine x_ialdK (jn := (Int32.toNatClampNeg l4)) (v := (a54 (Int32.toNatClampNeg l4))) dX12_spread_174 (by decide) rfl (xin_ok c22) rfl rfl ?_
          refine x_icmp_ne (tgt := 181) dX12_spread_175 (by decide) (fun c23 => ?_) (fun c23 => ?_)
          · replace h := xif_n c23 h
            refine x_iload_n dX12_spread_181 rfl ?_
            refine x_iload_n dX12_spread_182 rfl ?_
            refine x_icmp_ne (tgt := 189) dX12_spread_183 (by decide) (fun c24 => ?_) (fun c24 => ?_)
            · replace h := xif_n c24 h
              refine x_iinc (v := l3 + 1) (ls' := [_, _, _, _, _]) dX12_spread_189 rfl rfl rfl rfl ?_
              refine x_iinc (v := l4 + 1) (ls' := [_, _, _, _, _]) dX12_spread_192 rfl rfl rfl rfl ?_
              refine x_goto (tgt := 132) dX12_spread_195 (by decide) ?_
              show V yX12_spread cX12_spread (some .int) 7 61 (0, 0) 132 [some (.ref 44), none, some (.int l2), some (.int ((l3 + 1))), some (.int ((l4 + 1)))] [] (xof s0 [W_44 o44, W_45 a45, W_48 a48, W_49 a49, W_51 a51, W_52 a52, W_53 a53, W_54 a54]) _
              exact ih ((l3 + 1)) ((l4 + 1)) _ h hk
            · replace h := xif_p c24 h
              refine x_iload dX12_spread_186 rfl ?_
              cases h
              exact x_iret dX12_spread_188 (hk.1 (l4, o44, a48, a51, a52, a53, a54) rfl)
          · replace h := xif_p c23 h
            refine x_goto (tgt := 192) dX12_spread_178 (by decide) ?_
            refine x_iinc (v := l4 + 1) (ls' := [_, _, _, _, _]) dX12_spread_192 rfl rfl rfl rfl ?_
            refine x_goto (tgt := 132) dX12_spread_195 (by decide) ?_
            show V yX12_spread cX12_spread (some .int) 7 61 (0, 0) 132 [some (.ref 44), none, some (.int l2), some (.int l3), some (.int ((l4 + 1)))] [] (xof s0 [W_44 o44, W_45 a45, W_48 a48, W_49 a49, W_51 a51, W_52 a52, W_53 a53, W_54 a54]) _
            exact ih l3 ((l4 + 1)) _ h hk
def f_X12_spread_44 (n : Nat) (o44 : Nat → Int32) (a45 : Nat → Int32) (a48 : Nat → Int32) (a49 : Nat → Int32) (a51 : Nat → Int32) (a52 : Nat → Int32) (a53 : Nat → Int32) (a54 : Nat → Int32) (p1 : Int32) (p2 : Int32) : Option (((Int32) × (Nat → Int32) × (Nat → Int32) × (Nat → Int32) × (Nat → Int32) × (Nat → Int32) × (Nat → Int32))) := (Option.bind (f_X12_isBit_44 (upd o44 0 0) p1) (fun q1 => (if q1 = 0 then (some ((-2), upd o44 0 0, a48, a51, a52, a53, a54)) else (if (-1) ≤ p2 then (if (a51 0) ≤ p1 then (Option.bind (l_X12_spread_44_39 n (upd o44 0 0) a45 a48 a49 a51 a52 p1 p2 n 0 a53 a54) (fun u8 => (Option.bind (l_X12_spread_44_72 n a45 a49 p1 p2 n (upd (upd o44 0 0) 15 1) a48 a51 a52 u8.2.1 u8.2.2) (fun u15 => (Option.bind (l_X12_spread_44_132 n (upd u15.1 15 0) a45 u15.2.1 a49 u15.2.2.1 u15.2.2.2.1 u15.2.2.2.2.1 u15.2.2.2.2.2 p2 n 0 0) (fun u25 => Sum.elim (fun z26 => some z26) (fun z26 => (if p2 = (-1) then (some (z26.1, upd u15.1 15 0, u15.2.1, u15.2.2.1, u15.2.2.2.1, u15.2.2.2.2.1, u15.2.2.2.2.2)) else (some ((-1), upd u15.1 15 0, u15.2.1, u15.2.2.1, u15.2.2.2.1, u15.2.2.2.2.1, u15.2.2.2.2.2)))) u25)))))) else (some ((-5), upd o44 0 0, a48, a51, a52, a53, a54))) else (some ((-3), upd o44 0 0, a48, a51, a52, a53, a54))))))
set_option maxRecDepth 100000 in
set_option maxHeartbeats 400000 in
theorem v_X12_spread_44 (s0 : XW) (n : Nat) (o44 : Nat → Int32) (a45 : Nat → Int32) (a48 : Nat → Int32) (a49 : Nat → Int32) (a51 : Nat → Int32) (a52 : Nat → Int32) (a53 : Nat → Int32) (a54 : Nat → Int32) (p1 : Int32) (p2 : Int32) (q : ((Int32) × (Nat → Int32) × (Nat → Int32) × (Nat → Int32) × (Nat → Int32) × (Nat → Int32) × (Nat → Int32))) (h : f_X12_spread_44 n o44 a45 a48 a49 a51 a52 a53 a54 p1 p2 = some q) : C_X12_spread 7 61 [.ref 44, .int p1, .int p2] (xof s0 [W_44 o44, W_45 a45, W_48 a48, W_49 a49, W_51 a51, W_52 a52, W_53 a53, W_54 a54]) (some (.int q.1)) (xof s0 [W_44 q.2.1, W_45 a45, W_48 q.2.2.1, W_49 a49, W_51 q.2.2.2.1, W_52 q.2.2.2.2.1, W_53 q.2.2.2.2.2.1, W_54 q.2.2.2.2.2.2]) := by
  unfold f_X12_spread_44 at h
  show V yX12_spread cX12_spread (some .int) 7 61 (0, 0) 0 [some (.ref 44), some (.int p1), some (.int p2), none, none] [] (xof s0 [W_44 o44, W_45 a45, W_48 a48, W_49 a49, W_51 a51, W_52 a52, W_53 a53, W_54 a54]) _
  refine x_aload_n dX12_spread_0 rfl ?_
  refine x_iconst (v := 0) dX12_spread_1 (by decide) ?_
  refine p_X12_1 (fs' := [_, _, _, _, _, _, _, _, _, _, _, _, _, _, _, _, _, _, _, _, _, _]) (L' := [(44, _), (45, _), (48, _), (49, _), (51, _), (52, _), (53, _), (54, _)]) rfl dX12_spread_2 (by decide) rfl (Nat.le_of_ble_eq_true rfl) rfl rfl ?_
  refine x_aload_n dX12_spread_5 rfl ?_
  refine x_iload_n dX12_spread_6 rfl ?_
  obtain ⟨q1, hq1, h⟩ := Option.bind_eq_some_iff.mp h
  refine y_callVi (L' := [(44, _), (45, _), (48, _), (49, _), (51, _), (52, _), (53, _), (54, _)]) mi_X12_isBit ml_X12_131 im_X12_isBit se_X12_isBit (rfl : vwCl[11]? = _) dX12_spread_7 (fun s1 => v_X12_isBit_44 s1 _ _ q1 hq1) (by decide) rfl (Nat.le_of_ble_eq_true rfl) rfl (by decide) (Nat.le_of_ble_eq_true rfl) rfl rfl rfl rfl ?_
  refine x_if_ne (tgt := 16) dX12_spread_10 (by decide) (fun c2 => ?_) (fun c2 => ?_)
  · replace h := xif_n c2 h
    refine x_iload_n dX12_spread_16 rfl ?_
    refine x_iconst (v := -1) dX12_spread_17 (by decide) ?_
    refine x_icmp_ge (tgt := 24) dX12_spread_18 (by decide) (fun c3 => ?_) (fun c3 => ?_)
    · replace h := xif_p c3 h
      refine x_iload_n dX12_spread_24 rfl ?_
      refine x_aload_n dX12_spread_25 rfl ?_
      refine g_X12_32 rfl dX12_spread_26 (by decide) rfl rfl ?_
      refine x_iconst (v := 0) dX12_spread_29 (by decide) ?_
      refine x_ialdK (jn := 0) (v := (a51 0)) dX12_spread_30 (by decide) rfl (xin_ok (by decide)) (by decide) rfl ?_
      refine x_icmp_ge (tgt := 37) dX12_spread_31 (by decide) (fun c4 => ?_) (fun c4 => ?_)
      · replace h := xif_p c4 h
        refine x_iconst (v := 0) dX12_spread_37 (by decide) ?_
        refine x_istore_n (ls' := [_, _, _, _, _]) dX12_spread_38 rfl rfl ?_
        obtain ⟨u8, hu8, h⟩ := Option.bind_eq_some_iff.mp h
        show V yX12_spread cX12_spread (some .int) 7 61 (0, 0) 39 [some (.ref 44), some (.int p1), some (.int p2), some (.int 0), none] [] (xof s0 [W_44 (upd o44 0 0), W_45 a45, W_48 a48, W_49 a49, W_51 a51, W_52 a52, W_53 a53, W_54 a54]) _
        refine lv_X12_spread_44_39 s0 _ (upd o44 0 0) a45 a48 a49 a51 a52 p1 p2 _ n 0 a53 a54 _ hu8 ?_
        refine x_aload_n dX12_spread_67 rfl ?_
        refine x_iconst (v := 1) dX12_spread_68 (by decide) ?_
        refine p_X12_160 (fs' := [_, _, _, _, _, _, _, _, _, _, _, _, _, _, _, _, _, _, _, _, _, _]) (L' := [(44, _), (45, _), (48, _), (49, _), (51, _), (52, _), (53, _), (54, _)]) rfl dX12_spread_69 (by decide) rfl (Nat.le_of_ble_eq_true rfl) rfl rfl ?_
        obtain ⟨u15, hu15, h⟩ := Option.bind_eq_some_iff.mp h
        show V yX12_spread cX12_spread (some .int) 7 61 (0, 0) 72 [some (.ref 44), some (.int p1), some (.int p2), none, none] [] (xof s0 [W_44 (upd (upd o44 0 0) 15 1), W_45 a45, W_48 a48, W_49 a49, W_51 a51, W_52 a52, W_53 u8.2.1, W_54 u8.2.2]) _
        refine lv_X12_spread_44_72 s0 _ a45 a49 p1 p2 _ n (upd (upd o44 0 0) 15 1) a48 a51 a52 u8.2.1 u8.2.2 _ hu15 ?_
        refine x_aload_n dX12_spread_122 rfl ?_
        refine x_iconst (v := 0) dX12_spread_123 (by decide) ?_
        refine p_X12_160 (fs' := [_, _, _, _, _, _, _, _, _, _, _, _, _, _, _, _, _, _, _, _, _, _]) (L' := [(44, _), (45, _), (48, _), (49, _), (51, _), (52, _), (53, _), (54, _)]) rfl dX12_spread_124 (by decide) rfl (Nat.le_of_ble_eq_true rfl) rfl rfl ?_
        refine x_iconst (v := 0) dX12_spread_127 (by decide) ?_
        refine x_istore_n (ls' := [_, _, _, _, _]) dX12_spread_128 rfl rfl ?_
        refine x_iconst (v := 0) dX12_spread_129 (by decide) ?_
        refine x_istore (ls' := [_, _, _, _, _]) dX12_spread_130 rfl rfl ?_
        obtain ⟨u25, hu25, h⟩ := Option.bind_eq_some_iff.mp h
        show V yX12_spread cX12_spread (some .int) 7 61 (0, 0) 132 [some (.ref 44), none, some (.int p2), some (.int 0), some (.int 0)] [] (xof s0 [W_44 (upd u15.1 15 0), W_45 a45, W_48 u15.2.1, W_49 a49, W_51 u15.2.2.1, W_52 u15.2.2.2.1, W_53 u15.2.2.2.2.1, W_54 u15.2.2.2.2.2]) _
        refine lv_X12_spread_44_132 s0 _ (upd u15.1 15 0) a45 u15.2.1 a49 u15.2.2.1 u15.2.2.2.1 u15.2.2.2.2.1 u15.2.2.2.2.2 p2 _ n 0 0 _ hu25 ⟨fun z26 hz => ?_, fun z26 hz => ?_⟩
        · subst hz
          replace h := xsl h
          cases h
          exact ⟨rfl, rfl, rfl⟩
        subst hz
        replace h := xsr h
        refine x_iload_n dX12_spread_198 rfl ?_
        refine x_iconst (v := -1) dX12_spread_199 (by decide) ?_
        refine x_icmp_ne (tgt := 207) dX12_spread_200 (by decide) (fun c27 => ?_) (fun c27 => ?_)
        · replace h := xif_n c27 h
          refine x_iconst (v := -1) dX12_spread_207 (by decide) ?_
          cases h
          exact x_iret dX12_spread_208 ⟨rfl, rfl, rfl⟩
        · replace h := xif_p c27 h
          refine x_iload_n dX12_spread_203 rfl ?_
          refine x_goto (tgt := 208) dX12_spread_204 (by decide) ?_
          cases h
          exact x_iret dX12_spread_208 ⟨rfl, rfl, rfl⟩
      · replace h := xif_n c4 h
        refine x_bipush (v := -5) dX12_spread_34 (by decide) ?_
        cases h
        exact x_iret dX12_spread_36 ⟨rfl, rfl, rfl⟩
    · replace h := xif_n c3 h
      refine x_bipush (v := -3) dX12_spread_21 (by decide) ?_
      cases h
      exact x_iret dX12_spread_23 ⟨rfl, rfl, rfl⟩
  · replace h := xif_p c2 h
    refine x_bipush (v := -2) dX12_spread_13 (by decide) ?_
    cases h
    exact x_iret dX12_spread_15 ⟨rfl, rfl, rfl⟩
def l_X12_looksRight_44_20 (n : Nat) (o44 : Nat → Int32) (a48 : Nat → Int32) (l1 : Int32) (l3 : Int32) : Nat → (Int32) → (Int32) → Option (((Int32) × (Int32)))
  | 0, _, _ => none
  | k + 1, l2, l4 => (if 32 ≤ l4 then (some (l2, l4)) else (bif xin (l1 + l4) 9600 then (l_X12_looksRight_44_20 n o44 a48 l1 l3 k (((l2 <<< (1 &&& 31)) ||| (a48 (Int32.toNatClampNeg (l1 + l4))))) ((l4 + 1))) else none))
set_option maxRecDepth 100000 in
set_option maxHeartbeats 400000 in
theorem lv_X12_looksRight_44_20 (s0 : XW) (n : Nat) (o44 : Nat → Int32) (a48 : Nat → Int32) (l1 : Int32) (l3 : Int32) (Q : Nat → Option Value → XW → Prop) : ∀ (k : Nat) (l2 : Int32) (l4 : Int32) (o : ((Int32) × (Int32))), l_X12_looksRight_44_20 n o44 a48 l1 l3 k l2 l4 = some o → (V yX12_looksRight cX12_looksRight (some .boolean) 2 61 (0, 0) 47 [some (.ref 44), some (.int l1), some (.int o.1), some (.int l3), none] [] (xof s0 [W_44 o44, W_48 a48]) Q) → V yX12_looksRight cX12_looksRight (some .boolean) 2 61 (0, 0) 20 [some (.ref 44), some (.int l1), some (.int l2), some (.int l3), some (.int l4)] [] (xof s0 [W_44 o44, W_48 a48]) Q := by
  intro k
  induction k with
  | zero =>
    intro _ _ _ h
    simp [l_X12_looksRight_44_20] at h
  | succ k ih =>
    intro l2 l4 o h hk
    rw [l_X12_looksRight_44_20] at h
    refine x_iload dX12_looksRight_20 rfl ?_
    refine x_bipush (v := 32) dX12_looksRight_22 (by decide) ?_
    refine x_icmp_ge (tgt := 47) dX12_looksRight_24 (by decide) (fun c2 => ?_) (fun c2 => ?_)
    · replace h := xif_p c2 h
      refine V.drop1 (i := 4) (ls' := [_, _, _, _, _]) rfl ?_
      show V yX12_looksRight cX12_looksRight (some .boolean) 2 61 (0, 0) 47 [some (.ref 44), some (.int l1), some (.int l2), some (.int l3), none] [] (xof s0 [W_44 o44, W_48 a48]) _
      cases h
      exact hk
    · replace h := xif_n c2 h
      refine x_iload_n dX12_looksRight_27 rfl ?_
      refine x_iconst (v := 1) dX12_looksRight_28 (by decide) ?_
      refine x_ishl dX12_looksRight_29 ?_
      refine x_aload_n dX12_looksRight_30 rfl ?_
      refine g_X12_23 rfl dX12_looksRight_31 (by decide) rfl rfl ?_
      refine x_iload_n dX12_looksRight_34 rfl ?_
      refine x_iload dX12_looksRight_35 rfl ?_
      refine x_iadd dX12_looksRight_37 ?_
      obtain ⟨c3, h⟩ := xck h
      refine x_ialdK (jn := (Int32.toNatClampNeg (l1 + l4))) (v := (a48 (Int32.toNatClampNeg (l1 + l4)))) dX12_looksRight_38 (by decide) rfl (xin_ok c3) rfl rfl ?_
      refine x_ior dX12_looksRight_39 ?_
      refine x_istore_n (ls' := [_, _, _, _, _]) dX12_looksRight_40 rfl rfl ?_
      refine x_iinc (v := l4 + 1) (ls' := [_, _, _, _, _]) dX12_looksRight_41 rfl rfl rfl rfl ?_
      refine x_goto (tgt := 20) dX12_looksRight_44 (by decide) ?_
      show V yX12_looksRight cX12_looksRight (some .boolean) 2 61 (0, 0) 20 [some (.ref 44), some (.int l1), some (.int (((l2 <<< (1 &&& 31)) ||| (a48 (Int32.toNatClampNeg (l1 + l4)))))), some (.int l3), some (.int ((l4 + 1)))] [] (xof s0 [W_44 o44, W_48 a48]) _
      exact ih (((l2 <<< (1 &&& 31)) ||| (a48 (Int32.toNatClampNeg (l1 + l4))))) ((l4 + 1)) _ h hk
def l_X12_looksRight_44_51 (n : Nat) (o44 : Nat → Int32) (a48 : Nat → Int32) (l1 : Int32) (l2 : Int32) : Nat → (Int32) → (Int32) → Option (((Int32) × (Int32)))
  | 0, _, _ => none
  | k + 1, l3, l4 => (if 40 ≤ l4 then (some (l3, l4)) else (bif xin (l1 + l4) 9600 then (l_X12_looksRight_44_51 n o44 a48 l1 l2 k (((l3 <<< (1 &&& 31)) ||| (a48 (Int32.toNatClampNeg (l1 + l4))))) ((l4 + 1))) else none))
set_option maxRecDepth 100000 in
set_option maxHeartbeats 400000 in
theorem lv_X12_looksRight_44_51 (s0 : XW) (n : Nat) (o44 : Nat → Int32) (a48 : Nat → Int32) (l1 : Int32) (l2 : Int32) (Q : Nat → Option Value → XW → Prop) : ∀ (k : Nat) (l3 : Int32) (l4 : Int32) (o : ((Int32) × (Int32))), l_X12_looksRight_44_51 n o44 a48 l1 l2 k l3 l4 = some o → (V yX12_looksRight cX12_looksRight (some .boolean) 2 61 (0, 0) 78 [none, none, some (.int l2), some (.int o.1), none] [] (xof s0 [W_44 o44, W_48 a48]) Q) → V yX12_looksRight cX12_looksRight (some .boolean) 2 61 (0, 0) 51 [some (.ref 44), some (.int l1), some (.int l2), some (.int l3), some (.int l4)] [] (xof s0 [W_44 o44, W_48 a48]) Q := by
  intro k
  induction k with
  | zero =>
    intro _ _ _ h
    simp [l_X12_looksRight_44_51] at h
  | succ k ih =>
    intro l3 l4 o h hk
    rw [l_X12_looksRight_44_51] at h
    refine x_iload dX12_looksRight_51 rfl ?_
    refine x_bipush (v := 40) dX12_looksRight_53 (by decide) ?_
    refine x_icmp_ge (tgt := 78) dX12_looksRight_55 (by decide) (fun c5 => ?_) (fun c5 => ?_)
    · replace h := xif_p c5 h
      refine V.drop1 (i := 0) (ls' := [_, _, _, _, _]) rfl ?_
      refine V.drop1 (i := 1) (ls' := [_, _, _, _, _]) rfl ?_
      refine V.drop1 (i := 4) (ls' := [_, _, _, _, _]) rfl ?_
      show V yX12_looksRight cX12_looksRight (some .boolean) 2 61 (0, 0) 78 [none, none, some (.int l2), some (.int l3), none] [] (xof s0 [W_44 o44, W_48 a48]) _
      cases h
      exact hk
    · replace h := xif_n c5 h
      refine x_iload_n dX12_looksRight_58 rfl ?_
      refine x_iconst (v := 1) dX12_looksRight_59 (by decide) ?_
      refine x_ishl dX12_looksRight_60 ?_
      refine x_aload_n dX12_looksRight_61 rfl ?_
      refine g_X12_23 rfl dX12_looksRight_62 (by decide) rfl rfl ?_
      refine x_iload_n dX12_looksRight_65 rfl ?_
      refine x_iload dX12_looksRight_66 rfl ?_
      refine x_iadd dX12_looksRight_68 ?_
      obtain ⟨c6, h⟩ := xck h
      refine x_ialdK (jn := (Int32.toNatClampNeg (l1 + l4))) (v := (a48 (Int32.toNatClampNeg (l1 + l4)))) dX12_looksRight_69 (by decide) rfl (xin_ok c6) rfl rfl ?_
      refine x_ior dX12_looksRight_70 ?_
      refine x_istore_n (ls' := [_, _, _, _, _]) dX12_looksRight_71 rfl rfl ?_
      refine x_iinc (v := l4 + 1) (ls' := [_, _, _, _, _]) dX12_looksRight_72 rfl rfl rfl rfl ?_
      refine x_goto (tgt := 51) dX12_looksRight_75 (by decide) ?_
      show V yX12_looksRight cX12_looksRight (some .boolean) 2 61 (0, 0) 51 [some (.ref 44), some (.int l1), some (.int l2), some (.int (((l3 <<< (1 &&& 31)) ||| (a48 (Int32.toNatClampNeg (l1 + l4)))))), some (.int ((l4 + 1)))] [] (xof s0 [W_44 o44, W_48 a48]) _
      exact ih (((l3 <<< (1 &&& 31)) ||| (a48 (Int32.toNatClampNeg (l1 + l4))))) ((l4 + 1)) _ h hk
def f_X12_looksRight_44 (n : Nat) (o44 : Nat → Int32) (a48 : Nat → Int32) (p1 : Int32) : Option Int32 := (if (p1 + 40) ≤ (o44 6) then (Option.bind (l_X12_looksRight_44_20 n o44 a48 p1 0 n 0 0) (fun u4 => (Option.bind (l_X12_looksRight_44_51 n o44 a48 p1 u4.1 n 0 32) (fun u7 => (Option.bind (f_X12_checkOf n u4.1) (fun q8 => (if q8 = u7.1 then (some 1) else (some 0)))))))) else (some 0))
set_option maxRecDepth 100000 in
set_option maxHeartbeats 400000 in
theorem v_X12_looksRight_44 (s0 : XW) (n : Nat) (o44 : Nat → Int32) (a48 : Nat → Int32) (p1 : Int32) (q : Int32) (h : f_X12_looksRight_44 n o44 a48 p1 = some q) : C_X12_looksRight 2 61 [.ref 44, .int p1] (xof s0 [W_44 o44, W_48 a48]) (some (.int q)) (xof s0 [W_44 o44, W_48 a48]) := by
  unfold f_X12_looksRight_44 at h
  show V yX12_looksRight cX12_looksRight (some .boolean) 2 61 (0, 0) 0 [some (.ref 44), some (.int p1), none, none, none] [] (xof s0 [W_44 o44, W_48 a48]) _
  refine x_iload_n dX12_looksRight_0 rfl ?_
  refine x_bipush (v := 40) dX12_looksRight_1 (by decide) ?_
  refine x_iadd dX12_looksRight_3 ?_
  refine x_aload_n dX12_looksRight_4 rfl ?_
  refine g_X12_64 rfl dX12_looksRight_5 (by decide) rfl rfl ?_
  refine x_icmp_le (tgt := 13) dX12_looksRight_8 (by decide) (fun c1 => ?_) (fun c1 => ?_)
  · replace h := xif_p c1 h
    refine x_iconst (v := 0) dX12_looksRight_13 (by decide) ?_
    refine x_istore_n (ls' := [_, _, _, _, _]) dX12_looksRight_14 rfl rfl ?_
    refine x_iconst (v := 0) dX12_looksRight_15 (by decide) ?_
    refine x_istore_n (ls' := [_, _, _, _, _]) dX12_looksRight_16 rfl rfl ?_
    refine x_iconst (v := 0) dX12_looksRight_17 (by decide) ?_
    refine x_istore (ls' := [_, _, _, _, _]) dX12_looksRight_18 rfl rfl ?_
    obtain ⟨u4, hu4, h⟩ := Option.bind_eq_some_iff.mp h
    show V yX12_looksRight cX12_looksRight (some .boolean) 2 61 (0, 0) 20 [some (.ref 44), some (.int p1), some (.int 0), some (.int 0), some (.int 0)] [] (xof s0 [W_44 o44, W_48 a48]) _
    refine lv_X12_looksRight_44_20 s0 _ o44 a48 p1 0 _ n 0 0 _ hu4 ?_
    refine x_bipush (v := 32) dX12_looksRight_47 (by decide) ?_
    refine x_istore (ls' := [_, _, _, _, _]) dX12_looksRight_49 rfl rfl ?_
    obtain ⟨u7, hu7, h⟩ := Option.bind_eq_some_iff.mp h
    show V yX12_looksRight cX12_looksRight (some .boolean) 2 61 (0, 0) 51 [some (.ref 44), some (.int p1), some (.int u4.1), some (.int 0), some (.int 32)] [] (xof s0 [W_44 o44, W_48 a48]) _
    refine lv_X12_looksRight_44_51 s0 _ o44 a48 p1 u4.1 _ n 0 32 _ hu7 ?_
    refine x_iload_n dX12_looksRight_78 rfl ?_
    obtain ⟨q8, hq8, h⟩ := Option.bind_eq_some_iff.mp h
    refine y_callSi (L' := [(44, _), (48, _)]) mi_X12_checkOf ml_X12_88 st_X12_checkOf dX12_looksRight_79 (fun s1 => v_X12_checkOf 61 s1 n _ q8 hq8) (Nat.le_of_ble_eq_true rfl) rfl (by decide) (Nat.le_of_ble_eq_true rfl) rfl rfl rfl rfl ?_
    refine x_iload_n dX12_looksRight_82 rfl ?_
    refine x_icmp_ne (tgt := 90) dX12_looksRight_83 (by decide) (fun c9 => ?_) (fun c9 => ?_)
    · replace h := xif_n c9 h
      refine x_iconst (v := 0) dX12_looksRight_90 (by decide) ?_
      cases h
      exact x_zret dX12_looksRight_91 (Or.inl rfl) ⟨rfl, rfl, rfl⟩
    · replace h := xif_p c9 h
      refine x_iconst (v := 1) dX12_looksRight_86 (by decide) ?_
      refine x_goto (tgt := 91) dX12_looksRight_87 (by decide) ?_
      cases h
      exact x_zret dX12_looksRight_91 (Or.inr rfl) ⟨rfl, rfl, rfl⟩
  · replace h := xif_n c1 h
    refine x_iconst (v := 0) dX12_looksRight_11 (by decide) ?_
    cases h
    exact x_zret dX12_looksRight_12 (Or.inl rfl) ⟨rfl, rfl, rfl⟩
def l_X12_rights_44_42 (n : Nat) (o44 : Nat → Int32) (a48 : Nat → Int32) (l1 : Int32) (l2 : Int32) (l3 : Int32) : Nat → (Int32) → (Int32) → Option ((((Int32) × (Nat → Int32))) ⊕ (((Int32) × (Int32))))
  | 0, _, _ => none
  | k + 1, l4, l5 => (if (l1 + l2) ≤ l5 then (some (Sum.inr (l4, l5))) else (Option.bind (f_X12_looksRight_44 n o44 a48 l5) (fun q7 => (if q7 = 0 then (l_X12_rights_44_42 n o44 a48 l1 l2 l3 k l4 ((l5 + 1))) else (if l4 = l3 then (some (Sum.inl (l5, o44))) else (l_X12_rights_44_42 n o44 a48 l1 l2 l3 k ((l4 + 1)) ((l5 + 1))))))))
set_option maxRecDepth 100000 in
set_option maxHeartbeats 400000 in
theorem lv_X12_rights_44_42 (s0 : XW) (n : Nat) (o44 : Nat → Int32) (a48 : Nat → Int32) (l1 : Int32) (l2 : Int32) (l3 : Int32) (Q : Nat → Option Value → XW → Prop) : ∀ (k : Nat) (l4 : Int32) (l5 : Int32) (o : (((Int32) × (Nat → Int32))) ⊕ (((Int32) × (Int32)))), l_X12_rights_44_42 n o44 a48 l1 l2 l3 k l4 l5 = some o → ((∀ z, o = Sum.inl z → Q 61 (some (.int z.1)) (xof s0 [W_44 z.2, W_48 a48])) ∧ (∀ z, o = Sum.inr z → V yX12_rights cX12_rights (some .int) 3 61 (0, 0) 80 [none, none, none, some (.int l3), some (.int z.1), none] [] (xof s0 [W_44 o44, W_48 a48]) Q)) → V yX12_rights cX12_rights (some .int) 3 61 (0, 0) 42 [some (.ref 44), some (.int l1), some (.int l2), some (.int l3), some (.int l4), some (.int l5)] [] (xof s0 [W_44 o44, W_48 a48]) Q := by
  intro k
  induction k with
  | zero =>
    intro _ _ _ h
    simp [l_X12_rights_44_42] at h
  | succ k ih =>
    intro l4 l5 o h hk
    rw [l_X12_rights_44_42] at h
    refine x_iload dX12_rights_42 rfl ?_
    refine x_iload_n dX12_rights_44 rfl ?_
    refine x_iload_n dX12_rights_45 rfl ?_
    refine x_iadd dX12_rights_46 ?_
    refine x_icmp_ge (tgt := 80) dX12_rights_47 (by decide) (fun c6 => ?_) (fun c6 => ?_)
    · replace h := xif_p c6 h
      refine V.drop1 (i := 0) (ls' := [_, _, _, _, _, _]) rfl ?_
      refine V.drop1 (i := 1) (ls' := [_, _, _, _, _, _]) rfl ?_
      refine V.drop1 (i := 2) (ls' := [_, _, _, _, _, _]) rfl ?_
      refine V.drop1 (i := 5) (ls' := [_, _, _, _, _, _]) rfl ?_
      show V yX12_rights cX12_rights (some .int) 3 61 (0, 0) 80 [none, none, none, some (.int l3), some (.int l4), none] [] (xof s0 [W_44 o44, W_48 a48]) _
      cases h
      exact hk.2 (l4, l5) rfl
    · replace h := xif_n c6 h
      refine x_aload_n dX12_rights_50 rfl ?_
      refine x_iload dX12_rights_51 rfl ?_
      obtain ⟨q7, hq7, h⟩ := Option.bind_eq_some_iff.mp h
      refine y_callVi (L' := [(44, _), (48, _)]) mi_X12_looksRight ml_X12_221 im_X12_looksRight se_X12_looksRight (rfl : vwCl[11]? = _) dX12_rights_53 (fun s1 => v_X12_looksRight_44 s1 n _ _ _ q7 hq7) (by decide) rfl (Nat.le_of_ble_eq_true rfl) rfl (by decide) (Nat.le_of_ble_eq_true rfl) rfl rfl rfl rfl ?_
      refine x_if_ne (tgt := 62) dX12_rights_56 (by decide) (fun c8 => ?_) (fun c8 => ?_)
      · replace h := xif_n c8 h
        refine x_iload dX12_rights_62 rfl ?_
        refine x_iload_n dX12_rights_64 rfl ?_
        refine x_icmp_ne (tgt := 71) dX12_rights_65 (by decide) (fun c9 => ?_) (fun c9 => ?_)
        · replace h := xif_n c9 h
          refine x_iinc (v := l4 + 1) (ls' := [_, _, _, _, _, _]) dX12_rights_71 rfl rfl rfl rfl ?_
          refine x_iinc (v := l5 + 1) (ls' := [_, _, _, _, _, _]) dX12_rights_74 rfl rfl rfl rfl ?_
          refine x_goto (tgt := 42) dX12_rights_77 (by decide) ?_
          show V yX12_rights cX12_rights (some .int) 3 61 (0, 0) 42 [some (.ref 44), some (.int l1), some (.int l2), some (.int l3), some (.int ((l4 + 1))), some (.int ((l5 + 1)))] [] (xof s0 [W_44 o44, W_48 a48]) _
          exact ih ((l4 + 1)) ((l5 + 1)) _ h hk
        · replace h := xif_p c9 h
          refine x_iload dX12_rights_68 rfl ?_
          cases h
          exact x_iret dX12_rights_70 (hk.1 (l5, o44) rfl)
      · replace h := xif_p c8 h
        refine x_goto (tgt := 74) dX12_rights_59 (by decide) ?_
        refine x_iinc (v := l5 + 1) (ls' := [_, _, _, _, _, _]) dX12_rights_74 rfl rfl rfl rfl ?_
        refine x_goto (tgt := 42) dX12_rights_77 (by decide) ?_
        show V yX12_rights cX12_rights (some .int) 3 61 (0, 0) 42 [some (.ref 44), some (.int l1), some (.int l2), some (.int l3), some (.int l4), some (.int ((l5 + 1)))] [] (xof s0 [W_44 o44, W_48 a48]) _
        exact ih l4 ((l5 + 1)) _ h hk
def f_X12_rights_44 (n : Nat) (o44 : Nat → Int32) (a48 : Nat → Int32) (p1 : Int32) (p2 : Int32) (p3 : Int32) : Option (((Int32) × (Nat → Int32))) := (Option.bind (f_X12_isBit_44 (upd o44 0 0) p1) (fun q1 => (if q1 = 0 then (some ((-2), upd o44 0 0)) else (Option.bind (f_X12_isIn ((Int32.toInt64 p2)) 1 2000) (fun q3 => (if q3 = 0 then (some ((-3), upd o44 0 0)) else (if (-1) ≤ p3 then (Option.bind (l_X12_rights_44_42 n (upd o44 0 0) a48 p1 p2 p3 n 0 p1) (fun u10 => Sum.elim (fun z11 => some z11) (fun z11 => (if p3 = (-1) then (some (z11.1, upd o44 0 0)) else (some ((-1), upd o44 0 0)))) u10)) else (some ((-3), upd o44 0 0)))))))))
set_option maxRecDepth 100000 in
set_option maxHeartbeats 400000 in
theorem v_X12_rights_44 (s0 : XW) (n : Nat) (o44 : Nat → Int32) (a48 : Nat → Int32) (p1 : Int32) (p2 : Int32) (p3 : Int32) (q : ((Int32) × (Nat → Int32))) (h : f_X12_rights_44 n o44 a48 p1 p2 p3 = some q) : C_X12_rights 3 61 [.ref 44, .int p1, .int p2, .int p3] (xof s0 [W_44 o44, W_48 a48]) (some (.int q.1)) (xof s0 [W_44 q.2, W_48 a48]) := by
  unfold f_X12_rights_44 at h
  show V yX12_rights cX12_rights (some .int) 3 61 (0, 0) 0 [some (.ref 44), some (.int p1), some (.int p2), some (.int p3), none, none] [] (xof s0 [W_44 o44, W_48 a48]) _
  refine x_aload_n dX12_rights_0 rfl ?_
  refine x_iconst (v := 0) dX12_rights_1 (by decide) ?_
  refine p_X12_1 (fs' := [_, _, _, _, _, _, _, _, _, _, _, _, _, _, _, _, _, _, _, _, _, _]) (L' := [(44, _), (48, _)]) rfl dX12_rights_2 (by decide) rfl (Nat.le_of_ble_eq_true rfl) rfl rfl ?_
  refine x_aload_n dX12_rights_5 rfl ?_
  refine x_iload_n dX12_rights_6 rfl ?_
  obtain ⟨q1, hq1, h⟩ := Option.bind_eq_some_iff.mp h
  refine y_callVi (L' := [(44, _), (48, _)]) mi_X12_isBit ml_X12_131 im_X12_isBit se_X12_isBit (rfl : vwCl[11]? = _) dX12_rights_7 (fun s1 => v_X12_isBit_44 s1 _ _ q1 hq1) (by decide) rfl (Nat.le_of_ble_eq_true rfl) rfl (by decide) (Nat.le_of_ble_eq_true rfl) rfl rfl rfl rfl ?_
  refine x_if_ne (tgt := 16) dX12_rights_10 (by decide) (fun c2 => ?_) (fun c2 => ?_)
  · replace h := xif_n c2 h
    refine x_iload_n dX12_rights_16 rfl ?_
    refine x_i2l dX12_rights_17 ?_
    refine x_lconst (v := 1) dX12_rights_18 (by decide) ?_
    refine x_ldc2 dX12_rights_19 cn_X12_136 ?_
    obtain ⟨q3, hq3, h⟩ := Option.bind_eq_some_iff.mp h
    refine y_callSi (L' := [(44, _), (48, _)]) mi_X12_isIn ml_X12_77 st_X12_isIn dX12_rights_22 (fun s1 => v_X12_isIn 61 s1 _ _ _ q3 hq3) (Nat.le_of_ble_eq_true rfl) rfl (by decide) (Nat.le_of_ble_eq_true rfl) rfl rfl rfl rfl ?_
    refine x_if_eq (tgt := 33) dX12_rights_25 (by decide) (fun c4 => ?_) (fun c4 => ?_)
    · replace h := xif_p c4 h
      refine x_bipush (v := -3) dX12_rights_33 (by decide) ?_
      cases h
      exact x_iret dX12_rights_35 ⟨rfl, rfl, rfl⟩
    · replace h := xif_n c4 h
      refine x_iload_n dX12_rights_28 rfl ?_
      refine x_iconst (v := -1) dX12_rights_29 (by decide) ?_
      refine x_icmp_ge (tgt := 36) dX12_rights_30 (by decide) (fun c5 => ?_) (fun c5 => ?_)
      · replace h := xif_p c5 h
        refine x_iconst (v := 0) dX12_rights_36 (by decide) ?_
        refine x_istore (ls' := [_, _, _, _, _, _]) dX12_rights_37 rfl rfl ?_
        refine x_iload_n dX12_rights_39 rfl ?_
        refine x_istore (ls' := [_, _, _, _, _, _]) dX12_rights_40 rfl rfl ?_
        obtain ⟨u10, hu10, h⟩ := Option.bind_eq_some_iff.mp h
        show V yX12_rights cX12_rights (some .int) 3 61 (0, 0) 42 [some (.ref 44), some (.int p1), some (.int p2), some (.int p3), some (.int 0), some (.int p1)] [] (xof s0 [W_44 (upd o44 0 0), W_48 a48]) _
        refine lv_X12_rights_44_42 s0 _ (upd o44 0 0) a48 p1 p2 p3 _ n 0 p1 _ hu10 ⟨fun z11 hz => ?_, fun z11 hz => ?_⟩
        · subst hz
          replace h := xsl h
          cases h
          exact ⟨rfl, rfl, rfl⟩
        subst hz
        replace h := xsr h
        refine x_iload_n dX12_rights_80 rfl ?_
        refine x_iconst (v := -1) dX12_rights_81 (by decide) ?_
        refine x_icmp_ne (tgt := 90) dX12_rights_82 (by decide) (fun c12 => ?_) (fun c12 => ?_)
        · replace h := xif_n c12 h
          refine x_iconst (v := -1) dX12_rights_90 (by decide) ?_
          cases h
          exact x_iret dX12_rights_91 ⟨rfl, rfl, rfl⟩
        · replace h := xif_p c12 h
          refine x_iload dX12_rights_85 rfl ?_
          refine x_goto (tgt := 91) dX12_rights_87 (by decide) ?_
          cases h
          exact x_iret dX12_rights_91 ⟨rfl, rfl, rfl⟩
      · replace h := xif_n c5 h
        refine x_bipush (v := -3) dX12_rights_33 (by decide) ?_
        cases h
        exact x_iret dX12_rights_35 ⟨rfl, rfl, rfl⟩
  · replace h := xif_p c2 h
    refine x_bipush (v := -2) dX12_rights_13 (by decide) ?_
    cases h
    exact x_iret dX12_rights_15 ⟨rfl, rfl, rfl⟩
def l_X12_phase_44_20 (n : Nat) (o44 : Nat → Int32) (a45 : Nat → Int32) (a48 : Nat → Int32) (a51 : Nat → Int32) (l1 : Int32) : Nat → (Int32) → (Nat → Int32) → Option (((Int32) × (Nat → Int32)))
  | 0, _, _ => none
  | k + 1, l2, a56 => (if 424 ≤ l2 then (some (l2, a56)) else (bif xin l2 424 then (l_X12_phase_44_20 n o44 a45 a48 a51 l1 k ((l2 + 1)) (upd a56 ((Int32.toNatClampNeg l2)) 0)) else none))
set_option maxRecDepth 100000 in
set_option maxHeartbeats 400000 in
theorem lv_X12_phase_44_20 (s0 : XW) (n : Nat) (o44 : Nat → Int32) (a45 : Nat → Int32) (a48 : Nat → Int32) (a51 : Nat → Int32) (l1 : Int32) (Q : Nat → Option Value → XW → Prop) : ∀ (k : Nat) (l2 : Int32) (a56 : Nat → Int32) (o : ((Int32) × (Nat → Int32))), l_X12_phase_44_20 n o44 a45 a48 a51 l1 k l2 a56 = some o → (V yX12_phase cX12_phase (some .int) 3 61 (0, 0) 40 [some (.ref 44), some (.int l1), none, none] [] (xof s0 [W_44 o44, W_45 a45, W_48 a48, W_51 a51, W_56 o.2]) Q) → V yX12_phase cX12_phase (some .int) 3 61 (0, 0) 20 [some (.ref 44), some (.int l1), some (.int l2), none] [] (xof s0 [W_44 o44, W_45 a45, W_48 a48, W_51 a51, W_56 a56]) Q := by
  intro k
  induction k with
  | zero =>
    intro _ _ _ h
    simp [l_X12_phase_44_20] at h
  | succ k ih =>
    intro l2 a56 o h hk
    rw [l_X12_phase_44_20] at h
    refine x_iload_n dX12_phase_20 rfl ?_
    refine x_sipush (v := 424) dX12_phase_21 (by decide) ?_
    refine x_icmp_ge (tgt := 40) dX12_phase_24 (by decide) (fun c3 => ?_) (fun c3 => ?_)
    · replace h := xif_p c3 h
      refine V.drop1 (i := 2) (ls' := [_, _, _, _]) rfl ?_
      show V yX12_phase cX12_phase (some .int) 3 61 (0, 0) 40 [some (.ref 44), some (.int l1), none, none] [] (xof s0 [W_44 o44, W_45 a45, W_48 a48, W_51 a51, W_56 a56]) _
      cases h
      exact hk
    · replace h := xif_n c3 h
      refine x_aload_n dX12_phase_27 rfl ?_
      refine g_X12_48 rfl dX12_phase_28 (by decide) rfl rfl ?_
      refine x_iload_n dX12_phase_31 rfl ?_
      refine x_iconst (v := 0) dX12_phase_32 (by decide) ?_
      obtain ⟨c4, h⟩ := xck h
      refine x_iastK (jn := (Int32.toNatClampNeg l2)) (L' := [(44, _), (45, _), (48, _), (51, _), (56, _)]) dX12_phase_33 (by decide) rfl (xin_ok c4) rfl rfl ?_
      refine x_iinc (v := l2 + 1) (ls' := [_, _, _, _]) dX12_phase_34 rfl rfl rfl rfl ?_
      refine x_goto (tgt := 20) dX12_phase_37 (by decide) ?_
      show V yX12_phase cX12_phase (some .int) 3 61 (0, 0) 20 [some (.ref 44), some (.int l1), some (.int ((l2 + 1))), none] [] (xof s0 [W_44 o44, W_45 a45, W_48 a48, W_51 a51, W_56 (upd a56 ((Int32.toNatClampNeg l2)) 0)]) _
      exact ih ((l2 + 1)) (upd a56 ((Int32.toNatClampNeg l2)) 0) _ h hk
