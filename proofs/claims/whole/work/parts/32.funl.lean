def l_X9_countMasks_38_16 (n : Nat) (o38 : Nat → Int32) (a41 : Nat → Int32) (l1 : Int32) : Nat → (Int32) → (Int32) → (Int32) → Option (((Int32) × (Int32) × (Int32)))
  | 0, _, _, _ => none
  | k + 1, l2, l3, l4 => (if 40 ≤ l4 then (some (l2, l3, l4)) else (Option.bind (f_J6_bitCount_0f7a4 ((l3 &&& l1))) (fun q3 => (Option.bind (f_X1_timesX l3) (fun q4 => (l_X9_countMasks_38_16 n o38 a41 l1 k ((l2 + (q3 &&& 1))) q4 ((l4 + 1))))))))
set_option maxRecDepth 100000 in
set_option maxHeartbeats 400000 in
theorem lv_X9_countMasks_38_16 (s0 : XW) (n : Nat) (o38 : Nat → Int32) (a41 : Nat → Int32) (l1 : Int32) (Q : Nat → Option Value → XW → Prop) : ∀ (k : Nat) (l2 : Int32) (l3 : Int32) (l4 : Int32) (o : ((Int32) × (Int32) × (Int32))), l_X9_countMasks_38_16 n o38 a41 l1 k l2 l3 l4 = some o → (V yX9_countMasks cX9_countMasks none 1 61 (0, 0) 45 [some (.ref 38), some (.int l1), some (.int o.1), none, none] [] (xof s0 [W_38 o38, W_41 a41]) Q) → V yX9_countMasks cX9_countMasks none 1 61 (0, 0) 16 [some (.ref 38), some (.int l1), some (.int l2), some (.int l3), some (.int l4)] [] (xof s0 [W_38 o38, W_41 a41]) Q := by
  intro k
  induction k with
  | zero =>
    intro _ _ _ _ h
    simp [l_X9_countMasks_38_16] at h
  | succ k ih =>
    intro l2 l3 l4 o h hk
    rw [l_X9_countMasks_38_16] at h
    refine x_iload dX9_countMasks_16 rfl ?_
    refine x_bipush (v := 40) dX9_countMasks_18 (by decide) ?_
    refine x_icmp_ge (tgt := 45) dX9_countMasks_20 (by decide) (fun c2 => ?_) (fun c2 => ?_)
    · replace h := xif_p c2 h
      refine V.drop1 (i := 3) (ls' := [_, _, _, _, _]) rfl ?_
      refine V.drop1 (i := 4) (ls' := [_, _, _, _, _]) rfl ?_
      show V yX9_countMasks cX9_countMasks none 1 61 (0, 0) 45 [some (.ref 38), some (.int l1), some (.int l2), none, none] [] (xof s0 [W_38 o38, W_41 a41]) _
      cases h
      exact hk
    · replace h := xif_n c2 h
      refine x_iload_n dX9_countMasks_23 rfl ?_
      refine x_iload_n dX9_countMasks_24 rfl ?_
      refine x_iload_n dX9_countMasks_25 rfl ?_
      refine x_iand dX9_countMasks_26 ?_
      obtain ⟨q3, hq3, h⟩ := Option.bind_eq_some_iff.mp h
      refine y_callSi (L' := [(38, _), (41, _)]) mi_J6_bitCount_0f7a4 ml_X9_42 st_J6_bitCount_0f7a4 dX9_countMasks_27 (fun s1 => v_J6_bitCount_0f7a4 61 s1 _ q3 hq3) (Nat.le_of_ble_eq_true rfl) rfl (by decide) (Nat.le_of_ble_eq_true rfl) rfl rfl rfl rfl ?_
      refine x_iconst (v := 1) dX9_countMasks_30 (by decide) ?_
      refine x_iand dX9_countMasks_31 ?_
      refine x_iadd dX9_countMasks_32 ?_
      refine x_istore_n (ls' := [_, _, _, _, _]) dX9_countMasks_33 rfl rfl ?_
      refine x_iload_n dX9_countMasks_34 rfl ?_
      obtain ⟨q4, hq4, h⟩ := Option.bind_eq_some_iff.mp h
      refine y_callSi (L' := [(38, _), (41, _)]) mi_X1_timesX ml_X9_48 st_X1_timesX dX9_countMasks_35 (fun s1 => v_X1_timesX 61 s1 _ q4 hq4) (Nat.le_of_ble_eq_true rfl) rfl (by decide) (Nat.le_of_ble_eq_true rfl) rfl rfl rfl rfl ?_
      refine x_istore_n (ls' := [_, _, _, _, _]) dX9_countMasks_38 rfl rfl ?_
      refine x_iinc (v := l4 + 1) (ls' := [_, _, _, _, _]) dX9_countMasks_39 rfl rfl rfl rfl ?_
      refine x_goto (tgt := 16) dX9_countMasks_42 (by decide) ?_
      show V yX9_countMasks cX9_countMasks none 1 61 (0, 0) 16 [some (.ref 38), some (.int l1), some (.int ((l2 + (q3 &&& 1)))), some (.int q4), some (.int ((l4 + 1)))] [] (xof s0 [W_38 o38, W_41 a41]) _
      exact ih ((l2 + (q3 &&& 1))) q4 ((l4 + 1)) _ h hk
def l_X9_countMasks_38_2 (n : Nat) (o38 : Nat → Int32) : Nat → (Int32) → (Nat → Int32) → Option (((Int32) × (Nat → Int32)))
  | 0, _, _ => none
  | k + 1, l1, a41 => (if 256 ≤ l1 then (some (l1, a41)) else (Option.bind (l_X9_countMasks_38_16 n o38 a41 l1 n 0 1 0) (fun u5 => (if 41 ≤ u5.1 then (l_X9_countMasks_38_2 n o38 k ((l1 + 1)) a41) else (bif xin u5.1 41 then (bif xin u5.1 41 then (l_X9_countMasks_38_2 n o38 k ((l1 + 1)) (upd a41 ((Int32.toNatClampNeg u5.1)) (((a41 (Int32.toNatClampNeg u5.1)) + 1)))) else none) else none)))))
set_option maxRecDepth 100000 in
set_option maxHeartbeats 400000 in
theorem lv_X9_countMasks_38_2 (s0 : XW) (n : Nat) (o38 : Nat → Int32) (Q : Nat → Option Value → XW → Prop) : ∀ (k : Nat) (l1 : Int32) (a41 : Nat → Int32) (o : ((Int32) × (Nat → Int32))), l_X9_countMasks_38_2 n o38 k l1 a41 = some o → (V yX9_countMasks cX9_countMasks none 1 61 (0, 0) 70 [none, none, none, none, none] [] (xof s0 [W_38 o38, W_41 o.2]) Q) → V yX9_countMasks cX9_countMasks none 1 61 (0, 0) 2 [some (.ref 38), some (.int l1), none, none, none] [] (xof s0 [W_38 o38, W_41 a41]) Q := by
  intro k
  induction k with
  | zero =>
    intro _ _ _ h
    simp [l_X9_countMasks_38_2] at h
  | succ k ih =>
    intro l1 a41 o h hk
    rw [l_X9_countMasks_38_2] at h
    refine x_iload_n dX9_countMasks_2 rfl ?_
    refine x_sipush (v := 256) dX9_countMasks_3 (by decide) ?_
    refine x_icmp_ge (tgt := 70) dX9_countMasks_6 (by decide) (fun c1 => ?_) (fun c1 => ?_)
    · replace h := xif_p c1 h
      refine V.drop1 (i := 0) (ls' := [_, _, _, _, _]) rfl ?_
      refine V.drop1 (i := 1) (ls' := [_, _, _, _, _]) rfl ?_
      show V yX9_countMasks cX9_countMasks none 1 61 (0, 0) 70 [none, none, none, none, none] [] (xof s0 [W_38 o38, W_41 a41]) _
      cases h
      exact hk
    · replace h := xif_n c1 h
      refine x_iconst (v := 0) dX9_countMasks_9 (by decide) ?_
      refine x_istore_n (ls' := [_, _, _, _, _]) dX9_countMasks_10 rfl rfl ?_
      refine x_iconst (v := 1) dX9_countMasks_11 (by decide) ?_
      refine x_istore_n (ls' := [_, _, _, _, _]) dX9_countMasks_12 rfl rfl ?_
      refine x_iconst (v := 0) dX9_countMasks_13 (by decide) ?_
      refine x_istore (ls' := [_, _, _, _, _]) dX9_countMasks_14 rfl rfl ?_
      obtain ⟨u5, hu5, h⟩ := Option.bind_eq_some_iff.mp h
      show V yX9_countMasks cX9_countMasks none 1 61 (0, 0) 16 [some (.ref 38), some (.int l1), some (.int 0), some (.int 1), some (.int 0)] [] (xof s0 [W_38 o38, W_41 a41]) _
      refine lv_X9_countMasks_38_16 s0 _ o38 a41 l1 _ n 0 1 0 _ hu5 ?_
      refine x_iload_n dX9_countMasks_45 rfl ?_
      refine x_aload_n dX9_countMasks_46 rfl ?_
      refine g_X9_18 rfl dX9_countMasks_47 (by decide) rfl rfl ?_
      refine x_alen (v := 41) dX9_countMasks_50 (by decide) rfl (by decide) rfl ?_
      refine x_icmp_ge (tgt := 64) dX9_countMasks_51 (by decide) (fun c6 => ?_) (fun c6 => ?_)
      · replace h := xif_p c6 h
        refine x_iinc (v := l1 + 1) (ls' := [_, _, _, _, _]) dX9_countMasks_64 rfl rfl rfl rfl ?_
        refine x_goto (tgt := 2) dX9_countMasks_67 (by decide) ?_
        refine V.drop1 (i := 2) (ls' := [_, _, _, _, _]) rfl ?_
        show V yX9_countMasks cX9_countMasks none 1 61 (0, 0) 2 [some (.ref 38), some (.int ((l1 + 1))), none, none, none] [] (xof s0 [W_38 o38, W_41 a41]) _
        exact ih ((l1 + 1)) a41 _ h hk
      · replace h := xif_n c6 h
        refine x_aload_n dX9_countMasks_54 rfl ?_
        refine g_X9_18 rfl dX9_countMasks_55 (by decide) rfl rfl ?_
        refine x_iload_n dX9_countMasks_58 rfl ?_
        refine x_dup2 dX9_countMasks_59 rfl rfl ?_
        obtain ⟨c7, h⟩ := xck h
        refine x_ialdK (jn := (Int32.toNatClampNeg u5.1)) (v := (a41 (Int32.toNatClampNeg u5.1))) dX9_countMasks_60 (by decide) rfl (xin_ok c7) rfl rfl ?_
        refine x_iconst (v := 1) dX9_countMasks_61 (by decide) ?_
        refine x_iadd dX9_countMasks_62 ?_
        obtain ⟨c8, h⟩ := xck h
        refine x_iastK (jn := (Int32.toNatClampNeg u5.1)) (L' := [(38, _), (41, _)]) dX9_countMasks_63 (by decide) rfl (xin_ok c8) rfl rfl ?_
        refine x_iinc (v := l1 + 1) (ls' := [_, _, _, _, _]) dX9_countMasks_64 rfl rfl rfl rfl ?_
        refine x_goto (tgt := 2) dX9_countMasks_67 (by decide) ?_
        refine V.drop1 (i := 2) (ls' := [_, _, _, _, _]) rfl ?_
        show V yX9_countMasks cX9_countMasks none 1 61 (0, 0) 2 [some (.ref 38), some (.int ((l1 + 1))), none, none, none] [] (xof s0 [W_38 o38, W_41 (upd a41 ((Int32.toNatClampNeg u5.1)) (((a41 (Int32.toNatClampNeg u5.1)) + 1)))]) _
        exact ih ((l1 + 1)) (upd a41 ((Int32.toNatClampNeg u5.1)) (((a41 (Int32.toNatClampNeg u5.1)) + 1))) _ h hk
def f_X9_countMasks_38 (n : Nat) (o38 : Nat → Int32) (a41 : Nat → Int32)  : Option (Nat → Int32) := (Option.bind (l_X9_countMasks_38_2 n o38 n 0 a41) (fun u9 => (some u9.2)))
set_option maxRecDepth 100000 in
set_option maxHeartbeats 400000 in
theorem v_X9_countMasks_38 (s0 : XW) (n : Nat) (o38 : Nat → Int32) (a41 : Nat → Int32)  (q : Nat → Int32) (h : f_X9_countMasks_38 n o38 a41 = some q) : C_X9_countMasks 1 61 [.ref 38] (xof s0 [W_38 o38, W_41 a41]) none (xof s0 [W_38 o38, W_41 q]) := by
  unfold f_X9_countMasks_38 at h
  show V yX9_countMasks cX9_countMasks none 1 61 (0, 0) 0 [some (.ref 38), none, none, none, none] [] (xof s0 [W_38 o38, W_41 a41]) _
  refine x_iconst (v := 0) dX9_countMasks_0 (by decide) ?_
  refine x_istore_n (ls' := [_, _, _, _, _]) dX9_countMasks_1 rfl rfl ?_
  obtain ⟨u9, hu9, h⟩ := Option.bind_eq_some_iff.mp h
  show V yX9_countMasks cX9_countMasks none 1 61 (0, 0) 2 [some (.ref 38), some (.int 0), none, none, none] [] (xof s0 [W_38 o38, W_41 a41]) _
  refine lv_X9_countMasks_38_2 s0 _ o38 _ n 0 a41 _ hu9 ?_
  cases h
  exact x_vret dX9_countMasks_70 ⟨rfl, rfl, rfl⟩
def l_J7_fill_d0a16_40_6 (n : Nat) (l1 : Int64) (l4 : Int32) : Nat → (Int32) → (Nat → Int64) → Option (((Int32) × (Nat → Int64)))
  | 0, _, _ => none
  | k + 1, l3, a40 => (if l4 ≤ l3 then (some (l3, a40)) else (bif xin l3 41 then (l_J7_fill_d0a16_40_6 n l1 l4 k ((l3 + 1)) (vp_updL a40 ((Int32.toNatClampNeg l3)) l1)) else none))
set_option maxRecDepth 100000 in
set_option maxHeartbeats 400000 in
theorem lv_J7_fill_d0a16_40_6 (s0 : XW) (n : Nat) (l1 : Int64) (l4 : Int32) (Q : Nat → Option Value → XW → Prop) : ∀ (k : Nat) (l3 : Int32) (a40 : Nat → Int64) (o : ((Int32) × (Nat → Int64))), l_J7_fill_d0a16_40_6 n l1 l4 k l3 a40 = some o → (V yJ7_fill_d0a16 cJ7_fill_d0a16 none 0 61 (0, 0) 22 [none, none, none, none, none] [] (xof s0 [W_40 o.2]) Q) → V yJ7_fill_d0a16 cJ7_fill_d0a16 none 0 61 (0, 0) 6 [some (.ref 40), some (.long l1), none, some (.int l3), some (.int l4)] [] (xof s0 [W_40 a40]) Q := by
  intro k
  induction k with
  | zero =>
    intro _ _ _ h
    simp [l_J7_fill_d0a16_40_6] at h
  | succ k ih =>
    intro l3 a40 o h hk
    rw [l_J7_fill_d0a16_40_6] at h
    refine x_iload_n dJ7_fill_d0a16_6 rfl ?_
    refine x_iload dJ7_fill_d0a16_7 rfl ?_
    refine x_icmp_ge (tgt := 22) dJ7_fill_d0a16_9 (by decide) (fun c1 => ?_) (fun c1 => ?_)
    · replace h := xif_p c1 h
      refine V.drop1 (i := 0) (ls' := [_, _, _, _, _]) rfl ?_
      refine V.drop1 (i := 1) (ls' := [_, _, _, _, _]) rfl ?_
      refine V.drop1 (i := 3) (ls' := [_, _, _, _, _]) rfl ?_
      refine V.drop1 (i := 4) (ls' := [_, _, _, _, _]) rfl ?_
      show V yJ7_fill_d0a16 cJ7_fill_d0a16 none 0 61 (0, 0) 22 [none, none, none, none, none] [] (xof s0 [W_40 a40]) _
      cases h
      exact hk
    · replace h := xif_n c1 h
      refine x_aload_n dJ7_fill_d0a16_12 rfl ?_
      refine x_iload_n dJ7_fill_d0a16_13 rfl ?_
      refine x_lload_n dJ7_fill_d0a16_14 rfl ?_
      obtain ⟨c2, h⟩ := xck h
      refine x_lastK (jn := (Int32.toNatClampNeg l3)) (L' := [(40, _)]) dJ7_fill_d0a16_15 (by decide) rfl (xin_ok c2) rfl rfl ?_
      refine x_iinc (v := l3 + 1) (ls' := [_, _, _, _, _]) dJ7_fill_d0a16_16 rfl rfl rfl rfl ?_
      refine x_goto (tgt := 6) dJ7_fill_d0a16_19 (by decide) ?_
      show V yJ7_fill_d0a16 cJ7_fill_d0a16 none 0 61 (0, 0) 6 [some (.ref 40), some (.long l1), none, some (.int ((l3 + 1))), some (.int l4)] [] (xof s0 [W_40 (vp_updL a40 ((Int32.toNatClampNeg l3)) l1)]) _
      exact ih ((l3 + 1)) (vp_updL a40 ((Int32.toNatClampNeg l3)) l1) _ h hk
def f_J7_fill_d0a16_40 (n : Nat) (a40 : Nat → Int64) (p1 : Int64) : Option (Nat → Int64) := (Option.bind (l_J7_fill_d0a16_40_6 n p1 41 n 0 a40) (fun u3 => (some u3.2)))
set_option maxRecDepth 100000 in
set_option maxHeartbeats 400000 in
theorem v_J7_fill_d0a16_40 (s0 : XW) (n : Nat) (a40 : Nat → Int64) (p1 : Int64) (q : Nat → Int64) (h : f_J7_fill_d0a16_40 n a40 p1 = some q) : C_J7_fill_d0a16 0 61 [.ref 40, .long p1] (xof s0 [W_40 a40]) none (xof s0 [W_40 q]) := by
  unfold f_J7_fill_d0a16_40 at h
  show V yJ7_fill_d0a16 cJ7_fill_d0a16 none 0 61 (0, 0) 0 [some (.ref 40), some (.long p1), none, none, none] [] (xof s0 [W_40 a40]) _
  refine x_iconst (v := 0) dJ7_fill_d0a16_0 (by decide) ?_
  refine x_istore_n (ls' := [_, _, _, _, _]) dJ7_fill_d0a16_1 rfl rfl ?_
  refine x_aload_n dJ7_fill_d0a16_2 rfl ?_
  refine x_alen (v := 41) dJ7_fill_d0a16_3 (by decide) rfl (by decide) rfl ?_
  refine x_istore (ls' := [_, _, _, _, _]) dJ7_fill_d0a16_4 rfl rfl ?_
  obtain ⟨u3, hu3, h⟩ := Option.bind_eq_some_iff.mp h
  show V yJ7_fill_d0a16 cJ7_fill_d0a16 none 0 61 (0, 0) 6 [some (.ref 40), some (.long p1), none, some (.int 0), some (.int 41)] [] (xof s0 [W_40 a40]) _
  refine lv_J7_fill_d0a16_40_6 s0 _ p1 41 _ n 0 a40 _ hu3 ?_
  cases h
  exact x_vret dJ7_fill_d0a16_22 ⟨rfl, rfl, rfl⟩
def l_X9_addUpSigns_38_27 (n : Nat) (o38 : Nat → Int32) (l1 : Int32) (l2 : Int32) : Nat → (Int32) → (Nat → Int64) → Option (((Int32) × (Nat → Int64)))
  | 0, _, _ => none
  | k + 1, l3, a40 => (if l3 ≤ 0 then (some (l3, a40)) else (bif xin l3 41 then (if l1 ≤ l2 then (bif xin (l3 - 1) 41 then (bif xin l3 41 then (l_X9_addUpSigns_38_27 n o38 l1 l2 k ((l3 + (-1))) (vp_updL a40 ((Int32.toNatClampNeg l3)) (((a40 (Int32.toNatClampNeg l3)) + (a40 (Int32.toNatClampNeg (l3 - 1))))))) else none) else none) else (bif xin (l3 - 1) 41 then (bif xin l3 41 then (l_X9_addUpSigns_38_27 n o38 l1 l2 k ((l3 + (-1))) (vp_updL a40 ((Int32.toNatClampNeg l3)) (((a40 (Int32.toNatClampNeg l3)) + (-(a40 (Int32.toNatClampNeg (l3 - 1)))))))) else none) else none)) else none))
set_option maxRecDepth 100000 in
set_option maxHeartbeats 400000 in
theorem lv_X9_addUpSigns_38_27 (s0 : XW) (n : Nat) (o38 : Nat → Int32) (l1 : Int32) (l2 : Int32) (Q : Nat → Option Value → XW → Prop) : ∀ (k : Nat) (l3 : Int32) (a40 : Nat → Int64) (o : ((Int32) × (Nat → Int64))), l_X9_addUpSigns_38_27 n o38 l1 l2 k l3 a40 = some o → (V yX9_addUpSigns cX9_addUpSigns none 1 61 (0, 0) 71 [some (.ref 38), some (.int l1), some (.int l2), none] [] (xof s0 [W_38 o38, W_40 o.2]) Q) → V yX9_addUpSigns cX9_addUpSigns none 1 61 (0, 0) 27 [some (.ref 38), some (.int l1), some (.int l2), some (.int l3)] [] (xof s0 [W_38 o38, W_40 a40]) Q := by
  intro k
  induction k with
  | zero =>
    intro _ _ _ h
    simp [l_X9_addUpSigns_38_27] at h
  | succ k ih =>
    intro l3 a40 o h hk
    rw [l_X9_addUpSigns_38_27] at h
    refine x_iload_n dX9_addUpSigns_27 rfl ?_
    refine x_if_le (tgt := 71) dX9_addUpSigns_28 (by decide) (fun c3 => ?_) (fun c3 => ?_)
    · replace h := xif_p c3 h
      refine V.drop1 (i := 3) (ls' := [_, _, _, _]) rfl ?_
      show V yX9_addUpSigns cX9_addUpSigns none 1 61 (0, 0) 71 [some (.ref 38), some (.int l1), some (.int l2), none] [] (xof s0 [W_38 o38, W_40 a40]) _
      cases h
      exact hk
    · replace h := xif_n c3 h
      refine x_aload_n dX9_addUpSigns_31 rfl ?_
      refine g_X9_15 rfl dX9_addUpSigns_32 (by decide) rfl rfl ?_
      refine x_iload_n dX9_addUpSigns_35 rfl ?_
      refine x_dup2 dX9_addUpSigns_36 rfl rfl ?_
      obtain ⟨c4, h⟩ := xck h
      refine x_laldK (jn := (Int32.toNatClampNeg l3)) (v := (a40 (Int32.toNatClampNeg l3))) dX9_addUpSigns_37 (by decide) rfl (xin_ok c4) rfl rfl ?_
      refine x_iload_n dX9_addUpSigns_38 rfl ?_
      refine x_iload_n dX9_addUpSigns_39 rfl ?_
      refine x_icmp_ge (tgt := 55) dX9_addUpSigns_40 (by decide) (fun c5 => ?_) (fun c5 => ?_)
      · replace h := xif_p c5 h
        refine x_aload_n dX9_addUpSigns_55 rfl ?_
        refine g_X9_15 rfl dX9_addUpSigns_56 (by decide) rfl rfl ?_
        refine x_iload_n dX9_addUpSigns_59 rfl ?_
        refine x_iconst (v := 1) dX9_addUpSigns_60 (by decide) ?_
        refine x_isub dX9_addUpSigns_61 ?_
        obtain ⟨c6, h⟩ := xck h
        refine x_laldK (jn := (Int32.toNatClampNeg (l3 - 1))) (v := (a40 (Int32.toNatClampNeg (l3 - 1)))) dX9_addUpSigns_62 (by decide) rfl (xin_ok c6) rfl rfl ?_
        refine x_ladd dX9_addUpSigns_63 ?_
        obtain ⟨c7, h⟩ := xck h
        refine x_lastK (jn := (Int32.toNatClampNeg l3)) (L' := [(38, _), (40, _)]) dX9_addUpSigns_64 (by decide) rfl (xin_ok c7) rfl rfl ?_
        refine x_iinc (v := l3 + (-1)) (ls' := [_, _, _, _]) dX9_addUpSigns_65 rfl rfl rfl rfl ?_
        refine x_goto (tgt := 27) dX9_addUpSigns_68 (by decide) ?_
        show V yX9_addUpSigns cX9_addUpSigns none 1 61 (0, 0) 27 [some (.ref 38), some (.int l1), some (.int l2), some (.int ((l3 + (-1))))] [] (xof s0 [W_38 o38, W_40 (vp_updL a40 ((Int32.toNatClampNeg l3)) (((a40 (Int32.toNatClampNeg l3)) + (a40 (Int32.toNatClampNeg (l3 - 1))))))]) _
        exact ih ((l3 + (-1))) (vp_updL a40 ((Int32.toNatClampNeg l3)) (((a40 (Int32.toNatClampNeg l3)) + (a40 (Int32.toNatClampNeg (l3 - 1)))))) _ h hk
      · replace h := xif_n c5 h
        refine x_aload_n dX9_addUpSigns_43 rfl ?_
        refine g_X9_15 rfl dX9_addUpSigns_44 (by decide) rfl rfl ?_
        refine x_iload_n dX9_addUpSigns_47 rfl ?_
        refine x_iconst (v := 1) dX9_addUpSigns_48 (by decide) ?_
        refine x_isub dX9_addUpSigns_49 ?_
        obtain ⟨c8, h⟩ := xck h
        refine x_laldK (jn := (Int32.toNatClampNeg (l3 - 1))) (v := (a40 (Int32.toNatClampNeg (l3 - 1)))) dX9_addUpSigns_50 (by decide) rfl (xin_ok c8) rfl rfl ?_
        refine x_lneg dX9_addUpSigns_51 ?_
        refine x_goto (tgt := 63) dX9_addUpSigns_52 (by decide) ?_
        refine x_ladd dX9_addUpSigns_63 ?_
        obtain ⟨c9, h⟩ := xck h
        refine x_lastK (jn := (Int32.toNatClampNeg l3)) (L' := [(38, _), (40, _)]) dX9_addUpSigns_64 (by decide) rfl (xin_ok c9) rfl rfl ?_
        refine x_iinc (v := l3 + (-1)) (ls' := [_, _, _, _]) dX9_addUpSigns_65 rfl rfl rfl rfl ?_
        refine x_goto (tgt := 27) dX9_addUpSigns_68 (by decide) ?_
        show V yX9_addUpSigns cX9_addUpSigns none 1 61 (0, 0) 27 [some (.ref 38), some (.int l1), some (.int l2), some (.int ((l3 + (-1))))] [] (xof s0 [W_38 o38, W_40 (vp_updL a40 ((Int32.toNatClampNeg l3)) (((a40 (Int32.toNatClampNeg l3)) + (-(a40 (Int32.toNatClampNeg (l3 - 1)))))))]) _
        exact ih ((l3 + (-1))) (vp_updL a40 ((Int32.toNatClampNeg l3)) (((a40 (Int32.toNatClampNeg l3)) + (-(a40 (Int32.toNatClampNeg (l3 - 1))))))) _ h hk
def l_X9_addUpSigns_38_17 (n : Nat) (o38 : Nat → Int32) (l1 : Int32) : Nat → (Int32) → (Nat → Int64) → Option (((Int32) × (Nat → Int64)))
  | 0, _, _ => none
  | k + 1, l2, a40 => (if 40 ≤ l2 then (some (l2, a40)) else (Option.bind (l_X9_addUpSigns_38_27 n o38 l1 l2 n ((l2 + 1)) a40) (fun u10 => (l_X9_addUpSigns_38_17 n o38 l1 k ((l2 + 1)) u10.2))))
set_option maxRecDepth 100000 in
set_option maxHeartbeats 400000 in
theorem lv_X9_addUpSigns_38_17 (s0 : XW) (n : Nat) (o38 : Nat → Int32) (l1 : Int32) (Q : Nat → Option Value → XW → Prop) : ∀ (k : Nat) (l2 : Int32) (a40 : Nat → Int64) (o : ((Int32) × (Nat → Int64))), l_X9_addUpSigns_38_17 n o38 l1 k l2 a40 = some o → (V yX9_addUpSigns cX9_addUpSigns none 1 61 (0, 0) 77 [none, none, none, none] [] (xof s0 [W_38 o38, W_40 o.2]) Q) → V yX9_addUpSigns cX9_addUpSigns none 1 61 (0, 0) 17 [some (.ref 38), some (.int l1), some (.int l2), none] [] (xof s0 [W_38 o38, W_40 a40]) Q := by
  intro k
  induction k with
  | zero =>
    intro _ _ _ h
    simp [l_X9_addUpSigns_38_17] at h
  | succ k ih =>
    intro l2 a40 o h hk
    rw [l_X9_addUpSigns_38_17] at h
    refine x_iload_n dX9_addUpSigns_17 rfl ?_
    refine x_bipush (v := 40) dX9_addUpSigns_18 (by decide) ?_
    refine x_icmp_ge (tgt := 77) dX9_addUpSigns_20 (by decide) (fun c2 => ?_) (fun c2 => ?_)
    · replace h := xif_p c2 h
      refine V.drop1 (i := 0) (ls' := [_, _, _, _]) rfl ?_
      refine V.drop1 (i := 1) (ls' := [_, _, _, _]) rfl ?_
      refine V.drop1 (i := 2) (ls' := [_, _, _, _]) rfl ?_
      show V yX9_addUpSigns cX9_addUpSigns none 1 61 (0, 0) 77 [none, none, none, none] [] (xof s0 [W_38 o38, W_40 a40]) _
      cases h
      exact hk
    · replace h := xif_n c2 h
      refine x_iload_n dX9_addUpSigns_23 rfl ?_
      refine x_iconst (v := 1) dX9_addUpSigns_24 (by decide) ?_
      refine x_iadd dX9_addUpSigns_25 ?_
      refine x_istore_n (ls' := [_, _, _, _]) dX9_addUpSigns_26 rfl rfl ?_
      obtain ⟨u10, hu10, h⟩ := Option.bind_eq_some_iff.mp h
      show V yX9_addUpSigns cX9_addUpSigns none 1 61 (0, 0) 27 [some (.ref 38), some (.int l1), some (.int l2), some (.int ((l2 + 1)))] [] (xof s0 [W_38 o38, W_40 a40]) _
      refine lv_X9_addUpSigns_38_27 s0 _ o38 l1 l2 _ n ((l2 + 1)) a40 _ hu10 ?_
      refine x_iinc (v := l2 + 1) (ls' := [_, _, _, _]) dX9_addUpSigns_71 rfl rfl rfl rfl ?_
      refine x_goto (tgt := 17) dX9_addUpSigns_74 (by decide) ?_
      show V yX9_addUpSigns cX9_addUpSigns none 1 61 (0, 0) 17 [some (.ref 38), some (.int l1), some (.int ((l2 + 1))), none] [] (xof s0 [W_38 o38, W_40 u10.2]) _
      exact ih ((l2 + 1)) u10.2 _ h hk
def f_X9_addUpSigns_38 (n : Nat) (o38 : Nat → Int32) (a40 : Nat → Int64) (p1 : Int32) : Option (Nat → Int64) := (Option.bind (f_J7_fill_d0a16_40 n a40 0) (fun q1 => (Option.bind (l_X9_addUpSigns_38_17 n o38 p1 n 0 (vp_updL q1 0 1)) (fun u11 => (some u11.2)))))
set_option maxRecDepth 100000 in
set_option maxHeartbeats 400000 in
theorem v_X9_addUpSigns_38 (s0 : XW) (n : Nat) (o38 : Nat → Int32) (a40 : Nat → Int64) (p1 : Int32) (q : Nat → Int64) (h : f_X9_addUpSigns_38 n o38 a40 p1 = some q) : C_X9_addUpSigns 1 61 [.ref 38, .int p1] (xof s0 [W_38 o38, W_40 a40]) none (xof s0 [W_38 o38, W_40 q]) := by
  unfold f_X9_addUpSigns_38 at h
  show V yX9_addUpSigns cX9_addUpSigns none 1 61 (0, 0) 0 [some (.ref 38), some (.int p1), none, none] [] (xof s0 [W_38 o38, W_40 a40]) _
  refine x_aload_n dX9_addUpSigns_0 rfl ?_
  refine g_X9_15 rfl dX9_addUpSigns_1 (by decide) rfl rfl ?_
  refine x_lconst (v := 0) dX9_addUpSigns_4 (by decide) ?_
  obtain ⟨q1, hq1, h⟩ := Option.bind_eq_some_iff.mp h
  refine y_callSv (L' := [(38, _), (40, _)]) mi_J7_fill_d0a16 ml_X9_53 st_J7_fill_d0a16 dX9_addUpSigns_5 (fun s1 => v_J7_fill_d0a16_40 s1 n _ _ q1 hq1) (Nat.le_of_ble_eq_true rfl) rfl (by decide) (Nat.le_of_ble_eq_true rfl) rfl rfl rfl rfl ?_
  refine x_aload_n dX9_addUpSigns_8 rfl ?_
  refine g_X9_15 rfl dX9_addUpSigns_9 (by decide) rfl rfl ?_
  refine x_iconst (v := 0) dX9_addUpSigns_12 (by decide) ?_
  refine x_lconst (v := 1) dX9_addUpSigns_13 (by decide) ?_
  refine x_lastK (jn := 0) (L' := [(38, _), (40, _)]) dX9_addUpSigns_14 (by decide) rfl (xin_ok (by decide)) (by decide) rfl ?_
  refine x_iconst (v := 0) dX9_addUpSigns_15 (by decide) ?_
  refine x_istore_n (ls' := [_, _, _, _]) dX9_addUpSigns_16 rfl rfl ?_
  obtain ⟨u11, hu11, h⟩ := Option.bind_eq_some_iff.mp h
  show V yX9_addUpSigns cX9_addUpSigns none 1 61 (0, 0) 17 [some (.ref 38), some (.int p1), some (.int 0), none] [] (xof s0 [W_38 o38, W_40 (vp_updL q1 0 1)]) _
  refine lv_X9_addUpSigns_38_17 s0 _ o38 p1 _ n 0 (vp_updL q1 0 1) _ hu11 ?_
  cases h
  exact x_vret dX9_addUpSigns_77 ⟨rfl, rfl, rfl⟩
def l_X9_countWords_38_28 (n : Nat) (o38 : Nat → Int32) (a40 : Nat → Int64) (a41 : Nat → Int32) (l1 : Int32) : Nat → (Int32) → (Nat → Int64) → Option (((Int32) × (Nat → Int64)))
  | 0, _, _ => none
  | k + 1, l2, a39 => (if 40 < l2 then (some (l2, a39)) else (bif xin l2 41 then (bif xin l1 41 then (bif xin l2 41 then (bif xin l2 41 then (l_X9_countWords_38_28 n o38 a40 a41 l1 k ((l2 + 1)) (vp_updL a39 ((Int32.toNatClampNeg l2)) (((a39 (Int32.toNatClampNeg l2)) + ((Int32.toInt64 (a41 (Int32.toNatClampNeg l1))) * (a40 (Int32.toNatClampNeg l2))))))) else none) else none) else none) else none))
set_option maxRecDepth 100000 in
set_option maxHeartbeats 400000 in
theorem lv_X9_countWords_38_28 (s0 : XW) (n : Nat) (o38 : Nat → Int32) (a40 : Nat → Int64) (a41 : Nat → Int32) (l1 : Int32) (Q : Nat → Option Value → XW → Prop) : ∀ (k : Nat) (l2 : Int32) (a39 : Nat → Int64) (o : ((Int32) × (Nat → Int64))), l_X9_countWords_38_28 n o38 a40 a41 l1 k l2 a39 = some o → (V yX9_countWords cX9_countWords none 2 61 (0, 0) 63 [some (.ref 38), some (.int l1), none] [] (xof s0 [W_38 o38, W_39 o.2, W_40 a40, W_41 a41]) Q) → V yX9_countWords cX9_countWords none 2 61 (0, 0) 28 [some (.ref 38), some (.int l1), some (.int l2)] [] (xof s0 [W_38 o38, W_39 a39, W_40 a40, W_41 a41]) Q := by
  intro k
  induction k with
  | zero =>
    intro _ _ _ h
    simp [l_X9_countWords_38_28] at h
  | succ k ih =>
    intro l2 a39 o h hk
    rw [l_X9_countWords_38_28] at h
    refine x_iload_n dX9_countWords_28 rfl ?_
    refine x_bipush (v := 40) dX9_countWords_29 (by decide) ?_
    refine x_icmp_gt (tgt := 63) dX9_countWords_31 (by decide) (fun c6 => ?_) (fun c6 => ?_)
    · replace h := xif_p c6 h
      refine V.drop1 (i := 2) (ls' := [_, _, _]) rfl ?_
      show V yX9_countWords cX9_countWords none 2 61 (0, 0) 63 [some (.ref 38), some (.int l1), none] [] (xof s0 [W_38 o38, W_39 a39, W_40 a40, W_41 a41]) _
      cases h
      exact hk
    · replace h := xif_n c6 h
      refine x_aload_n dX9_countWords_34 rfl ?_
      refine g_X9_9 rfl dX9_countWords_35 (by decide) rfl rfl ?_
      refine x_iload_n dX9_countWords_38 rfl ?_
      refine x_dup2 dX9_countWords_39 rfl rfl ?_
      obtain ⟨c7, h⟩ := xck h
      refine x_laldK (jn := (Int32.toNatClampNeg l2)) (v := (a39 (Int32.toNatClampNeg l2))) dX9_countWords_40 (by decide) rfl (xin_ok c7) rfl rfl ?_
      refine x_aload_n dX9_countWords_41 rfl ?_
      refine g_X9_18 rfl dX9_countWords_42 (by decide) rfl rfl ?_
      refine x_iload_n dX9_countWords_45 rfl ?_
      obtain ⟨c8, h⟩ := xck h
      refine x_ialdK (jn := (Int32.toNatClampNeg l1)) (v := (a41 (Int32.toNatClampNeg l1))) dX9_countWords_46 (by decide) rfl (xin_ok c8) rfl rfl ?_
      refine x_i2l dX9_countWords_47 ?_
      refine x_aload_n dX9_countWords_48 rfl ?_
      refine g_X9_15 rfl dX9_countWords_49 (by decide) rfl rfl ?_
      refine x_iload_n dX9_countWords_52 rfl ?_
      obtain ⟨c9, h⟩ := xck h
      refine x_laldK (jn := (Int32.toNatClampNeg l2)) (v := (a40 (Int32.toNatClampNeg l2))) dX9_countWords_53 (by decide) rfl (xin_ok c9) rfl rfl ?_
      refine x_lmul dX9_countWords_54 ?_
      refine x_ladd dX9_countWords_55 ?_
      obtain ⟨c10, h⟩ := xck h
      refine x_lastK (jn := (Int32.toNatClampNeg l2)) (L' := [(38, _), (39, _), (40, _), (41, _)]) dX9_countWords_56 (by decide) rfl (xin_ok c10) rfl rfl ?_
      refine x_iinc (v := l2 + 1) (ls' := [_, _, _]) dX9_countWords_57 rfl rfl rfl rfl ?_
      refine x_goto (tgt := 28) dX9_countWords_60 (by decide) ?_
      show V yX9_countWords cX9_countWords none 2 61 (0, 0) 28 [some (.ref 38), some (.int l1), some (.int ((l2 + 1)))] [] (xof s0 [W_38 o38, W_39 (vp_updL a39 ((Int32.toNatClampNeg l2)) (((a39 (Int32.toNatClampNeg l2)) + ((Int32.toInt64 (a41 (Int32.toNatClampNeg l1))) * (a40 (Int32.toNatClampNeg l2)))))), W_40 a40, W_41 a41]) _
      exact ih ((l2 + 1)) (vp_updL a39 ((Int32.toNatClampNeg l2)) (((a39 (Int32.toNatClampNeg l2)) + ((Int32.toInt64 (a41 (Int32.toNatClampNeg l1))) * (a40 (Int32.toNatClampNeg l2)))))) _ h hk
def l_X9_countWords_38_6 (n : Nat) (o38 : Nat → Int32) (a41 : Nat → Int32) : Nat → (Int32) → (Nat → Int64) → (Nat → Int64) → Option (((Int32) × (Nat → Int64) × (Nat → Int64)))
  | 0, _, _, _ => none
  | k + 1, l1, a39, a40 => (if 40 < l1 then (some (l1, a39, a40)) else (bif xin l1 41 then (if (a41 (Int32.toNatClampNeg l1)) ≤ 0 then (l_X9_countWords_38_6 n o38 a41 k ((l1 + 1)) a39 a40) else (Option.bind (f_X9_addUpSigns_38 n o38 a40 l1) (fun q5 => (Option.bind (l_X9_countWords_38_28 n o38 q5 a41 l1 n 0 a39) (fun u11 => (l_X9_countWords_38_6 n o38 a41 k ((l1 + 1)) u11.2 q5)))))) else none))
set_option maxRecDepth 100000 in
set_option maxHeartbeats 400000 in
theorem lv_X9_countWords_38_6 (s0 : XW) (n : Nat) (o38 : Nat → Int32) (a41 : Nat → Int32) (Q : Nat → Option Value → XW → Prop) : ∀ (k : Nat) (l1 : Int32) (a39 : Nat → Int64) (a40 : Nat → Int64) (o : ((Int32) × (Nat → Int64) × (Nat → Int64))), l_X9_countWords_38_6 n o38 a41 k l1 a39 a40 = some o → (V yX9_countWords cX9_countWords none 2 61 (0, 0) 69 [some (.ref 38), none, none] [] (xof s0 [W_38 o38, W_39 o.2.1, W_40 o.2.2, W_41 a41]) Q) → V yX9_countWords cX9_countWords none 2 61 (0, 0) 6 [some (.ref 38), some (.int l1), none] [] (xof s0 [W_38 o38, W_39 a39, W_40 a40, W_41 a41]) Q := by
  intro k
  induction k with
  | zero =>
    intro _ _ _ _ h
    simp [l_X9_countWords_38_6] at h
  | succ k ih =>
    intro l1 a39 a40 o h hk
    rw [l_X9_countWords_38_6] at h
    refine x_iload_n dX9_countWords_6 rfl ?_
    refine x_bipush (v := 40) dX9_countWords_7 (by decide) ?_
    refine x_icmp_gt (tgt := 69) dX9_countWords_9 (by decide) (fun c2 => ?_) (fun c2 => ?_)
    · replace h := xif_p c2 h
      refine V.drop1 (i := 1) (ls' := [_, _, _]) rfl ?_
      show V yX9_countWords cX9_countWords none 2 61 (0, 0) 69 [some (.ref 38), none, none] [] (xof s0 [W_38 o38, W_39 a39, W_40 a40, W_41 a41]) _
      cases h
      exact hk
    · replace h := xif_n c2 h
      refine x_aload_n dX9_countWords_12 rfl ?_
      refine g_X9_18 rfl dX9_countWords_13 (by decide) rfl rfl ?_
      refine x_iload_n dX9_countWords_16 rfl ?_
      obtain ⟨c3, h⟩ := xck h
      refine x_ialdK (jn := (Int32.toNatClampNeg l1)) (v := (a41 (Int32.toNatClampNeg l1))) dX9_countWords_17 (by decide) rfl (xin_ok c3) rfl rfl ?_
      refine x_if_le (tgt := 63) dX9_countWords_18 (by decide) (fun c4 => ?_) (fun c4 => ?_)
      · replace h := xif_p c4 h
        refine x_iinc (v := l1 + 1) (ls' := [_, _, _]) dX9_countWords_63 rfl rfl rfl rfl ?_
        refine x_goto (tgt := 6) dX9_countWords_66 (by decide) ?_
        show V yX9_countWords cX9_countWords none 2 61 (0, 0) 6 [some (.ref 38), some (.int ((l1 + 1))), none] [] (xof s0 [W_38 o38, W_39 a39, W_40 a40, W_41 a41]) _
        exact ih ((l1 + 1)) a39 a40 _ h hk
      · replace h := xif_n c4 h
        refine x_aload_n dX9_countWords_21 rfl ?_
        refine x_iload_n dX9_countWords_22 rfl ?_
        obtain ⟨q5, hq5, h⟩ := Option.bind_eq_some_iff.mp h
        refine y_callVv (L' := [(38, _), (39, _), (40, _), (41, _)]) mi_X9_addUpSigns ml_X9_36 im_X9_addUpSigns se_X9_addUpSigns (rfl : vwCl[8]? = _) dX9_countWords_23 (fun s1 => v_X9_addUpSigns_38 s1 n _ _ _ q5 hq5) (by decide) rfl (Nat.le_of_ble_eq_true rfl) rfl (by decide) (Nat.le_of_ble_eq_true rfl) rfl rfl rfl rfl ?_
        refine x_iconst (v := 0) dX9_countWords_26 (by decide) ?_
        refine x_istore_n (ls' := [_, _, _]) dX9_countWords_27 rfl rfl ?_
        obtain ⟨u11, hu11, h⟩ := Option.bind_eq_some_iff.mp h
        show V yX9_countWords cX9_countWords none 2 61 (0, 0) 28 [some (.ref 38), some (.int l1), some (.int 0)] [] (xof s0 [W_38 o38, W_39 a39, W_40 q5, W_41 a41]) _
        refine lv_X9_countWords_38_28 s0 _ o38 q5 a41 l1 _ n 0 a39 _ hu11 ?_
        refine x_iinc (v := l1 + 1) (ls' := [_, _, _]) dX9_countWords_63 rfl rfl rfl rfl ?_
        refine x_goto (tgt := 6) dX9_countWords_66 (by decide) ?_
        show V yX9_countWords cX9_countWords none 2 61 (0, 0) 6 [some (.ref 38), some (.int ((l1 + 1))), none] [] (xof s0 [W_38 o38, W_39 u11.2, W_40 q5, W_41 a41]) _
        exact ih ((l1 + 1)) u11.2 q5 _ h hk
def l_X9_countWords_38_71 (n : Nat) (o38 : Nat → Int32) (a40 : Nat → Int64) (a41 : Nat → Int32) : Nat → (Int32) → (Nat → Int64) → Option (((Int32) × (Nat → Int64)))
  | 0, _, _ => none
  | k + 1, l1, a39 => (if 40 < l1 then (some (l1, a39)) else (bif xin l1 41 then (bif xin l1 41 then (l_X9_countWords_38_71 n o38 a40 a41 k ((l1 + 1)) (vp_updL a39 ((Int32.toNatClampNeg l1)) (((a39 (Int32.toNatClampNeg l1)) / 256)))) else none) else none))
set_option maxRecDepth 100000 in
set_option maxHeartbeats 400000 in
theorem lv_X9_countWords_38_71 (s0 : XW) (n : Nat) (o38 : Nat → Int32) (a40 : Nat → Int64) (a41 : Nat → Int32) (Q : Nat → Option Value → XW → Prop) : ∀ (k : Nat) (l1 : Int32) (a39 : Nat → Int64) (o : ((Int32) × (Nat → Int64))), l_X9_countWords_38_71 n o38 a40 a41 k l1 a39 = some o → (V yX9_countWords cX9_countWords none 2 61 (0, 0) 95 [none, none, none] [] (xof s0 [W_38 o38, W_39 o.2, W_40 a40, W_41 a41]) Q) → V yX9_countWords cX9_countWords none 2 61 (0, 0) 71 [some (.ref 38), some (.int l1), none] [] (xof s0 [W_38 o38, W_39 a39, W_40 a40, W_41 a41]) Q := by
  intro k
  induction k with
  | zero =>
    intro _ _ _ h
    simp [l_X9_countWords_38_71] at h
  | succ k ih =>
    intro l1 a39 o h hk
    rw [l_X9_countWords_38_71] at h
    refine x_iload_n dX9_countWords_71 rfl ?_
    refine x_bipush (v := 40) dX9_countWords_72 (by decide) ?_
    refine x_icmp_gt (tgt := 95) dX9_countWords_74 (by decide) (fun c13 => ?_) (fun c13 => ?_)
    · replace h := xif_p c13 h
      refine V.drop1 (i := 0) (ls' := [_, _, _]) rfl ?_
      refine V.drop1 (i := 1) (ls' := [_, _, _]) rfl ?_
      show V yX9_countWords cX9_countWords none 2 61 (0, 0) 95 [none, none, none] [] (xof s0 [W_38 o38, W_39 a39, W_40 a40, W_41 a41]) _
      cases h
      exact hk
    · replace h := xif_n c13 h
      refine x_aload_n dX9_countWords_77 rfl ?_
      refine g_X9_9 rfl dX9_countWords_78 (by decide) rfl rfl ?_
      refine x_iload_n dX9_countWords_81 rfl ?_
      refine x_dup2 dX9_countWords_82 rfl rfl ?_
      obtain ⟨c14, h⟩ := xck h
      refine x_laldK (jn := (Int32.toNatClampNeg l1)) (v := (a39 (Int32.toNatClampNeg l1))) dX9_countWords_83 (by decide) rfl (xin_ok c14) rfl rfl ?_
      refine x_ldc2 dX9_countWords_84 cn_X9_40 ?_
      refine x_ldiv dX9_countWords_87 (by decide) ?_
      obtain ⟨c15, h⟩ := xck h
      refine x_lastK (jn := (Int32.toNatClampNeg l1)) (L' := [(38, _), (39, _), (40, _), (41, _)]) dX9_countWords_88 (by decide) rfl (xin_ok c15) rfl rfl ?_
      refine x_iinc (v := l1 + 1) (ls' := [_, _, _]) dX9_countWords_89 rfl rfl rfl rfl ?_
      refine x_goto (tgt := 71) dX9_countWords_92 (by decide) ?_
      show V yX9_countWords cX9_countWords none 2 61 (0, 0) 71 [some (.ref 38), some (.int ((l1 + 1))), none] [] (xof s0 [W_38 o38, W_39 (vp_updL a39 ((Int32.toNatClampNeg l1)) (((a39 (Int32.toNatClampNeg l1)) / 256))), W_40 a40, W_41 a41]) _
      exact ih ((l1 + 1)) (vp_updL a39 ((Int32.toNatClampNeg l1)) (((a39 (Int32.toNatClampNeg l1)) / 256))) _ h hk
def f_X9_countWords_38 (n : Nat) (o38 : Nat → Int32) (a39 : Nat → Int64) (a40 : Nat → Int64) (a41 : Nat → Int32)  : Option (((Nat → Int64) × (Nat → Int64) × (Nat → Int32))) := (Option.bind (f_X9_countMasks_38 n o38 a41) (fun q1 => (Option.bind (l_X9_countWords_38_6 n o38 q1 n 0 a39 a40) (fun u12 => (Option.bind (l_X9_countWords_38_71 n o38 u12.2.2 q1 n 0 u12.2.1) (fun u16 => (some (u16.2, u12.2.2, q1))))))))
set_option maxRecDepth 100000 in
set_option maxHeartbeats 400000 in
theorem v_X9_countWords_38 (s0 : XW) (n : Nat) (o38 : Nat → Int32) (a39 : Nat → Int64) (a40 : Nat → Int64) (a41 : Nat → Int32)  (q : ((Nat → Int64) × (Nat → Int64) × (Nat → Int32))) (h : f_X9_countWords_38 n o38 a39 a40 a41 = some q) : C_X9_countWords 2 61 [.ref 38] (xof s0 [W_38 o38, W_39 a39, W_40 a40, W_41 a41]) none (xof s0 [W_38 o38, W_39 q.1, W_40 q.2.1, W_41 q.2.2]) := by
  unfold f_X9_countWords_38 at h
  show V yX9_countWords cX9_countWords none 2 61 (0, 0) 0 [some (.ref 38), none, none] [] (xof s0 [W_38 o38, W_39 a39, W_40 a40, W_41 a41]) _
  refine x_aload_n dX9_countWords_0 rfl ?_
  obtain ⟨q1, hq1, h⟩ := Option.bind_eq_some_iff.mp h
  refine y_callVv (L' := [(38, _), (39, _), (40, _), (41, _)]) mi_X9_countMasks ml_X9_33 im_X9_countMasks se_X9_countMasks (rfl : vwCl[8]? = _) dX9_countWords_1 (fun s1 => v_X9_countMasks_38 s1 n _ _ q1 hq1) (by decide) rfl (Nat.le_of_ble_eq_true rfl) rfl (by decide) (Nat.le_of_ble_eq_true rfl) rfl rfl rfl rfl ?_
  refine x_iconst (v := 0) dX9_countWords_4 (by decide) ?_
  refine x_istore_n (ls' := [_, _, _]) dX9_countWords_5 rfl rfl ?_
  obtain ⟨u12, hu12, h⟩ := Option.bind_eq_some_iff.mp h
  show V yX9_countWords cX9_countWords none 2 61 (0, 0) 6 [some (.ref 38), some (.int 0), none] [] (xof s0 [W_38 o38, W_39 a39, W_40 a40, W_41 q1]) _
  refine lv_X9_countWords_38_6 s0 _ o38 q1 _ n 0 a39 a40 _ hu12 ?_
  refine x_iconst (v := 0) dX9_countWords_69 (by decide) ?_
  refine x_istore_n (ls' := [_, _, _]) dX9_countWords_70 rfl rfl ?_
  obtain ⟨u16, hu16, h⟩ := Option.bind_eq_some_iff.mp h
  show V yX9_countWords cX9_countWords none 2 61 (0, 0) 71 [some (.ref 38), some (.int 0), none] [] (xof s0 [W_38 o38, W_39 u12.2.1, W_40 u12.2.2, W_41 q1]) _
  refine lv_X9_countWords_38_71 s0 _ o38 u12.2.2 q1 _ n 0 u12.2.1 _ hu16 ?_
  cases h
  exact x_vret dX9_countWords_95 ⟨rfl, rfl, rfl⟩
def b_X9_wordsOf_38_16 (n : Nat) (o38 : Nat → Int32) (a39 : Nat → Int64) (a40 : Nat → Int64) (a41 : Nat → Int32) (l1 : Int32) : Option (((Int64) × (Nat → Int32) × (Nat → Int64) × (Nat → Int64) × (Nat → Int32))) := (if l1 < 0 then (some (0, o38, a39, a40, a41)) else (if 41 ≤ l1 then (some (0, o38, a39, a40, a41)) else (bif xin l1 41 then (some ((a39 (Int32.toNatClampNeg l1)), o38, a39, a40, a41)) else none)))
set_option maxRecDepth 100000 in
set_option maxHeartbeats 400000 in
theorem vb_X9_wordsOf_38_16 (s0 : XW) (n : Nat) (o38 : Nat → Int32) (a39 : Nat → Int64) (a40 : Nat → Int64) (a41 : Nat → Int32) (l1 : Int32) (q : ((Int64) × (Nat → Int32) × (Nat → Int64) × (Nat → Int64) × (Nat → Int32))) (h : b_X9_wordsOf_38_16 n o38 a39 a40 a41 l1 = some q) : V yX9_wordsOf cX9_wordsOf (some .long) 3 61 (0, 0) 16 [some (.ref 38), some (.int l1)] [] (xof s0 [W_38 o38, W_39 a39, W_40 a40, W_41 a41]) (xq 61 (some (.long q.1)) (xof s0 [W_38 q.2.1, W_39 q.2.2.1, W_40 q.2.2.2.1, W_41 q.2.2.2.2])) := by
  unfold b_X9_wordsOf_38_16 at h
  refine x_iload_n dX9_wordsOf_16 rfl ?_
  refine x_if_lt (tgt := 38) dX9_wordsOf_17 (by decide) (fun c2 => ?_) (fun c2 => ?_)
  · replace h := xif_p c2 h
    refine x_lconst (v := 0) dX9_wordsOf_38 (by decide) ?_
    cases h
    exact x_lret dX9_wordsOf_39 ⟨rfl, rfl, rfl⟩
  · replace h := xif_n c2 h
    refine x_iload_n dX9_wordsOf_20 rfl ?_
    refine x_aload_n dX9_wordsOf_21 rfl ?_
    refine g_X9_9 rfl dX9_wordsOf_22 (by decide) rfl rfl ?_
    refine x_alen (v := 41) dX9_wordsOf_25 (by decide) rfl (by decide) rfl ?_
    refine x_icmp_ge (tgt := 38) dX9_wordsOf_26 (by decide) (fun c3 => ?_) (fun c3 => ?_)
    · replace h := xif_p c3 h
      refine x_lconst (v := 0) dX9_wordsOf_38 (by decide) ?_
      cases h
      exact x_lret dX9_wordsOf_39 ⟨rfl, rfl, rfl⟩
    · replace h := xif_n c3 h
      refine x_aload_n dX9_wordsOf_29 rfl ?_
      refine g_X9_9 rfl dX9_wordsOf_30 (by decide) rfl rfl ?_
      refine x_iload_n dX9_wordsOf_33 rfl ?_
      obtain ⟨c4, h⟩ := xck h
      refine x_laldK (jn := (Int32.toNatClampNeg l1)) (v := (a39 (Int32.toNatClampNeg l1))) dX9_wordsOf_34 (by decide) rfl (xin_ok c4) rfl rfl ?_
      refine x_goto (tgt := 39) dX9_wordsOf_35 (by decide) ?_
      cases h
      exact x_lret dX9_wordsOf_39 ⟨rfl, rfl, rfl⟩
def f_X9_wordsOf_38 (n : Nat) (o38 : Nat → Int32) (a39 : Nat → Int64) (a40 : Nat → Int64) (a41 : Nat → Int32) (p1 : Int32) : Option (((Int64) × (Nat → Int32) × (Nat → Int64) × (Nat → Int64) × (Nat → Int32))) := (if (o38 3) = 0 then (Option.bind (f_X9_countWords_38 n o38 a39 a40 a41) (fun q5 => (b_X9_wordsOf_38_16 n (upd o38 3 1) q5.1 q5.2.1 q5.2.2 p1))) else (b_X9_wordsOf_38_16 n o38 a39 a40 a41 p1))
set_option maxRecDepth 100000 in
set_option maxHeartbeats 400000 in
theorem v_X9_wordsOf_38 (s0 : XW) (n : Nat) (o38 : Nat → Int32) (a39 : Nat → Int64) (a40 : Nat → Int64) (a41 : Nat → Int32) (p1 : Int32) (q : ((Int64) × (Nat → Int32) × (Nat → Int64) × (Nat → Int64) × (Nat → Int32))) (h : f_X9_wordsOf_38 n o38 a39 a40 a41 p1 = some q) : C_X9_wordsOf 3 61 [.ref 38, .int p1] (xof s0 [W_38 o38, W_39 a39, W_40 a40, W_41 a41]) (some (.long q.1)) (xof s0 [W_38 q.2.1, W_39 q.2.2.1, W_40 q.2.2.2.1, W_41 q.2.2.2.2]) := by
  unfold f_X9_wordsOf_38 at h
  show V yX9_wordsOf cX9_wordsOf (some .long) 3 61 (0, 0) 0 [some (.ref 38), some (.int p1)] [] (xof s0 [W_38 o38, W_39 a39, W_40 a40, W_41 a41]) _
  refine x_aload_n dX9_wordsOf_0 rfl ?_
  refine g_X9_22 rfl dX9_wordsOf_1 (by decide) rfl rfl ?_
  refine x_if_ne (tgt := 16) dX9_wordsOf_4 (by decide) (fun c1 => ?_) (fun c1 => ?_)
  · replace h := xif_n c1 h
    show V yX9_wordsOf cX9_wordsOf (some .long) 3 61 (0, 0) 16 [some (.ref 38), some (.int p1)] [] (xof s0 [W_38 o38, W_39 a39, W_40 a40, W_41 a41]) _
    exact vb_X9_wordsOf_38_16 s0 n o38 a39 a40 a41 p1 q h
  · replace h := xif_p c1 h
    refine x_aload_n dX9_wordsOf_7 rfl ?_
    obtain ⟨q5, hq5, h⟩ := Option.bind_eq_some_iff.mp h
    refine y_callVv (L' := [(38, _), (39, _), (40, _), (41, _)]) mi_X9_countWords ml_X9_26 im_X9_countWords se_X9_countWords (rfl : vwCl[8]? = _) dX9_wordsOf_8 (fun s1 => v_X9_countWords_38 s1 n _ _ _ _ q5 hq5) (by decide) rfl (Nat.le_of_ble_eq_true rfl) rfl (by decide) (Nat.le_of_ble_eq_true rfl) rfl rfl rfl rfl ?_
    refine x_aload_n dX9_wordsOf_11 rfl ?_
    refine x_iconst (v := 1) dX9_wordsOf_12 (by decide) ?_
    refine p_X9_22 (fs' := [_, _, _, _]) (L' := [(38, _), (39, _), (40, _), (41, _)]) rfl dX9_wordsOf_13 (Or.inr rfl) (by decide) rfl (Nat.le_of_ble_eq_true rfl) rfl rfl ?_
    show V yX9_wordsOf cX9_wordsOf (some .long) 3 61 (0, 0) 16 [some (.ref 38), some (.int p1)] [] (xof s0 [W_38 (upd o38 3 1), W_39 q5.1, W_40 q5.2.1, W_41 q5.2.2]) _
    exact vb_X9_wordsOf_38_16 s0 n (upd o38 3 1) q5.1 q5.2.1 q5.2.2 p1 q h
def f_X11_words_0 (n : Nat) (o38 : Nat → Int32) (a39 : Nat → Int64) (a40 : Nat → Int64) (a41 : Nat → Int32) (p1 : Int32) : Option (((Int64) × (Nat → Int32) × (Nat → Int64) × (Nat → Int64) × (Nat → Int32))) := (Option.bind (f_X11_isWithin p1 0 40) (fun q1 => (if q1 = 0 then (some ((-3), o38, a39, a40, a41)) else (Option.bind (f_X9_wordsOf_38 n o38 a39 a40 a41 p1) (fun q3 => (some (q3.1, q3.2.1, q3.2.2.1, q3.2.2.2.1, q3.2.2.2.2)))))))
set_option maxRecDepth 100000 in
set_option maxHeartbeats 400000 in
theorem v_X11_words_0 (s0 : XW) (n : Nat) (o38 : Nat → Int32) (a39 : Nat → Int64) (a40 : Nat → Int64) (a41 : Nat → Int32) (p1 : Int32) (q : ((Int64) × (Nat → Int32) × (Nat → Int64) × (Nat → Int64) × (Nat → Int32))) (h : f_X11_words_0 n o38 a39 a40 a41 p1 = some q) : C_X11_words 4 61 [.ref 0, .int p1] (xof s0 [W_0, W_38 o38, W_39 a39, W_40 a40, W_41 a41]) (some (.long q.1)) (xof s0 [W_0, W_38 q.2.1, W_39 q.2.2.1, W_40 q.2.2.2.1, W_41 q.2.2.2.2]) := by
  unfold f_X11_words_0 at h
  show V yX11_words cX11_words (some .long) 4 61 (0, 0) 0 [some (.ref 0), some (.int p1)] [] (xof s0 [W_0, W_38 o38, W_39 a39, W_40 a40, W_41 a41]) _
  refine x_iload_n dX11_words_0 rfl ?_
  refine x_iconst (v := 0) dX11_words_1 (by decide) ?_
  refine x_bipush (v := 40) dX11_words_2 (by decide) ?_
  obtain ⟨q1, hq1, h⟩ := Option.bind_eq_some_iff.mp h
  refine y_callSi (L' := [(0, _), (38, _), (39, _), (40, _), (41, _)]) mi_X11_isWithin ml_X11_100 st_X11_isWithin dX11_words_4 (fun s1 => v_X11_isWithin 61 s1 _ _ _ q1 hq1) (Nat.le_of_ble_eq_true rfl) rfl (by decide) (Nat.le_of_ble_eq_true rfl) rfl rfl rfl rfl ?_
  refine x_if_eq (tgt := 21) dX11_words_7 (by decide) (fun c2 => ?_) (fun c2 => ?_)
  · replace h := xif_p c2 h
    refine x_ldc2 dX11_words_21 cn_X11_330 ?_
    cases h
    exact x_lret dX11_words_24 ⟨rfl, rfl, rfl⟩
  · replace h := xif_n c2 h
    refine x_aload_n dX11_words_10 rfl ?_
    refine g_X11_77 rfl dX11_words_11 (by decide) rfl rfl ?_
    refine x_iload_n dX11_words_14 rfl ?_
    obtain ⟨q3, hq3, h⟩ := Option.bind_eq_some_iff.mp h
    refine y_callVl (L' := [(0, _), (38, _), (39, _), (40, _), (41, _)]) mi_X9_wordsOf ml_X11_326 im_X9_wordsOf se_X9_wordsOf (rfl : vwCl[8]? = _) dX11_words_15 (fun s1 => v_X9_wordsOf_38 s1 n _ _ _ _ _ q3 hq3) (by decide) rfl (Nat.le_of_ble_eq_true rfl) rfl (by decide) (Nat.le_of_ble_eq_true rfl) rfl rfl rfl rfl ?_
    refine x_goto (tgt := 24) dX11_words_18 (by decide) ?_
    cases h
    exact x_lret dX11_words_24 ⟨rfl, rfl, rfl⟩
def f_X9_oneBitOff_38 (n : Nat) (o38 : Nat → Int32) (a39 : Nat → Int64) (a40 : Nat → Int64) (a41 : Nat → Int32) (p1 : Int32) : Option (((Int64) × (Nat → Int32) × (Nat → Int64) × (Nat → Int64) × (Nat → Int32))) := (Option.bind (f_X9_wordsOf_38 n o38 a39 a40 a41 ((p1 - 1))) (fun q1 => (Option.bind (f_X9_wordsOf_38 n q1.2.1 q1.2.2.1 q1.2.2.2.1 q1.2.2.2.2 ((p1 + 1))) (fun q2 => (some ((((Int32.toInt64 (41 - p1)) * q1.1) + ((Int32.toInt64 (p1 + 1)) * q2.1)), q2.2.1, q2.2.2.1, q2.2.2.2.1, q2.2.2.2.2))))))
set_option maxRecDepth 100000 in
set_option maxHeartbeats 400000 in
theorem v_X9_oneBitOff_38 (s0 : XW) (n : Nat) (o38 : Nat → Int32) (a39 : Nat → Int64) (a40 : Nat → Int64) (a41 : Nat → Int32) (p1 : Int32) (q : ((Int64) × (Nat → Int32) × (Nat → Int64) × (Nat → Int64) × (Nat → Int32))) (h : f_X9_oneBitOff_38 n o38 a39 a40 a41 p1 = some q) : C_X9_oneBitOff 4 61 [.ref 38, .int p1] (xof s0 [W_38 o38, W_39 a39, W_40 a40, W_41 a41]) (some (.long q.1)) (xof s0 [W_38 q.2.1, W_39 q.2.2.1, W_40 q.2.2.2.1, W_41 q.2.2.2.2]) := by
  unfold f_X9_oneBitOff_38 at h
  show V yX9_oneBitOff cX9_oneBitOff (some .long) 4 61 (0, 0) 0 [some (.ref 38), some (.int p1)] [] (xof s0 [W_38 o38, W_39 a39, W_40 a40, W_41 a41]) _
  refine x_bipush (v := 41) dX9_oneBitOff_0 (by decide) ?_
  refine x_iload_n dX9_oneBitOff_2 rfl ?_
  refine x_isub dX9_oneBitOff_3 ?_
  refine x_i2l dX9_oneBitOff_4 ?_
  refine x_aload_n dX9_oneBitOff_5 rfl ?_
  refine x_iload_n dX9_oneBitOff_6 rfl ?_
  refine x_iconst (v := 1) dX9_oneBitOff_7 (by decide) ?_
  refine x_isub dX9_oneBitOff_8 ?_
  obtain ⟨q1, hq1, h⟩ := Option.bind_eq_some_iff.mp h
  refine y_callVl (L' := [(38, _), (39, _), (40, _), (41, _)]) mi_X9_wordsOf ml_X9_29 im_X9_wordsOf se_X9_wordsOf (rfl : vwCl[8]? = _) dX9_oneBitOff_9 (fun s1 => v_X9_wordsOf_38 s1 n _ _ _ _ _ q1 hq1) (by decide) rfl (Nat.le_of_ble_eq_true rfl) rfl (by decide) (Nat.le_of_ble_eq_true rfl) rfl rfl rfl rfl ?_
  refine x_lmul dX9_oneBitOff_12 ?_
  refine x_iload_n dX9_oneBitOff_13 rfl ?_
  refine x_iconst (v := 1) dX9_oneBitOff_14 (by decide) ?_
  refine x_iadd dX9_oneBitOff_15 ?_
  refine x_i2l dX9_oneBitOff_16 ?_
  refine x_aload_n dX9_oneBitOff_17 rfl ?_
  refine x_iload_n dX9_oneBitOff_18 rfl ?_
  refine x_iconst (v := 1) dX9_oneBitOff_19 (by decide) ?_
  refine x_iadd dX9_oneBitOff_20 ?_
  obtain ⟨q2, hq2, h⟩ := Option.bind_eq_some_iff.mp h
  refine y_callVl (L' := [(38, _), (39, _), (40, _), (41, _)]) mi_X9_wordsOf ml_X9_29 im_X9_wordsOf se_X9_wordsOf (rfl : vwCl[8]? = _) dX9_oneBitOff_21 (fun s1 => v_X9_wordsOf_38 s1 n _ _ _ _ _ q2 hq2) (by decide) rfl (Nat.le_of_ble_eq_true rfl) rfl (by decide) (Nat.le_of_ble_eq_true rfl) rfl rfl rfl rfl ?_
  refine x_lmul dX9_oneBitOff_24 ?_
  refine x_ladd dX9_oneBitOff_25 ?_
  cases h
  exact x_lret dX9_oneBitOff_26 ⟨rfl, rfl, rfl⟩
def l_X9_rowsOf_4 (n : Nat) (l0 : Int32) : Nat → (Int64) → (Int32) → Option (((Int64) × (Int32)))
  | 0, _, _ => none
  | k + 1, l1, l3 => (if l0 ≤ l3 then (some (l1, l3)) else (bif xnzl (Int32.toInt64 (l3 + 1)) then (l_X9_rowsOf_4 n l0 k (((l1 * (Int32.toInt64 (40 - l3))) / (Int32.toInt64 (l3 + 1)))) ((l3 + 1))) else none))
set_option maxRecDepth 100000 in
set_option maxHeartbeats 400000 in
theorem lv_X9_rowsOf_4 (N : Nat) (s0 : XW) (n : Nat) (l0 : Int32) (Q : Nat → Option Value → XW → Prop) : ∀ (k : Nat) (l1 : Int64) (l3 : Int32) (o : ((Int64) × (Int32))), l_X9_rowsOf_4 n l0 k l1 l3 = some o → (V yX9_rowsOf cX9_rowsOf (some .long) 0 N (0, 0) 28 [none, some (.long o.1), none, none] [] (xof s0 []) Q) → V yX9_rowsOf cX9_rowsOf (some .long) 0 N (0, 0) 4 [some (.int l0), some (.long l1), none, some (.int l3)] [] (xof s0 []) Q := by
  intro k
  induction k with
  | zero =>
    intro _ _ _ h
    simp [l_X9_rowsOf_4] at h
  | succ k ih =>
    intro l1 l3 o h hk
    rw [l_X9_rowsOf_4] at h
    refine x_iload_n dX9_rowsOf_4 rfl ?_
    refine x_iload_n dX9_rowsOf_5 rfl ?_
    refine x_icmp_ge (tgt := 28) dX9_rowsOf_6 (by decide) (fun c1 => ?_) (fun c1 => ?_)
    · replace h := xif_p c1 h
      refine V.drop1 (i := 0) (ls' := [_, _, _, _]) rfl ?_
      refine V.drop1 (i := 3) (ls' := [_, _, _, _]) rfl ?_
      show V yX9_rowsOf cX9_rowsOf (some .long) 0 N (0, 0) 28 [none, some (.long l1), none, none] [] (xof s0 []) _
      cases h
      exact hk
    · replace h := xif_n c1 h
      refine x_lload_n dX9_rowsOf_9 rfl ?_
      refine x_bipush (v := 40) dX9_rowsOf_10 (by decide) ?_
      refine x_iload_n dX9_rowsOf_12 rfl ?_
      refine x_isub dX9_rowsOf_13 ?_
      refine x_i2l dX9_rowsOf_14 ?_
      refine x_lmul dX9_rowsOf_15 ?_
      refine x_iload_n dX9_rowsOf_16 rfl ?_
      refine x_iconst (v := 1) dX9_rowsOf_17 (by decide) ?_
      refine x_iadd dX9_rowsOf_18 ?_
      refine x_i2l dX9_rowsOf_19 ?_
      obtain ⟨c2, h⟩ := xck h
      refine x_ldiv dX9_rowsOf_20 (xnzl_ok c2) ?_
      refine x_lstore_n (ls' := [_, _, _, _]) dX9_rowsOf_21 rfl rfl ?_
      refine x_iinc (v := l3 + 1) (ls' := [_, _, _, _]) dX9_rowsOf_22 rfl rfl rfl rfl ?_
      refine x_goto (tgt := 4) dX9_rowsOf_25 (by decide) ?_
      show V yX9_rowsOf cX9_rowsOf (some .long) 0 N (0, 0) 4 [some (.int l0), some (.long (((l1 * (Int32.toInt64 (40 - l3))) / (Int32.toInt64 (l3 + 1))))), none, some (.int ((l3 + 1)))] [] (xof s0 []) _
      exact ih (((l1 * (Int32.toInt64 (40 - l3))) / (Int32.toInt64 (l3 + 1)))) ((l3 + 1)) _ h hk
def f_X9_rowsOf (n : Nat)  (p0 : Int32) : Option Int64 := (Option.bind (l_X9_rowsOf_4 n p0 n 1 0) (fun u3 => (some u3.1)))
set_option maxRecDepth 100000 in
set_option maxHeartbeats 400000 in
theorem v_X9_rowsOf (N : Nat) (s0 : XW) (n : Nat)  (p0 : Int32) (q : Int64) (h : f_X9_rowsOf n p0 = some q) : C_X9_rowsOf 0 N [.int p0] (xof s0 []) (some (.long q)) (xof s0 []) := by
  unfold f_X9_rowsOf at h
  show V yX9_rowsOf cX9_rowsOf (some .long) 0 N (0, 0) 0 [some (.int p0), none, none, none] [] (xof s0 []) _
  refine x_lconst (v := 1) dX9_rowsOf_0 (by decide) ?_
  refine x_lstore_n (ls' := [_, _, _, _]) dX9_rowsOf_1 rfl rfl ?_
  refine x_iconst (v := 0) dX9_rowsOf_2 (by decide) ?_
  refine x_istore_n (ls' := [_, _, _, _]) dX9_rowsOf_3 rfl rfl ?_
  obtain ⟨u3, hu3, h⟩ := Option.bind_eq_some_iff.mp h
  show V yX9_rowsOf cX9_rowsOf (some .long) 0 N (0, 0) 4 [some (.int p0), some (.long 1), none, some (.int 0)] [] (xof s0 []) _
  refine lv_X9_rowsOf_4 N s0 _ p0 _ n 1 0 _ hu3 ?_
  refine x_lload_n dX9_rowsOf_28 rfl ?_
  cases h
  exact x_lret dX9_rowsOf_29 ⟨rfl, rfl, rfl⟩
def f_X11_cases_0 (n : Nat) (o38 : Nat → Int32) (a39 : Nat → Int64) (a40 : Nat → Int64) (a41 : Nat → Int32) (p1 : Int32) (p2 : Int32) : Option (((Int64) × (Nat → Int32) × (Nat → Int64) × (Nat → Int64) × (Nat → Int32))) := (Option.bind (f_X11_isWithin p2 0 2) (fun q1 => (if q1 = 0 then (some ((-2), o38, a39, a40, a41)) else (Option.bind (f_X11_isWithin p1 0 40) (fun q3 => (if q3 = 0 then (some ((-3), o38, a39, a40, a41)) else (Option.bind (f_X9_wordsOf_38 n o38 a39 a40 a41 p1) (fun q5 => (Option.bind (f_X9_oneBitOff_38 n q5.2.1 q5.2.2.1 q5.2.2.2.1 q5.2.2.2.2 p1) (fun q6 => (if p2 = 2 then (Option.bind (f_X9_rowsOf n p1) (fun q9 => (some (((q9 - q5.1) - q6.1), q6.2.1, q6.2.2.1, q6.2.2.2.1, q6.2.2.2.2)))) else (if p2 = 0 then (some (q5.1, q6.2.1, q6.2.2.1, q6.2.2.2.1, q6.2.2.2.2)) else (some (q6.1, q6.2.1, q6.2.2.1, q6.2.2.2.1, q6.2.2.2.2))))))))))))))
set_option maxRecDepth 100000 in
set_option maxHeartbeats 400000 in
theorem v_X11_cases_0 (s0 : XW) (n : Nat) (o38 : Nat → Int32) (a39 : Nat → Int64) (a40 : Nat → Int64) (a41 : Nat → Int32) (p1 : Int32) (p2 : Int32) (q : ((Int64) × (Nat → Int32) × (Nat → Int64) × (Nat → Int64) × (Nat → Int32))) (h : f_X11_cases_0 n o38 a39 a40 a41 p1 p2 = some q) : C_X11_cases 5 61 [.ref 0, .int p1, .int p2] (xof s0 [W_0, W_38 o38, W_39 a39, W_40 a40, W_41 a41]) (some (.long q.1)) (xof s0 [W_0, W_38 q.2.1, W_39 q.2.2.1, W_40 q.2.2.2.1, W_41 q.2.2.2.2]) := by
  unfold f_X11_cases_0 at h
  show V yX11_cases cX11_cases (some .long) 5 61 (0, 0) 0 [some (.ref 0), some (.int p1), some (.int p2), none, none, none, none] [] (xof s0 [W_0, W_38 o38, W_39 a39, W_40 a40, W_41 a41]) _
  refine x_iload_n dX11_cases_0 rfl ?_
  refine x_iconst (v := 0) dX11_cases_1 (by decide) ?_
  refine x_iconst (v := 2) dX11_cases_2 (by decide) ?_
  obtain ⟨q1, hq1, h⟩ := Option.bind_eq_some_iff.mp h
  refine y_callSi (L' := [(0, _), (38, _), (39, _), (40, _), (41, _)]) mi_X11_isWithin ml_X11_100 st_X11_isWithin dX11_cases_3 (fun s1 => v_X11_isWithin 61 s1 _ _ _ q1 hq1) (Nat.le_of_ble_eq_true rfl) rfl (by decide) (Nat.le_of_ble_eq_true rfl) rfl rfl rfl rfl ?_
  refine x_if_ne (tgt := 13) dX11_cases_6 (by decide) (fun c2 => ?_) (fun c2 => ?_)
  · replace h := xif_n c2 h
    refine x_iload_n dX11_cases_13 rfl ?_
    refine x_iconst (v := 0) dX11_cases_14 (by decide) ?_
    refine x_bipush (v := 40) dX11_cases_15 (by decide) ?_
    obtain ⟨q3, hq3, h⟩ := Option.bind_eq_some_iff.mp h
    refine y_callSi (L' := [(0, _), (38, _), (39, _), (40, _), (41, _)]) mi_X11_isWithin ml_X11_100 st_X11_isWithin dX11_cases_17 (fun s1 => v_X11_isWithin 61 s1 _ _ _ q3 hq3) (Nat.le_of_ble_eq_true rfl) rfl (by decide) (Nat.le_of_ble_eq_true rfl) rfl rfl rfl rfl ?_
    refine x_if_ne (tgt := 27) dX11_cases_20 (by decide) (fun c4 => ?_) (fun c4 => ?_)
    · replace h := xif_n c4 h
      refine x_aload_n dX11_cases_27 rfl ?_
      refine g_X11_77 rfl dX11_cases_28 (by decide) rfl rfl ?_
      refine x_iload_n dX11_cases_31 rfl ?_
      obtain ⟨q5, hq5, h⟩ := Option.bind_eq_some_iff.mp h
      refine y_callVl (L' := [(0, _), (38, _), (39, _), (40, _), (41, _)]) mi_X9_wordsOf ml_X11_326 im_X9_wordsOf se_X9_wordsOf (rfl : vwCl[8]? = _) dX11_cases_32 (fun s1 => v_X9_wordsOf_38 s1 n _ _ _ _ _ q5 hq5) (by decide) rfl (Nat.le_of_ble_eq_true rfl) rfl (by decide) (Nat.le_of_ble_eq_true rfl) rfl rfl rfl rfl ?_
      refine x_lstore_n (ls' := [_, _, _, _, _, _, _]) dX11_cases_35 rfl rfl ?_
      refine x_aload_n dX11_cases_36 rfl ?_
      refine g_X11_77 rfl dX11_cases_37 (by decide) rfl rfl ?_
      refine x_iload_n dX11_cases_40 rfl ?_
      obtain ⟨q6, hq6, h⟩ := Option.bind_eq_some_iff.mp h
      refine y_callVl (L' := [(0, _), (38, _), (39, _), (40, _), (41, _)]) mi_X9_oneBitOff ml_X11_334 im_X9_oneBitOff se_X9_oneBitOff (rfl : vwCl[8]? = _) dX11_cases_41 (fun s1 => v_X9_oneBitOff_38 s1 n _ _ _ _ _ q6 hq6) (by decide) rfl (Nat.le_of_ble_eq_true rfl) rfl (by decide) (Nat.le_of_ble_eq_true rfl) rfl rfl rfl rfl ?_
      refine x_lstore (ls' := [_, _, _, _, _, _, _]) dX11_cases_44 rfl rfl ?_
      refine x_iload_n dX11_cases_46 rfl ?_
      refine x_iconst (v := 2) dX11_cases_47 (by decide) ?_
      refine x_icmp_ne (tgt := 61) dX11_cases_48 (by decide) (fun c7 => ?_) (fun c7 => ?_)
      · replace h := xif_n c7 h
        refine x_iload_n dX11_cases_61 rfl ?_
        refine x_if_ne (tgt := 69) dX11_cases_62 (by decide) (fun c8 => ?_) (fun c8 => ?_)
        · replace h := xif_n c8 h
          refine x_lload dX11_cases_69 rfl ?_
          cases h
          exact x_lret dX11_cases_71 ⟨rfl, rfl, rfl⟩
        · replace h := xif_p c8 h
          refine x_lload_n dX11_cases_65 rfl ?_
          refine x_goto (tgt := 71) dX11_cases_66 (by decide) ?_
          cases h
          exact x_lret dX11_cases_71 ⟨rfl, rfl, rfl⟩
      · replace h := xif_p c7 h
        refine x_iload_n dX11_cases_51 rfl ?_
        obtain ⟨q9, hq9, h⟩ := Option.bind_eq_some_iff.mp h
        refine y_callSl (L' := [(0, _), (38, _), (39, _), (40, _), (41, _)]) mi_X9_rowsOf ml_X11_337 st_X9_rowsOf dX11_cases_52 (fun s1 => v_X9_rowsOf 61 s1 n _ q9 hq9) (Nat.le_of_ble_eq_true rfl) rfl (by decide) (Nat.le_of_ble_eq_true rfl) rfl rfl rfl rfl ?_
        refine x_lload_n dX11_cases_55 rfl ?_
        refine x_lsub dX11_cases_56 ?_
        refine x_lload dX11_cases_57 rfl ?_
        refine x_lsub dX11_cases_59 ?_
        cases h
        exact x_lret dX11_cases_60 ⟨rfl, rfl, rfl⟩
    · replace h := xif_p c4 h
      refine x_ldc2 dX11_cases_23 cn_X11_330 ?_
      cases h
      exact x_lret dX11_cases_26 ⟨rfl, rfl, rfl⟩
  · replace h := xif_p c2 h
    refine x_ldc2 dX11_cases_9 cn_X11_332 ?_
    cases h
    exact x_lret dX11_cases_12 ⟨rfl, rfl, rfl⟩
def l_X0_ofDouble_18 (n : Nat) : Nat → (UInt64) → (Int64) → (Int32) → Option (((UInt64) × (Int64) × (Int32)))
  | 0, _, _, _ => none
  | k + 1, l2, l4, l6 => (if 1023 ≤ l6 then (some (l2, l4, l6)) else (if (Op.cmpValue (FP.dcmp l2 4611686018427387904) CmpOp.l) < 0 then (some (l2, l4, l6)) else (bif xn64 (FP.ddiv l2 4611686018427387904) then (l_X0_ofDouble_18 n k ((FP.ddiv l2 4611686018427387904)) ((l4 + 1)) ((l6 + 1))) else none)))
set_option maxRecDepth 100000 in
set_option maxHeartbeats 400000 in
theorem lv_X0_ofDouble_18 (N : Nat) (s0 : XW) (n : Nat)  (Q : Nat → Option Value → XW → Prop) : ∀ (k : Nat) (l2 : UInt64) (l4 : Int64) (l6 : Int32) (o : ((UInt64) × (Int64) × (Int32))), l_X0_ofDouble_18 n k l2 l4 l6 = some o → (V yX0_ofDouble cX0_ofDouble (some .long) 0 N (0, 0) 52 [none, none, some (.double o.1), none, some (.long o.2.1), none, none] [] (xof s0 []) Q) → V yX0_ofDouble cX0_ofDouble (some .long) 0 N (0, 0) 18 [none, none, some (.double l2), none, some (.long l4), none, some (.int l6)] [] (xof s0 []) Q := by
  intro k
  induction k with
  | zero =>
    intro _ _ _ _ h
    simp [l_X0_ofDouble_18] at h
  | succ k ih =>
    intro l2 l4 l6 o h hk
    rw [l_X0_ofDouble_18] at h
    refine x_iload dX0_ofDouble_18 rfl ?_
    refine x_sipush (v := 1023) dX0_ofDouble_20 (by decide) ?_
    refine x_icmp_ge (tgt := 52) dX0_ofDouble_23 (by decide) (fun c2 => ?_) (fun c2 => ?_)
    · replace h := xif_p c2 h
      refine V.drop1 (i := 6) (ls' := [_, _, _, _, _, _, _]) rfl ?_
      show V yX0_ofDouble cX0_ofDouble (some .long) 0 N (0, 0) 52 [none, none, some (.double l2), none, some (.long l4), none, none] [] (xof s0 []) _
      cases h
      exact hk
    · replace h := xif_n c2 h
      refine x_dload_n dX0_ofDouble_26 rfl ?_
      refine x_ldc2d dX0_ofDouble_27 cn_X0_26 ?_
      refine x_dcmp dX0_ofDouble_30 ?_
      refine x_if_lt (tgt := 52) dX0_ofDouble_31 (by decide) (fun c3 => ?_) (fun c3 => ?_)
      · replace h := xif_p c3 h
        refine V.drop1 (i := 6) (ls' := [_, _, _, _, _, _, _]) rfl ?_
        show V yX0_ofDouble cX0_ofDouble (some .long) 0 N (0, 0) 52 [none, none, some (.double l2), none, some (.long l4), none, none] [] (xof s0 []) _
        cases h
        exact hk
      · replace h := xif_n c3 h
        refine x_dload_n dX0_ofDouble_34 rfl ?_
        refine x_ldc2d dX0_ofDouble_35 cn_X0_26 ?_
        obtain ⟨c4, h⟩ := xck h
        refine x_ddiv dX0_ofDouble_38 (xn64_ok c4) ?_
        refine x_dstore_n (ls' := [_, _, _, _, _, _, _]) dX0_ofDouble_39 rfl rfl ?_
        refine x_lload dX0_ofDouble_40 rfl ?_
        refine x_lconst (v := 1) dX0_ofDouble_42 (by decide) ?_
        refine x_ladd dX0_ofDouble_43 ?_
        refine x_lstore (ls' := [_, _, _, _, _, _, _]) dX0_ofDouble_44 rfl rfl ?_
        refine x_iinc (v := l6 + 1) (ls' := [_, _, _, _, _, _, _]) dX0_ofDouble_46 rfl rfl rfl rfl ?_
        refine x_goto (tgt := 18) dX0_ofDouble_49 (by decide) ?_
        show V yX0_ofDouble cX0_ofDouble (some .long) 0 N (0, 0) 18 [none, none, some (.double ((FP.ddiv l2 4611686018427387904))), none, some (.long ((l4 + 1))), none, some (.int ((l6 + 1)))] [] (xof s0 []) _
        exact ih ((FP.ddiv l2 4611686018427387904)) ((l4 + 1)) ((l6 + 1)) _ h hk
def l_X0_ofDouble_55 (n : Nat) : Nat → (UInt64) → (Int64) → (Int32) → Option (((UInt64) × (Int64) × (Int32)))
  | 0, _, _, _ => none
  | k + 1, l2, l4, l6 => (if 1022 ≤ l6 then (some (l2, l4, l6)) else (if 0 ≤ (Op.cmpValue (FP.dcmp l2 4607182418800017408) CmpOp.g) then (some (l2, l4, l6)) else (bif xn64 (FP.dmul l2 4611686018427387904) then (l_X0_ofDouble_55 n k ((FP.dmul l2 4611686018427387904)) ((l4 - 1)) ((l6 + 1))) else none)))
set_option maxRecDepth 100000 in
set_option maxHeartbeats 400000 in
theorem lv_X0_ofDouble_55 (N : Nat) (s0 : XW) (n : Nat)  (Q : Nat → Option Value → XW → Prop) : ∀ (k : Nat) (l2 : UInt64) (l4 : Int64) (l6 : Int32) (o : ((UInt64) × (Int64) × (Int32))), l_X0_ofDouble_55 n k l2 l4 l6 = some o → (V yX0_ofDouble cX0_ofDouble (some .long) 0 N (0, 0) 87 [none, none, some (.double o.1), none, some (.long o.2.1), none, none] [] (xof s0 []) Q) → V yX0_ofDouble cX0_ofDouble (some .long) 0 N (0, 0) 55 [none, none, some (.double l2), none, some (.long l4), none, some (.int l6)] [] (xof s0 []) Q := by
  intro k
  induction k with
  | zero =>
    intro _ _ _ _ h
    simp [l_X0_ofDouble_55] at h
  | succ k ih =>
    intro l2 l4 l6 o h hk
    rw [l_X0_ofDouble_55] at h
    refine x_iload dX0_ofDouble_55 rfl ?_
    refine x_sipush (v := 1022) dX0_ofDouble_57 (by decide) ?_
    refine x_icmp_ge (tgt := 87) dX0_ofDouble_60 (by decide) (fun c6 => ?_) (fun c6 => ?_)
    · replace h := xif_p c6 h
      refine V.drop1 (i := 6) (ls' := [_, _, _, _, _, _, _]) rfl ?_
      show V yX0_ofDouble cX0_ofDouble (some .long) 0 N (0, 0) 87 [none, none, some (.double l2), none, some (.long l4), none, none] [] (xof s0 []) _
      cases h
      exact hk
    · replace h := xif_n c6 h
      refine x_dload_n dX0_ofDouble_63 rfl ?_
      refine x_dconst1 dX0_ofDouble_64 ?_
      refine x_dcmp dX0_ofDouble_65 ?_
      refine x_if_ge (tgt := 87) dX0_ofDouble_66 (by decide) (fun c7 => ?_) (fun c7 => ?_)
      · replace h := xif_p c7 h
        refine V.drop1 (i := 6) (ls' := [_, _, _, _, _, _, _]) rfl ?_
        show V yX0_ofDouble cX0_ofDouble (some .long) 0 N (0, 0) 87 [none, none, some (.double l2), none, some (.long l4), none, none] [] (xof s0 []) _
        cases h
        exact hk
      · replace h := xif_n c7 h
        refine x_dload_n dX0_ofDouble_69 rfl ?_
        refine x_ldc2d dX0_ofDouble_70 cn_X0_26 ?_
        obtain ⟨c8, h⟩ := xck h
        refine x_dmul dX0_ofDouble_73 (xn64_ok c8) ?_
        refine x_dstore_n (ls' := [_, _, _, _, _, _, _]) dX0_ofDouble_74 rfl rfl ?_
        refine x_lload dX0_ofDouble_75 rfl ?_
        refine x_lconst (v := 1) dX0_ofDouble_77 (by decide) ?_
        refine x_lsub dX0_ofDouble_78 ?_
        refine x_lstore (ls' := [_, _, _, _, _, _, _]) dX0_ofDouble_79 rfl rfl ?_
        refine x_iinc (v := l6 + 1) (ls' := [_, _, _, _, _, _, _]) dX0_ofDouble_81 rfl rfl rfl rfl ?_
        refine x_goto (tgt := 55) dX0_ofDouble_84 (by decide) ?_
        show V yX0_ofDouble cX0_ofDouble (some .long) 0 N (0, 0) 55 [none, none, some (.double ((FP.dmul l2 4611686018427387904))), none, some (.long ((l4 - 1))), none, some (.int ((l6 + 1)))] [] (xof s0 []) _
        exact ih ((FP.dmul l2 4611686018427387904)) ((l4 - 1)) ((l6 + 1)) _ h hk
def b_X0_ofDouble_87 (n : Nat)  (l2 : UInt64) (l4 : Int64) : Option Int64 := (bif xn64 (FP.dsub l2 4607182418800017408) then (bif xn64 (FP.dmul (FP.dsub l2 4607182418800017408) 4841369599423283200) then (some (((l4 <<< (Int32.toInt64 52 &&& 63)) ||| (FP.d2l (FP.dmul (FP.dsub l2 4607182418800017408) 4841369599423283200))))) else none) else none)
set_option maxRecDepth 100000 in
set_option maxHeartbeats 400000 in
theorem vb_X0_ofDouble_87 (N : Nat) (s0 : XW) (n : Nat)  (l2 : UInt64) (l4 : Int64) (q : Int64) (h : b_X0_ofDouble_87 n l2 l4 = some q) : V yX0_ofDouble cX0_ofDouble (some .long) 0 N (0, 0) 87 [none, none, some (.double l2), none, some (.long l4), none, none] [] (xof s0 []) (xq N (some (.long q)) (xof s0 [])) := by
  unfold b_X0_ofDouble_87 at h
  refine x_lload dX0_ofDouble_87 rfl ?_
  refine x_bipush (v := 52) dX0_ofDouble_89 (by decide) ?_
  refine x_lshl dX0_ofDouble_91 ?_
  refine x_dload_n dX0_ofDouble_92 rfl ?_
  refine x_dconst1 dX0_ofDouble_93 ?_
  obtain ⟨c10, h⟩ := xck h
  refine x_dsub dX0_ofDouble_94 (xn64_ok c10) ?_
  refine x_ldc2d dX0_ofDouble_95 cn_X0_28 ?_
  obtain ⟨c11, h⟩ := xck h
  refine x_dmul dX0_ofDouble_98 (xn64_ok c11) ?_
  refine x_d2l dX0_ofDouble_99 ?_
  refine x_lor dX0_ofDouble_100 ?_
  cases h
  exact x_lret dX0_ofDouble_101 ⟨rfl, rfl, rfl⟩
def b_X0_ofDouble_52 (n : Nat)  (l2 : UInt64) (l4 : Int64) : Option Int64 := (Option.bind (l_X0_ofDouble_55 n n l2 l4 0) (fun u9 => (b_X0_ofDouble_87 n u9.1 u9.2.1)))
set_option maxRecDepth 100000 in
set_option maxHeartbeats 400000 in
theorem vb_X0_ofDouble_52 (N : Nat) (s0 : XW) (n : Nat)  (l2 : UInt64) (l4 : Int64) (q : Int64) (h : b_X0_ofDouble_52 n l2 l4 = some q) : V yX0_ofDouble cX0_ofDouble (some .long) 0 N (0, 0) 52 [none, none, some (.double l2), none, some (.long l4), none, none] [] (xof s0 []) (xq N (some (.long q)) (xof s0 [])) := by
  unfold b_X0_ofDouble_52 at h
  refine x_iconst (v := 0) dX0_ofDouble_52 (by decide) ?_
  refine x_istore (ls' := [_, _, _, _, _, _, _]) dX0_ofDouble_53 rfl rfl ?_
  obtain ⟨u9, hu9, h⟩ := Option.bind_eq_some_iff.mp h
  show V yX0_ofDouble cX0_ofDouble (some .long) 0 N (0, 0) 55 [none, none, some (.double l2), none, some (.long l4), none, some (.int 0)] [] (xof s0 []) _
  refine lv_X0_ofDouble_55 N s0 _ _ n l2 l4 0 _ hu9 ?_
  show V yX0_ofDouble cX0_ofDouble (some .long) 0 N (0, 0) 87 [none, none, some (.double u9.1), none, some (.long u9.2.1), none, none] [] (xof s0 []) _
  exact vb_X0_ofDouble_87 N s0 n u9.1 u9.2.1 q h
def f_X0_ofDouble (n : Nat)  (p0 : UInt64) : Option Int64 := (if 0 < (Op.cmpValue (FP.dcmp p0 0) CmpOp.g) then (Option.bind (l_X0_ofDouble_18 n n p0 1023 0) (fun u5 => (b_X0_ofDouble_52 n u5.1 u5.2.1))) else (some 0))
set_option maxRecDepth 100000 in
set_option maxHeartbeats 400000 in
theorem v_X0_ofDouble (N : Nat) (s0 : XW) (n : Nat)  (p0 : UInt64) (q : Int64) (h : f_X0_ofDouble n p0 = some q) : C_X0_ofDouble 0 N [.double p0] (xof s0 []) (some (.long q)) (xof s0 []) := by
  unfold f_X0_ofDouble at h
  show V yX0_ofDouble cX0_ofDouble (some .long) 0 N (0, 0) 0 [some (.double p0), none, none, none, none, none, none] [] (xof s0 []) _
  refine x_dload_n dX0_ofDouble_0 rfl ?_
  refine x_dconst0 dX0_ofDouble_1 ?_
  refine x_dcmp dX0_ofDouble_2 ?_
  refine x_if_gt (tgt := 8) dX0_ofDouble_3 (by decide) (fun c1 => ?_) (fun c1 => ?_)
  · replace h := xif_p c1 h
    refine x_dload_n dX0_ofDouble_8 rfl ?_
    refine x_dstore_n (ls' := [_, _, _, _, _, _, _]) dX0_ofDouble_9 rfl rfl ?_
    refine x_ldc2 dX0_ofDouble_10 cn_X0_24 ?_
    refine x_lstore (ls' := [_, _, _, _, _, _, _]) dX0_ofDouble_13 rfl rfl ?_
    refine x_iconst (v := 0) dX0_ofDouble_15 (by decide) ?_
    refine x_istore (ls' := [_, _, _, _, _, _, _]) dX0_ofDouble_16 rfl rfl ?_
    refine V.drop1 (i := 0) (ls' := [_, _, _, _, _, _, _]) rfl ?_
    obtain ⟨u5, hu5, h⟩ := Option.bind_eq_some_iff.mp h
    show V yX0_ofDouble cX0_ofDouble (some .long) 0 N (0, 0) 18 [none, none, some (.double p0), none, some (.long 1023), none, some (.int 0)] [] (xof s0 []) _
    refine lv_X0_ofDouble_18 N s0 _ _ n p0 1023 0 _ hu5 ?_
    show V yX0_ofDouble cX0_ofDouble (some .long) 0 N (0, 0) 52 [none, none, some (.double u5.1), none, some (.long u5.2.1), none, none] [] (xof s0 []) _
    exact vb_X0_ofDouble_52 N s0 n u5.1 u5.2.1 q h
  · replace h := xif_n c1 h
    refine x_lconst (v := 0) dX0_ofDouble_6 (by decide) ?_
    cases h
    exact x_lret dX0_ofDouble_7 ⟨rfl, rfl, rfl⟩
def f_X0_upper  (p0 : Int64) : Option Int32 := (some ((Int64.toInt32 (xul p0 32))))
set_option maxRecDepth 100000 in
set_option maxHeartbeats 400000 in
theorem v_X0_upper (N : Nat) (s0 : XW)  (p0 : Int64) (q : Int32) (h : f_X0_upper p0 = some q) : C_X0_upper 0 N [.long p0] (xof s0 []) (some (.int q)) (xof s0 []) := by
  unfold f_X0_upper at h
  show V yX0_upper cX0_upper (some .int) 0 N (0, 0) 0 [some (.long p0), none] [] (xof s0 []) _
  refine x_lload_n dX0_upper_0 rfl ?_
  refine x_bipush (v := 32) dX0_upper_1 (by decide) ?_
  refine x_lushr dX0_upper_3 ?_
  refine x_l2i dX0_upper_4 ?_
  cases h
  exact x_iret dX0_upper_5 ⟨rfl, rfl, rfl⟩
def f_X0_lower  (p0 : Int64) : Option Int32 := (some ((Int64.toInt32 p0)))
set_option maxRecDepth 100000 in
set_option maxHeartbeats 400000 in
theorem v_X0_lower (N : Nat) (s0 : XW)  (p0 : Int64) (q : Int32) (h : f_X0_lower p0 = some q) : C_X0_lower 0 N [.long p0] (xof s0 []) (some (.int q)) (xof s0 []) := by
  unfold f_X0_lower at h
  show V yX0_lower cX0_lower (some .int) 0 N (0, 0) 0 [some (.long p0), none] [] (xof s0 []) _
  refine x_lload_n dX0_lower_0 rfl ?_
  refine x_l2i dX0_lower_1 ?_
  cases h
  exact x_iret dX0_lower_2 ⟨rfl, rfl, rfl⟩
def f_X0_ofFloat (n : Nat)  (p0 : UInt32) : Option Int32 := (bif xn64 (FP.f2d p0) then (Option.bind (f_X0_ofDouble n ((FP.f2d p0))) (fun q2 => (if (lg_cmp q2 0) = 0 then (some 0) else (some ((((((Int64.toInt32 (xul q2 52)) - 1023) + 127) <<< (23 &&& 31)) ||| ((Int64.toInt32 (xul q2 29)) &&& 8388607))))))) else none)
set_option maxRecDepth 100000 in
set_option maxHeartbeats 400000 in
theorem v_X0_ofFloat (N : Nat) (s0 : XW) (n : Nat)  (p0 : UInt32) (q : Int32) (h : f_X0_ofFloat n p0 = some q) : C_X0_ofFloat 1 N [.float p0] (xof s0 []) (some (.int q)) (xof s0 []) := by
  unfold f_X0_ofFloat at h
  show V yX0_ofFloat cX0_ofFloat (some .int) 1 N (0, 0) 0 [some (.float p0), none, none, none] [] (xof s0 []) _
  refine x_fload_n dX0_ofFloat_0 rfl ?_
  obtain ⟨c1, h⟩ := xck h
  refine x_f2d dX0_ofFloat_1 (xn64_ok c1) ?_
  obtain ⟨q2, hq2, h⟩ := Option.bind_eq_some_iff.mp h
  refine y_callSl (L' := []) mi_X0_ofDouble ml_X0_7 st_X0_ofDouble dX0_ofFloat_2 (fun s1 => v_X0_ofDouble N s1 n _ q2 hq2) (Nat.le_of_ble_eq_true rfl) rfl (by decide) (Nat.le_of_ble_eq_true rfl) rfl rfl rfl rfl ?_
  refine x_lstore_n (ls' := [_, _, _, _]) dX0_ofFloat_5 rfl rfl ?_
  refine x_lload_n dX0_ofFloat_6 rfl ?_
  refine x_lconst (v := 0) dX0_ofFloat_7 (by decide) ?_
  refine x_lcmp dX0_ofFloat_8 ?_
  refine x_if_ne (tgt := 14) dX0_ofFloat_9 (by decide) (fun c3 => ?_) (fun c3 => ?_)
  · replace h := xif_n c3 h
    refine x_lload_n dX0_ofFloat_14 rfl ?_
    refine x_bipush (v := 52) dX0_ofFloat_15 (by decide) ?_
    refine x_lushr dX0_ofFloat_17 ?_
    refine x_l2i dX0_ofFloat_18 ?_
    refine x_sipush (v := 1023) dX0_ofFloat_19 (by decide) ?_
    refine x_isub dX0_ofFloat_22 ?_
    refine x_bipush (v := 127) dX0_ofFloat_23 (by decide) ?_
    refine x_iadd dX0_ofFloat_25 ?_
    refine x_istore_n (ls' := [_, _, _, _]) dX0_ofFloat_26 rfl rfl ?_
    refine x_iload_n dX0_ofFloat_27 rfl ?_
    refine x_bipush (v := 23) dX0_ofFloat_28 (by decide) ?_
    refine x_ishl dX0_ofFloat_30 ?_
    refine x_lload_n dX0_ofFloat_31 rfl ?_
    refine x_bipush (v := 29) dX0_ofFloat_32 (by decide) ?_
    refine x_lushr dX0_ofFloat_34 ?_
    refine x_l2i dX0_ofFloat_35 ?_
    refine x_ldc dX0_ofFloat_36 cn_X0_30 ?_
    refine x_iand dX0_ofFloat_38 ?_
    refine x_ior dX0_ofFloat_39 ?_
    cases h
    exact x_iret dX0_ofFloat_40 ⟨rfl, rfl, rfl⟩
  · replace h := xif_p c3 h
    refine x_iconst (v := 0) dX0_ofFloat_12 (by decide) ?_
    cases h
    exact x_iret dX0_ofFloat_13 ⟨rfl, rfl, rfl⟩
def b_X0_ofRatio_30 (n : Nat)  (l4 : Int32) (t0 : UInt64) : Option Int64 := (if l4 = 2 then (Option.bind (f_X0_ofDouble n t0) (fun q10 => (Option.bind (f_X0_upper q10) (fun q11 => (some ((Int32.toInt64 q11))))))) else (if l4 = 3 then (Option.bind (f_X0_ofDouble n t0) (fun q8 => (Option.bind (f_X0_lower q8) (fun q9 => (some ((Int32.toInt64 q9))))))) else (bif xn32 (FP.d2f t0) then (Option.bind (f_X0_ofFloat n ((FP.d2f t0))) (fun q7 => (some ((Int32.toInt64 q7))))) else none)))
set_option maxRecDepth 100000 in
set_option maxHeartbeats 400000 in
theorem vb_X0_ofRatio_30 (N : Nat) (s0 : XW) (n : Nat)  (l4 : Int32) (t0 : UInt64) (q : Int64) (h : b_X0_ofRatio_30 n l4 t0 = some q) : V yX0_ofRatio cX0_ofRatio (some .long) 2 N (0, 0) 30 [none, none, none, none, some (.int l4), none, none] [.double t0] (xof s0 []) (xq N (some (.long q)) (xof s0 [])) := by
  unfold b_X0_ofRatio_30 at h
  refine x_dstore (ls' := [_, _, _, _, _, _, _]) dX0_ofRatio_30 rfl rfl ?_
  refine x_iload dX0_ofRatio_32 rfl ?_
  refine x_iconst (v := 2) dX0_ofRatio_34 (by decide) ?_
  refine x_icmp_ne (tgt := 48) dX0_ofRatio_35 (by decide) (fun c4 => ?_) (fun c4 => ?_)
  · replace h := xif_n c4 h
    refine x_iload dX0_ofRatio_48 rfl ?_
    refine x_iconst (v := 3) dX0_ofRatio_50 (by decide) ?_
    refine x_icmp_ne (tgt := 66) dX0_ofRatio_51 (by decide) (fun c5 => ?_) (fun c5 => ?_)
    · replace h := xif_n c5 h
      refine x_dload dX0_ofRatio_66 rfl ?_
      obtain ⟨c6, h⟩ := xck h
      refine x_d2f dX0_ofRatio_68 (xn32_ok c6) ?_
      obtain ⟨q7, hq7, h⟩ := Option.bind_eq_some_iff.mp h
      refine y_callSi (L' := []) mi_X0_ofFloat ml_X0_20 st_X0_ofFloat dX0_ofRatio_69 (fun s1 => v_X0_ofFloat N s1 n _ q7 hq7) (Nat.le_of_ble_eq_true rfl) rfl (by decide) (Nat.le_of_ble_eq_true rfl) rfl rfl rfl rfl ?_
      refine x_i2l dX0_ofRatio_72 ?_
      cases h
      exact x_lret dX0_ofRatio_73 ⟨rfl, rfl, rfl⟩
    · replace h := xif_p c5 h
      refine x_dload dX0_ofRatio_54 rfl ?_
      obtain ⟨q8, hq8, h⟩ := Option.bind_eq_some_iff.mp h
      refine y_callSl (L' := []) mi_X0_ofDouble ml_X0_7 st_X0_ofDouble dX0_ofRatio_56 (fun s1 => v_X0_ofDouble N s1 n _ q8 hq8) (Nat.le_of_ble_eq_true rfl) rfl (by decide) (Nat.le_of_ble_eq_true rfl) rfl rfl rfl rfl ?_
      obtain ⟨q9, hq9, h⟩ := Option.bind_eq_some_iff.mp h
      refine y_callSi (L' := []) mi_X0_lower ml_X0_17 st_X0_lower dX0_ofRatio_59 (fun s1 => v_X0_lower N s1 _ q9 hq9) (Nat.le_of_ble_eq_true rfl) rfl (by decide) (Nat.le_of_ble_eq_true rfl) rfl rfl rfl rfl ?_
      refine x_i2l dX0_ofRatio_62 ?_
      refine x_goto (tgt := 73) dX0_ofRatio_63 (by decide) ?_
      cases h
      exact x_lret dX0_ofRatio_73 ⟨rfl, rfl, rfl⟩
  · replace h := xif_p c4 h
    refine x_dload dX0_ofRatio_38 rfl ?_
    obtain ⟨q10, hq10, h⟩ := Option.bind_eq_some_iff.mp h
    refine y_callSl (L' := []) mi_X0_ofDouble ml_X0_7 st_X0_ofDouble dX0_ofRatio_40 (fun s1 => v_X0_ofDouble N s1 n _ q10 hq10) (Nat.le_of_ble_eq_true rfl) rfl (by decide) (Nat.le_of_ble_eq_true rfl) rfl rfl rfl rfl ?_
    obtain ⟨q11, hq11, h⟩ := Option.bind_eq_some_iff.mp h
    refine y_callSi (L' := []) mi_X0_upper ml_X0_13 st_X0_upper dX0_ofRatio_43 (fun s1 => v_X0_upper N s1 _ q11 hq11) (Nat.le_of_ble_eq_true rfl) rfl (by decide) (Nat.le_of_ble_eq_true rfl) rfl rfl rfl rfl ?_
    refine x_i2l dX0_ofRatio_46 ?_
    cases h
    exact x_lret dX0_ofRatio_47 ⟨rfl, rfl, rfl⟩
def f_X0_ofRatio (n : Nat)  (p0 : Int64) (p1 : Int64) (p2 : Int32) : Option Int64 := (if p2 = 0 then (some p0) else (if p2 = 1 then (some p1) else (if (lg_cmp p1 0) ≤ 0 then (b_X0_ofRatio_30 n p2 0) else (bif xn64 (FP.ddiv (FP.l2d p0) (FP.l2d p1)) then (b_X0_ofRatio_30 n p2 ((FP.ddiv (FP.l2d p0) (FP.l2d p1)))) else none))))
set_option maxRecDepth 100000 in
set_option maxHeartbeats 400000 in
theorem v_X0_ofRatio (N : Nat) (s0 : XW) (n : Nat)  (p0 : Int64) (p1 : Int64) (p2 : Int32) (q : Int64) (h : f_X0_ofRatio n p0 p1 p2 = some q) : C_X0_ofRatio 2 N [.long p0, .long p1, .int p2] (xof s0 []) (some (.long q)) (xof s0 []) := by
  unfold f_X0_ofRatio at h
  show V yX0_ofRatio cX0_ofRatio (some .long) 2 N (0, 0) 0 [some (.long p0), none, some (.long p1), none, some (.int p2), none, none] [] (xof s0 []) _
  refine x_iload dX0_ofRatio_0 rfl ?_
  refine x_if_ne (tgt := 7) dX0_ofRatio_2 (by decide) (fun c1 => ?_) (fun c1 => ?_)
  · replace h := xif_n c1 h
    refine x_iload dX0_ofRatio_7 rfl ?_
    refine x_iconst (v := 1) dX0_ofRatio_9 (by decide) ?_
    refine x_icmp_ne (tgt := 15) dX0_ofRatio_10 (by decide) (fun c2 => ?_) (fun c2 => ?_)
    · replace h := xif_n c2 h
      refine x_lload_n dX0_ofRatio_15 rfl ?_
      refine x_lconst (v := 0) dX0_ofRatio_16 (by decide) ?_
      refine x_lcmp dX0_ofRatio_17 ?_
      refine x_if_le (tgt := 29) dX0_ofRatio_18 (by decide) (fun c3 => ?_) (fun c3 => ?_)
      · replace h := xif_p c3 h
        refine x_dconst0 dX0_ofRatio_29 ?_
        refine V.drop1 (i := 0) (ls' := [_, _, _, _, _, _, _]) rfl ?_
        refine V.drop1 (i := 2) (ls' := [_, _, _, _, _, _, _]) rfl ?_
        show V yX0_ofRatio cX0_ofRatio (some .long) 2 N (0, 0) 30 [none, none, none, none, some (.int p2), none, none] [.double 0] (xof s0 []) _
        exact vb_X0_ofRatio_30 N s0 n p2 0 q h
      · replace h := xif_n c3 h
        refine x_lload_n dX0_ofRatio_21 rfl ?_
        refine x_l2d dX0_ofRatio_22 ?_
        refine x_lload_n dX0_ofRatio_23 rfl ?_
        refine x_l2d dX0_ofRatio_24 ?_
        obtain ⟨c12, h⟩ := xck h
        refine x_ddiv dX0_ofRatio_25 (xn64_ok c12) ?_
        refine x_goto (tgt := 30) dX0_ofRatio_26 (by decide) ?_
        refine V.drop1 (i := 0) (ls' := [_, _, _, _, _, _, _]) rfl ?_
        refine V.drop1 (i := 2) (ls' := [_, _, _, _, _, _, _]) rfl ?_
        show V yX0_ofRatio cX0_ofRatio (some .long) 2 N (0, 0) 30 [none, none, none, none, some (.int p2), none, none] [.double ((FP.ddiv (FP.l2d p0) (FP.l2d p1)))] (xof s0 []) _
        exact vb_X0_ofRatio_30 N s0 n p2 ((FP.ddiv (FP.l2d p0) (FP.l2d p1))) q h
    · replace h := xif_p c2 h
      refine x_lload_n dX0_ofRatio_13 rfl ?_
      cases h
      exact x_lret dX0_ofRatio_14 ⟨rfl, rfl, rfl⟩
  · replace h := xif_p c1 h
    refine x_lload_n dX0_ofRatio_5 rfl ?_
    cases h
    exact x_lret dX0_ofRatio_6 ⟨rfl, rfl, rfl⟩
def f_X11_unseen_0 (n : Nat) (o38 : Nat → Int32) (a39 : Nat → Int64) (a40 : Nat → Int64) (a41 : Nat → Int32) (p1 : Int32) (p2 : Int32) : Option (((Int64) × (Nat → Int32) × (Nat → Int64) × (Nat → Int64) × (Nat → Int32))) := (Option.bind (f_X11_isWithin p2 0 4) (fun q1 => (if q1 = 0 then (some ((-2), o38, a39, a40, a41)) else (Option.bind (f_X11_isWithin p1 0 40) (fun q3 => (if q3 = 0 then (some ((-3), o38, a39, a40, a41)) else (Option.bind (f_X9_wordsOf_38 n o38 a39 a40 a41 p1) (fun q5 => (Option.bind (f_X9_rowsOf n p1) (fun q6 => (Option.bind (f_X0_ofRatio n q5.1 q6 p2) (fun q7 => (some (q7, q5.2.1, q5.2.2.1, q5.2.2.2.1, q5.2.2.2.2))))))))))))))
set_option maxRecDepth 100000 in
set_option maxHeartbeats 400000 in
theorem v_X11_unseen_0 (s0 : XW) (n : Nat) (o38 : Nat → Int32) (a39 : Nat → Int64) (a40 : Nat → Int64) (a41 : Nat → Int32) (p1 : Int32) (p2 : Int32) (q : ((Int64) × (Nat → Int32) × (Nat → Int64) × (Nat → Int64) × (Nat → Int32))) (h : f_X11_unseen_0 n o38 a39 a40 a41 p1 p2 = some q) : C_X11_unseen 4 61 [.ref 0, .int p1, .int p2] (xof s0 [W_0, W_38 o38, W_39 a39, W_40 a40, W_41 a41]) (some (.long q.1)) (xof s0 [W_0, W_38 q.2.1, W_39 q.2.2.1, W_40 q.2.2.2.1, W_41 q.2.2.2.2]) := by
  unfold f_X11_unseen_0 at h
  show V yX11_unseen cX11_unseen (some .long) 4 61 (0, 0) 0 [some (.ref 0), some (.int p1), some (.int p2)] [] (xof s0 [W_0, W_38 o38, W_39 a39, W_40 a40, W_41 a41]) _
  refine x_iload_n dX11_unseen_0 rfl ?_
  refine x_iconst (v := 0) dX11_unseen_1 (by decide) ?_
  refine x_iconst (v := 4) dX11_unseen_2 (by decide) ?_
  obtain ⟨q1, hq1, h⟩ := Option.bind_eq_some_iff.mp h
  refine y_callSi (L' := [(0, _), (38, _), (39, _), (40, _), (41, _)]) mi_X11_isWithin ml_X11_100 st_X11_isWithin dX11_unseen_3 (fun s1 => v_X11_isWithin 61 s1 _ _ _ q1 hq1) (Nat.le_of_ble_eq_true rfl) rfl (by decide) (Nat.le_of_ble_eq_true rfl) rfl rfl rfl rfl ?_
  refine x_if_ne (tgt := 13) dX11_unseen_6 (by decide) (fun c2 => ?_) (fun c2 => ?_)
  · replace h := xif_n c2 h
    refine x_iload_n dX11_unseen_13 rfl ?_
    refine x_iconst (v := 0) dX11_unseen_14 (by decide) ?_
    refine x_bipush (v := 40) dX11_unseen_15 (by decide) ?_
    obtain ⟨q3, hq3, h⟩ := Option.bind_eq_some_iff.mp h
    refine y_callSi (L' := [(0, _), (38, _), (39, _), (40, _), (41, _)]) mi_X11_isWithin ml_X11_100 st_X11_isWithin dX11_unseen_17 (fun s1 => v_X11_isWithin 61 s1 _ _ _ q3 hq3) (Nat.le_of_ble_eq_true rfl) rfl (by decide) (Nat.le_of_ble_eq_true rfl) rfl rfl rfl rfl ?_
    refine x_if_ne (tgt := 27) dX11_unseen_20 (by decide) (fun c4 => ?_) (fun c4 => ?_)
    · replace h := xif_n c4 h
      refine x_aload_n dX11_unseen_27 rfl ?_
      refine g_X11_77 rfl dX11_unseen_28 (by decide) rfl rfl ?_
      refine x_iload_n dX11_unseen_31 rfl ?_
      obtain ⟨q5, hq5, h⟩ := Option.bind_eq_some_iff.mp h
      refine y_callVl (L' := [(0, _), (38, _), (39, _), (40, _), (41, _)]) mi_X9_wordsOf ml_X11_326 im_X9_wordsOf se_X9_wordsOf (rfl : vwCl[8]? = _) dX11_unseen_32 (fun s1 => v_X9_wordsOf_38 s1 n _ _ _ _ _ q5 hq5) (by decide) rfl (Nat.le_of_ble_eq_true rfl) rfl (by decide) (Nat.le_of_ble_eq_true rfl) rfl rfl rfl rfl ?_
      refine x_iload_n dX11_unseen_35 rfl ?_
      obtain ⟨q6, hq6, h⟩ := Option.bind_eq_some_iff.mp h
      refine y_callSl (L' := [(0, _), (38, _), (39, _), (40, _), (41, _)]) mi_X9_rowsOf ml_X11_337 st_X9_rowsOf dX11_unseen_36 (fun s1 => v_X9_rowsOf 61 s1 n _ q6 hq6) (Nat.le_of_ble_eq_true rfl) rfl (by decide) (Nat.le_of_ble_eq_true rfl) rfl rfl rfl rfl ?_
      refine x_iload_n dX11_unseen_39 rfl ?_
      obtain ⟨q7, hq7, h⟩ := Option.bind_eq_some_iff.mp h
      refine y_callSl (L' := [(0, _), (38, _), (39, _), (40, _), (41, _)]) mi_X0_ofRatio ml_X11_340 st_X0_ofRatio dX11_unseen_40 (fun s1 => v_X0_ofRatio 61 s1 n _ _ _ q7 hq7) (Nat.le_of_ble_eq_true rfl) rfl (by decide) (Nat.le_of_ble_eq_true rfl) rfl rfl rfl rfl ?_
      cases h
      exact x_lret dX11_unseen_43 ⟨rfl, rfl, rfl⟩
    · replace h := xif_p c4 h
      refine x_ldc2 dX11_unseen_23 cn_X11_330 ?_
      cases h
      exact x_lret dX11_unseen_26 ⟨rfl, rfl, rfl⟩
  · replace h := xif_p c2 h
    refine x_ldc2 dX11_unseen_9 cn_X11_332 ?_
    cases h
    exact x_lret dX11_unseen_12 ⟨rfl, rfl, rfl⟩
def f_X11_rungsOf_0 (a1 : Nat → Int32) (p1 : Int32) : Option Int32 := (if p1 = 0 then (some ((a1 1))) else (some (((a1 2) + 1))))
set_option maxRecDepth 100000 in
set_option maxHeartbeats 400000 in
theorem v_X11_rungsOf_0 (s0 : XW) (a1 : Nat → Int32) (p1 : Int32) (q : Int32) (h : f_X11_rungsOf_0 a1 p1 = some q) : C_X11_rungsOf 0 61 [.ref 0, .int p1] (xof s0 [W_0, W_1 a1]) (some (.int q)) (xof s0 [W_0, W_1 a1]) := by
  unfold f_X11_rungsOf_0 at h
  show V yX11_rungsOf cX11_rungsOf (some .int) 0 61 (0, 0) 0 [some (.ref 0), some (.int p1)] [] (xof s0 [W_0, W_1 a1]) _
  refine x_iload_n dX11_rungsOf_0 rfl ?_
  refine x_if_ne (tgt := 13) dX11_rungsOf_1 (by decide) (fun c1 => ?_) (fun c1 => ?_)
  · replace h := xif_n c1 h
    refine x_aload_n dX11_rungsOf_13 rfl ?_
    refine g_X11_18 rfl dX11_rungsOf_14 (by decide) rfl rfl ?_
    refine x_iconst (v := 2) dX11_rungsOf_17 (by decide) ?_
    refine x_ialdK (jn := 2) (v := (a1 2)) dX11_rungsOf_18 (by decide) rfl (xin_ok (by decide)) (by decide) rfl ?_
    refine x_iconst (v := 1) dX11_rungsOf_19 (by decide) ?_
    refine x_iadd dX11_rungsOf_20 ?_
    cases h
    exact x_iret dX11_rungsOf_21 ⟨rfl, rfl, rfl⟩
  · replace h := xif_p c1 h
    refine x_aload_n dX11_rungsOf_4 rfl ?_
    refine g_X11_18 rfl dX11_rungsOf_5 (by decide) rfl rfl ?_
    refine x_iconst (v := 1) dX11_rungsOf_8 (by decide) ?_
    refine x_ialdK (jn := 1) (v := (a1 1)) dX11_rungsOf_9 (by decide) rfl (xin_ok (by decide)) (by decide) rfl ?_
    refine x_goto (tgt := 21) dX11_rungsOf_10 (by decide) ?_
    cases h
    exact x_iret dX11_rungsOf_21 ⟨rfl, rfl, rfl⟩
def f_X11_climbsOf  (p0 : Int32) (p1 : Int32) : Option Int32 := (if p0 = 0 then (some ((256 - p1))) else (some p1))
set_option maxRecDepth 100000 in
set_option maxHeartbeats 400000 in
theorem v_X11_climbsOf (N : Nat) (s0 : XW)  (p0 : Int32) (p1 : Int32) (q : Int32) (h : f_X11_climbsOf p0 p1 = some q) : C_X11_climbsOf 0 N [.int p0, .int p1] (xof s0 []) (some (.int q)) (xof s0 []) := by
  unfold f_X11_climbsOf at h
  show V yX11_climbsOf cX11_climbsOf (some .int) 0 N (0, 0) 0 [some (.int p0), some (.int p1)] [] (xof s0 []) _
  refine x_iload_n dX11_climbsOf_0 rfl ?_
  refine x_if_ne (tgt := 12) dX11_climbsOf_1 (by decide) (fun c1 => ?_) (fun c1 => ?_)
  · replace h := xif_n c1 h
    refine x_iload_n dX11_climbsOf_12 rfl ?_
    cases h
    exact x_iret dX11_climbsOf_13 ⟨rfl, rfl, rfl⟩
  · replace h := xif_p c1 h
    refine x_sipush (v := 256) dX11_climbsOf_4 (by decide) ?_
    refine x_iload_n dX11_climbsOf_7 rfl ?_
    refine x_isub dX11_climbsOf_8 ?_
    refine x_goto (tgt := 13) dX11_climbsOf_9 (by decide) ?_
    cases h
    exact x_iret dX11_climbsOf_13 ⟨rfl, rfl, rfl⟩
def l_J7_fill_d0a16_43_6 (n : Nat) (l1 : Int64) (l4 : Int32) : Nat → (Int32) → (Nat → Int64) → Option (((Int32) × (Nat → Int64)))
  | 0, _, _ => none
  | k + 1, l3, a43 => (if l4 ≤ l3 then (some (l3, a43)) else (bif xin l3 17 then (l_J7_fill_d0a16_43_6 n l1 l4 k ((l3 + 1)) (vp_updL a43 ((Int32.toNatClampNeg l3)) l1)) else none))
set_option maxRecDepth 100000 in
set_option maxHeartbeats 400000 in
theorem lv_J7_fill_d0a16_43_6 (s0 : XW) (n : Nat) (l1 : Int64) (l4 : Int32) (Q : Nat → Option Value → XW → Prop) : ∀ (k : Nat) (l3 : Int32) (a43 : Nat → Int64) (o : ((Int32) × (Nat → Int64))), l_J7_fill_d0a16_43_6 n l1 l4 k l3 a43 = some o → (V yJ7_fill_d0a16 cJ7_fill_d0a16 none 0 61 (0, 0) 22 [none, none, none, none, none] [] (xof s0 [W_43 o.2]) Q) → V yJ7_fill_d0a16 cJ7_fill_d0a16 none 0 61 (0, 0) 6 [some (.ref 43), some (.long l1), none, some (.int l3), some (.int l4)] [] (xof s0 [W_43 a43]) Q := by
  intro k
  induction k with
  | zero =>
    intro _ _ _ h
    simp [l_J7_fill_d0a16_43_6] at h
  | succ k ih =>
    intro l3 a43 o h hk
    rw [l_J7_fill_d0a16_43_6] at h
    refine x_iload_n dJ7_fill_d0a16_6 rfl ?_
    refine x_iload dJ7_fill_d0a16_7 rfl ?_
    refine x_icmp_ge (tgt := 22) dJ7_fill_d0a16_9 (by decide) (fun c1 => ?_) (fun c1 => ?_)
    · replace h := xif_p c1 h
      refine V.drop1 (i := 0) (ls' := [_, _, _, _, _]) rfl ?_
      refine V.drop1 (i := 1) (ls' := [_, _, _, _, _]) rfl ?_
      refine V.drop1 (i := 3) (ls' := [_, _, _, _, _]) rfl ?_
      refine V.drop1 (i := 4) (ls' := [_, _, _, _, _]) rfl ?_
      show V yJ7_fill_d0a16 cJ7_fill_d0a16 none 0 61 (0, 0) 22 [none, none, none, none, none] [] (xof s0 [W_43 a43]) _
      cases h
      exact hk
    · replace h := xif_n c1 h
      refine x_aload_n dJ7_fill_d0a16_12 rfl ?_
      refine x_iload_n dJ7_fill_d0a16_13 rfl ?_
      refine x_lload_n dJ7_fill_d0a16_14 rfl ?_
      obtain ⟨c2, h⟩ := xck h
      refine x_lastK (jn := (Int32.toNatClampNeg l3)) (L' := [(43, _)]) dJ7_fill_d0a16_15 (by decide) rfl (xin_ok c2) rfl rfl ?_
      refine x_iinc (v := l3 + 1) (ls' := [_, _, _, _, _]) dJ7_fill_d0a16_16 rfl rfl rfl rfl ?_
      refine x_goto (tgt := 6) dJ7_fill_d0a16_19 (by decide) ?_
      show V yJ7_fill_d0a16 cJ7_fill_d0a16 none 0 61 (0, 0) 6 [some (.ref 43), some (.long l1), none, some (.int ((l3 + 1))), some (.int l4)] [] (xof s0 [W_43 (vp_updL a43 ((Int32.toNatClampNeg l3)) l1)]) _
      exact ih ((l3 + 1)) (vp_updL a43 ((Int32.toNatClampNeg l3)) l1) _ h hk
def f_J7_fill_d0a16_43 (n : Nat) (a43 : Nat → Int64) (p1 : Int64) : Option (Nat → Int64) := (Option.bind (l_J7_fill_d0a16_43_6 n p1 17 n 0 a43) (fun u3 => (some u3.2)))
set_option maxRecDepth 100000 in
set_option maxHeartbeats 400000 in
theorem v_J7_fill_d0a16_43 (s0 : XW) (n : Nat) (a43 : Nat → Int64) (p1 : Int64) (q : Nat → Int64) (h : f_J7_fill_d0a16_43 n a43 p1 = some q) : C_J7_fill_d0a16 0 61 [.ref 43, .long p1] (xof s0 [W_43 a43]) none (xof s0 [W_43 q]) := by
  unfold f_J7_fill_d0a16_43 at h
  show V yJ7_fill_d0a16 cJ7_fill_d0a16 none 0 61 (0, 0) 0 [some (.ref 43), some (.long p1), none, none, none] [] (xof s0 [W_43 a43]) _
  refine x_iconst (v := 0) dJ7_fill_d0a16_0 (by decide) ?_
  refine x_istore_n (ls' := [_, _, _, _, _]) dJ7_fill_d0a16_1 rfl rfl ?_
  refine x_aload_n dJ7_fill_d0a16_2 rfl ?_
  refine x_alen (v := 17) dJ7_fill_d0a16_3 (by decide) rfl (by decide) rfl ?_
  refine x_istore (ls' := [_, _, _, _, _]) dJ7_fill_d0a16_4 rfl rfl ?_
  obtain ⟨u3, hu3, h⟩ := Option.bind_eq_some_iff.mp h
  show V yJ7_fill_d0a16 cJ7_fill_d0a16 none 0 61 (0, 0) 6 [some (.ref 43), some (.long p1), none, some (.int 0), some (.int 17)] [] (xof s0 [W_43 a43]) _
  refine lv_J7_fill_d0a16_43_6 s0 _ p1 17 _ n 0 a43 _ hu3 ?_
  cases h
  exact x_vret dJ7_fill_d0a16_22 ⟨rfl, rfl, rfl⟩
def l_X3_waysUp_42_86 (n : Nat) (l1 : Int32) (l3 : Int32) (l4 : Int32) (l5 : Int64) (l7 : Int32) : Nat → (Int64) → (Int32) → (Nat → Int64) → Option (((Int64) × (Int32) × (Nat → Int64)))
  | 0, _, _, _ => none
  | k + 1, l8, l10, a43 => (if l10 ≤ 0 then (some (l8, l10, a43)) else (bif xin l10 17 then (bif xin (l10 - 1) 17 then (bif xin l10 17 then (l_X3_waysUp_42_86 n l1 l3 l4 l5 l7 k ((l8 + (a43 (Int32.toNatClampNeg l10)))) ((l10 + (-1))) (vp_updL a43 ((Int32.toNatClampNeg l10)) (((a43 (Int32.toNatClampNeg (l10 - 1))) * (Int32.toInt64 l4))))) else none) else none) else none))
set_option maxRecDepth 100000 in
set_option maxHeartbeats 400000 in
theorem lv_X3_waysUp_42_86 (s0 : XW) (n : Nat) (l1 : Int32) (l3 : Int32) (l4 : Int32) (l5 : Int64) (l7 : Int32) (Q : Nat → Option Value → XW → Prop) : ∀ (k : Nat) (l8 : Int64) (l10 : Int32) (a43 : Nat → Int64) (o : ((Int64) × (Int32) × (Nat → Int64))), l_X3_waysUp_42_86 n l1 l3 l4 l5 l7 k l8 l10 a43 = some o → (V yX3_waysUp cX3_waysUp (some .long) 1 61 (0, 0) 129 [some (.ref 42), some (.int l1), none, some (.int l3), some (.int l4), some (.long l5), none, some (.int l7), some (.long o.1), none, none] [] (xof s0 [W_42, W_43 o.2.2]) Q) → V yX3_waysUp cX3_waysUp (some .long) 1 61 (0, 0) 86 [some (.ref 42), some (.int l1), none, some (.int l3), some (.int l4), some (.long l5), none, some (.int l7), some (.long l8), none, some (.int l10)] [] (xof s0 [W_42, W_43 a43]) Q := by
  intro k
  induction k with
  | zero =>
    intro _ _ _ _ h
    simp [l_X3_waysUp_42_86] at h
  | succ k ih =>
    intro l8 l10 a43 o h hk
    rw [l_X3_waysUp_42_86] at h
    refine x_iload dX3_waysUp_86 rfl ?_
    refine x_if_le (tgt := 129) dX3_waysUp_88 (by decide) (fun c9 => ?_) (fun c9 => ?_)
    · replace h := xif_p c9 h
      refine V.drop1 (i := 10) (ls' := [_, _, _, _, _, _, _, _, _, _, _]) rfl ?_
      show V yX3_waysUp cX3_waysUp (some .long) 1 61 (0, 0) 129 [some (.ref 42), some (.int l1), none, some (.int l3), some (.int l4), some (.long l5), none, some (.int l7), some (.long l8), none, none] [] (xof s0 [W_42, W_43 a43]) _
      cases h
      exact hk
    · replace h := xif_n c9 h
      refine x_lload dX3_waysUp_91 rfl ?_
      refine x_aload_n dX3_waysUp_93 rfl ?_
      refine g_X3_7 rfl dX3_waysUp_94 (by decide) rfl rfl ?_
      refine x_iload dX3_waysUp_97 rfl ?_
      obtain ⟨c10, h⟩ := xck h
      refine x_laldK (jn := (Int32.toNatClampNeg l10)) (v := (a43 (Int32.toNatClampNeg l10))) dX3_waysUp_99 (by decide) rfl (xin_ok c10) rfl rfl ?_
      refine x_ladd dX3_waysUp_100 ?_
      refine x_lstore (ls' := [_, _, _, _, _, _, _, _, _, _, _]) dX3_waysUp_101 rfl rfl ?_
      refine x_aload_n dX3_waysUp_103 rfl ?_
      refine g_X3_7 rfl dX3_waysUp_104 (by decide) rfl rfl ?_
      refine x_iload dX3_waysUp_107 rfl ?_
      refine x_aload_n dX3_waysUp_109 rfl ?_
      refine g_X3_7 rfl dX3_waysUp_110 (by decide) rfl rfl ?_
      refine x_iload dX3_waysUp_113 rfl ?_
      refine x_iconst (v := 1) dX3_waysUp_115 (by decide) ?_
      refine x_isub dX3_waysUp_116 ?_
      obtain ⟨c11, h⟩ := xck h
      refine x_laldK (jn := (Int32.toNatClampNeg (l10 - 1))) (v := (a43 (Int32.toNatClampNeg (l10 - 1)))) dX3_waysUp_117 (by decide) rfl (xin_ok c11) rfl rfl ?_
      refine x_iload dX3_waysUp_118 rfl ?_
      refine x_i2l dX3_waysUp_120 ?_
      refine x_lmul dX3_waysUp_121 ?_
      obtain ⟨c12, h⟩ := xck h
      refine x_lastK (jn := (Int32.toNatClampNeg l10)) (L' := [(42, _), (43, _)]) dX3_waysUp_122 (by decide) rfl (xin_ok c12) rfl rfl ?_
      refine x_iinc (v := l10 + (-1)) (ls' := [_, _, _, _, _, _, _, _, _, _, _]) dX3_waysUp_123 rfl rfl rfl rfl ?_
      refine x_goto (tgt := 86) dX3_waysUp_126 (by decide) ?_
      show V yX3_waysUp cX3_waysUp (some .long) 1 61 (0, 0) 86 [some (.ref 42), some (.int l1), none, some (.int l3), some (.int l4), some (.long l5), none, some (.int l7), some (.long ((l8 + (a43 (Int32.toNatClampNeg l10))))), none, some (.int ((l10 + (-1))))] [] (xof s0 [W_42, W_43 (vp_updL a43 ((Int32.toNatClampNeg l10)) (((a43 (Int32.toNatClampNeg (l10 - 1))) * (Int32.toInt64 l4))))]) _
      exact ih ((l8 + (a43 (Int32.toNatClampNeg l10)))) ((l10 + (-1))) (vp_updL a43 ((Int32.toNatClampNeg l10)) (((a43 (Int32.toNatClampNeg (l10 - 1))) * (Int32.toInt64 l4)))) _ h hk
def l_X3_waysUp_42_46 (n : Nat) (l1 : Int32) (l3 : Int32) (l4 : Int32) : Nat → (Int64) → (Int32) → (Nat → Int64) → Option (((Int64) × (Int32) × (Nat → Int64)))
  | 0, _, _, _ => none
  | k + 1, l5, l7, a43 => (if l3 ≤ l7 then (some (l5, l7, a43)) else (bif xin (l1 - 1) 17 then (Option.bind (l_X3_waysUp_42_86 n l1 l3 l4 (((l5 * 256) + ((a43 (Int32.toNatClampNeg (l1 - 1))) * (Int32.toInt64 l4)))) l7 n ((a43 0)) ((l1 - 1)) a43) (fun u13 => (l_X3_waysUp_42_46 n l1 l3 l4 k (((l5 * 256) + ((a43 (Int32.toNatClampNeg (l1 - 1))) * (Int32.toInt64 l4)))) ((l7 + 1)) (vp_updL u13.2.2 0 ((u13.1 * (Int32.toInt64 (256 - l4)))))))) else none))
set_option maxRecDepth 100000 in
set_option maxHeartbeats 400000 in
theorem lv_X3_waysUp_42_46 (s0 : XW) (n : Nat) (l1 : Int32) (l3 : Int32) (l4 : Int32) (Q : Nat → Option Value → XW → Prop) : ∀ (k : Nat) (l5 : Int64) (l7 : Int32) (a43 : Nat → Int64) (o : ((Int64) × (Int32) × (Nat → Int64))), l_X3_waysUp_42_46 n l1 l3 l4 k l5 l7 a43 = some o → (V yX3_waysUp cX3_waysUp (some .long) 1 61 (0, 0) 151 [none, none, none, none, none, some (.long o.1), none, none, none, none, none] [] (xof s0 [W_42, W_43 o.2.2]) Q) → V yX3_waysUp cX3_waysUp (some .long) 1 61 (0, 0) 46 [some (.ref 42), some (.int l1), none, some (.int l3), some (.int l4), some (.long l5), none, some (.int l7), none, none, none] [] (xof s0 [W_42, W_43 a43]) Q := by
  intro k
  induction k with
  | zero =>
    intro _ _ _ _ h
    simp [l_X3_waysUp_42_46] at h
  | succ k ih =>
    intro l5 l7 a43 o h hk
    rw [l_X3_waysUp_42_46] at h
    refine x_iload dX3_waysUp_46 rfl ?_
    refine x_iload_n dX3_waysUp_48 rfl ?_
    refine x_icmp_ge (tgt := 151) dX3_waysUp_49 (by decide) (fun c7 => ?_) (fun c7 => ?_)
    · replace h := xif_p c7 h
      refine V.drop1 (i := 0) (ls' := [_, _, _, _, _, _, _, _, _, _, _]) rfl ?_
      refine V.drop1 (i := 1) (ls' := [_, _, _, _, _, _, _, _, _, _, _]) rfl ?_
      refine V.drop1 (i := 3) (ls' := [_, _, _, _, _, _, _, _, _, _, _]) rfl ?_
      refine V.drop1 (i := 4) (ls' := [_, _, _, _, _, _, _, _, _, _, _]) rfl ?_
      refine V.drop1 (i := 7) (ls' := [_, _, _, _, _, _, _, _, _, _, _]) rfl ?_
      show V yX3_waysUp cX3_waysUp (some .long) 1 61 (0, 0) 151 [none, none, none, none, none, some (.long l5), none, none, none, none, none] [] (xof s0 [W_42, W_43 a43]) _
      cases h
      exact hk
    · replace h := xif_n c7 h
      refine x_lload dX3_waysUp_52 rfl ?_
      refine x_ldc2 dX3_waysUp_54 cn_X3_19 ?_
      refine x_lmul dX3_waysUp_57 ?_
      refine x_aload_n dX3_waysUp_58 rfl ?_
      refine g_X3_7 rfl dX3_waysUp_59 (by decide) rfl rfl ?_
      refine x_iload_n dX3_waysUp_62 rfl ?_
      refine x_iconst (v := 1) dX3_waysUp_63 (by decide) ?_
      refine x_isub dX3_waysUp_64 ?_
      obtain ⟨c8, h⟩ := xck h
      refine x_laldK (jn := (Int32.toNatClampNeg (l1 - 1))) (v := (a43 (Int32.toNatClampNeg (l1 - 1)))) dX3_waysUp_65 (by decide) rfl (xin_ok c8) rfl rfl ?_
      refine x_iload dX3_waysUp_66 rfl ?_
      refine x_i2l dX3_waysUp_68 ?_
      refine x_lmul dX3_waysUp_69 ?_
      refine x_ladd dX3_waysUp_70 ?_
      refine x_lstore (ls' := [_, _, _, _, _, _, _, _, _, _, _]) dX3_waysUp_71 rfl rfl ?_
      refine x_aload_n dX3_waysUp_73 rfl ?_
      refine g_X3_7 rfl dX3_waysUp_74 (by decide) rfl rfl ?_
      refine x_iconst (v := 0) dX3_waysUp_77 (by decide) ?_
      refine x_laldK (jn := 0) (v := (a43 0)) dX3_waysUp_78 (by decide) rfl (xin_ok (by decide)) (by decide) rfl ?_
      refine x_lstore (ls' := [_, _, _, _, _, _, _, _, _, _, _]) dX3_waysUp_79 rfl rfl ?_
      refine x_iload_n dX3_waysUp_81 rfl ?_
      refine x_iconst (v := 1) dX3_waysUp_82 (by decide) ?_
      refine x_isub dX3_waysUp_83 ?_
      refine x_istore (ls' := [_, _, _, _, _, _, _, _, _, _, _]) dX3_waysUp_84 rfl rfl ?_
      obtain ⟨u13, hu13, h⟩ := Option.bind_eq_some_iff.mp h
      show V yX3_waysUp cX3_waysUp (some .long) 1 61 (0, 0) 86 [some (.ref 42), some (.int l1), none, some (.int l3), some (.int l4), some (.long (((l5 * 256) + ((a43 (Int32.toNatClampNeg (l1 - 1))) * (Int32.toInt64 l4))))), none, some (.int l7), some (.long ((a43 0))), none, some (.int ((l1 - 1)))] [] (xof s0 [W_42, W_43 a43]) _
      refine lv_X3_waysUp_42_86 s0 _ l1 l3 l4 (((l5 * 256) + ((a43 (Int32.toNatClampNeg (l1 - 1))) * (Int32.toInt64 l4)))) l7 _ n ((a43 0)) ((l1 - 1)) a43 _ hu13 ?_
      refine x_aload_n dX3_waysUp_129 rfl ?_
      refine g_X3_7 rfl dX3_waysUp_130 (by decide) rfl rfl ?_
      refine x_iconst (v := 0) dX3_waysUp_133 (by decide) ?_
      refine x_lload dX3_waysUp_134 rfl ?_
      refine x_sipush (v := 256) dX3_waysUp_136 (by decide) ?_
      refine x_iload dX3_waysUp_139 rfl ?_
      refine x_isub dX3_waysUp_141 ?_
      refine x_i2l dX3_waysUp_142 ?_
      refine x_lmul dX3_waysUp_143 ?_
      refine x_lastK (jn := 0) (L' := [(42, _), (43, _)]) dX3_waysUp_144 (by decide) rfl (xin_ok (by decide)) (by decide) rfl ?_
      refine x_iinc (v := l7 + 1) (ls' := [_, _, _, _, _, _, _, _, _, _, _]) dX3_waysUp_145 rfl rfl rfl rfl ?_
      refine x_goto (tgt := 46) dX3_waysUp_148 (by decide) ?_
      refine V.drop1 (i := 8) (ls' := [_, _, _, _, _, _, _, _, _, _, _]) rfl ?_
      show V yX3_waysUp cX3_waysUp (some .long) 1 61 (0, 0) 46 [some (.ref 42), some (.int l1), none, some (.int l3), some (.int l4), some (.long (((l5 * 256) + ((a43 (Int32.toNatClampNeg (l1 - 1))) * (Int32.toInt64 l4))))), none, some (.int ((l7 + 1))), none, none, none] [] (xof s0 [W_42, W_43 (vp_updL u13.2.2 0 ((u13.1 * (Int32.toInt64 (256 - l4)))))]) _
      exact ih (((l5 * 256) + ((a43 (Int32.toNatClampNeg (l1 - 1))) * (Int32.toInt64 l4)))) ((l7 + 1)) (vp_updL u13.2.2 0 ((u13.1 * (Int32.toInt64 (256 - l4))))) _ h hk
def f_X3_waysUp_42 (n : Nat) (a43 : Nat → Int64) (p1 : Int32) (p2 : Int32) (p3 : Int32) (p4 : Int32) : Option (((Int64) × (Nat → Int64))) := (if p1 < 1 then (some (0, a43)) else (if 17 < p1 then (some (0, a43)) else (if p2 < 0 then (some (0, a43)) else (if p2 < p1 then (Option.bind (f_J7_fill_d0a16_43 n a43 0) (fun q5 => (bif xin p2 17 then (Option.bind (l_X3_waysUp_42_46 n p1 p3 p4 n 0 0 (vp_updL q5 ((Int32.toNatClampNeg p2)) 1)) (fun u14 => (some (u14.1, u14.2.2)))) else none))) else (some (0, a43))))))
set_option maxRecDepth 100000 in
set_option maxHeartbeats 400000 in
theorem v_X3_waysUp_42 (s0 : XW) (n : Nat) (a43 : Nat → Int64) (p1 : Int32) (p2 : Int32) (p3 : Int32) (p4 : Int32) (q : ((Int64) × (Nat → Int64))) (h : f_X3_waysUp_42 n a43 p1 p2 p3 p4 = some q) : C_X3_waysUp 1 61 [.ref 42, .int p1, .int p2, .int p3, .int p4] (xof s0 [W_42, W_43 a43]) (some (.long q.1)) (xof s0 [W_42, W_43 q.2]) := by
  unfold f_X3_waysUp_42 at h
  show V yX3_waysUp cX3_waysUp (some .long) 1 61 (0, 0) 0 [some (.ref 42), some (.int p1), some (.int p2), some (.int p3), some (.int p4), none, none, none, none, none, none] [] (xof s0 [W_42, W_43 a43]) _
  refine x_iload_n dX3_waysUp_0 rfl ?_
  refine x_iconst (v := 1) dX3_waysUp_1 (by decide) ?_
  refine x_icmp_lt (tgt := 23) dX3_waysUp_2 (by decide) (fun c1 => ?_) (fun c1 => ?_)
  · replace h := xif_p c1 h
    refine x_lconst (v := 0) dX3_waysUp_23 (by decide) ?_
    cases h
    exact x_lret dX3_waysUp_24 ⟨rfl, rfl, rfl⟩
  · replace h := xif_n c1 h
    refine x_iload_n dX3_waysUp_5 rfl ?_
    refine x_aload_n dX3_waysUp_6 rfl ?_
    refine g_X3_7 rfl dX3_waysUp_7 (by decide) rfl rfl ?_
    refine x_alen (v := 17) dX3_waysUp_10 (by decide) rfl (by decide) rfl ?_
    refine x_icmp_gt (tgt := 23) dX3_waysUp_11 (by decide) (fun c2 => ?_) (fun c2 => ?_)
    · replace h := xif_p c2 h
      refine x_lconst (v := 0) dX3_waysUp_23 (by decide) ?_
      cases h
      exact x_lret dX3_waysUp_24 ⟨rfl, rfl, rfl⟩
    · replace h := xif_n c2 h
      refine x_iload_n dX3_waysUp_14 rfl ?_
      refine x_if_lt (tgt := 23) dX3_waysUp_15 (by decide) (fun c3 => ?_) (fun c3 => ?_)
      · replace h := xif_p c3 h
        refine x_lconst (v := 0) dX3_waysUp_23 (by decide) ?_
        cases h
        exact x_lret dX3_waysUp_24 ⟨rfl, rfl, rfl⟩
      · replace h := xif_n c3 h
        refine x_iload_n dX3_waysUp_18 rfl ?_
        refine x_iload_n dX3_waysUp_19 rfl ?_
        refine x_icmp_lt (tgt := 25) dX3_waysUp_20 (by decide) (fun c4 => ?_) (fun c4 => ?_)
        · replace h := xif_p c4 h
          refine x_aload_n dX3_waysUp_25 rfl ?_
          refine g_X3_7 rfl dX3_waysUp_26 (by decide) rfl rfl ?_
          refine x_lconst (v := 0) dX3_waysUp_29 (by decide) ?_
          obtain ⟨q5, hq5, h⟩ := Option.bind_eq_some_iff.mp h
          refine y_callSv (L' := [(42, _), (43, _)]) mi_J7_fill_d0a16 ml_X3_13 st_J7_fill_d0a16 dX3_waysUp_30 (fun s1 => v_J7_fill_d0a16_43 s1 n _ _ q5 hq5) (Nat.le_of_ble_eq_true rfl) rfl (by decide) (Nat.le_of_ble_eq_true rfl) rfl rfl rfl rfl ?_
          refine x_aload_n dX3_waysUp_33 rfl ?_
          refine g_X3_7 rfl dX3_waysUp_34 (by decide) rfl rfl ?_
          refine x_iload_n dX3_waysUp_37 rfl ?_
          refine x_lconst (v := 1) dX3_waysUp_38 (by decide) ?_
          obtain ⟨c6, h⟩ := xck h
          refine x_lastK (jn := (Int32.toNatClampNeg p2)) (L' := [(42, _), (43, _)]) dX3_waysUp_39 (by decide) rfl (xin_ok c6) rfl rfl ?_
          refine x_lconst (v := 0) dX3_waysUp_40 (by decide) ?_
          refine x_lstore (ls' := [_, _, _, _, _, _, _, _, _, _, _]) dX3_waysUp_41 rfl rfl ?_
          refine x_iconst (v := 0) dX3_waysUp_43 (by decide) ?_
          refine x_istore (ls' := [_, _, _, _, _, _, _, _, _, _, _]) dX3_waysUp_44 rfl rfl ?_
          refine V.drop1 (i := 2) (ls' := [_, _, _, _, _, _, _, _, _, _, _]) rfl ?_
          obtain ⟨u14, hu14, h⟩ := Option.bind_eq_some_iff.mp h
          show V yX3_waysUp cX3_waysUp (some .long) 1 61 (0, 0) 46 [some (.ref 42), some (.int p1), none, some (.int p3), some (.int p4), some (.long 0), none, some (.int 0), none, none, none] [] (xof s0 [W_42, W_43 (vp_updL q5 ((Int32.toNatClampNeg p2)) 1)]) _
          refine lv_X3_waysUp_42_46 s0 _ p1 p3 p4 _ n 0 0 (vp_updL q5 ((Int32.toNatClampNeg p2)) 1) _ hu14 ?_
          refine x_lload dX3_waysUp_151 rfl ?_
          cases h
          exact x_lret dX3_waysUp_153 ⟨rfl, rfl, rfl⟩
        · replace h := xif_n c4 h
          refine x_lconst (v := 0) dX3_waysUp_23 (by decide) ?_
          cases h
          exact x_lret dX3_waysUp_24 ⟨rfl, rfl, rfl⟩
def b_X11_oddsOf_0_9 (n : Nat) (a1 : Nat → Int32) (a43 : Nat → Int64) (l1 : Int32) (l2 : Int32) (l3 : Int32) (t0 : Int32) : Option (((Int64) × (Nat → Int64))) := (Option.bind (f_X11_rungsOf_0 a1 l1) (fun q2 => (Option.bind (f_X11_climbsOf l1 l3) (fun q3 => (Option.bind (f_X3_waysUp_42 n a43 q2 t0 l2 q3) (fun q4 => (some (q4.1, q4.2))))))))
set_option maxRecDepth 100000 in
set_option maxHeartbeats 400000 in
theorem vb_X11_oddsOf_0_9 (s0 : XW) (n : Nat) (a1 : Nat → Int32) (a43 : Nat → Int64) (l1 : Int32) (l2 : Int32) (l3 : Int32) (t0 : Int32) (q : ((Int64) × (Nat → Int64))) (h : b_X11_oddsOf_0_9 n a1 a43 l1 l2 l3 t0 = some q) : V yX11_oddsOf cX11_oddsOf (some .long) 2 61 (0, 0) 9 [some (.ref 0), some (.int l1), some (.int l2), some (.int l3), none] [.int t0] (xof s0 [W_0, W_1 a1, W_42, W_43 a43]) (xq 61 (some (.long q.1)) (xof s0 [W_0, W_1 a1, W_42, W_43 q.2])) := by
  unfold b_X11_oddsOf_0_9 at h
  refine x_istore (ls' := [_, _, _, _, _]) dX11_oddsOf_9 rfl rfl ?_
  refine x_aload_n dX11_oddsOf_11 rfl ?_
  refine g_X11_84 rfl dX11_oddsOf_12 (by decide) rfl rfl ?_
  refine x_aload_n dX11_oddsOf_15 rfl ?_
  refine x_iload_n dX11_oddsOf_16 rfl ?_
  obtain ⟨q2, hq2, h⟩ := Option.bind_eq_some_iff.mp h
  refine y_callVi (L' := [(0, _), (1, _), (42, _), (43, _)]) mi_X11_rungsOf ml_X11_355 im_X11_rungsOf se_X11_rungsOf (rfl : vwCl[10]? = _) dX11_oddsOf_17 (fun s1 => v_X11_rungsOf_0 s1 _ _ q2 hq2) (by decide) rfl (Nat.le_of_ble_eq_true rfl) rfl (by decide) (Nat.le_of_ble_eq_true rfl) rfl rfl rfl rfl ?_
  refine x_iload dX11_oddsOf_20 rfl ?_
  refine x_iload_n dX11_oddsOf_22 rfl ?_
  refine x_iload_n dX11_oddsOf_23 rfl ?_
  refine x_iload_n dX11_oddsOf_24 rfl ?_
  obtain ⟨q3, hq3, h⟩ := Option.bind_eq_some_iff.mp h
  refine y_callSi (L' := [(0, _), (1, _), (42, _), (43, _)]) mi_X11_climbsOf ml_X11_350 st_X11_climbsOf dX11_oddsOf_25 (fun s1 => v_X11_climbsOf 61 s1 _ _ q3 hq3) (Nat.le_of_ble_eq_true rfl) rfl (by decide) (Nat.le_of_ble_eq_true rfl) rfl rfl rfl rfl ?_
  obtain ⟨q4, hq4, h⟩ := Option.bind_eq_some_iff.mp h
  refine y_callVl (L' := [(0, _), (1, _), (42, _), (43, _)]) mi_X3_waysUp ml_X11_391 im_X3_waysUp se_X3_waysUp (rfl : vwCl[2]? = _) dX11_oddsOf_28 (fun s1 => v_X3_waysUp_42 s1 n _ _ _ _ _ q4 hq4) (by decide) rfl (Nat.le_of_ble_eq_true rfl) rfl (by decide) (Nat.le_of_ble_eq_true rfl) rfl rfl rfl rfl ?_
  cases h
  exact x_lret dX11_oddsOf_31 ⟨rfl, rfl, rfl⟩
def f_X11_oddsOf_0 (n : Nat) (a1 : Nat → Int32) (a43 : Nat → Int64) (p1 : Int32) (p2 : Int32) (p3 : Int32) : Option (((Int64) × (Nat → Int64))) := (if p1 = 0 then (b_X11_oddsOf_0_9 n a1 a43 p1 p2 p3 0) else (b_X11_oddsOf_0_9 n a1 a43 p1 p2 p3 1))
set_option maxRecDepth 100000 in
set_option maxHeartbeats 400000 in
theorem v_X11_oddsOf_0 (s0 : XW) (n : Nat) (a1 : Nat → Int32) (a43 : Nat → Int64) (p1 : Int32) (p2 : Int32) (p3 : Int32) (q : ((Int64) × (Nat → Int64))) (h : f_X11_oddsOf_0 n a1 a43 p1 p2 p3 = some q) : C_X11_oddsOf 2 61 [.ref 0, .int p1, .int p2, .int p3] (xof s0 [W_0, W_1 a1, W_42, W_43 a43]) (some (.long q.1)) (xof s0 [W_0, W_1 a1, W_42, W_43 q.2]) := by
  unfold f_X11_oddsOf_0 at h
  show V yX11_oddsOf cX11_oddsOf (some .long) 2 61 (0, 0) 0 [some (.ref 0), some (.int p1), some (.int p2), some (.int p3), none] [] (xof s0 [W_0, W_1 a1, W_42, W_43 a43]) _
  refine x_iload_n dX11_oddsOf_0 rfl ?_
  refine x_if_ne (tgt := 8) dX11_oddsOf_1 (by decide) (fun c1 => ?_) (fun c1 => ?_)
  · replace h := xif_n c1 h
    refine x_iconst (v := 1) dX11_oddsOf_8 (by decide) ?_
    show V yX11_oddsOf cX11_oddsOf (some .long) 2 61 (0, 0) 9 [some (.ref 0), some (.int p1), some (.int p2), some (.int p3), none] [.int 1] (xof s0 [W_0, W_1 a1, W_42, W_43 a43]) _
    exact vb_X11_oddsOf_0_9 s0 n a1 a43 p1 p2 p3 1 q h
  · replace h := xif_p c1 h
    refine x_iconst (v := 0) dX11_oddsOf_4 (by decide) ?_
    refine x_goto (tgt := 9) dX11_oddsOf_5 (by decide) ?_
    show V yX11_oddsOf cX11_oddsOf (some .long) 2 61 (0, 0) 9 [some (.ref 0), some (.int p1), some (.int p2), some (.int p3), none] [.int 0] (xof s0 [W_0, W_1 a1, W_42, W_43 a43]) _
    exact vb_X11_oddsOf_0_9 s0 n a1 a43 p1 p2 p3 0 q h
def b_X11_odds_0_19 (n : Nat) (a1 : Nat → Int32) (a43 : Nat → Int64)  : Option (((Int64) × (Nat → Int64))) := (some ((-2), a43))
set_option maxRecDepth 100000 in
set_option maxHeartbeats 400000 in
theorem vb_X11_odds_0_19 (s0 : XW) (n : Nat) (a1 : Nat → Int32) (a43 : Nat → Int64)  (q : ((Int64) × (Nat → Int64))) (h : b_X11_odds_0_19 n a1 a43 = some q) : V yX11_odds cX11_odds (some .long) 3 61 (0, 0) 19 [none, none, none, none, none] [] (xof s0 [W_0, W_1 a1, W_42, W_43 a43]) (xq 61 (some (.long q.1)) (xof s0 [W_0, W_1 a1, W_42, W_43 q.2])) := by
  unfold b_X11_odds_0_19 at h
  refine x_ldc2 dX11_odds_19 cn_X11_332 ?_
  cases h
  exact x_lret dX11_odds_22 ⟨rfl, rfl, rfl⟩
def b_X11_odds_0_44 (n : Nat) (a1 : Nat → Int32) (a43 : Nat → Int64)  : Option (((Int64) × (Nat → Int64))) := (some ((-3), a43))
set_option maxRecDepth 100000 in
set_option maxHeartbeats 400000 in
theorem vb_X11_odds_0_44 (s0 : XW) (n : Nat) (a1 : Nat → Int32) (a43 : Nat → Int64)  (q : ((Int64) × (Nat → Int64))) (h : b_X11_odds_0_44 n a1 a43 = some q) : V yX11_odds cX11_odds (some .long) 3 61 (0, 0) 44 [none, none, none, none, none] [] (xof s0 [W_0, W_1 a1, W_42, W_43 a43]) (xq 61 (some (.long q.1)) (xof s0 [W_0, W_1 a1, W_42, W_43 q.2])) := by
  unfold b_X11_odds_0_44 at h
  refine x_ldc2 dX11_odds_44 cn_X11_330 ?_
  cases h
  exact x_lret dX11_odds_47 ⟨rfl, rfl, rfl⟩
def f_X11_odds_0 (n : Nat) (a1 : Nat → Int32) (a43 : Nat → Int64) (p1 : Int32) (p2 : Int32) (p3 : Int32) (p4 : Int32) : Option (((Int64) × (Nat → Int64))) := (Option.bind (f_X11_isWithin p1 0 1) (fun q1 => (if q1 = 0 then (b_X11_odds_0_19 n a1 a43) else (Option.bind (f_X11_isWithin p4 0 4) (fun q3 => (if q3 = 0 then (b_X11_odds_0_19 n a1 a43) else (Option.bind (f_X11_isWithin p2 0 7) (fun q5 => (if q5 = 0 then (b_X11_odds_0_44 n a1 a43) else (Option.bind (f_X11_isWithin p3 0 256) (fun q7 => (if q7 = 0 then (b_X11_odds_0_44 n a1 a43) else (Option.bind (f_X11_oddsOf_0 n a1 a43 p1 p2 p3) (fun q9 => (Option.bind (f_X0_ofRatio n q9.1 ((1 <<< (Int32.toInt64 (8 * p2) &&& 63))) p4) (fun q10 => (some (q10, q9.2))))))))))))))))))
set_option maxRecDepth 100000 in
set_option maxHeartbeats 400000 in
theorem v_X11_odds_0 (s0 : XW) (n : Nat) (a1 : Nat → Int32) (a43 : Nat → Int64) (p1 : Int32) (p2 : Int32) (p3 : Int32) (p4 : Int32) (q : ((Int64) × (Nat → Int64))) (h : f_X11_odds_0 n a1 a43 p1 p2 p3 p4 = some q) : C_X11_odds 3 61 [.ref 0, .int p1, .int p2, .int p3, .int p4] (xof s0 [W_0, W_1 a1, W_42, W_43 a43]) (some (.long q.1)) (xof s0 [W_0, W_1 a1, W_42, W_43 q.2]) := by
  unfold f_X11_odds_0 at h
  show V yX11_odds cX11_odds (some .long) 3 61 (0, 0) 0 [some (.ref 0), some (.int p1), some (.int p2), some (.int p3), some (.int p4)] [] (xof s0 [W_0, W_1 a1, W_42, W_43 a43]) _
  refine x_iload_n dX11_odds_0 rfl ?_
  refine x_iconst (v := 0) dX11_odds_1 (by decide) ?_
  refine x_iconst (v := 1) dX11_odds_2 (by decide) ?_
  obtain ⟨q1, hq1, h⟩ := Option.bind_eq_some_iff.mp h
  refine y_callSi (L' := [(0, _), (1, _), (42, _), (43, _)]) mi_X11_isWithin ml_X11_100 st_X11_isWithin dX11_odds_3 (fun s1 => v_X11_isWithin 61 s1 _ _ _ q1 hq1) (Nat.le_of_ble_eq_true rfl) rfl (by decide) (Nat.le_of_ble_eq_true rfl) rfl rfl rfl rfl ?_
  refine x_if_eq (tgt := 19) dX11_odds_6 (by decide) (fun c2 => ?_) (fun c2 => ?_)
  · replace h := xif_p c2 h
    refine V.drop1 (i := 0) (ls' := [_, _, _, _, _]) rfl ?_
    refine V.drop1 (i := 1) (ls' := [_, _, _, _, _]) rfl ?_
    refine V.drop1 (i := 2) (ls' := [_, _, _, _, _]) rfl ?_
    refine V.drop1 (i := 3) (ls' := [_, _, _, _, _]) rfl ?_
    refine V.drop1 (i := 4) (ls' := [_, _, _, _, _]) rfl ?_
    show V yX11_odds cX11_odds (some .long) 3 61 (0, 0) 19 [none, none, none, none, none] [] (xof s0 [W_0, W_1 a1, W_42, W_43 a43]) _
    exact vb_X11_odds_0_19 s0 n a1 a43 q h
  · replace h := xif_n c2 h
    refine x_iload dX11_odds_9 rfl ?_
    refine x_iconst (v := 0) dX11_odds_11 (by decide) ?_
    refine x_iconst (v := 4) dX11_odds_12 (by decide) ?_
    obtain ⟨q3, hq3, h⟩ := Option.bind_eq_some_iff.mp h
    refine y_callSi (L' := [(0, _), (1, _), (42, _), (43, _)]) mi_X11_isWithin ml_X11_100 st_X11_isWithin dX11_odds_13 (fun s1 => v_X11_isWithin 61 s1 _ _ _ q3 hq3) (Nat.le_of_ble_eq_true rfl) rfl (by decide) (Nat.le_of_ble_eq_true rfl) rfl rfl rfl rfl ?_
    refine x_if_ne (tgt := 23) dX11_odds_16 (by decide) (fun c4 => ?_) (fun c4 => ?_)
    · replace h := xif_n c4 h
      refine x_iload_n dX11_odds_23 rfl ?_
      refine x_iconst (v := 0) dX11_odds_24 (by decide) ?_
      refine x_bipush (v := 7) dX11_odds_25 (by decide) ?_
      obtain ⟨q5, hq5, h⟩ := Option.bind_eq_some_iff.mp h
      refine y_callSi (L' := [(0, _), (1, _), (42, _), (43, _)]) mi_X11_isWithin ml_X11_100 st_X11_isWithin dX11_odds_27 (fun s1 => v_X11_isWithin 61 s1 _ _ _ q5 hq5) (Nat.le_of_ble_eq_true rfl) rfl (by decide) (Nat.le_of_ble_eq_true rfl) rfl rfl rfl rfl ?_
      refine x_if_eq (tgt := 44) dX11_odds_30 (by decide) (fun c6 => ?_) (fun c6 => ?_)
      · replace h := xif_p c6 h
        refine V.drop1 (i := 0) (ls' := [_, _, _, _, _]) rfl ?_
        refine V.drop1 (i := 1) (ls' := [_, _, _, _, _]) rfl ?_
        refine V.drop1 (i := 2) (ls' := [_, _, _, _, _]) rfl ?_
        refine V.drop1 (i := 3) (ls' := [_, _, _, _, _]) rfl ?_
        refine V.drop1 (i := 4) (ls' := [_, _, _, _, _]) rfl ?_
        show V yX11_odds cX11_odds (some .long) 3 61 (0, 0) 44 [none, none, none, none, none] [] (xof s0 [W_0, W_1 a1, W_42, W_43 a43]) _
        exact vb_X11_odds_0_44 s0 n a1 a43 q h
      · replace h := xif_n c6 h
        refine x_iload_n dX11_odds_33 rfl ?_
        refine x_iconst (v := 0) dX11_odds_34 (by decide) ?_
        refine x_sipush (v := 256) dX11_odds_35 (by decide) ?_
        obtain ⟨q7, hq7, h⟩ := Option.bind_eq_some_iff.mp h
        refine y_callSi (L' := [(0, _), (1, _), (42, _), (43, _)]) mi_X11_isWithin ml_X11_100 st_X11_isWithin dX11_odds_38 (fun s1 => v_X11_isWithin 61 s1 _ _ _ q7 hq7) (Nat.le_of_ble_eq_true rfl) rfl (by decide) (Nat.le_of_ble_eq_true rfl) rfl rfl rfl rfl ?_
        refine x_if_ne (tgt := 48) dX11_odds_41 (by decide) (fun c8 => ?_) (fun c8 => ?_)
        · replace h := xif_n c8 h
          refine x_aload_n dX11_odds_48 rfl ?_
          refine x_iload_n dX11_odds_49 rfl ?_
          refine x_iload_n dX11_odds_50 rfl ?_
          refine x_iload_n dX11_odds_51 rfl ?_
          obtain ⟨q9, hq9, h⟩ := Option.bind_eq_some_iff.mp h
          refine y_callVl (L' := [(0, _), (1, _), (42, _), (43, _)]) mi_X11_oddsOf ml_X11_346 im_X11_oddsOf se_X11_oddsOf (rfl : vwCl[10]? = _) dX11_odds_52 (fun s1 => v_X11_oddsOf_0 s1 n _ _ _ _ _ q9 hq9) (by decide) rfl (Nat.le_of_ble_eq_true rfl) rfl (by decide) (Nat.le_of_ble_eq_true rfl) rfl rfl rfl rfl ?_
          refine x_lconst (v := 1) dX11_odds_55 (by decide) ?_
          refine x_bipush (v := 8) dX11_odds_56 (by decide) ?_
          refine x_iload_n dX11_odds_58 rfl ?_
          refine x_imul dX11_odds_59 ?_
          refine x_lshl dX11_odds_60 ?_
          refine x_iload dX11_odds_61 rfl ?_
          obtain ⟨q10, hq10, h⟩ := Option.bind_eq_some_iff.mp h
          refine y_callSl (L' := [(0, _), (1, _), (42, _), (43, _)]) mi_X0_ofRatio ml_X11_340 st_X0_ofRatio dX11_odds_63 (fun s1 => v_X0_ofRatio 61 s1 n _ _ _ q10 hq10) (Nat.le_of_ble_eq_true rfl) rfl (by decide) (Nat.le_of_ble_eq_true rfl) rfl rfl rfl rfl ?_
          cases h
          exact x_lret dX11_odds_66 ⟨rfl, rfl, rfl⟩
        · replace h := xif_p c8 h
          refine V.drop1 (i := 0) (ls' := [_, _, _, _, _]) rfl ?_
          refine V.drop1 (i := 1) (ls' := [_, _, _, _, _]) rfl ?_
          refine V.drop1 (i := 2) (ls' := [_, _, _, _, _]) rfl ?_
          refine V.drop1 (i := 3) (ls' := [_, _, _, _, _]) rfl ?_
          refine V.drop1 (i := 4) (ls' := [_, _, _, _, _]) rfl ?_
          show V yX11_odds cX11_odds (some .long) 3 61 (0, 0) 44 [none, none, none, none, none] [] (xof s0 [W_0, W_1 a1, W_42, W_43 a43]) _
          exact vb_X11_odds_0_44 s0 n a1 a43 q h
    · replace h := xif_p c4 h
      refine V.drop1 (i := 0) (ls' := [_, _, _, _, _]) rfl ?_
      refine V.drop1 (i := 1) (ls' := [_, _, _, _, _]) rfl ?_
      refine V.drop1 (i := 2) (ls' := [_, _, _, _, _]) rfl ?_
      refine V.drop1 (i := 3) (ls' := [_, _, _, _, _]) rfl ?_
      refine V.drop1 (i := 4) (ls' := [_, _, _, _, _]) rfl ?_
      show V yX11_odds cX11_odds (some .long) 3 61 (0, 0) 19 [none, none, none, none, none] [] (xof s0 [W_0, W_1 a1, W_42, W_43 a43]) _
      exact vb_X11_odds_0_19 s0 n a1 a43 q h
def b_X3_meanClimb_39 (n : Nat)  (l4 : UInt64) : Option UInt64 := (some l4)
set_option maxRecDepth 100000 in
set_option maxHeartbeats 400000 in
theorem vb_X3_meanClimb_39 (N : Nat) (s0 : XW) (n : Nat)  (l4 : UInt64) (q : UInt64) (h : b_X3_meanClimb_39 n l4 = some q) : V yX3_meanClimb cX3_meanClimb (some .double) 0 N (0, 0) 39 [none, none, none, none, some (.double l4), none, none] [] (xof s0 []) (xq N (some (.double q)) (xof s0 [])) := by
  unfold b_X3_meanClimb_39 at h
  refine x_dload dX3_meanClimb_39 rfl ?_
  cases h
  exact x_dret dX3_meanClimb_41 ⟨rfl, rfl, rfl⟩
def l_X3_meanClimb_19 (n : Nat) (l0 : Int32) (l2 : UInt64) : Nat → (UInt64) → (Int32) → Option (((UInt64) × (Int32)))
  | 0, _, _ => none
  | k + 1, l4, l6 => (if l0 ≤ l6 then (some (l4, l6)) else (bif xn64 (FP.dadd l4 4607182418800017408) then (bif xn64 (FP.ddiv (FP.dadd l4 4607182418800017408) l2) then (l_X3_meanClimb_19 n l0 l2 k ((FP.ddiv (FP.dadd l4 4607182418800017408) l2)) ((l6 + 1))) else none) else none))
set_option maxRecDepth 100000 in
set_option maxHeartbeats 400000 in
theorem lv_X3_meanClimb_19 (N : Nat) (s0 : XW) (n : Nat) (l0 : Int32) (l2 : UInt64) (Q : Nat → Option Value → XW → Prop) : ∀ (k : Nat) (l4 : UInt64) (l6 : Int32) (o : ((UInt64) × (Int32))), l_X3_meanClimb_19 n l0 l2 k l4 l6 = some o → (V yX3_meanClimb cX3_meanClimb (some .double) 0 N (0, 0) 39 [none, none, none, none, some (.double o.1), none, none] [] (xof s0 []) Q) → V yX3_meanClimb cX3_meanClimb (some .double) 0 N (0, 0) 19 [some (.int l0), none, some (.double l2), none, some (.double l4), none, some (.int l6)] [] (xof s0 []) Q := by
  intro k
  induction k with
  | zero =>
    intro _ _ _ h
    simp [l_X3_meanClimb_19] at h
  | succ k ih =>
    intro l4 l6 o h hk
    rw [l_X3_meanClimb_19] at h
    refine x_iload dX3_meanClimb_19 rfl ?_
    refine x_iload_n dX3_meanClimb_21 rfl ?_
    refine x_icmp_ge (tgt := 39) dX3_meanClimb_22 (by decide) (fun c3 => ?_) (fun c3 => ?_)
    · replace h := xif_p c3 h
      refine V.drop1 (i := 0) (ls' := [_, _, _, _, _, _, _]) rfl ?_
      refine V.drop1 (i := 2) (ls' := [_, _, _, _, _, _, _]) rfl ?_
      refine V.drop1 (i := 6) (ls' := [_, _, _, _, _, _, _]) rfl ?_
      show V yX3_meanClimb cX3_meanClimb (some .double) 0 N (0, 0) 39 [none, none, none, none, some (.double l4), none, none] [] (xof s0 []) _
      cases h
      exact hk
    · replace h := xif_n c3 h
      refine x_dload dX3_meanClimb_25 rfl ?_
      refine x_dconst1 dX3_meanClimb_27 ?_
      obtain ⟨c4, h⟩ := xck h
      refine x_dadd dX3_meanClimb_28 (xn64_ok c4) ?_
      refine x_dload_n dX3_meanClimb_29 rfl ?_
      obtain ⟨c5, h⟩ := xck h
      refine x_ddiv dX3_meanClimb_30 (xn64_ok c5) ?_
      refine x_dstore (ls' := [_, _, _, _, _, _, _]) dX3_meanClimb_31 rfl rfl ?_
      refine x_iinc (v := l6 + 1) (ls' := [_, _, _, _, _, _, _]) dX3_meanClimb_33 rfl rfl rfl rfl ?_
      refine x_goto (tgt := 19) dX3_meanClimb_36 (by decide) ?_
      show V yX3_meanClimb cX3_meanClimb (some .double) 0 N (0, 0) 19 [some (.int l0), none, some (.double l2), none, some (.double ((FP.ddiv (FP.dadd l4 4607182418800017408) l2))), none, some (.int ((l6 + 1)))] [] (xof s0 []) _
      exact ih ((FP.ddiv (FP.dadd l4 4607182418800017408) l2)) ((l6 + 1)) _ h hk
def f_X3_meanClimb (n : Nat)  (p0 : Int32) (p1 : Int32) : Option UInt64 := (bif xn64 (FP.ddiv (FP.i2d p1) 4643211215818981376) then (if (Op.cmpValue (FP.dcmp (FP.ddiv (FP.i2d p1) 4643211215818981376) 0) CmpOp.l) ≤ 0 then (b_X3_meanClimb_39 n 0) else (Option.bind (l_X3_meanClimb_19 n p0 ((FP.ddiv (FP.i2d p1) 4643211215818981376)) n 0 0) (fun u6 => (b_X3_meanClimb_39 n u6.1)))) else none)
set_option maxRecDepth 100000 in
set_option maxHeartbeats 400000 in
theorem v_X3_meanClimb (N : Nat) (s0 : XW) (n : Nat)  (p0 : Int32) (p1 : Int32) (q : UInt64) (h : f_X3_meanClimb n p0 p1 = some q) : C_X3_meanClimb 0 N [.int p0, .int p1] (xof s0 []) (some (.double q)) (xof s0 []) := by
  unfold f_X3_meanClimb at h
  show V yX3_meanClimb cX3_meanClimb (some .double) 0 N (0, 0) 0 [some (.int p0), some (.int p1), none, none, none, none, none] [] (xof s0 []) _
  refine x_iload_n dX3_meanClimb_0 rfl ?_
  refine x_i2d dX3_meanClimb_1 ?_
  refine x_ldc2d dX3_meanClimb_2 cn_X3_21 ?_
  obtain ⟨c1, h⟩ := xck h
  refine x_ddiv dX3_meanClimb_5 (xn64_ok c1) ?_
  refine x_dstore_n (ls' := [_, _, _, _, _, _, _]) dX3_meanClimb_6 rfl rfl ?_
  refine x_dconst0 dX3_meanClimb_7 ?_
  refine x_dstore (ls' := [_, _, _, _, _, _, _]) dX3_meanClimb_8 rfl rfl ?_
  refine x_dload_n dX3_meanClimb_10 rfl ?_
  refine x_dconst0 dX3_meanClimb_11 ?_
  refine x_dcmp dX3_meanClimb_12 ?_
  refine x_if_le (tgt := 39) dX3_meanClimb_13 (by decide) (fun c2 => ?_) (fun c2 => ?_)
  · replace h := xif_p c2 h
    refine V.drop1 (i := 0) (ls' := [_, _, _, _, _, _, _]) rfl ?_
    refine V.drop1 (i := 1) (ls' := [_, _, _, _, _, _, _]) rfl ?_
    refine V.drop1 (i := 2) (ls' := [_, _, _, _, _, _, _]) rfl ?_
    show V yX3_meanClimb cX3_meanClimb (some .double) 0 N (0, 0) 39 [none, none, none, none, some (.double 0), none, none] [] (xof s0 []) _
    exact vb_X3_meanClimb_39 N s0 n 0 q h
  · replace h := xif_n c2 h
    refine x_iconst (v := 0) dX3_meanClimb_16 (by decide) ?_
    refine x_istore (ls' := [_, _, _, _, _, _, _]) dX3_meanClimb_17 rfl rfl ?_
    refine V.drop1 (i := 1) (ls' := [_, _, _, _, _, _, _]) rfl ?_
    obtain ⟨u6, hu6, h⟩ := Option.bind_eq_some_iff.mp h
    show V yX3_meanClimb cX3_meanClimb (some .double) 0 N (0, 0) 19 [some (.int p0), none, some (.double ((FP.ddiv (FP.i2d p1) 4643211215818981376))), none, some (.double 0), none, some (.int 0)] [] (xof s0 []) _
    refine lv_X3_meanClimb_19 N s0 _ p0 ((FP.ddiv (FP.i2d p1) 4643211215818981376)) _ n 0 0 _ hu6 ?_
    show V yX3_meanClimb cX3_meanClimb (some .double) 0 N (0, 0) 39 [none, none, none, none, some (.double u6.1), none, none] [] (xof s0 []) _
    exact vb_X3_meanClimb_39 N s0 n u6.1 q h
def b_X11_mean_0_18 (n : Nat) (a1 : Nat → Int32)  : Option Int64 := (some ((-2)))
set_option maxRecDepth 100000 in
set_option maxHeartbeats 400000 in
theorem vb_X11_mean_0_18 (s0 : XW) (n : Nat) (a1 : Nat → Int32)  (q : Int64) (h : b_X11_mean_0_18 n a1 = some q) : V yX11_mean cX11_mean (some .long) 1 61 (0, 0) 18 [none, none, none, none, none, none, none] [] (xof s0 [W_0, W_1 a1]) (xq 61 (some (.long q)) (xof s0 [W_0, W_1 a1])) := by
  unfold b_X11_mean_0_18 at h
  refine x_ldc2 dX11_mean_18 cn_X11_332 ?_
  cases h
  exact x_lret dX11_mean_21 ⟨rfl, rfl, rfl⟩
def f_X11_mean_0 (n : Nat) (a1 : Nat → Int32) (p1 : Int32) (p2 : Int32) (p3 : Int32) : Option Int64 := (Option.bind (f_X11_isWithin p1 0 1) (fun q1 => (if q1 = 0 then (b_X11_mean_0_18 n a1) else (Option.bind (f_X11_isWithin p3 0 1) (fun q3 => (if q3 = 0 then (b_X11_mean_0_18 n a1) else (Option.bind (f_X11_isWithin p2 0 256) (fun q5 => (if q5 = 0 then (some ((-3))) else (Option.bind (f_X11_climbsOf p1 p2) (fun q7 => (if q7 = 0 then (some ((-5))) else (Option.bind (f_X11_rungsOf_0 a1 p1) (fun q9 => (Option.bind (f_X3_meanClimb n q9 q7) (fun q10 => (Option.bind (f_X0_ofDouble n q10) (fun q11 => (if p3 = 0 then (Option.bind (f_X0_upper q11) (fun q14 => (some ((Int32.toInt64 q14))))) else (Option.bind (f_X0_lower q11) (fun q13 => (some ((Int32.toInt64 q13))))))))))))))))))))))))
set_option maxRecDepth 100000 in
set_option maxHeartbeats 400000 in
theorem v_X11_mean_0 (s0 : XW) (n : Nat) (a1 : Nat → Int32) (p1 : Int32) (p2 : Int32) (p3 : Int32) (q : Int64) (h : f_X11_mean_0 n a1 p1 p2 p3 = some q) : C_X11_mean 1 61 [.ref 0, .int p1, .int p2, .int p3] (xof s0 [W_0, W_1 a1]) (some (.long q)) (xof s0 [W_0, W_1 a1]) := by
  unfold f_X11_mean_0 at h
  show V yX11_mean cX11_mean (some .long) 1 61 (0, 0) 0 [some (.ref 0), some (.int p1), some (.int p2), some (.int p3), none, none, none] [] (xof s0 [W_0, W_1 a1]) _
  refine x_iload_n dX11_mean_0 rfl ?_
  refine x_iconst (v := 0) dX11_mean_1 (by decide) ?_
  refine x_iconst (v := 1) dX11_mean_2 (by decide) ?_
  obtain ⟨q1, hq1, h⟩ := Option.bind_eq_some_iff.mp h
  refine y_callSi (L' := [(0, _), (1, _)]) mi_X11_isWithin ml_X11_100 st_X11_isWithin dX11_mean_3 (fun s1 => v_X11_isWithin 61 s1 _ _ _ q1 hq1) (Nat.le_of_ble_eq_true rfl) rfl (by decide) (Nat.le_of_ble_eq_true rfl) rfl rfl rfl rfl ?_
  refine x_if_eq (tgt := 18) dX11_mean_6 (by decide) (fun c2 => ?_) (fun c2 => ?_)
  · replace h := xif_p c2 h
    refine V.drop1 (i := 0) (ls' := [_, _, _, _, _, _, _]) rfl ?_
    refine V.drop1 (i := 1) (ls' := [_, _, _, _, _, _, _]) rfl ?_
    refine V.drop1 (i := 2) (ls' := [_, _, _, _, _, _, _]) rfl ?_
    refine V.drop1 (i := 3) (ls' := [_, _, _, _, _, _, _]) rfl ?_
    show V yX11_mean cX11_mean (some .long) 1 61 (0, 0) 18 [none, none, none, none, none, none, none] [] (xof s0 [W_0, W_1 a1]) _
    exact vb_X11_mean_0_18 s0 n a1 q h
  · replace h := xif_n c2 h
    refine x_iload_n dX11_mean_9 rfl ?_
    refine x_iconst (v := 0) dX11_mean_10 (by decide) ?_
    refine x_iconst (v := 1) dX11_mean_11 (by decide) ?_
    obtain ⟨q3, hq3, h⟩ := Option.bind_eq_some_iff.mp h
    refine y_callSi (L' := [(0, _), (1, _)]) mi_X11_isWithin ml_X11_100 st_X11_isWithin dX11_mean_12 (fun s1 => v_X11_isWithin 61 s1 _ _ _ q3 hq3) (Nat.le_of_ble_eq_true rfl) rfl (by decide) (Nat.le_of_ble_eq_true rfl) rfl rfl rfl rfl ?_
    refine x_if_ne (tgt := 22) dX11_mean_15 (by decide) (fun c4 => ?_) (fun c4 => ?_)
    · replace h := xif_n c4 h
      refine x_iload_n dX11_mean_22 rfl ?_
      refine x_iconst (v := 0) dX11_mean_23 (by decide) ?_
      refine x_sipush (v := 256) dX11_mean_24 (by decide) ?_
      obtain ⟨q5, hq5, h⟩ := Option.bind_eq_some_iff.mp h
      refine y_callSi (L' := [(0, _), (1, _)]) mi_X11_isWithin ml_X11_100 st_X11_isWithin dX11_mean_27 (fun s1 => v_X11_isWithin 61 s1 _ _ _ q5 hq5) (Nat.le_of_ble_eq_true rfl) rfl (by decide) (Nat.le_of_ble_eq_true rfl) rfl rfl rfl rfl ?_
      refine x_if_ne (tgt := 37) dX11_mean_30 (by decide) (fun c6 => ?_) (fun c6 => ?_)
      · replace h := xif_n c6 h
        refine x_iload_n dX11_mean_37 rfl ?_
        refine x_iload_n dX11_mean_38 rfl ?_
        obtain ⟨q7, hq7, h⟩ := Option.bind_eq_some_iff.mp h
        refine y_callSi (L' := [(0, _), (1, _)]) mi_X11_climbsOf ml_X11_350 st_X11_climbsOf dX11_mean_39 (fun s1 => v_X11_climbsOf 61 s1 _ _ q7 hq7) (Nat.le_of_ble_eq_true rfl) rfl (by decide) (Nat.le_of_ble_eq_true rfl) rfl rfl rfl rfl ?_
        refine x_istore (ls' := [_, _, _, _, _, _, _]) dX11_mean_42 rfl rfl ?_
        refine x_iload dX11_mean_44 rfl ?_
        refine x_if_ne (tgt := 53) dX11_mean_46 (by decide) (fun c8 => ?_) (fun c8 => ?_)
        · replace h := xif_n c8 h
          refine x_aload_n dX11_mean_53 rfl ?_
          refine x_iload_n dX11_mean_54 rfl ?_
          obtain ⟨q9, hq9, h⟩ := Option.bind_eq_some_iff.mp h
          refine y_callVi (L' := [(0, _), (1, _)]) mi_X11_rungsOf ml_X11_355 im_X11_rungsOf se_X11_rungsOf (rfl : vwCl[10]? = _) dX11_mean_55 (fun s1 => v_X11_rungsOf_0 s1 _ _ q9 hq9) (by decide) rfl (Nat.le_of_ble_eq_true rfl) rfl (by decide) (Nat.le_of_ble_eq_true rfl) rfl rfl rfl rfl ?_
          refine x_iload dX11_mean_58 rfl ?_
          obtain ⟨q10, hq10, h⟩ := Option.bind_eq_some_iff.mp h
          refine y_callSd (L' := [(0, _), (1, _)]) mi_X3_meanClimb ml_X11_358 st_X3_meanClimb dX11_mean_60 (fun s1 => v_X3_meanClimb 61 s1 n _ _ q10 hq10) (Nat.le_of_ble_eq_true rfl) rfl (by decide) (Nat.le_of_ble_eq_true rfl) rfl rfl rfl rfl ?_
          obtain ⟨q11, hq11, h⟩ := Option.bind_eq_some_iff.mp h
          refine y_callSl (L' := [(0, _), (1, _)]) mi_X0_ofDouble ml_X11_362 st_X0_ofDouble dX11_mean_63 (fun s1 => v_X0_ofDouble 61 s1 n _ q11 hq11) (Nat.le_of_ble_eq_true rfl) rfl (by decide) (Nat.le_of_ble_eq_true rfl) rfl rfl rfl rfl ?_
          refine x_lstore (ls' := [_, _, _, _, _, _, _]) dX11_mean_66 rfl rfl ?_
          refine x_iload_n dX11_mean_68 rfl ?_
          refine x_if_ne (tgt := 81) dX11_mean_69 (by decide) (fun c12 => ?_) (fun c12 => ?_)
          · replace h := xif_n c12 h
            refine x_lload dX11_mean_81 rfl ?_
            obtain ⟨q13, hq13, h⟩ := Option.bind_eq_some_iff.mp h
            refine y_callSi (L' := [(0, _), (1, _)]) mi_X0_lower ml_X11_369 st_X0_lower dX11_mean_83 (fun s1 => v_X0_lower 61 s1 _ q13 hq13) (Nat.le_of_ble_eq_true rfl) rfl (by decide) (Nat.le_of_ble_eq_true rfl) rfl rfl rfl rfl ?_
            refine x_i2l dX11_mean_86 ?_
            cases h
            exact x_lret dX11_mean_87 ⟨rfl, rfl, rfl⟩
          · replace h := xif_p c12 h
            refine x_lload dX11_mean_72 rfl ?_
            obtain ⟨q14, hq14, h⟩ := Option.bind_eq_some_iff.mp h
            refine y_callSi (L' := [(0, _), (1, _)]) mi_X0_upper ml_X11_366 st_X0_upper dX11_mean_74 (fun s1 => v_X0_upper 61 s1 _ q14 hq14) (Nat.le_of_ble_eq_true rfl) rfl (by decide) (Nat.le_of_ble_eq_true rfl) rfl rfl rfl rfl ?_
            refine x_i2l dX11_mean_77 ?_
            refine x_goto (tgt := 87) dX11_mean_78 (by decide) ?_
            cases h
            exact x_lret dX11_mean_87 ⟨rfl, rfl, rfl⟩
        · replace h := xif_p c8 h
          refine x_ldc2 dX11_mean_49 cn_X11_353 ?_
          cases h
          exact x_lret dX11_mean_52 ⟨rfl, rfl, rfl⟩
      · replace h := xif_p c6 h
        refine x_ldc2 dX11_mean_33 cn_X11_330 ?_
        cases h
        exact x_lret dX11_mean_36 ⟨rfl, rfl, rfl⟩
    · replace h := xif_p c4 h
      refine V.drop1 (i := 0) (ls' := [_, _, _, _, _, _, _]) rfl ?_
      refine V.drop1 (i := 1) (ls' := [_, _, _, _, _, _, _]) rfl ?_
      refine V.drop1 (i := 2) (ls' := [_, _, _, _, _, _, _]) rfl ?_
      refine V.drop1 (i := 3) (ls' := [_, _, _, _, _, _, _]) rfl ?_
      show V yX11_mean cX11_mean (some .long) 1 61 (0, 0) 18 [none, none, none, none, none, none, none] [] (xof s0 [W_0, W_1 a1]) _
      exact vb_X11_mean_0_18 s0 n a1 q h
def l_X11_half_0_28 (n : Nat) (a1 : Nat → Int32) (l1 : Int32) (l2 : Int32) : Nat → (Int32) → (Nat → Int64) → Option ((((Int32) × (Nat → Int64))) ⊕ (((Int32) × (Nat → Int64))))
  | 0, _, _ => none
  | k + 1, l3, a43 => (if 7 < l3 then (some (Sum.inr (l3, a43))) else (Option.bind (f_X11_oddsOf_0 n a1 a43 l1 l3 l2) (fun q6 => (if (lg_cmp (2 * q6.1) (1 <<< (Int32.toInt64 (8 * l3) &&& 63))) < 0 then (l_X11_half_0_28 n a1 l1 l2 k ((l3 + 1)) q6.2) else (some (Sum.inl (l3, q6.2)))))))
set_option maxRecDepth 100000 in
set_option maxHeartbeats 400000 in
theorem lv_X11_half_0_28 (s0 : XW) (n : Nat) (a1 : Nat → Int32) (l1 : Int32) (l2 : Int32) (Q : Nat → Option Value → XW → Prop) : ∀ (k : Nat) (l3 : Int32) (a43 : Nat → Int64) (o : (((Int32) × (Nat → Int64))) ⊕ (((Int32) × (Nat → Int64)))), l_X11_half_0_28 n a1 l1 l2 k l3 a43 = some o → ((∀ z, o = Sum.inl z → Q 61 (some (.int z.1)) (xof s0 [W_0, W_1 a1, W_42, W_43 z.2])) ∧ (∀ z, o = Sum.inr z → V yX11_half cX11_half (some .int) 3 61 (0, 0) 63 [none, none, none, none] [] (xof s0 [W_0, W_1 a1, W_42, W_43 z.2]) Q)) → V yX11_half cX11_half (some .int) 3 61 (0, 0) 28 [some (.ref 0), some (.int l1), some (.int l2), some (.int l3)] [] (xof s0 [W_0, W_1 a1, W_42, W_43 a43]) Q := by
  intro k
  induction k with
  | zero =>
    intro _ _ _ h
    simp [l_X11_half_0_28] at h
  | succ k ih =>
    intro l3 a43 o h hk
    rw [l_X11_half_0_28] at h
    refine x_iload_n dX11_half_28 rfl ?_
    refine x_bipush (v := 7) dX11_half_29 (by decide) ?_
    refine x_icmp_gt (tgt := 63) dX11_half_31 (by decide) (fun c5 => ?_) (fun c5 => ?_)
    · replace h := xif_p c5 h
      refine V.drop1 (i := 0) (ls' := [_, _, _, _]) rfl ?_
      refine V.drop1 (i := 1) (ls' := [_, _, _, _]) rfl ?_
      refine V.drop1 (i := 2) (ls' := [_, _, _, _]) rfl ?_
      refine V.drop1 (i := 3) (ls' := [_, _, _, _]) rfl ?_
      show V yX11_half cX11_half (some .int) 3 61 (0, 0) 63 [none, none, none, none] [] (xof s0 [W_0, W_1 a1, W_42, W_43 a43]) _
      cases h
      exact hk.2 (l3, a43) rfl
    · replace h := xif_n c5 h
      refine x_ldc2 dX11_half_34 cn_X11_372 ?_
      refine x_aload_n dX11_half_37 rfl ?_
      refine x_iload_n dX11_half_38 rfl ?_
      refine x_iload_n dX11_half_39 rfl ?_
      refine x_iload_n dX11_half_40 rfl ?_
      obtain ⟨q6, hq6, h⟩ := Option.bind_eq_some_iff.mp h
      refine y_callVl (L' := [(0, _), (1, _), (42, _), (43, _)]) mi_X11_oddsOf ml_X11_346 im_X11_oddsOf se_X11_oddsOf (rfl : vwCl[10]? = _) dX11_half_41 (fun s1 => v_X11_oddsOf_0 s1 n _ _ _ _ _ q6 hq6) (by decide) rfl (Nat.le_of_ble_eq_true rfl) rfl (by decide) (Nat.le_of_ble_eq_true rfl) rfl rfl rfl rfl ?_
      refine x_lmul dX11_half_44 ?_
      refine x_lconst (v := 1) dX11_half_45 (by decide) ?_
      refine x_bipush (v := 8) dX11_half_46 (by decide) ?_
      refine x_iload_n dX11_half_48 rfl ?_
      refine x_imul dX11_half_49 ?_
      refine x_lshl dX11_half_50 ?_
      refine x_lcmp dX11_half_51 ?_
      refine x_if_lt (tgt := 57) dX11_half_52 (by decide) (fun c7 => ?_) (fun c7 => ?_)
      · replace h := xif_p c7 h
        refine x_iinc (v := l3 + 1) (ls' := [_, _, _, _]) dX11_half_57 rfl rfl rfl rfl ?_
        refine x_goto (tgt := 28) dX11_half_60 (by decide) ?_
        show V yX11_half cX11_half (some .int) 3 61 (0, 0) 28 [some (.ref 0), some (.int l1), some (.int l2), some (.int ((l3 + 1)))] [] (xof s0 [W_0, W_1 a1, W_42, W_43 q6.2]) _
        exact ih ((l3 + 1)) q6.2 _ h hk
      · replace h := xif_n c7 h
        refine x_iload_n dX11_half_55 rfl ?_
        cases h
        exact x_iret dX11_half_56 (hk.1 (l3, q6.2) rfl)
def f_X11_half_0 (n : Nat) (a1 : Nat → Int32) (a43 : Nat → Int64) (p1 : Int32) (p2 : Int32) : Option (((Int32) × (Nat → Int64))) := (Option.bind (f_X11_isWithin p1 0 1) (fun q1 => (if q1 = 0 then (some ((-2), a43)) else (Option.bind (f_X11_isWithin p2 0 256) (fun q3 => (if q3 = 0 then (some ((-3), a43)) else (Option.bind (l_X11_half_0_28 n a1 p1 p2 n 0 a43) (fun u8 => Sum.elim (fun z9 => some z9) (fun z9 => (some ((-1), z9.2))) u8))))))))
set_option maxRecDepth 100000 in
set_option maxHeartbeats 400000 in
theorem v_X11_half_0 (s0 : XW) (n : Nat) (a1 : Nat → Int32) (a43 : Nat → Int64) (p1 : Int32) (p2 : Int32) (q : ((Int32) × (Nat → Int64))) (h : f_X11_half_0 n a1 a43 p1 p2 = some q) : C_X11_half 3 61 [.ref 0, .int p1, .int p2] (xof s0 [W_0, W_1 a1, W_42, W_43 a43]) (some (.int q.1)) (xof s0 [W_0, W_1 a1, W_42, W_43 q.2]) := by
  unfold f_X11_half_0 at h
  show V yX11_half cX11_half (some .int) 3 61 (0, 0) 0 [some (.ref 0), some (.int p1), some (.int p2), none] [] (xof s0 [W_0, W_1 a1, W_42, W_43 a43]) _
  refine x_iload_n dX11_half_0 rfl ?_
  refine x_iconst (v := 0) dX11_half_1 (by decide) ?_
  refine x_iconst (v := 1) dX11_half_2 (by decide) ?_
  obtain ⟨q1, hq1, h⟩ := Option.bind_eq_some_iff.mp h
  refine y_callSi (L' := [(0, _), (1, _), (42, _), (43, _)]) mi_X11_isWithin ml_X11_100 st_X11_isWithin dX11_half_3 (fun s1 => v_X11_isWithin 61 s1 _ _ _ q1 hq1) (Nat.le_of_ble_eq_true rfl) rfl (by decide) (Nat.le_of_ble_eq_true rfl) rfl rfl rfl rfl ?_
  refine x_if_ne (tgt := 12) dX11_half_6 (by decide) (fun c2 => ?_) (fun c2 => ?_)
  · replace h := xif_n c2 h
    refine x_iload_n dX11_half_12 rfl ?_
    refine x_iconst (v := 0) dX11_half_13 (by decide) ?_
    refine x_sipush (v := 256) dX11_half_14 (by decide) ?_
    obtain ⟨q3, hq3, h⟩ := Option.bind_eq_some_iff.mp h
    refine y_callSi (L' := [(0, _), (1, _), (42, _), (43, _)]) mi_X11_isWithin ml_X11_100 st_X11_isWithin dX11_half_17 (fun s1 => v_X11_isWithin 61 s1 _ _ _ q3 hq3) (Nat.le_of_ble_eq_true rfl) rfl (by decide) (Nat.le_of_ble_eq_true rfl) rfl rfl rfl rfl ?_
    refine x_if_ne (tgt := 26) dX11_half_20 (by decide) (fun c4 => ?_) (fun c4 => ?_)
    · replace h := xif_n c4 h
      refine x_iconst (v := 0) dX11_half_26 (by decide) ?_
      refine x_istore_n (ls' := [_, _, _, _]) dX11_half_27 rfl rfl ?_
      obtain ⟨u8, hu8, h⟩ := Option.bind_eq_some_iff.mp h
      show V yX11_half cX11_half (some .int) 3 61 (0, 0) 28 [some (.ref 0), some (.int p1), some (.int p2), some (.int 0)] [] (xof s0 [W_0, W_1 a1, W_42, W_43 a43]) _
      refine lv_X11_half_0_28 s0 _ a1 p1 p2 _ n 0 a43 _ hu8 ⟨fun z9 hz => ?_, fun z9 hz => ?_⟩
      · subst hz
        replace h := xsl h
        cases h
        exact ⟨rfl, rfl, rfl⟩
      subst hz
      replace h := xsr h
      refine x_iconst (v := -1) dX11_half_63 (by decide) ?_
      cases h
      exact x_iret dX11_half_64 ⟨rfl, rfl, rfl⟩
    · replace h := xif_p c4 h
      refine x_bipush (v := -3) dX11_half_23 (by decide) ?_
      cases h
      exact x_iret dX11_half_25 ⟨rfl, rfl, rfl⟩
  · replace h := xif_p c2 h
    refine x_bipush (v := -2) dX11_half_9 (by decide) ?_
    cases h
    exact x_iret dX11_half_11 ⟨rfl, rfl, rfl⟩
def f_X11_told_0 (a1 : Nat → Int32) (o2 : Nat → Int32) (o4 : Nat → Int32) (p1 : Int32) : Option Int32 := (Option.bind (f_X11_isWithin p1 10 16) (fun q1 => (if q1 = 0 then (if p1 = 0 then (some ((o2 1))) else (if p1 = 1 then (some ((o2 2))) else (if p1 = 2 then (some ((o4 3))) else (some ((-1)))))) else (bif xin (p1 - 10) 7 then (some ((a1 (Int32.toNatClampNeg (p1 - 10))))) else none))))
set_option maxRecDepth 100000 in
set_option maxHeartbeats 400000 in
theorem v_X11_told_0 (s0 : XW) (a1 : Nat → Int32) (o2 : Nat → Int32) (o4 : Nat → Int32) (p1 : Int32) (q : Int32) (h : f_X11_told_0 a1 o2 o4 p1 = some q) : C_X11_told 1 61 [.ref 0, .int p1] (xof s0 [W_0, W_1 a1, W_2 o2, W_4 o4]) (some (.int q)) (xof s0 [W_0, W_1 a1, W_2 o2, W_4 o4]) := by
  unfold f_X11_told_0 at h
  show V yX11_told cX11_told (some .int) 1 61 (0, 0) 0 [some (.ref 0), some (.int p1)] [] (xof s0 [W_0, W_1 a1, W_2 o2, W_4 o4]) _
  refine x_iload_n dX11_told_0 rfl ?_
  refine x_bipush (v := 10) dX11_told_1 (by decide) ?_
  refine x_bipush (v := 16) dX11_told_3 (by decide) ?_
  obtain ⟨q1, hq1, h⟩ := Option.bind_eq_some_iff.mp h
  refine y_callSi (L' := [(0, _), (1, _), (2, _), (4, _)]) mi_X11_isWithin ml_X11_100 st_X11_isWithin dX11_told_5 (fun s1 => v_X11_isWithin 61 s1 _ _ _ q1 hq1) (Nat.le_of_ble_eq_true rfl) rfl (by decide) (Nat.le_of_ble_eq_true rfl) rfl rfl rfl rfl ?_
  refine x_if_eq (tgt := 21) dX11_told_8 (by decide) (fun c2 => ?_) (fun c2 => ?_)
  · replace h := xif_p c2 h
    refine x_iload_n dX11_told_21 rfl ?_
    by_cases c3 : p1 = 0
    · replace h := xif_p c3 h
      refine x_tableIn (tgt := 48) dX11_told_22 (by rw [c3]; decide) (by rw [c3]; decide) (by rw [c3]; rfl) (by decide) ?_
      refine x_aload_n dX11_told_48 rfl ?_
      refine g_X11_24 rfl dX11_told_49 (by decide) rfl rfl ?_
      refine g_X11_96 rfl dX11_told_52 (by decide) rfl rfl ?_
      cases h
      exact x_iret dX11_told_55 ⟨rfl, rfl, rfl⟩
    replace h := xif_n c3 h
    by_cases c4 : p1 = 1
    · replace h := xif_p c4 h
      refine x_tableIn (tgt := 56) dX11_told_22 (by rw [c4]; decide) (by rw [c4]; decide) (by rw [c4]; rfl) (by decide) ?_
      refine x_aload_n dX11_told_56 rfl ?_
      refine g_X11_24 rfl dX11_told_57 (by decide) rfl rfl ?_
      refine g_X11_125 rfl dX11_told_60 (by decide) rfl rfl ?_
      cases h
      exact x_iret dX11_told_63 ⟨rfl, rfl, rfl⟩
    replace h := xif_n c4 h
    by_cases c5 : p1 = 2
    · replace h := xif_p c5 h
      refine x_tableIn (tgt := 64) dX11_told_22 (by rw [c5]; decide) (by rw [c5]; decide) (by rw [c5]; rfl) (by decide) ?_
      refine x_aload_n dX11_told_64 rfl ?_
      refine g_X11_31 rfl dX11_told_65 (by decide) rfl rfl ?_
      refine g_X11_115 rfl dX11_told_68 (by decide) rfl rfl ?_
      cases h
      exact x_iret dX11_told_71 ⟨rfl, rfl, rfl⟩
    replace h := xif_n c5 h
    have c3t := lv_neT c3 (show Int32.toInt 0 = 0 from rfl)
    have c4t := lv_neT c4 (show Int32.toInt 1 = 1 from rfl)
    have c5t := lv_neT c5 (show Int32.toInt 2 = 2 from rfl)
    refine x_tableOut (tgt := 72) dX11_told_22 (by omega) (by decide) ?_
    refine x_iconst (v := -1) dX11_told_72 (by decide) ?_
    cases h
    exact x_iret dX11_told_73 ⟨rfl, rfl, rfl⟩
  · replace h := xif_n c2 h
    refine x_aload_n dX11_told_11 rfl ?_
    refine g_X11_18 rfl dX11_told_12 (by decide) rfl rfl ?_
    refine x_iload_n dX11_told_15 rfl ?_
    refine x_bipush (v := 10) dX11_told_16 (by decide) ?_
    refine x_isub dX11_told_18 ?_
    obtain ⟨c6, h⟩ := xck h
    refine x_ialdK (jn := (Int32.toNatClampNeg (p1 - 10))) (v := (a1 (Int32.toNatClampNeg (p1 - 10)))) dX11_told_19 (by decide) rfl (xin_ok c6) rfl rfl ?_
    cases h
    exact x_iret dX11_told_20 ⟨rfl, rfl, rfl⟩
