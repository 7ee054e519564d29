def f_X12_cases_44 (n : Nat) (o44 : Nat → Int32) (a57 : Nat → Int64) (a58 : Nat → Int64) (p1 : Int32) (p2 : Int32) : Option (((Int64) × (Nat → Int32) × (Nat → Int64) × (Nat → Int64))) := (Option.bind (f_X12_isIn ((Int32.toInt64 p2)) 0 2) (fun q1 => (if q1 = 0 then (some ((-2), upd o44 0 0, a57, a58)) else (Option.bind (f_X12_isIn ((Int32.toInt64 p1)) 0 40) (fun q3 => (if q3 = 0 then (some ((-3), upd o44 0 0, a57, a58)) else (Option.bind (f_X12_laysWays_44 n (upd o44 0 0) a57 a58) (fun q5 => (Option.bind (l_X12_cases_44_46 n (upd o44 0 0) q5.1 q5.2 p1 p2 n 0 0) (fun u9 => (bif xin (256 * p1) 10496 then (if p2 = 0 then (some ((q5.1 (Int32.toNatClampNeg (256 * p1))), upd o44 0 0, q5.1, q5.2)) else (if p2 = 1 then (some (u9.1, upd o44 0 0, q5.1, q5.2)) else (Option.bind (f_X12_chosen n p1) (fun q13 => (some (((q13 - (q5.1 (Int32.toNatClampNeg (256 * p1)))) - u9.1), upd o44 0 0, q5.1, q5.2)))))) else none)))))))))))
set_option maxRecDepth 100000 in
set_option maxHeartbeats 400000 in
theorem v_X12_cases_44 (s0 : XW) (n : Nat) (o44 : Nat → Int32) (a57 : Nat → Int64) (a58 : Nat → Int64) (p1 : Int32) (p2 : Int32) (q : ((Int64) × (Nat → Int32) × (Nat → Int64) × (Nat → Int64))) (h : f_X12_cases_44 n o44 a57 a58 p1 p2 = some q) : C_X12_cases 3 61 [.ref 44, .int p1, .int p2] (xof s0 [W_44 o44, W_57 a57, W_58 a58]) (some (.long q.1)) (xof s0 [W_44 q.2.1, W_57 q.2.2.1, W_58 q.2.2.2]) := by
  unfold f_X12_cases_44 at h
  show V yX12_cases cX12_cases (some .long) 3 61 (0, 0) 0 [some (.ref 44), some (.int p1), some (.int p2), none, none, none, none] [] (xof s0 [W_44 o44, W_57 a57, W_58 a58]) _
  refine x_aload_n dX12_cases_0 rfl ?_
  refine x_iconst (v := 0) dX12_cases_1 (by decide) ?_
  refine p_X12_1 (fs' := [_, _, _, _, _, _, _, _, _, _, _, _, _, _, _, _, _, _, _, _, _, _]) (L' := [(44, _), (57, _), (58, _)]) rfl dX12_cases_2 (by decide) rfl (Nat.le_of_ble_eq_true rfl) rfl rfl ?_
  refine x_iload_n dX12_cases_5 rfl ?_
  refine x_i2l dX12_cases_6 ?_
  refine x_lconst (v := 0) dX12_cases_7 (by decide) ?_
  refine x_ldc2 dX12_cases_8 cn_X12_99 ?_
  obtain ⟨q1, hq1, h⟩ := Option.bind_eq_some_iff.mp h
  refine y_callSi (L' := [(44, _), (57, _), (58, _)]) mi_X12_isIn ml_X12_77 st_X12_isIn dX12_cases_11 (fun s1 => v_X12_isIn 61 s1 _ _ _ q1 hq1) (Nat.le_of_ble_eq_true rfl) rfl (by decide) (Nat.le_of_ble_eq_true rfl) rfl rfl rfl rfl ?_
  refine x_if_ne (tgt := 21) dX12_cases_14 (by decide) (fun c2 => ?_) (fun c2 => ?_)
  · replace h := xif_n c2 h
    refine x_iload_n dX12_cases_21 rfl ?_
    refine x_i2l dX12_cases_22 ?_
    refine x_lconst (v := 0) dX12_cases_23 (by decide) ?_
    refine x_ldc2 dX12_cases_24 cn_X12_224 ?_
    obtain ⟨q3, hq3, h⟩ := Option.bind_eq_some_iff.mp h
    refine y_callSi (L' := [(44, _), (57, _), (58, _)]) mi_X12_isIn ml_X12_77 st_X12_isIn dX12_cases_27 (fun s1 => v_X12_isIn 61 s1 _ _ _ q3 hq3) (Nat.le_of_ble_eq_true rfl) rfl (by decide) (Nat.le_of_ble_eq_true rfl) rfl rfl rfl rfl ?_
    refine x_if_ne (tgt := 37) dX12_cases_30 (by decide) (fun c4 => ?_) (fun c4 => ?_)
    · replace h := xif_n c4 h
      refine x_aload_n dX12_cases_37 rfl ?_
      obtain ⟨q5, hq5, h⟩ := Option.bind_eq_some_iff.mp h
      refine y_callVv (L' := [(44, _), (57, _), (58, _)]) mi_X12_laysWays ml_X12_228 im_X12_laysWays se_X12_laysWays (rfl : vwCl[11]? = _) dX12_cases_38 (fun s1 => v_X12_laysWays_44 s1 n _ _ _ q5 hq5) (by decide) rfl (Nat.le_of_ble_eq_true rfl) rfl (by decide) (Nat.le_of_ble_eq_true rfl) rfl rfl rfl rfl ?_
      refine x_lconst (v := 0) dX12_cases_41 (by decide) ?_
      refine x_lstore_n (ls' := [_, _, _, _, _, _, _]) dX12_cases_42 rfl rfl ?_
      refine x_iconst (v := 0) dX12_cases_43 (by decide) ?_
      refine x_istore (ls' := [_, _, _, _, _, _, _]) dX12_cases_44 rfl rfl ?_
      obtain ⟨u9, hu9, h⟩ := Option.bind_eq_some_iff.mp h
      show V yX12_cases cX12_cases (some .long) 3 61 (0, 0) 46 [some (.ref 44), some (.int p1), some (.int p2), some (.long 0), none, some (.int 0), none] [] (xof s0 [W_44 (upd o44 0 0), W_57 q5.1, W_58 q5.2]) _
      refine lv_X12_cases_44_46 s0 _ (upd o44 0 0) q5.1 q5.2 p1 p2 _ n 0 0 _ hu9 ?_
      refine x_aload_n dX12_cases_78 rfl ?_
      refine g_X12_51 rfl dX12_cases_79 (by decide) rfl rfl ?_
      refine x_sipush (v := 256) dX12_cases_82 (by decide) ?_
      refine x_iload_n dX12_cases_85 rfl ?_
      refine x_imul dX12_cases_86 ?_
      obtain ⟨c10, h⟩ := xck h
      refine x_laldK (jn := (Int32.toNatClampNeg (256 * p1))) (v := (q5.1 (Int32.toNatClampNeg (256 * p1)))) dX12_cases_87 (by decide) rfl (xin_ok c10) rfl rfl ?_
      refine x_lstore (ls' := [_, _, _, _, _, _, _]) dX12_cases_88 rfl rfl ?_
      refine x_iload_n dX12_cases_90 rfl ?_
      refine x_if_ne (tgt := 99) dX12_cases_91 (by decide) (fun c11 => ?_) (fun c11 => ?_)
      · replace h := xif_n c11 h
        refine x_iload_n dX12_cases_99 rfl ?_
        refine x_iconst (v := 1) dX12_cases_100 (by decide) ?_
        refine x_icmp_ne (tgt := 108) dX12_cases_101 (by decide) (fun c12 => ?_) (fun c12 => ?_)
        · replace h := xif_n c12 h
          refine x_iload_n dX12_cases_108 rfl ?_
          obtain ⟨q13, hq13, h⟩ := Option.bind_eq_some_iff.mp h
          refine y_callSl (L' := [(44, _), (57, _), (58, _)]) mi_X12_chosen ml_X12_239 st_X12_chosen dX12_cases_109 (fun s1 => v_X12_chosen 61 s1 n _ q13 hq13) (Nat.le_of_ble_eq_true rfl) rfl (by decide) (Nat.le_of_ble_eq_true rfl) rfl rfl rfl rfl ?_
          refine x_lload dX12_cases_112 rfl ?_
          refine x_lsub dX12_cases_114 ?_
          refine x_lload_n dX12_cases_115 rfl ?_
          refine x_lsub dX12_cases_116 ?_
          cases h
          exact x_lret dX12_cases_117 ⟨rfl, rfl, rfl⟩
        · replace h := xif_p c12 h
          refine x_lload_n dX12_cases_104 rfl ?_
          refine x_goto (tgt := 117) dX12_cases_105 (by decide) ?_
          cases h
          exact x_lret dX12_cases_117 ⟨rfl, rfl, rfl⟩
      · replace h := xif_p c11 h
        refine x_lload dX12_cases_94 rfl ?_
        refine x_goto (tgt := 117) dX12_cases_96 (by decide) ?_
        cases h
        exact x_lret dX12_cases_117 ⟨rfl, rfl, rfl⟩
    · replace h := xif_p c4 h
      refine x_ldc2 dX12_cases_33 cn_X12_226 ?_
      cases h
      exact x_lret dX12_cases_36 ⟨rfl, rfl, rfl⟩
  · replace h := xif_p c2 h
    refine x_ldc2 dX12_cases_17 cn_X12_237 ?_
    cases h
    exact x_lret dX12_cases_20 ⟨rfl, rfl, rfl⟩
def l_X12_bitsOf_14 (n : Nat) (l2 : Int32) (l3 : Int32) : Nat → (UInt64) → (Int32) → Option (((UInt64) × (Int32)))
  | 0, _, _ => none
  | k + 1, l4, l6 => (if 0 ≤ (Op.cmpValue (FP.dcmp l4 4607182418800017408) CmpOp.g) then (some (l4, l6)) else (bif xn64 (FP.dmul l4 4611686018427387904) then (l_X12_bitsOf_14 n l2 l3 k ((FP.dmul l4 4611686018427387904)) ((l6 + (-1)))) else none))
set_option maxRecDepth 100000 in
set_option maxHeartbeats 400000 in
theorem lv_X12_bitsOf_14 (N : Nat) (s0 : XW) (n : Nat) (l2 : Int32) (l3 : Int32) (Q : Nat → Option Value → XW → Prop) : ∀ (k : Nat) (l4 : UInt64) (l6 : Int32) (o : ((UInt64) × (Int32))), l_X12_bitsOf_14 n l2 l3 k l4 l6 = some o → (V yX12_bitsOf cX12_bitsOf (some .long) 0 N (0, 0) 35 [none, none, some (.int l2), some (.int l3), some (.double o.1), none, some (.int o.2), none, none] [] (xof s0 []) Q) → V yX12_bitsOf cX12_bitsOf (some .long) 0 N (0, 0) 14 [none, none, some (.int l2), some (.int l3), some (.double l4), none, some (.int l6), none, none] [] (xof s0 []) Q := by
  intro k
  induction k with
  | zero =>
    intro _ _ _ h
    simp [l_X12_bitsOf_14] at h
  | succ k ih =>
    intro l4 l6 o h hk
    rw [l_X12_bitsOf_14] at h
    refine x_dload dX12_bitsOf_14 rfl ?_
    refine x_dconst1 dX12_bitsOf_16 ?_
    refine x_dcmp dX12_bitsOf_17 ?_
    refine x_if_ge (tgt := 35) dX12_bitsOf_18 (by decide) (fun c2 => ?_) (fun c2 => ?_)
    · replace h := xif_p c2 h
      show V yX12_bitsOf cX12_bitsOf (some .long) 0 N (0, 0) 35 [none, none, some (.int l2), some (.int l3), some (.double l4), none, some (.int l6), none, none] [] (xof s0 []) _
      cases h
      exact hk
    · replace h := xif_n c2 h
      refine x_dload dX12_bitsOf_21 rfl ?_
      refine x_ldc2d dX12_bitsOf_23 cn_X12_231 ?_
      obtain ⟨c3, h⟩ := xck h
      refine x_dmul dX12_bitsOf_26 (xn64_ok c3) ?_
      refine x_dstore (ls' := [_, _, _, _, _, _, _, _, _]) dX12_bitsOf_27 rfl rfl ?_
      refine x_iinc (v := l6 + (-1)) (ls' := [_, _, _, _, _, _, _, _, _]) dX12_bitsOf_29 rfl rfl rfl rfl ?_
      refine x_goto (tgt := 14) dX12_bitsOf_32 (by decide) ?_
      show V yX12_bitsOf cX12_bitsOf (some .long) 0 N (0, 0) 14 [none, none, some (.int l2), some (.int l3), some (.double ((FP.dmul l4 4611686018427387904))), none, some (.int ((l6 + (-1)))), none, none] [] (xof s0 []) _
      exact ih ((FP.dmul l4 4611686018427387904)) ((l6 + (-1))) _ h hk
def l_X12_bitsOf_35 (n : Nat) (l2 : Int32) (l3 : Int32) : Nat → (UInt64) → (Int32) → Option (((UInt64) × (Int32)))
  | 0, _, _ => none
  | k + 1, l4, l6 => (if (Op.cmpValue (FP.dcmp l4 4611686018427387904) CmpOp.l) < 0 then (some (l4, l6)) else (bif xn64 (FP.ddiv l4 4611686018427387904) then (l_X12_bitsOf_35 n l2 l3 k ((FP.ddiv l4 4611686018427387904)) ((l6 + 1))) else none))
set_option maxRecDepth 100000 in
set_option maxHeartbeats 400000 in
theorem lv_X12_bitsOf_35 (N : Nat) (s0 : XW) (n : Nat) (l2 : Int32) (l3 : Int32) (Q : Nat → Option Value → XW → Prop) : ∀ (k : Nat) (l4 : UInt64) (l6 : Int32) (o : ((UInt64) × (Int32))), l_X12_bitsOf_35 n l2 l3 k l4 l6 = some o → (V yX12_bitsOf cX12_bitsOf (some .long) 0 N (0, 0) 58 [none, none, some (.int l2), some (.int l3), some (.double o.1), none, some (.int o.2), none, none] [] (xof s0 []) Q) → V yX12_bitsOf cX12_bitsOf (some .long) 0 N (0, 0) 35 [none, none, some (.int l2), some (.int l3), some (.double l4), none, some (.int l6), none, none] [] (xof s0 []) Q := by
  intro k
  induction k with
  | zero =>
    intro _ _ _ h
    simp [l_X12_bitsOf_35] at h
  | succ k ih =>
    intro l4 l6 o h hk
    rw [l_X12_bitsOf_35] at h
    refine x_dload dX12_bitsOf_35 rfl ?_
    refine x_ldc2d dX12_bitsOf_37 cn_X12_231 ?_
    refine x_dcmp dX12_bitsOf_40 ?_
    refine x_if_lt (tgt := 58) dX12_bitsOf_41 (by decide) (fun c5 => ?_) (fun c5 => ?_)
    · replace h := xif_p c5 h
      show V yX12_bitsOf cX12_bitsOf (some .long) 0 N (0, 0) 58 [none, none, some (.int l2), some (.int l3), some (.double l4), none, some (.int l6), none, none] [] (xof s0 []) _
      cases h
      exact hk
    · replace h := xif_n c5 h
      refine x_dload dX12_bitsOf_44 rfl ?_
      refine x_ldc2d dX12_bitsOf_46 cn_X12_231 ?_
      obtain ⟨c6, h⟩ := xck h
      refine x_ddiv dX12_bitsOf_49 (xn64_ok c6) ?_
      refine x_dstore (ls' := [_, _, _, _, _, _, _, _, _]) dX12_bitsOf_50 rfl rfl ?_
      refine x_iinc (v := l6 + 1) (ls' := [_, _, _, _, _, _, _, _, _]) dX12_bitsOf_52 rfl rfl rfl rfl ?_
      refine x_goto (tgt := 35) dX12_bitsOf_55 (by decide) ?_
      show V yX12_bitsOf cX12_bitsOf (some .long) 0 N (0, 0) 35 [none, none, some (.int l2), some (.int l3), some (.double ((FP.ddiv l4 4611686018427387904))), none, some (.int ((l6 + 1))), none, none] [] (xof s0 []) _
      exact ih ((FP.ddiv l4 4611686018427387904)) ((l6 + 1)) _ h hk
def l_X12_bitsOf_61 (n : Nat) (l2 : Int32) (l3 : Int32) (l6 : Int32) : Nat → (UInt64) → (Int32) → Option (((UInt64) × (Int32)))
  | 0, _, _ => none
  | k + 1, l4, l7 => (if l2 ≤ l7 then (some (l4, l7)) else (bif xn64 (FP.dmul l4 4611686018427387904) then (l_X12_bitsOf_61 n l2 l3 l6 k ((FP.dmul l4 4611686018427387904)) ((l7 + 1))) else none))
set_option maxRecDepth 100000 in
set_option maxHeartbeats 400000 in
theorem lv_X12_bitsOf_61 (N : Nat) (s0 : XW) (n : Nat) (l2 : Int32) (l3 : Int32) (l6 : Int32) (Q : Nat → Option Value → XW → Prop) : ∀ (k : Nat) (l4 : UInt64) (l7 : Int32) (o : ((UInt64) × (Int32))), l_X12_bitsOf_61 n l2 l3 l6 k l4 l7 = some o → (V yX12_bitsOf cX12_bitsOf (some .long) 0 N (0, 0) 81 [none, none, some (.int l2), some (.int l3), some (.double o.1), none, some (.int l6), none, none] [] (xof s0 []) Q) → V yX12_bitsOf cX12_bitsOf (some .long) 0 N (0, 0) 61 [none, none, some (.int l2), some (.int l3), some (.double l4), none, some (.int l6), some (.int l7), none] [] (xof s0 []) Q := by
  intro k
  induction k with
  | zero =>
    intro _ _ _ h
    simp [l_X12_bitsOf_61] at h
  | succ k ih =>
    intro l4 l7 o h hk
    rw [l_X12_bitsOf_61] at h
    refine x_iload dX12_bitsOf_61 rfl ?_
    refine x_iload_n dX12_bitsOf_63 rfl ?_
    refine x_icmp_ge (tgt := 81) dX12_bitsOf_64 (by decide) (fun c8 => ?_) (fun c8 => ?_)
    · replace h := xif_p c8 h
      refine V.drop1 (i := 7) (ls' := [_, _, _, _, _, _, _, _, _]) rfl ?_
      show V yX12_bitsOf cX12_bitsOf (some .long) 0 N (0, 0) 81 [none, none, some (.int l2), some (.int l3), some (.double l4), none, some (.int l6), none, none] [] (xof s0 []) _
      cases h
      exact hk
    · replace h := xif_n c8 h
      refine x_dload dX12_bitsOf_67 rfl ?_
      refine x_ldc2d dX12_bitsOf_69 cn_X12_231 ?_
      obtain ⟨c9, h⟩ := xck h
      refine x_dmul dX12_bitsOf_72 (xn64_ok c9) ?_
      refine x_dstore (ls' := [_, _, _, _, _, _, _, _, _]) dX12_bitsOf_73 rfl rfl ?_
      refine x_iinc (v := l7 + 1) (ls' := [_, _, _, _, _, _, _, _, _]) dX12_bitsOf_75 rfl rfl rfl rfl ?_
      refine x_goto (tgt := 61) dX12_bitsOf_78 (by decide) ?_
      show V yX12_bitsOf cX12_bitsOf (some .long) 0 N (0, 0) 61 [none, none, some (.int l2), some (.int l3), some (.double ((FP.dmul l4 4611686018427387904))), none, some (.int l6), some (.int ((l7 + 1))), none] [] (xof s0 []) _
      exact ih ((FP.dmul l4 4611686018427387904)) ((l7 + 1)) _ h hk
def f_X12_bitsOf (n : Nat)  (p0 : UInt64) (p1 : Int32) (p2 : Int32) : Option Int64 := (if (Op.cmpValue (FP.dcmp p0 0) CmpOp.l) = 0 then (some 0) else (Option.bind (l_X12_bitsOf_14 n p1 p2 n p0 0) (fun u4 => (Option.bind (l_X12_bitsOf_35 n p1 p2 n u4.1 u4.2) (fun u7 => (Option.bind (l_X12_bitsOf_61 n p1 p2 u7.2 n u7.1 0) (fun u10 => (some ((((Int32.toInt64 (p2 + u7.2)) <<< (Int32.toInt64 p1 &&& 63)) ||| ((FP.d2l u10.1) - (1 <<< (Int32.toInt64 p1 &&& 63)))))))))))))
set_option maxRecDepth 100000 in
set_option maxHeartbeats 400000 in
theorem v_X12_bitsOf (N : Nat) (s0 : XW) (n : Nat)  (p0 : UInt64) (p1 : Int32) (p2 : Int32) (q : Int64) (h : f_X12_bitsOf n p0 p1 p2 = some q) : C_X12_bitsOf 0 N [.double p0, .int p1, .int p2] (xof s0 []) (some (.long q)) (xof s0 []) := by
  unfold f_X12_bitsOf at h
  show V yX12_bitsOf cX12_bitsOf (some .long) 0 N (0, 0) 0 [some (.double p0), none, some (.int p1), some (.int p2), none, none, none, none, none] [] (xof s0 []) _
  refine x_dload_n dX12_bitsOf_0 rfl ?_
  refine x_dconst0 dX12_bitsOf_1 ?_
  refine x_dcmp dX12_bitsOf_2 ?_
  refine x_if_ne (tgt := 8) dX12_bitsOf_3 (by decide) (fun c1 => ?_) (fun c1 => ?_)
  · replace h := xif_n c1 h
    refine x_dload_n dX12_bitsOf_8 rfl ?_
    refine x_dstore (ls' := [_, _, _, _, _, _, _, _, _]) dX12_bitsOf_9 rfl rfl ?_
    refine x_iconst (v := 0) dX12_bitsOf_11 (by decide) ?_
    refine x_istore (ls' := [_, _, _, _, _, _, _, _, _]) dX12_bitsOf_12 rfl rfl ?_
    refine V.drop1 (i := 0) (ls' := [_, _, _, _, _, _, _, _, _]) rfl ?_
    obtain ⟨u4, hu4, h⟩ := Option.bind_eq_some_iff.mp h
    show V yX12_bitsOf cX12_bitsOf (some .long) 0 N (0, 0) 14 [none, none, some (.int p1), some (.int p2), some (.double p0), none, some (.int 0), none, none] [] (xof s0 []) _
    refine lv_X12_bitsOf_14 N s0 _ p1 p2 _ n p0 0 _ hu4 ?_
    obtain ⟨u7, hu7, h⟩ := Option.bind_eq_some_iff.mp h
    show V yX12_bitsOf cX12_bitsOf (some .long) 0 N (0, 0) 35 [none, none, some (.int p1), some (.int p2), some (.double u4.1), none, some (.int u4.2), none, none] [] (xof s0 []) _
    refine lv_X12_bitsOf_35 N s0 _ p1 p2 _ n u4.1 u4.2 _ hu7 ?_
    refine x_iconst (v := 0) dX12_bitsOf_58 (by decide) ?_
    refine x_istore (ls' := [_, _, _, _, _, _, _, _, _]) dX12_bitsOf_59 rfl rfl ?_
    obtain ⟨u10, hu10, h⟩ := Option.bind_eq_some_iff.mp h
    show V yX12_bitsOf cX12_bitsOf (some .long) 0 N (0, 0) 61 [none, none, some (.int p1), some (.int p2), some (.double u7.1), none, some (.int u7.2), some (.int 0), none] [] (xof s0 []) _
    refine lv_X12_bitsOf_61 N s0 _ p1 p2 u7.2 _ n u7.1 0 _ hu10 ?_
    refine x_dload dX12_bitsOf_81 rfl ?_
    refine x_d2l dX12_bitsOf_83 ?_
    refine x_lstore (ls' := [_, _, _, _, _, _, _, _, _]) dX12_bitsOf_84 rfl rfl ?_
    refine x_iload_n dX12_bitsOf_86 rfl ?_
    refine x_iload dX12_bitsOf_87 rfl ?_
    refine x_iadd dX12_bitsOf_89 ?_
    refine x_i2l dX12_bitsOf_90 ?_
    refine x_iload_n dX12_bitsOf_91 rfl ?_
    refine x_lshl dX12_bitsOf_92 ?_
    refine x_lload dX12_bitsOf_93 rfl ?_
    refine x_lconst (v := 1) dX12_bitsOf_95 (by decide) ?_
    refine x_iload_n dX12_bitsOf_96 rfl ?_
    refine x_lshl dX12_bitsOf_97 ?_
    refine x_lsub dX12_bitsOf_98 ?_
    refine x_lor dX12_bitsOf_99 ?_
    cases h
    exact x_lret dX12_bitsOf_100 ⟨rfl, rfl, rfl⟩
  · replace h := xif_p c1 h
    refine x_lconst (v := 0) dX12_bitsOf_6 (by decide) ?_
    cases h
    exact x_lret dX12_bitsOf_7 ⟨rfl, rfl, rfl⟩
def f_X12_numberBy (n : Nat)  (p0 : Int64) (p1 : Int64) (p2 : Int32) : Option Int64 := (bif xn64 (FP.ddiv (FP.l2d p0) (FP.l2d p1)) then (Option.bind (f_X12_bitsOf n ((FP.ddiv (FP.l2d p0) (FP.l2d p1))) 52 1023) (fun q2 => (if p2 = 0 then (some p0) else (if p2 = 1 then (some p1) else (if p2 = 2 then (some ((Int32.toInt64 (Int64.toInt32 (xul q2 32))))) else (if p2 = 3 then (some ((Int32.toInt64 (Int64.toInt32 q2)))) else (bif xn32 (FP.d2f (FP.ddiv (FP.l2d p0) (FP.l2d p1))) then (bif xn64 (FP.f2d (FP.d2f (FP.ddiv (FP.l2d p0) (FP.l2d p1)))) then (Option.bind (f_X12_bitsOf n ((FP.f2d (FP.d2f (FP.ddiv (FP.l2d p0) (FP.l2d p1))))) 23 127) (fun q9 => (some q9))) else none) else none))))))) else none)
set_option maxRecDepth 100000 in
set_option maxHeartbeats 400000 in
theorem v_X12_numberBy (N : Nat) (s0 : XW) (n : Nat)  (p0 : Int64) (p1 : Int64) (p2 : Int32) (q : Int64) (h : f_X12_numberBy n p0 p1 p2 = some q) : C_X12_numberBy 1 N [.long p0, .long p1, .int p2] (xof s0 []) (some (.long q)) (xof s0 []) := by
  unfold f_X12_numberBy at h
  show V yX12_numberBy cX12_numberBy (some .long) 1 N (0, 0) 0 [some (.long p0), none, some (.long p1), none, some (.int p2), none, none, none, none] [] (xof s0 []) _
  refine x_lload_n dX12_numberBy_0 rfl ?_
  refine x_l2d dX12_numberBy_1 ?_
  refine x_lload_n dX12_numberBy_2 rfl ?_
  refine x_l2d dX12_numberBy_3 ?_
  obtain ⟨c1, h⟩ := xck h
  refine x_ddiv dX12_numberBy_4 (xn64_ok c1) ?_
  refine x_dstore (ls' := [_, _, _, _, _, _, _, _, _]) dX12_numberBy_5 rfl rfl ?_
  refine x_dload dX12_numberBy_7 rfl ?_
  refine x_bipush (v := 52) dX12_numberBy_9 (by decide) ?_
  refine x_sipush (v := 1023) dX12_numberBy_11 (by decide) ?_
  obtain ⟨q2, hq2, h⟩ := Option.bind_eq_some_iff.mp h
  refine y_callSl (L' := []) mi_X12_bitsOf ml_X12_233 st_X12_bitsOf dX12_numberBy_14 (fun s1 => v_X12_bitsOf N s1 n _ _ _ q2 hq2) (Nat.le_of_ble_eq_true rfl) rfl (by decide) (Nat.le_of_ble_eq_true rfl) rfl rfl rfl rfl ?_
  refine x_lstore (ls' := [_, _, _, _, _, _, _, _, _]) dX12_numberBy_17 rfl rfl ?_
  refine x_iload dX12_numberBy_19 rfl ?_
  by_cases c3 : p2 = 0
  · replace h := xif_p c3 h
    refine x_tableIn (tgt := 52) dX12_numberBy_21 (by rw [c3]; decide) (by rw [c3]; decide) (by rw [c3]; rfl) (by decide) ?_
    refine x_lload_n dX12_numberBy_52 rfl ?_
    cases h
    exact x_lret dX12_numberBy_53 ⟨rfl, rfl, rfl⟩
  replace h := xif_n c3 h
  by_cases c4 : p2 = 1
  · replace h := xif_p c4 h
    refine x_tableIn (tgt := 54) dX12_numberBy_21 (by rw [c4]; decide) (by rw [c4]; decide) (by rw [c4]; rfl) (by decide) ?_
    refine x_lload_n dX12_numberBy_54 rfl ?_
    cases h
    exact x_lret dX12_numberBy_55 ⟨rfl, rfl, rfl⟩
  replace h := xif_n c4 h
  by_cases c5 : p2 = 2
  · replace h := xif_p c5 h
    refine x_tableIn (tgt := 56) dX12_numberBy_21 (by rw [c5]; decide) (by rw [c5]; decide) (by rw [c5]; rfl) (by decide) ?_
    refine x_lload dX12_numberBy_56 rfl ?_
    refine x_bipush (v := 32) dX12_numberBy_58 (by decide) ?_
    refine x_lushr dX12_numberBy_60 ?_
    refine x_l2i dX12_numberBy_61 ?_
    refine x_i2l dX12_numberBy_62 ?_
    cases h
    exact x_lret dX12_numberBy_63 ⟨rfl, rfl, rfl⟩
  replace h := xif_n c5 h
  by_cases c6 : p2 = 3
  · replace h := xif_p c6 h
    refine x_tableIn (tgt := 64) dX12_numberBy_21 (by rw [c6]; decide) (by rw [c6]; decide) (by rw [c6]; rfl) (by decide) ?_
    refine x_lload dX12_numberBy_64 rfl ?_
    refine x_l2i dX12_numberBy_66 ?_
    refine x_i2l dX12_numberBy_67 ?_
    cases h
    exact x_lret dX12_numberBy_68 ⟨rfl, rfl, rfl⟩
  replace h := xif_n c6 h
  have c3t := lv_neT c3 (show Int32.toInt 0 = 0 from rfl)
  have c4t := lv_neT c4 (show Int32.toInt 1 = 1 from rfl)
  have c5t := lv_neT c5 (show Int32.toInt 2 = 2 from rfl)
  have c6t := lv_neT c6 (show Int32.toInt 3 = 3 from rfl)
  refine x_tableOut (tgt := 69) dX12_numberBy_21 (by omega) (by decide) ?_
  refine x_dload dX12_numberBy_69 rfl ?_
  obtain ⟨c7, h⟩ := xck h
  refine x_d2f dX12_numberBy_71 (xn32_ok c7) ?_
  obtain ⟨c8, h⟩ := xck h
  refine x_f2d dX12_numberBy_72 (xn64_ok c8) ?_
  refine x_bipush (v := 23) dX12_numberBy_73 (by decide) ?_
  refine x_bipush (v := 127) dX12_numberBy_75 (by decide) ?_
  obtain ⟨q9, hq9, h⟩ := Option.bind_eq_some_iff.mp h
  refine y_callSl (L' := []) mi_X12_bitsOf ml_X12_233 st_X12_bitsOf dX12_numberBy_77 (fun s1 => v_X12_bitsOf N s1 n _ _ _ q9 hq9) (Nat.le_of_ble_eq_true rfl) rfl (by decide) (Nat.le_of_ble_eq_true rfl) rfl rfl rfl rfl ?_
  cases h
  exact x_lret dX12_numberBy_80 ⟨rfl, rfl, rfl⟩
def f_X12_unseen_44 (n : Nat) (o44 : Nat → Int32) (a57 : Nat → Int64) (a58 : Nat → Int64) (p1 : Int32) (p2 : Int32) : Option (((Int64) × (Nat → Int32) × (Nat → Int64) × (Nat → Int64))) := (Option.bind (f_X12_isIn ((Int32.toInt64 p2)) 0 4) (fun q1 => (if q1 = 0 then (some ((-2), upd o44 0 0, a57, a58)) else (Option.bind (f_X12_isIn ((Int32.toInt64 p1)) 0 40) (fun q3 => (if q3 = 0 then (some ((-3), upd o44 0 0, a57, a58)) else (Option.bind (f_X12_laysWays_44 n (upd o44 0 0) a57 a58) (fun q5 => (bif xin (256 * p1) 10496 then (Option.bind (f_X12_chosen n p1) (fun q7 => (Option.bind (f_X12_numberBy n ((q5.1 (Int32.toNatClampNeg (256 * p1)))) q7 p2) (fun q8 => (some (q8, upd o44 0 0, q5.1, q5.2)))))) else none)))))))))
set_option maxRecDepth 100000 in
set_option maxHeartbeats 400000 in
theorem v_X12_unseen_44 (s0 : XW) (n : Nat) (o44 : Nat → Int32) (a57 : Nat → Int64) (a58 : Nat → Int64) (p1 : Int32) (p2 : Int32) (q : ((Int64) × (Nat → Int32) × (Nat → Int64) × (Nat → Int64))) (h : f_X12_unseen_44 n o44 a57 a58 p1 p2 = some q) : C_X12_unseen 3 61 [.ref 44, .int p1, .int p2] (xof s0 [W_44 o44, W_57 a57, W_58 a58]) (some (.long q.1)) (xof s0 [W_44 q.2.1, W_57 q.2.2.1, W_58 q.2.2.2]) := by
  unfold f_X12_unseen_44 at h
  show V yX12_unseen cX12_unseen (some .long) 3 61 (0, 0) 0 [some (.ref 44), some (.int p1), some (.int p2)] [] (xof s0 [W_44 o44, W_57 a57, W_58 a58]) _
  refine x_aload_n dX12_unseen_0 rfl ?_
  refine x_iconst (v := 0) dX12_unseen_1 (by decide) ?_
  refine p_X12_1 (fs' := [_, _, _, _, _, _, _, _, _, _, _, _, _, _, _, _, _, _, _, _, _, _]) (L' := [(44, _), (57, _), (58, _)]) rfl dX12_unseen_2 (by decide) rfl (Nat.le_of_ble_eq_true rfl) rfl rfl ?_
  refine x_iload_n dX12_unseen_5 rfl ?_
  refine x_i2l dX12_unseen_6 ?_
  refine x_lconst (v := 0) dX12_unseen_7 (by decide) ?_
  refine x_ldc2 dX12_unseen_8 cn_X12_243 ?_
  obtain ⟨q1, hq1, h⟩ := Option.bind_eq_some_iff.mp h
  refine y_callSi (L' := [(44, _), (57, _), (58, _)]) mi_X12_isIn ml_X12_77 st_X12_isIn dX12_unseen_11 (fun s1 => v_X12_isIn 61 s1 _ _ _ q1 hq1) (Nat.le_of_ble_eq_true rfl) rfl (by decide) (Nat.le_of_ble_eq_true rfl) rfl rfl rfl rfl ?_
  refine x_if_ne (tgt := 21) dX12_unseen_14 (by decide) (fun c2 => ?_) (fun c2 => ?_)
  · replace h := xif_n c2 h
    refine x_iload_n dX12_unseen_21 rfl ?_
    refine x_i2l dX12_unseen_22 ?_
    refine x_lconst (v := 0) dX12_unseen_23 (by decide) ?_
    refine x_ldc2 dX12_unseen_24 cn_X12_224 ?_
    obtain ⟨q3, hq3, h⟩ := Option.bind_eq_some_iff.mp h
    refine y_callSi (L' := [(44, _), (57, _), (58, _)]) mi_X12_isIn ml_X12_77 st_X12_isIn dX12_unseen_27 (fun s1 => v_X12_isIn 61 s1 _ _ _ q3 hq3) (Nat.le_of_ble_eq_true rfl) rfl (by decide) (Nat.le_of_ble_eq_true rfl) rfl rfl rfl rfl ?_
    refine x_if_ne (tgt := 37) dX12_unseen_30 (by decide) (fun c4 => ?_) (fun c4 => ?_)
    · replace h := xif_n c4 h
      refine x_aload_n dX12_unseen_37 rfl ?_
      obtain ⟨q5, hq5, h⟩ := Option.bind_eq_some_iff.mp h
      refine y_callVv (L' := [(44, _), (57, _), (58, _)]) mi_X12_laysWays ml_X12_228 im_X12_laysWays se_X12_laysWays (rfl : vwCl[11]? = _) dX12_unseen_38 (fun s1 => v_X12_laysWays_44 s1 n _ _ _ q5 hq5) (by decide) rfl (Nat.le_of_ble_eq_true rfl) rfl (by decide) (Nat.le_of_ble_eq_true rfl) rfl rfl rfl rfl ?_
      refine x_aload_n dX12_unseen_41 rfl ?_
      refine g_X12_51 rfl dX12_unseen_42 (by decide) rfl rfl ?_
      refine x_sipush (v := 256) dX12_unseen_45 (by decide) ?_
      refine x_iload_n dX12_unseen_48 rfl ?_
      refine x_imul dX12_unseen_49 ?_
      obtain ⟨c6, h⟩ := xck h
      refine x_laldK (jn := (Int32.toNatClampNeg (256 * p1))) (v := (q5.1 (Int32.toNatClampNeg (256 * p1)))) dX12_unseen_50 (by decide) rfl (xin_ok c6) rfl rfl ?_
      refine x_iload_n dX12_unseen_51 rfl ?_
      obtain ⟨q7, hq7, h⟩ := Option.bind_eq_some_iff.mp h
      refine y_callSl (L' := [(44, _), (57, _), (58, _)]) mi_X12_chosen ml_X12_239 st_X12_chosen dX12_unseen_52 (fun s1 => v_X12_chosen 61 s1 n _ q7 hq7) (Nat.le_of_ble_eq_true rfl) rfl (by decide) (Nat.le_of_ble_eq_true rfl) rfl rfl rfl rfl ?_
      refine x_iload_n dX12_unseen_55 rfl ?_
      obtain ⟨q8, hq8, h⟩ := Option.bind_eq_some_iff.mp h
      refine y_callSl (L' := [(44, _), (57, _), (58, _)]) mi_X12_numberBy ml_X12_245 st_X12_numberBy dX12_unseen_56 (fun s1 => v_X12_numberBy 61 s1 n _ _ _ q8 hq8) (Nat.le_of_ble_eq_true rfl) rfl (by decide) (Nat.le_of_ble_eq_true rfl) rfl rfl rfl rfl ?_
      cases h
      exact x_lret dX12_unseen_59 ⟨rfl, rfl, rfl⟩
    · replace h := xif_p c4 h
      refine x_ldc2 dX12_unseen_33 cn_X12_226 ?_
      cases h
      exact x_lret dX12_unseen_36 ⟨rfl, rfl, rfl⟩
  · replace h := xif_p c2 h
    refine x_ldc2 dX12_unseen_17 cn_X12_237 ?_
    cases h
    exact x_lret dX12_unseen_20 ⟨rfl, rfl, rfl⟩
def l_X12_lostOf_44_5 (n : Nat) (o44 : Nat → Int32) (a45 : Nat → Int32) (a60 : Nat → Int64) (l1 : Int32) (l2 : Int32) (l3 : Int64) : Nat → (Int32) → (Nat → Int64) → Option (((Int32) × (Nat → Int64)))
  | 0, _, _ => none
  | k + 1, l5, a59 => (if 16 ≤ l5 then (some (l5, a59)) else (if l5 = 0 then (bif xin l5 16 then (l_X12_lostOf_44_5 n o44 a45 a60 l1 l2 l3 k ((l5 + 1)) (vp_updL a59 ((Int32.toNatClampNeg l5)) 1)) else none) else (bif xin l5 16 then (l_X12_lostOf_44_5 n o44 a45 a60 l1 l2 l3 k ((l5 + 1)) (vp_updL a59 ((Int32.toNatClampNeg l5)) 0)) else none)))
set_option maxRecDepth 100000 in
set_option maxHeartbeats 400000 in
theorem lv_X12_lostOf_44_5 (s0 : XW) (n : Nat) (o44 : Nat → Int32) (a45 : Nat → Int32) (a60 : Nat → Int64) (l1 : Int32) (l2 : Int32) (l3 : Int64) (Q : Nat → Option Value → XW → Prop) : ∀ (k : Nat) (l5 : Int32) (a59 : Nat → Int64) (o : ((Int32) × (Nat → Int64))), l_X12_lostOf_44_5 n o44 a45 a60 l1 l2 l3 k l5 a59 = some o → (V yX12_lostOf cX12_lostOf (some .long) 0 61 (0, 0) 35 [some (.ref 44), some (.int l1), some (.int l2), some (.long l3), none, none, none] [] (xof s0 [W_44 o44, W_45 a45, W_59 o.2, W_60 a60]) Q) → V yX12_lostOf cX12_lostOf (some .long) 0 61 (0, 0) 5 [some (.ref 44), some (.int l1), some (.int l2), some (.long l3), none, some (.int l5), none] [] (xof s0 [W_44 o44, W_45 a45, W_59 a59, W_60 a60]) Q := by
  intro k
  induction k with
  | zero =>
    intro _ _ _ h
    simp [l_X12_lostOf_44_5] at h
  | succ k ih =>
    intro l5 a59 o h hk
    rw [l_X12_lostOf_44_5] at h
    refine x_iload dX12_lostOf_5 rfl ?_
    refine x_bipush (v := 16) dX12_lostOf_7 (by decide) ?_
    refine x_icmp_ge (tgt := 35) dX12_lostOf_9 (by decide) (fun c1 => ?_) (fun c1 => ?_)
    · replace h := xif_p c1 h
      refine V.drop1 (i := 5) (ls' := [_, _, _, _, _, _, _]) rfl ?_
      show V yX12_lostOf cX12_lostOf (some .long) 0 61 (0, 0) 35 [some (.ref 44), some (.int l1), some (.int l2), some (.long l3), none, none, none] [] (xof s0 [W_44 o44, W_45 a45, W_59 a59, W_60 a60]) _
      cases h
      exact hk
    · replace h := xif_n c1 h
      refine x_aload_n dX12_lostOf_12 rfl ?_
      refine g_X12_58 rfl dX12_lostOf_13 (by decide) rfl rfl ?_
      refine x_iload dX12_lostOf_16 rfl ?_
      refine x_iload dX12_lostOf_18 rfl ?_
      refine x_if_ne (tgt := 27) dX12_lostOf_20 (by decide) (fun c2 => ?_) (fun c2 => ?_)
      · replace h := xif_n c2 h
        refine x_lconst (v := 0) dX12_lostOf_27 (by decide) ?_
        obtain ⟨c3, h⟩ := xck h
        refine x_lastK (jn := (Int32.toNatClampNeg l5)) (L' := [(44, _), (45, _), (59, _), (60, _)]) dX12_lostOf_28 (by decide) rfl (xin_ok c3) rfl rfl ?_
        refine x_iinc (v := l5 + 1) (ls' := [_, _, _, _, _, _, _]) dX12_lostOf_29 rfl rfl rfl rfl ?_
        refine x_goto (tgt := 5) dX12_lostOf_32 (by decide) ?_
        show V yX12_lostOf cX12_lostOf (some .long) 0 61 (0, 0) 5 [some (.ref 44), some (.int l1), some (.int l2), some (.long l3), none, some (.int ((l5 + 1))), none] [] (xof s0 [W_44 o44, W_45 a45, W_59 (vp_updL a59 ((Int32.toNatClampNeg l5)) 0), W_60 a60]) _
        exact ih ((l5 + 1)) (vp_updL a59 ((Int32.toNatClampNeg l5)) 0) _ h hk
      · replace h := xif_p c2 h
        refine x_lconst (v := 1) dX12_lostOf_23 (by decide) ?_
        refine x_goto (tgt := 28) dX12_lostOf_24 (by decide) ?_
        obtain ⟨c4, h⟩ := xck h
        refine x_lastK (jn := (Int32.toNatClampNeg l5)) (L' := [(44, _), (45, _), (59, _), (60, _)]) dX12_lostOf_28 (by decide) rfl (xin_ok c4) rfl rfl ?_
        refine x_iinc (v := l5 + 1) (ls' := [_, _, _, _, _, _, _]) dX12_lostOf_29 rfl rfl rfl rfl ?_
        refine x_goto (tgt := 5) dX12_lostOf_32 (by decide) ?_
        show V yX12_lostOf cX12_lostOf (some .long) 0 61 (0, 0) 5 [some (.ref 44), some (.int l1), some (.int l2), some (.long l3), none, some (.int ((l5 + 1))), none] [] (xof s0 [W_44 o44, W_45 a45, W_59 (vp_updL a59 ((Int32.toNatClampNeg l5)) 1), W_60 a60]) _
        exact ih ((l5 + 1)) (vp_updL a59 ((Int32.toNatClampNeg l5)) 1) _ h hk
def l_X12_lostOf_44_53 (n : Nat) (o44 : Nat → Int32) (a45 : Nat → Int32) (a59 : Nat → Int64) (l1 : Int32) (l2 : Int32) (l3 : Int64) (l5 : Int32) : Nat → (Int32) → (Nat → Int64) → Option (((Int32) × (Nat → Int64)))
  | 0, _, _ => none
  | k + 1, l6, a60 => (if 16 ≤ l6 then (some (l6, a60)) else (bif xin l6 16 then (l_X12_lostOf_44_53 n o44 a45 a59 l1 l2 l3 l5 k ((l6 + 1)) (vp_updL a60 ((Int32.toNatClampNeg l6)) 0)) else none))
set_option maxRecDepth 100000 in
set_option maxHeartbeats 400000 in
theorem lv_X12_lostOf_44_53 (s0 : XW) (n : Nat) (o44 : Nat → Int32) (a45 : Nat → Int32) (a59 : Nat → Int64) (l1 : Int32) (l2 : Int32) (l3 : Int64) (l5 : Int32) (Q : Nat → Option Value → XW → Prop) : ∀ (k : Nat) (l6 : Int32) (a60 : Nat → Int64) (o : ((Int32) × (Nat → Int64))), l_X12_lostOf_44_53 n o44 a45 a59 l1 l2 l3 l5 k l6 a60 = some o → (V yX12_lostOf cX12_lostOf (some .long) 0 61 (0, 0) 74 [some (.ref 44), some (.int l1), some (.int l2), some (.long l3), none, some (.int l5), none] [] (xof s0 [W_44 o44, W_45 a45, W_59 a59, W_60 o.2]) Q) → V yX12_lostOf cX12_lostOf (some .long) 0 61 (0, 0) 53 [some (.ref 44), some (.int l1), some (.int l2), some (.long l3), none, some (.int l5), some (.int l6)] [] (xof s0 [W_44 o44, W_45 a45, W_59 a59, W_60 a60]) Q := by
  intro k
  induction k with
  | zero =>
    intro _ _ _ h
    simp [l_X12_lostOf_44_53] at h
  | succ k ih =>
    intro l6 a60 o h hk
    rw [l_X12_lostOf_44_53] at h
    refine x_iload dX12_lostOf_53 rfl ?_
    refine x_bipush (v := 16) dX12_lostOf_55 (by decide) ?_
    refine x_icmp_ge (tgt := 74) dX12_lostOf_57 (by decide) (fun c7 => ?_) (fun c7 => ?_)
    · replace h := xif_p c7 h
      refine V.drop1 (i := 6) (ls' := [_, _, _, _, _, _, _]) rfl ?_
      show V yX12_lostOf cX12_lostOf (some .long) 0 61 (0, 0) 74 [some (.ref 44), some (.int l1), some (.int l2), some (.long l3), none, some (.int l5), none] [] (xof s0 [W_44 o44, W_45 a45, W_59 a59, W_60 a60]) _
      cases h
      exact hk
    · replace h := xif_n c7 h
      refine x_aload_n dX12_lostOf_60 rfl ?_
      refine g_X12_61 rfl dX12_lostOf_61 (by decide) rfl rfl ?_
      refine x_iload dX12_lostOf_64 rfl ?_
      refine x_lconst (v := 0) dX12_lostOf_66 (by decide) ?_
      obtain ⟨c8, h⟩ := xck h
      refine x_lastK (jn := (Int32.toNatClampNeg l6)) (L' := [(44, _), (45, _), (59, _), (60, _)]) dX12_lostOf_67 (by decide) rfl (xin_ok c8) rfl rfl ?_
      refine x_iinc (v := l6 + 1) (ls' := [_, _, _, _, _, _, _]) dX12_lostOf_68 rfl rfl rfl rfl ?_
      refine x_goto (tgt := 53) dX12_lostOf_71 (by decide) ?_
      show V yX12_lostOf cX12_lostOf (some .long) 0 61 (0, 0) 53 [some (.ref 44), some (.int l1), some (.int l2), some (.long l3), none, some (.int l5), some (.int ((l6 + 1)))] [] (xof s0 [W_44 o44, W_45 a45, W_59 a59, W_60 (vp_updL a60 ((Int32.toNatClampNeg l6)) 0)]) _
      exact ih ((l6 + 1)) (vp_updL a60 ((Int32.toNatClampNeg l6)) 0) _ h hk
def l_X12_lostOf_44_77 (n : Nat) (o44 : Nat → Int32) (a45 : Nat → Int32) (a59 : Nat → Int64) (l1 : Int32) (l2 : Int32) (l5 : Int32) : Nat → (Int64) → (Int32) → (Nat → Int64) → Option (((Int64) × (Int32) × (Nat → Int64)))
  | 0, _, _, _ => none
  | k + 1, l3, l6, a60 => (if (a45 1) ≤ l6 then (some (l3, l6, a60)) else (bif xin l6 16 then (if (l6 + 1) = (a45 1) then (bif xin l6 16 then (l_X12_lostOf_44_77 n o44 a45 a59 l1 l2 l5 k ((l3 + ((a59 (Int32.toNatClampNeg l6)) * (Int32.toInt64 (256 - l2))))) ((l6 + 1)) (vp_updL a60 0 (((a60 0) + ((a59 (Int32.toNatClampNeg l6)) * (Int32.toInt64 l2)))))) else none) else (bif xin (l6 + 1) 16 then (bif xin l6 16 then (bif xin (l6 + 1) 16 then (l_X12_lostOf_44_77 n o44 a45 a59 l1 l2 l5 k l3 ((l6 + 1)) (vp_updL (vp_updL a60 0 (((a60 0) + ((a59 (Int32.toNatClampNeg l6)) * (Int32.toInt64 l2))))) ((Int32.toNatClampNeg (l6 + 1))) ((((vp_updL a60 0 (((a60 0) + ((a59 (Int32.toNatClampNeg l6)) * (Int32.toInt64 l2))))) (Int32.toNatClampNeg (l6 + 1))) + ((a59 (Int32.toNatClampNeg l6)) * (Int32.toInt64 (256 - l2))))))) else none) else none) else none)) else none))
set_option maxRecDepth 100000 in
set_option maxHeartbeats 400000 in
theorem lv_X12_lostOf_44_77 (s0 : XW) (n : Nat) (o44 : Nat → Int32) (a45 : Nat → Int32) (a59 : Nat → Int64) (l1 : Int32) (l2 : Int32) (l5 : Int32) (Q : Nat → Option Value → XW → Prop) : ∀ (k : Nat) (l3 : Int64) (l6 : Int32) (a60 : Nat → Int64) (o : ((Int64) × (Int32) × (Nat → Int64))), l_X12_lostOf_44_77 n o44 a45 a59 l1 l2 l5 k l3 l6 a60 = some o → (V yX12_lostOf cX12_lostOf (some .long) 0 61 (0, 0) 172 [some (.ref 44), some (.int l1), some (.int l2), some (.long o.1), none, some (.int l5), none] [] (xof s0 [W_44 o44, W_45 a45, W_59 a59, W_60 o.2.2]) Q) → V yX12_lostOf cX12_lostOf (some .long) 0 61 (0, 0) 77 [some (.ref 44), some (.int l1), some (.int l2), some (.long l3), none, some (.int l5), some (.int l6)] [] (xof s0 [W_44 o44, W_45 a45, W_59 a59, W_60 a60]) Q := by
  intro k
  induction k with
  | zero =>
    intro _ _ _ _ h
    simp [l_X12_lostOf_44_77] at h
  | succ k ih =>
    intro l3 l6 a60 o h hk
    rw [l_X12_lostOf_44_77] at h
    refine x_iload dX12_lostOf_77 rfl ?_
    refine x_aload_n dX12_lostOf_79 rfl ?_
    refine g_X12_13 rfl dX12_lostOf_80 (by decide) rfl rfl ?_
    refine x_iconst (v := 1) dX12_lostOf_83 (by decide) ?_
    refine x_ialdK (jn := 1) (v := (a45 1)) dX12_lostOf_84 (by decide) rfl (xin_ok (by decide)) (by decide) rfl ?_
    refine x_icmp_ge (tgt := 172) dX12_lostOf_85 (by decide) (fun c10 => ?_) (fun c10 => ?_)
    · replace h := xif_p c10 h
      refine V.drop1 (i := 6) (ls' := [_, _, _, _, _, _, _]) rfl ?_
      show V yX12_lostOf cX12_lostOf (some .long) 0 61 (0, 0) 172 [some (.ref 44), some (.int l1), some (.int l2), some (.long l3), none, some (.int l5), none] [] (xof s0 [W_44 o44, W_45 a45, W_59 a59, W_60 a60]) _
      cases h
      exact hk
    · replace h := xif_n c10 h
      refine x_aload_n dX12_lostOf_88 rfl ?_
      refine g_X12_61 rfl dX12_lostOf_89 (by decide) rfl rfl ?_
      refine x_iconst (v := 0) dX12_lostOf_92 (by decide) ?_
      refine x_dup2 dX12_lostOf_93 rfl rfl ?_
      refine x_laldK (jn := 0) (v := (a60 0)) dX12_lostOf_94 (by decide) rfl (xin_ok (by decide)) (by decide) rfl ?_
      refine x_aload_n dX12_lostOf_95 rfl ?_
      refine g_X12_58 rfl dX12_lostOf_96 (by decide) rfl rfl ?_
      refine x_iload dX12_lostOf_99 rfl ?_
      obtain ⟨c11, h⟩ := xck h
      refine x_laldK (jn := (Int32.toNatClampNeg l6)) (v := (a59 (Int32.toNatClampNeg l6))) dX12_lostOf_101 (by decide) rfl (xin_ok c11) rfl rfl ?_
      refine x_iload_n dX12_lostOf_102 rfl ?_
      refine x_i2l dX12_lostOf_103 ?_
      refine x_lmul dX12_lostOf_104 ?_
      refine x_ladd dX12_lostOf_105 ?_
      refine x_lastK (jn := 0) (L' := [(44, _), (45, _), (59, _), (60, _)]) dX12_lostOf_106 (by decide) rfl (xin_ok (by decide)) (by decide) rfl ?_
      refine x_iload dX12_lostOf_107 rfl ?_
      refine x_iconst (v := 1) dX12_lostOf_109 (by decide) ?_
      refine x_iadd dX12_lostOf_110 ?_
      refine x_aload_n dX12_lostOf_111 rfl ?_
      refine g_X12_13 rfl dX12_lostOf_112 (by decide) rfl rfl ?_
      refine x_iconst (v := 1) dX12_lostOf_115 (by decide) ?_
      refine x_ialdK (jn := 1) (v := (a45 1)) dX12_lostOf_116 (by decide) rfl (xin_ok (by decide)) (by decide) rfl ?_
      refine x_icmp_ne (tgt := 140) dX12_lostOf_117 (by decide) (fun c12 => ?_) (fun c12 => ?_)
      · replace h := xif_n c12 h
        refine x_aload_n dX12_lostOf_140 rfl ?_
        refine g_X12_61 rfl dX12_lostOf_141 (by decide) rfl rfl ?_
        refine x_iload dX12_lostOf_144 rfl ?_
        refine x_iconst (v := 1) dX12_lostOf_146 (by decide) ?_
        refine x_iadd dX12_lostOf_147 ?_
        refine x_dup2 dX12_lostOf_148 rfl rfl ?_
        obtain ⟨c13, h⟩ := xck h
        refine x_laldK (jn := (Int32.toNatClampNeg (l6 + 1))) (v := ((vp_updL a60 0 (((a60 0) + ((a59 (Int32.toNatClampNeg l6)) * (Int32.toInt64 l2))))) (Int32.toNatClampNeg (l6 + 1)))) dX12_lostOf_149 (by decide) rfl (xin_ok c13) rfl rfl ?_
        refine x_aload_n dX12_lostOf_150 rfl ?_
        refine g_X12_58 rfl dX12_lostOf_151 (by decide) rfl rfl ?_
        refine x_iload dX12_lostOf_154 rfl ?_
        obtain ⟨c14, h⟩ := xck h
        refine x_laldK (jn := (Int32.toNatClampNeg l6)) (v := (a59 (Int32.toNatClampNeg l6))) dX12_lostOf_156 (by decide) rfl (xin_ok c14) rfl rfl ?_
        refine x_sipush (v := 256) dX12_lostOf_157 (by decide) ?_
        refine x_iload_n dX12_lostOf_160 rfl ?_
        refine x_isub dX12_lostOf_161 ?_
        refine x_i2l dX12_lostOf_162 ?_
        refine x_lmul dX12_lostOf_163 ?_
        refine x_ladd dX12_lostOf_164 ?_
        obtain ⟨c15, h⟩ := xck h
        refine x_lastK (jn := (Int32.toNatClampNeg (l6 + 1))) (L' := [(44, _), (45, _), (59, _), (60, _)]) dX12_lostOf_165 (by decide) rfl (xin_ok c15) rfl rfl ?_
        refine x_iinc (v := l6 + 1) (ls' := [_, _, _, _, _, _, _]) dX12_lostOf_166 rfl rfl rfl rfl ?_
        refine x_goto (tgt := 77) dX12_lostOf_169 (by decide) ?_
        show V yX12_lostOf cX12_lostOf (some .long) 0 61 (0, 0) 77 [some (.ref 44), some (.int l1), some (.int l2), some (.long l3), none, some (.int l5), some (.int ((l6 + 1)))] [] (xof s0 [W_44 o44, W_45 a45, W_59 a59, W_60 (vp_updL (vp_updL a60 0 (((a60 0) + ((a59 (Int32.toNatClampNeg l6)) * (Int32.toInt64 l2))))) ((Int32.toNatClampNeg (l6 + 1))) ((((vp_updL a60 0 (((a60 0) + ((a59 (Int32.toNatClampNeg l6)) * (Int32.toInt64 l2))))) (Int32.toNatClampNeg (l6 + 1))) + ((a59 (Int32.toNatClampNeg l6)) * (Int32.toInt64 (256 - l2))))))]) _
        exact ih l3 ((l6 + 1)) (vp_updL (vp_updL a60 0 (((a60 0) + ((a59 (Int32.toNatClampNeg l6)) * (Int32.toInt64 l2))))) ((Int32.toNatClampNeg (l6 + 1))) ((((vp_updL a60 0 (((a60 0) + ((a59 (Int32.toNatClampNeg l6)) * (Int32.toInt64 l2))))) (Int32.toNatClampNeg (l6 + 1))) + ((a59 (Int32.toNatClampNeg l6)) * (Int32.toInt64 (256 - l2)))))) _ h hk
      · replace h := xif_p c12 h
        refine x_lload_n dX12_lostOf_120 rfl ?_
        refine x_aload_n dX12_lostOf_121 rfl ?_
        refine g_X12_58 rfl dX12_lostOf_122 (by decide) rfl rfl ?_
        refine x_iload dX12_lostOf_125 rfl ?_
        obtain ⟨c16, h⟩ := xck h
        refine x_laldK (jn := (Int32.toNatClampNeg l6)) (v := (a59 (Int32.toNatClampNeg l6))) dX12_lostOf_127 (by decide) rfl (xin_ok c16) rfl rfl ?_
        refine x_sipush (v := 256) dX12_lostOf_128 (by decide) ?_
        refine x_iload_n dX12_lostOf_131 rfl ?_
        refine x_isub dX12_lostOf_132 ?_
        refine x_i2l dX12_lostOf_133 ?_
        refine x_lmul dX12_lostOf_134 ?_
        refine x_ladd dX12_lostOf_135 ?_
        refine x_lstore_n (ls' := [_, _, _, _, _, _, _]) dX12_lostOf_136 rfl rfl ?_
        refine x_goto (tgt := 166) dX12_lostOf_137 (by decide) ?_
        refine x_iinc (v := l6 + 1) (ls' := [_, _, _, _, _, _, _]) dX12_lostOf_166 rfl rfl rfl rfl ?_
        refine x_goto (tgt := 77) dX12_lostOf_169 (by decide) ?_
        show V yX12_lostOf cX12_lostOf (some .long) 0 61 (0, 0) 77 [some (.ref 44), some (.int l1), some (.int l2), some (.long ((l3 + ((a59 (Int32.toNatClampNeg l6)) * (Int32.toInt64 (256 - l2)))))), none, some (.int l5), some (.int ((l6 + 1)))] [] (xof s0 [W_44 o44, W_45 a45, W_59 a59, W_60 (vp_updL a60 0 (((a60 0) + ((a59 (Int32.toNatClampNeg l6)) * (Int32.toInt64 l2)))))]) _
        exact ih ((l3 + ((a59 (Int32.toNatClampNeg l6)) * (Int32.toInt64 (256 - l2))))) ((l6 + 1)) (vp_updL a60 0 (((a60 0) + ((a59 (Int32.toNatClampNeg l6)) * (Int32.toInt64 l2))))) _ h hk
def l_X12_lostOf_44_175 (n : Nat) (o44 : Nat → Int32) (a45 : Nat → Int32) (a60 : Nat → Int64) (l1 : Int32) (l2 : Int32) (l3 : Int64) (l5 : Int32) : Nat → (Int32) → (Nat → Int64) → Option (((Int32) × (Nat → Int64)))
  | 0, _, _ => none
  | k + 1, l6, a59 => (if 16 ≤ l6 then (some (l6, a59)) else (bif xin l6 16 then (bif xin l6 16 then (l_X12_lostOf_44_175 n o44 a45 a60 l1 l2 l3 l5 k ((l6 + 1)) (vp_updL a59 ((Int32.toNatClampNeg l6)) ((a60 (Int32.toNatClampNeg l6))))) else none) else none))
set_option maxRecDepth 100000 in
set_option maxHeartbeats 400000 in
theorem lv_X12_lostOf_44_175 (s0 : XW) (n : Nat) (o44 : Nat → Int32) (a45 : Nat → Int32) (a60 : Nat → Int64) (l1 : Int32) (l2 : Int32) (l3 : Int64) (l5 : Int32) (Q : Nat → Option Value → XW → Prop) : ∀ (k : Nat) (l6 : Int32) (a59 : Nat → Int64) (o : ((Int32) × (Nat → Int64))), l_X12_lostOf_44_175 n o44 a45 a60 l1 l2 l3 l5 k l6 a59 = some o → (V yX12_lostOf cX12_lostOf (some .long) 0 61 (0, 0) 202 [some (.ref 44), some (.int l1), some (.int l2), some (.long l3), none, some (.int l5), none] [] (xof s0 [W_44 o44, W_45 a45, W_59 o.2, W_60 a60]) Q) → V yX12_lostOf cX12_lostOf (some .long) 0 61 (0, 0) 175 [some (.ref 44), some (.int l1), some (.int l2), some (.long l3), none, some (.int l5), some (.int l6)] [] (xof s0 [W_44 o44, W_45 a45, W_59 a59, W_60 a60]) Q := by
  intro k
  induction k with
  | zero =>
    intro _ _ _ h
    simp [l_X12_lostOf_44_175] at h
  | succ k ih =>
    intro l6 a59 o h hk
    rw [l_X12_lostOf_44_175] at h
    refine x_iload dX12_lostOf_175 rfl ?_
    refine x_bipush (v := 16) dX12_lostOf_177 (by decide) ?_
    refine x_icmp_ge (tgt := 202) dX12_lostOf_179 (by decide) (fun c18 => ?_) (fun c18 => ?_)
    · replace h := xif_p c18 h
      refine V.drop1 (i := 6) (ls' := [_, _, _, _, _, _, _]) rfl ?_
      show V yX12_lostOf cX12_lostOf (some .long) 0 61 (0, 0) 202 [some (.ref 44), some (.int l1), some (.int l2), some (.long l3), none, some (.int l5), none] [] (xof s0 [W_44 o44, W_45 a45, W_59 a59, W_60 a60]) _
      cases h
      exact hk
    · replace h := xif_n c18 h
      refine x_aload_n dX12_lostOf_182 rfl ?_
      refine g_X12_58 rfl dX12_lostOf_183 (by decide) rfl rfl ?_
      refine x_iload dX12_lostOf_186 rfl ?_
      refine x_aload_n dX12_lostOf_188 rfl ?_
      refine g_X12_61 rfl dX12_lostOf_189 (by decide) rfl rfl ?_
      refine x_iload dX12_lostOf_192 rfl ?_
      obtain ⟨c19, h⟩ := xck h
      refine x_laldK (jn := (Int32.toNatClampNeg l6)) (v := (a60 (Int32.toNatClampNeg l6))) dX12_lostOf_194 (by decide) rfl (xin_ok c19) rfl rfl ?_
      obtain ⟨c20, h⟩ := xck h
      refine x_lastK (jn := (Int32.toNatClampNeg l6)) (L' := [(44, _), (45, _), (59, _), (60, _)]) dX12_lostOf_195 (by decide) rfl (xin_ok c20) rfl rfl ?_
      refine x_iinc (v := l6 + 1) (ls' := [_, _, _, _, _, _, _]) dX12_lostOf_196 rfl rfl rfl rfl ?_
      refine x_goto (tgt := 175) dX12_lostOf_199 (by decide) ?_
      show V yX12_lostOf cX12_lostOf (some .long) 0 61 (0, 0) 175 [some (.ref 44), some (.int l1), some (.int l2), some (.long l3), none, some (.int l5), some (.int ((l6 + 1)))] [] (xof s0 [W_44 o44, W_45 a45, W_59 (vp_updL a59 ((Int32.toNatClampNeg l6)) ((a60 (Int32.toNatClampNeg l6)))), W_60 a60]) _
      exact ih ((l6 + 1)) (vp_updL a59 ((Int32.toNatClampNeg l6)) ((a60 (Int32.toNatClampNeg l6)))) _ h hk
def l_X12_lostOf_44_38 (n : Nat) (o44 : Nat → Int32) (a45 : Nat → Int32) (l1 : Int32) (l2 : Int32) : Nat → (Int64) → (Int32) → (Nat → Int64) → (Nat → Int64) → Option (((Int64) × (Int32) × (Nat → Int64) × (Nat → Int64)))
  | 0, _, _, _, _ => none
  | k + 1, l3, l5, a59, a60 => (if l1 ≤ l5 then (some (l3, l5, a59, a60)) else (Option.bind (l_X12_lostOf_44_53 n o44 a45 a59 l1 l2 ((l3 * 256)) l5 n 0 a60) (fun u9 => (Option.bind (l_X12_lostOf_44_77 n o44 a45 a59 l1 l2 l5 n ((l3 * 256)) 0 u9.2) (fun u17 => (Option.bind (l_X12_lostOf_44_175 n o44 a45 u17.2.2 l1 l2 u17.1 l5 n 0 a59) (fun u21 => (l_X12_lostOf_44_38 n o44 a45 l1 l2 k u17.1 ((l5 + 1)) u21.2 u17.2.2))))))))
set_option maxRecDepth 100000 in
set_option maxHeartbeats 400000 in
theorem lv_X12_lostOf_44_38 (s0 : XW) (n : Nat) (o44 : Nat → Int32) (a45 : Nat → Int32) (l1 : Int32) (l2 : Int32) (Q : Nat → Option Value → XW → Prop) : ∀ (k : Nat) (l3 : Int64) (l5 : Int32) (a59 : Nat → Int64) (a60 : Nat → Int64) (o : ((Int64) × (Int32) × (Nat → Int64) × (Nat → Int64))), l_X12_lostOf_44_38 n o44 a45 l1 l2 k l3 l5 a59 a60 = some o → (V yX12_lostOf cX12_lostOf (some .long) 0 61 (0, 0) 208 [none, none, none, some (.long o.1), none, none, none] [] (xof s0 [W_44 o44, W_45 a45, W_59 o.2.2.1, W_60 o.2.2.2]) Q) → V yX12_lostOf cX12_lostOf (some .long) 0 61 (0, 0) 38 [some (.ref 44), some (.int l1), some (.int l2), some (.long l3), none, some (.int l5), none] [] (xof s0 [W_44 o44, W_45 a45, W_59 a59, W_60 a60]) Q := by
  intro k
  induction k with
  | zero =>
    intro _ _ _ _ _ h
    simp [l_X12_lostOf_44_38] at h
  | succ k ih =>
    intro l3 l5 a59 a60 o h hk
    rw [l_X12_lostOf_44_38] at h
    refine x_iload dX12_lostOf_38 rfl ?_
    refine x_iload_n dX12_lostOf_40 rfl ?_
    refine x_icmp_ge (tgt := 208) dX12_lostOf_41 (by decide) (fun c6 => ?_) (fun c6 => ?_)
    · replace h := xif_p c6 h
      refine V.drop1 (i := 0) (ls' := [_, _, _, _, _, _, _]) rfl ?_
      refine V.drop1 (i := 1) (ls' := [_, _, _, _, _, _, _]) rfl ?_
      refine V.drop1 (i := 2) (ls' := [_, _, _, _, _, _, _]) rfl ?_
      refine V.drop1 (i := 5) (ls' := [_, _, _, _, _, _, _]) rfl ?_
      show V yX12_lostOf cX12_lostOf (some .long) 0 61 (0, 0) 208 [none, none, none, some (.long l3), none, none, none] [] (xof s0 [W_44 o44, W_45 a45, W_59 a59, W_60 a60]) _
      cases h
      exact hk
    · replace h := xif_n c6 h
      refine x_lload_n dX12_lostOf_44 rfl ?_
      refine x_ldc2 dX12_lostOf_45 cn_X12_249 ?_
      refine x_lmul dX12_lostOf_48 ?_
      refine x_lstore_n (ls' := [_, _, _, _, _, _, _]) dX12_lostOf_49 rfl rfl ?_
      refine x_iconst (v := 0) dX12_lostOf_50 (by decide) ?_
      refine x_istore (ls' := [_, _, _, _, _, _, _]) dX12_lostOf_51 rfl rfl ?_
      obtain ⟨u9, hu9, h⟩ := Option.bind_eq_some_iff.mp h
      show V yX12_lostOf cX12_lostOf (some .long) 0 61 (0, 0) 53 [some (.ref 44), some (.int l1), some (.int l2), some (.long ((l3 * 256))), none, some (.int l5), some (.int 0)] [] (xof s0 [W_44 o44, W_45 a45, W_59 a59, W_60 a60]) _
      refine lv_X12_lostOf_44_53 s0 _ o44 a45 a59 l1 l2 ((l3 * 256)) l5 _ n 0 a60 _ hu9 ?_
      refine x_iconst (v := 0) dX12_lostOf_74 (by decide) ?_
      refine x_istore (ls' := [_, _, _, _, _, _, _]) dX12_lostOf_75 rfl rfl ?_
      obtain ⟨u17, hu17, h⟩ := Option.bind_eq_some_iff.mp h
      show V yX12_lostOf cX12_lostOf (some .long) 0 61 (0, 0) 77 [some (.ref 44), some (.int l1), some (.int l2), some (.long ((l3 * 256))), none, some (.int l5), some (.int 0)] [] (xof s0 [W_44 o44, W_45 a45, W_59 a59, W_60 u9.2]) _
      refine lv_X12_lostOf_44_77 s0 _ o44 a45 a59 l1 l2 l5 _ n ((l3 * 256)) 0 u9.2 _ hu17 ?_
      refine x_iconst (v := 0) dX12_lostOf_172 (by decide) ?_
      refine x_istore (ls' := [_, _, _, _, _, _, _]) dX12_lostOf_173 rfl rfl ?_
      obtain ⟨u21, hu21, h⟩ := Option.bind_eq_some_iff.mp h
      show V yX12_lostOf cX12_lostOf (some .long) 0 61 (0, 0) 175 [some (.ref 44), some (.int l1), some (.int l2), some (.long u17.1), none, some (.int l5), some (.int 0)] [] (xof s0 [W_44 o44, W_45 a45, W_59 a59, W_60 u17.2.2]) _
      refine lv_X12_lostOf_44_175 s0 _ o44 a45 u17.2.2 l1 l2 u17.1 l5 _ n 0 a59 _ hu21 ?_
      refine x_iinc (v := l5 + 1) (ls' := [_, _, _, _, _, _, _]) dX12_lostOf_202 rfl rfl rfl rfl ?_
      refine x_goto (tgt := 38) dX12_lostOf_205 (by decide) ?_
      show V yX12_lostOf cX12_lostOf (some .long) 0 61 (0, 0) 38 [some (.ref 44), some (.int l1), some (.int l2), some (.long u17.1), none, some (.int ((l5 + 1))), none] [] (xof s0 [W_44 o44, W_45 a45, W_59 u21.2, W_60 u17.2.2]) _
      exact ih u17.1 ((l5 + 1)) u21.2 u17.2.2 _ h hk
def f_X12_lostOf_44 (n : Nat) (o44 : Nat → Int32) (a45 : Nat → Int32) (a59 : Nat → Int64) (a60 : Nat → Int64) (p1 : Int32) (p2 : Int32) : Option (((Int64) × (Nat → Int64) × (Nat → Int64))) := (Option.bind (l_X12_lostOf_44_5 n o44 a45 a60 p1 p2 0 n 0 a59) (fun u5 => (Option.bind (l_X12_lostOf_44_38 n o44 a45 p1 p2 n 0 0 u5.2 a60) (fun u22 => (some (u22.1, u22.2.2.1, u22.2.2.2))))))
set_option maxRecDepth 100000 in
set_option maxHeartbeats 400000 in
theorem v_X12_lostOf_44 (s0 : XW) (n : Nat) (o44 : Nat → Int32) (a45 : Nat → Int32) (a59 : Nat → Int64) (a60 : Nat → Int64) (p1 : Int32) (p2 : Int32) (q : ((Int64) × (Nat → Int64) × (Nat → Int64))) (h : f_X12_lostOf_44 n o44 a45 a59 a60 p1 p2 = some q) : C_X12_lostOf 0 61 [.ref 44, .int p1, .int p2] (xof s0 [W_44 o44, W_45 a45, W_59 a59, W_60 a60]) (some (.long q.1)) (xof s0 [W_44 o44, W_45 a45, W_59 q.2.1, W_60 q.2.2]) := by
  unfold f_X12_lostOf_44 at h
  show V yX12_lostOf cX12_lostOf (some .long) 0 61 (0, 0) 0 [some (.ref 44), some (.int p1), some (.int p2), none, none, none, none] [] (xof s0 [W_44 o44, W_45 a45, W_59 a59, W_60 a60]) _
  refine x_lconst (v := 0) dX12_lostOf_0 (by decide) ?_
  refine x_lstore_n (ls' := [_, _, _, _, _, _, _]) dX12_lostOf_1 rfl rfl ?_
  refine x_iconst (v := 0) dX12_lostOf_2 (by decide) ?_
  refine x_istore (ls' := [_, _, _, _, _, _, _]) dX12_lostOf_3 rfl rfl ?_
  obtain ⟨u5, hu5, h⟩ := Option.bind_eq_some_iff.mp h
  show V yX12_lostOf cX12_lostOf (some .long) 0 61 (0, 0) 5 [some (.ref 44), some (.int p1), some (.int p2), some (.long 0), none, some (.int 0), none] [] (xof s0 [W_44 o44, W_45 a45, W_59 a59, W_60 a60]) _
  refine lv_X12_lostOf_44_5 s0 _ o44 a45 a60 p1 p2 0 _ n 0 a59 _ hu5 ?_
  refine x_iconst (v := 0) dX12_lostOf_35 (by decide) ?_
  refine x_istore (ls' := [_, _, _, _, _, _, _]) dX12_lostOf_36 rfl rfl ?_
  obtain ⟨u22, hu22, h⟩ := Option.bind_eq_some_iff.mp h
  show V yX12_lostOf cX12_lostOf (some .long) 0 61 (0, 0) 38 [some (.ref 44), some (.int p1), some (.int p2), some (.long 0), none, some (.int 0), none] [] (xof s0 [W_44 o44, W_45 a45, W_59 u5.2, W_60 a60]) _
  refine lv_X12_lostOf_44_38 s0 _ o44 a45 p1 p2 _ n 0 0 u5.2 a60 _ hu22 ?_
  refine x_lload_n dX12_lostOf_208 rfl ?_
  cases h
  exact x_lret dX12_lostOf_209 ⟨rfl, rfl, rfl⟩
def l_X12_gainedOf_44_8 (n : Nat) (o44 : Nat → Int32) (a45 : Nat → Int32) (a60 : Nat → Int64) (l1 : Int32) (l2 : Int32) (l3 : Int64) (l5 : Int64) : Nat → (Int32) → (Nat → Int64) → Option (((Int32) × (Nat → Int64)))
  | 0, _, _ => none
  | k + 1, l7, a59 => (if 16 ≤ l7 then (some (l7, a59)) else (if l7 = 0 then (bif xin l7 16 then (l_X12_gainedOf_44_8 n o44 a45 a60 l1 l2 l3 l5 k ((l7 + 1)) (vp_updL a59 ((Int32.toNatClampNeg l7)) 1)) else none) else (bif xin l7 16 then (l_X12_gainedOf_44_8 n o44 a45 a60 l1 l2 l3 l5 k ((l7 + 1)) (vp_updL a59 ((Int32.toNatClampNeg l7)) 0)) else none)))
set_option maxRecDepth 100000 in
set_option maxHeartbeats 400000 in
theorem lv_X12_gainedOf_44_8 (s0 : XW) (n : Nat) (o44 : Nat → Int32) (a45 : Nat → Int32) (a60 : Nat → Int64) (l1 : Int32) (l2 : Int32) (l3 : Int64) (l5 : Int64) (Q : Nat → Option Value → XW → Prop) : ∀ (k : Nat) (l7 : Int32) (a59 : Nat → Int64) (o : ((Int32) × (Nat → Int64))), l_X12_gainedOf_44_8 n o44 a45 a60 l1 l2 l3 l5 k l7 a59 = some o → (V yX12_gainedOf cX12_gainedOf (some .long) 0 61 (0, 0) 38 [some (.ref 44), some (.int l1), some (.int l2), some (.long l3), none, some (.long l5), none, none, none, none, none] [] (xof s0 [W_44 o44, W_45 a45, W_59 o.2, W_60 a60]) Q) → V yX12_gainedOf cX12_gainedOf (some .long) 0 61 (0, 0) 8 [some (.ref 44), some (.int l1), some (.int l2), some (.long l3), none, some (.long l5), none, some (.int l7), none, none, none] [] (xof s0 [W_44 o44, W_45 a45, W_59 a59, W_60 a60]) Q := by
  intro k
  induction k with
  | zero =>
    intro _ _ _ h
    simp [l_X12_gainedOf_44_8] at h
  | succ k ih =>
    intro l7 a59 o h hk
    rw [l_X12_gainedOf_44_8] at h
    refine x_iload dX12_gainedOf_8 rfl ?_
    refine x_bipush (v := 16) dX12_gainedOf_10 (by decide) ?_
    refine x_icmp_ge (tgt := 38) dX12_gainedOf_12 (by decide) (fun c1 => ?_) (fun c1 => ?_)
    · replace h := xif_p c1 h
      refine V.drop1 (i := 7) (ls' := [_, _, _, _, _, _, _, _, _, _, _]) rfl ?_
      show V yX12_gainedOf cX12_gainedOf (some .long) 0 61 (0, 0) 38 [some (.ref 44), some (.int l1), some (.int l2), some (.long l3), none, some (.long l5), none, none, none, none, none] [] (xof s0 [W_44 o44, W_45 a45, W_59 a59, W_60 a60]) _
      cases h
      exact hk
    · replace h := xif_n c1 h
      refine x_aload_n dX12_gainedOf_15 rfl ?_
      refine g_X12_58 rfl dX12_gainedOf_16 (by decide) rfl rfl ?_
      refine x_iload dX12_gainedOf_19 rfl ?_
      refine x_iload dX12_gainedOf_21 rfl ?_
      refine x_if_ne (tgt := 30) dX12_gainedOf_23 (by decide) (fun c2 => ?_) (fun c2 => ?_)
      · replace h := xif_n c2 h
        refine x_lconst (v := 0) dX12_gainedOf_30 (by decide) ?_
        obtain ⟨c3, h⟩ := xck h
        refine x_lastK (jn := (Int32.toNatClampNeg l7)) (L' := [(44, _), (45, _), (59, _), (60, _)]) dX12_gainedOf_31 (by decide) rfl (xin_ok c3) rfl rfl ?_
        refine x_iinc (v := l7 + 1) (ls' := [_, _, _, _, _, _, _, _, _, _, _]) dX12_gainedOf_32 rfl rfl rfl rfl ?_
        refine x_goto (tgt := 8) dX12_gainedOf_35 (by decide) ?_
        show V yX12_gainedOf cX12_gainedOf (some .long) 0 61 (0, 0) 8 [some (.ref 44), some (.int l1), some (.int l2), some (.long l3), none, some (.long l5), none, some (.int ((l7 + 1))), none, none, none] [] (xof s0 [W_44 o44, W_45 a45, W_59 (vp_updL a59 ((Int32.toNatClampNeg l7)) 0), W_60 a60]) _
        exact ih ((l7 + 1)) (vp_updL a59 ((Int32.toNatClampNeg l7)) 0) _ h hk
      · replace h := xif_p c2 h
        refine x_lconst (v := 1) dX12_gainedOf_26 (by decide) ?_
        refine x_goto (tgt := 31) dX12_gainedOf_27 (by decide) ?_
        obtain ⟨c4, h⟩ := xck h
        refine x_lastK (jn := (Int32.toNatClampNeg l7)) (L' := [(44, _), (45, _), (59, _), (60, _)]) dX12_gainedOf_31 (by decide) rfl (xin_ok c4) rfl rfl ?_
        refine x_iinc (v := l7 + 1) (ls' := [_, _, _, _, _, _, _, _, _, _, _]) dX12_gainedOf_32 rfl rfl rfl rfl ?_
        refine x_goto (tgt := 8) dX12_gainedOf_35 (by decide) ?_
        show V yX12_gainedOf cX12_gainedOf (some .long) 0 61 (0, 0) 8 [some (.ref 44), some (.int l1), some (.int l2), some (.long l3), none, some (.long l5), none, some (.int ((l7 + 1))), none, none, none] [] (xof s0 [W_44 o44, W_45 a45, W_59 (vp_updL a59 ((Int32.toNatClampNeg l7)) 1), W_60 a60]) _
        exact ih ((l7 + 1)) (vp_updL a59 ((Int32.toNatClampNeg l7)) 1) _ h hk
def l_X12_gainedOf_44_67 (n : Nat) (o44 : Nat → Int32) (a45 : Nat → Int32) (a59 : Nat → Int64) (l1 : Int32) (l2 : Int32) (l3 : Int64) (l5 : Int64) (l7 : Int32) (l8 : Int64) : Nat → (Int32) → (Nat → Int64) → Option (((Int32) × (Nat → Int64)))
  | 0, _, _ => none
  | k + 1, l10, a60 => (if 16 ≤ l10 then (some (l10, a60)) else (bif xin l10 16 then (l_X12_gainedOf_44_67 n o44 a45 a59 l1 l2 l3 l5 l7 l8 k ((l10 + 1)) (vp_updL a60 ((Int32.toNatClampNeg l10)) 0)) else none))
set_option maxRecDepth 100000 in
set_option maxHeartbeats 400000 in
theorem lv_X12_gainedOf_44_67 (s0 : XW) (n : Nat) (o44 : Nat → Int32) (a45 : Nat → Int32) (a59 : Nat → Int64) (l1 : Int32) (l2 : Int32) (l3 : Int64) (l5 : Int64) (l7 : Int32) (l8 : Int64) (Q : Nat → Option Value → XW → Prop) : ∀ (k : Nat) (l10 : Int32) (a60 : Nat → Int64) (o : ((Int32) × (Nat → Int64))), l_X12_gainedOf_44_67 n o44 a45 a59 l1 l2 l3 l5 l7 l8 k l10 a60 = some o → (V yX12_gainedOf cX12_gainedOf (some .long) 0 61 (0, 0) 88 [some (.ref 44), some (.int l1), some (.int l2), some (.long l3), none, some (.long l5), none, some (.int l7), some (.long l8), none, none] [] (xof s0 [W_44 o44, W_45 a45, W_59 a59, W_60 o.2]) Q) → V yX12_gainedOf cX12_gainedOf (some .long) 0 61 (0, 0) 67 [some (.ref 44), some (.int l1), some (.int l2), some (.long l3), none, some (.long l5), none, some (.int l7), some (.long l8), none, some (.int l10)] [] (xof s0 [W_44 o44, W_45 a45, W_59 a59, W_60 a60]) Q := by
  intro k
  induction k with
  | zero =>
    intro _ _ _ h
    simp [l_X12_gainedOf_44_67] at h
  | succ k ih =>
    intro l10 a60 o h hk
    rw [l_X12_gainedOf_44_67] at h
    refine x_iload dX12_gainedOf_67 rfl ?_
    refine x_bipush (v := 16) dX12_gainedOf_69 (by decide) ?_
    refine x_icmp_ge (tgt := 88) dX12_gainedOf_71 (by decide) (fun c7 => ?_) (fun c7 => ?_)
    · replace h := xif_p c7 h
      refine V.drop1 (i := 10) (ls' := [_, _, _, _, _, _, _, _, _, _, _]) rfl ?_
      show V yX12_gainedOf cX12_gainedOf (some .long) 0 61 (0, 0) 88 [some (.ref 44), some (.int l1), some (.int l2), some (.long l3), none, some (.long l5), none, some (.int l7), some (.long l8), none, none] [] (xof s0 [W_44 o44, W_45 a45, W_59 a59, W_60 a60]) _
      cases h
      exact hk
    · replace h := xif_n c7 h
      refine x_aload_n dX12_gainedOf_74 rfl ?_
      refine g_X12_61 rfl dX12_gainedOf_75 (by decide) rfl rfl ?_
      refine x_iload dX12_gainedOf_78 rfl ?_
      refine x_lconst (v := 0) dX12_gainedOf_80 (by decide) ?_
      obtain ⟨c8, h⟩ := xck h
      refine x_lastK (jn := (Int32.toNatClampNeg l10)) (L' := [(44, _), (45, _), (59, _), (60, _)]) dX12_gainedOf_81 (by decide) rfl (xin_ok c8) rfl rfl ?_
      refine x_iinc (v := l10 + 1) (ls' := [_, _, _, _, _, _, _, _, _, _, _]) dX12_gainedOf_82 rfl rfl rfl rfl ?_
      refine x_goto (tgt := 67) dX12_gainedOf_85 (by decide) ?_
      show V yX12_gainedOf cX12_gainedOf (some .long) 0 61 (0, 0) 67 [some (.ref 44), some (.int l1), some (.int l2), some (.long l3), none, some (.long l5), none, some (.int l7), some (.long l8), none, some (.int ((l10 + 1)))] [] (xof s0 [W_44 o44, W_45 a45, W_59 a59, W_60 (vp_updL a60 ((Int32.toNatClampNeg l10)) 0)]) _
      exact ih ((l10 + 1)) (vp_updL a60 ((Int32.toNatClampNeg l10)) 0) _ h hk
def l_X12_gainedOf_44_102 (n : Nat) (o44 : Nat → Int32) (a45 : Nat → Int32) (a59 : Nat → Int64) (l1 : Int32) (l2 : Int32) (l7 : Int32) : Nat → (Int64) → (Int64) → (Int32) → (Nat → Int64) → Option (((Int64) × (Int64) × (Int32) × (Nat → Int64)))
  | 0, _, _, _, _ => none
  | k + 1, l3, l8, l10, a60 => (if (a45 2) ≤ l10 then (some (l3, l8, l10, a60)) else (bif xin l10 16 then (if (l10 + 1) = (a45 2) then (bif xin l10 16 then (l_X12_gainedOf_44_102 n o44 a45 a59 l1 l2 l7 k ((l3 + ((a59 (Int32.toNatClampNeg l10)) * (Int32.toInt64 l2)))) ((l8 + ((a59 (Int32.toNatClampNeg l10)) * (Int32.toInt64 (256 - l2))))) ((l10 + 1)) a60) else none) else (bif xin (l10 + 1) 16 then (bif xin l10 16 then (bif xin (l10 + 1) 16 then (l_X12_gainedOf_44_102 n o44 a45 a59 l1 l2 l7 k l3 ((l8 + ((a59 (Int32.toNatClampNeg l10)) * (Int32.toInt64 (256 - l2))))) ((l10 + 1)) (vp_updL a60 ((Int32.toNatClampNeg (l10 + 1))) (((a60 (Int32.toNatClampNeg (l10 + 1))) + ((a59 (Int32.toNatClampNeg l10)) * (Int32.toInt64 l2)))))) else none) else none) else none)) else none))
set_option maxRecDepth 100000 in
set_option maxHeartbeats 400000 in
theorem lv_X12_gainedOf_44_102 (s0 : XW) (n : Nat) (o44 : Nat → Int32) (a45 : Nat → Int32) (a59 : Nat → Int64) (l1 : Int32) (l2 : Int32) (l7 : Int32) (Q : Nat → Option Value → XW → Prop) : ∀ (k : Nat) (l3 : Int64) (l8 : Int64) (l10 : Int32) (a60 : Nat → Int64) (o : ((Int64) × (Int64) × (Int32) × (Nat → Int64))), l_X12_gainedOf_44_102 n o44 a45 a59 l1 l2 l7 k l3 l8 l10 a60 = some o → (V yX12_gainedOf cX12_gainedOf (some .long) 0 61 (0, 0) 189 [some (.ref 44), some (.int l1), some (.int l2), some (.long o.1), none, none, none, some (.int l7), some (.long o.2.1), none, none] [] (xof s0 [W_44 o44, W_45 a45, W_59 a59, W_60 o.2.2.2]) Q) → V yX12_gainedOf cX12_gainedOf (some .long) 0 61 (0, 0) 102 [some (.ref 44), some (.int l1), some (.int l2), some (.long l3), none, none, none, some (.int l7), some (.long l8), none, some (.int l10)] [] (xof s0 [W_44 o44, W_45 a45, W_59 a59, W_60 a60]) Q := by
  intro k
  induction k with
  | zero =>
    intro _ _ _ _ _ h
    simp [l_X12_gainedOf_44_102] at h
  | succ k ih =>
    intro l3 l8 l10 a60 o h hk
    rw [l_X12_gainedOf_44_102] at h
    refine x_iload dX12_gainedOf_102 rfl ?_
    refine x_aload_n dX12_gainedOf_104 rfl ?_
    refine g_X12_13 rfl dX12_gainedOf_105 (by decide) rfl rfl ?_
    refine x_iconst (v := 2) dX12_gainedOf_108 (by decide) ?_
    refine x_ialdK (jn := 2) (v := (a45 2)) dX12_gainedOf_109 (by decide) rfl (xin_ok (by decide)) (by decide) rfl ?_
    refine x_icmp_ge (tgt := 189) dX12_gainedOf_110 (by decide) (fun c10 => ?_) (fun c10 => ?_)
    · replace h := xif_p c10 h
      refine V.drop1 (i := 10) (ls' := [_, _, _, _, _, _, _, _, _, _, _]) rfl ?_
      show V yX12_gainedOf cX12_gainedOf (some .long) 0 61 (0, 0) 189 [some (.ref 44), some (.int l1), some (.int l2), some (.long l3), none, none, none, some (.int l7), some (.long l8), none, none] [] (xof s0 [W_44 o44, W_45 a45, W_59 a59, W_60 a60]) _
      cases h
      exact hk
    · replace h := xif_n c10 h
      refine x_lload dX12_gainedOf_113 rfl ?_
      refine x_aload_n dX12_gainedOf_115 rfl ?_
      refine g_X12_58 rfl dX12_gainedOf_116 (by decide) rfl rfl ?_
      refine x_iload dX12_gainedOf_119 rfl ?_
      obtain ⟨c11, h⟩ := xck h
      refine x_laldK (jn := (Int32.toNatClampNeg l10)) (v := (a59 (Int32.toNatClampNeg l10))) dX12_gainedOf_121 (by decide) rfl (xin_ok c11) rfl rfl ?_
      refine x_sipush (v := 256) dX12_gainedOf_122 (by decide) ?_
      refine x_iload_n dX12_gainedOf_125 rfl ?_
      refine x_isub dX12_gainedOf_126 ?_
      refine x_i2l dX12_gainedOf_127 ?_
      refine x_lmul dX12_gainedOf_128 ?_
      refine x_ladd dX12_gainedOf_129 ?_
      refine x_lstore (ls' := [_, _, _, _, _, _, _, _, _, _, _]) dX12_gainedOf_130 rfl rfl ?_
      refine x_iload dX12_gainedOf_132 rfl ?_
      refine x_iconst (v := 1) dX12_gainedOf_134 (by decide) ?_
      refine x_iadd dX12_gainedOf_135 ?_
      refine x_aload_n dX12_gainedOf_136 rfl ?_
      refine g_X12_13 rfl dX12_gainedOf_137 (by decide) rfl rfl ?_
      refine x_iconst (v := 2) dX12_gainedOf_140 (by decide) ?_
      refine x_ialdK (jn := 2) (v := (a45 2)) dX12_gainedOf_141 (by decide) rfl (xin_ok (by decide)) (by decide) rfl ?_
      refine x_icmp_ne (tgt := 161) dX12_gainedOf_142 (by decide) (fun c12 => ?_) (fun c12 => ?_)
      · replace h := xif_n c12 h
        refine x_aload_n dX12_gainedOf_161 rfl ?_
        refine g_X12_61 rfl dX12_gainedOf_162 (by decide) rfl rfl ?_
        refine x_iload dX12_gainedOf_165 rfl ?_
        refine x_iconst (v := 1) dX12_gainedOf_167 (by decide) ?_
        refine x_iadd dX12_gainedOf_168 ?_
        refine x_dup2 dX12_gainedOf_169 rfl rfl ?_
        obtain ⟨c13, h⟩ := xck h
        refine x_laldK (jn := (Int32.toNatClampNeg (l10 + 1))) (v := (a60 (Int32.toNatClampNeg (l10 + 1)))) dX12_gainedOf_170 (by decide) rfl (xin_ok c13) rfl rfl ?_
        refine x_aload_n dX12_gainedOf_171 rfl ?_
        refine g_X12_58 rfl dX12_gainedOf_172 (by decide) rfl rfl ?_
        refine x_iload dX12_gainedOf_175 rfl ?_
        obtain ⟨c14, h⟩ := xck h
        refine x_laldK (jn := (Int32.toNatClampNeg l10)) (v := (a59 (Int32.toNatClampNeg l10))) dX12_gainedOf_177 (by decide) rfl (xin_ok c14) rfl rfl ?_
        refine x_iload_n dX12_gainedOf_178 rfl ?_
        refine x_i2l dX12_gainedOf_179 ?_
        refine x_lmul dX12_gainedOf_180 ?_
        refine x_ladd dX12_gainedOf_181 ?_
        obtain ⟨c15, h⟩ := xck h
        refine x_lastK (jn := (Int32.toNatClampNeg (l10 + 1))) (L' := [(44, _), (45, _), (59, _), (60, _)]) dX12_gainedOf_182 (by decide) rfl (xin_ok c15) rfl rfl ?_
        refine x_iinc (v := l10 + 1) (ls' := [_, _, _, _, _, _, _, _, _, _, _]) dX12_gainedOf_183 rfl rfl rfl rfl ?_
        refine x_goto (tgt := 102) dX12_gainedOf_186 (by decide) ?_
        show V yX12_gainedOf cX12_gainedOf (some .long) 0 61 (0, 0) 102 [some (.ref 44), some (.int l1), some (.int l2), some (.long l3), none, none, none, some (.int l7), some (.long ((l8 + ((a59 (Int32.toNatClampNeg l10)) * (Int32.toInt64 (256 - l2)))))), none, some (.int ((l10 + 1)))] [] (xof s0 [W_44 o44, W_45 a45, W_59 a59, W_60 (vp_updL a60 ((Int32.toNatClampNeg (l10 + 1))) (((a60 (Int32.toNatClampNeg (l10 + 1))) + ((a59 (Int32.toNatClampNeg l10)) * (Int32.toInt64 l2)))))]) _
        exact ih l3 ((l8 + ((a59 (Int32.toNatClampNeg l10)) * (Int32.toInt64 (256 - l2))))) ((l10 + 1)) (vp_updL a60 ((Int32.toNatClampNeg (l10 + 1))) (((a60 (Int32.toNatClampNeg (l10 + 1))) + ((a59 (Int32.toNatClampNeg l10)) * (Int32.toInt64 l2))))) _ h hk
      · replace h := xif_p c12 h
        refine x_lload_n dX12_gainedOf_145 rfl ?_
        refine x_aload_n dX12_gainedOf_146 rfl ?_
        refine g_X12_58 rfl dX12_gainedOf_147 (by decide) rfl rfl ?_
        refine x_iload dX12_gainedOf_150 rfl ?_
        obtain ⟨c16, h⟩ := xck h
        refine x_laldK (jn := (Int32.toNatClampNeg l10)) (v := (a59 (Int32.toNatClampNeg l10))) dX12_gainedOf_152 (by decide) rfl (xin_ok c16) rfl rfl ?_
        refine x_iload_n dX12_gainedOf_153 rfl ?_
        refine x_i2l dX12_gainedOf_154 ?_
        refine x_lmul dX12_gainedOf_155 ?_
        refine x_ladd dX12_gainedOf_156 ?_
        refine x_lstore_n (ls' := [_, _, _, _, _, _, _, _, _, _, _]) dX12_gainedOf_157 rfl rfl ?_
        refine x_goto (tgt := 183) dX12_gainedOf_158 (by decide) ?_
        refine x_iinc (v := l10 + 1) (ls' := [_, _, _, _, _, _, _, _, _, _, _]) dX12_gainedOf_183 rfl rfl rfl rfl ?_
        refine x_goto (tgt := 102) dX12_gainedOf_186 (by decide) ?_
        show V yX12_gainedOf cX12_gainedOf (some .long) 0 61 (0, 0) 102 [some (.ref 44), some (.int l1), some (.int l2), some (.long ((l3 + ((a59 (Int32.toNatClampNeg l10)) * (Int32.toInt64 l2))))), none, none, none, some (.int l7), some (.long ((l8 + ((a59 (Int32.toNatClampNeg l10)) * (Int32.toInt64 (256 - l2)))))), none, some (.int ((l10 + 1)))] [] (xof s0 [W_44 o44, W_45 a45, W_59 a59, W_60 a60]) _
        exact ih ((l3 + ((a59 (Int32.toNatClampNeg l10)) * (Int32.toInt64 l2)))) ((l8 + ((a59 (Int32.toNatClampNeg l10)) * (Int32.toInt64 (256 - l2))))) ((l10 + 1)) a60 _ h hk
def l_X12_gainedOf_44_196 (n : Nat) (o44 : Nat → Int32) (a45 : Nat → Int32) (a60 : Nat → Int64) (l1 : Int32) (l2 : Int32) (l3 : Int64) (l5 : Int64) (l7 : Int32) : Nat → (Int32) → (Nat → Int64) → Option (((Int32) × (Nat → Int64)))
  | 0, _, _ => none
  | k + 1, l10, a59 => (if 16 ≤ l10 then (some (l10, a59)) else (bif xin l10 16 then (bif xin l10 16 then (l_X12_gainedOf_44_196 n o44 a45 a60 l1 l2 l3 l5 l7 k ((l10 + 1)) (vp_updL a59 ((Int32.toNatClampNeg l10)) ((a60 (Int32.toNatClampNeg l10))))) else none) else none))
set_option maxRecDepth 100000 in
set_option maxHeartbeats 400000 in
theorem lv_X12_gainedOf_44_196 (s0 : XW) (n : Nat) (o44 : Nat → Int32) (a45 : Nat → Int32) (a60 : Nat → Int64) (l1 : Int32) (l2 : Int32) (l3 : Int64) (l5 : Int64) (l7 : Int32) (Q : Nat → Option Value → XW → Prop) : ∀ (k : Nat) (l10 : Int32) (a59 : Nat → Int64) (o : ((Int32) × (Nat → Int64))), l_X12_gainedOf_44_196 n o44 a45 a60 l1 l2 l3 l5 l7 k l10 a59 = some o → (V yX12_gainedOf cX12_gainedOf (some .long) 0 61 (0, 0) 223 [some (.ref 44), some (.int l1), some (.int l2), some (.long l3), none, some (.long l5), none, some (.int l7), none, none, none] [] (xof s0 [W_44 o44, W_45 a45, W_59 o.2, W_60 a60]) Q) → V yX12_gainedOf cX12_gainedOf (some .long) 0 61 (0, 0) 196 [some (.ref 44), some (.int l1), some (.int l2), some (.long l3), none, some (.long l5), none, some (.int l7), none, none, some (.int l10)] [] (xof s0 [W_44 o44, W_45 a45, W_59 a59, W_60 a60]) Q := by
  intro k
  induction k with
  | zero =>
    intro _ _ _ h
    simp [l_X12_gainedOf_44_196] at h
  | succ k ih =>
    intro l10 a59 o h hk
    rw [l_X12_gainedOf_44_196] at h
    refine x_iload dX12_gainedOf_196 rfl ?_
    refine x_bipush (v := 16) dX12_gainedOf_198 (by decide) ?_
    refine x_icmp_ge (tgt := 223) dX12_gainedOf_200 (by decide) (fun c18 => ?_) (fun c18 => ?_)
    · replace h := xif_p c18 h
      refine V.drop1 (i := 10) (ls' := [_, _, _, _, _, _, _, _, _, _, _]) rfl ?_
      show V yX12_gainedOf cX12_gainedOf (some .long) 0 61 (0, 0) 223 [some (.ref 44), some (.int l1), some (.int l2), some (.long l3), none, some (.long l5), none, some (.int l7), none, none, none] [] (xof s0 [W_44 o44, W_45 a45, W_59 a59, W_60 a60]) _
      cases h
      exact hk
    · replace h := xif_n c18 h
      refine x_aload_n dX12_gainedOf_203 rfl ?_
      refine g_X12_58 rfl dX12_gainedOf_204 (by decide) rfl rfl ?_
      refine x_iload dX12_gainedOf_207 rfl ?_
      refine x_aload_n dX12_gainedOf_209 rfl ?_
      refine g_X12_61 rfl dX12_gainedOf_210 (by decide) rfl rfl ?_
      refine x_iload dX12_gainedOf_213 rfl ?_
      obtain ⟨c19, h⟩ := xck h
      refine x_laldK (jn := (Int32.toNatClampNeg l10)) (v := (a60 (Int32.toNatClampNeg l10))) dX12_gainedOf_215 (by decide) rfl (xin_ok c19) rfl rfl ?_
      obtain ⟨c20, h⟩ := xck h
      refine x_lastK (jn := (Int32.toNatClampNeg l10)) (L' := [(44, _), (45, _), (59, _), (60, _)]) dX12_gainedOf_216 (by decide) rfl (xin_ok c20) rfl rfl ?_
      refine x_iinc (v := l10 + 1) (ls' := [_, _, _, _, _, _, _, _, _, _, _]) dX12_gainedOf_217 rfl rfl rfl rfl ?_
      refine x_goto (tgt := 196) dX12_gainedOf_220 (by decide) ?_
      show V yX12_gainedOf cX12_gainedOf (some .long) 0 61 (0, 0) 196 [some (.ref 44), some (.int l1), some (.int l2), some (.long l3), none, some (.long l5), none, some (.int l7), none, none, some (.int ((l10 + 1)))] [] (xof s0 [W_44 o44, W_45 a45, W_59 (vp_updL a59 ((Int32.toNatClampNeg l10)) ((a60 (Int32.toNatClampNeg l10)))), W_60 a60]) _
      exact ih ((l10 + 1)) (vp_updL a59 ((Int32.toNatClampNeg l10)) ((a60 (Int32.toNatClampNeg l10)))) _ h hk
def l_X12_gainedOf_44_41 (n : Nat) (o44 : Nat → Int32) (a45 : Nat → Int32) (l1 : Int32) (l2 : Int32) : Nat → (Int64) → (Int64) → (Int32) → (Nat → Int64) → (Nat → Int64) → Option (((Int64) × (Int64) × (Int32) × (Nat → Int64) × (Nat → Int64)))
  | 0, _, _, _, _, _ => none
  | k + 1, l3, l5, l7, a59, a60 => (if l1 ≤ l7 then (some (l3, l5, l7, a59, a60)) else (Option.bind (l_X12_gainedOf_44_67 n o44 a45 a59 l1 l2 ((l3 * 256)) l5 l7 ((l5 * (Int32.toInt64 (256 - l2)))) n 0 a60) (fun u9 => (Option.bind (l_X12_gainedOf_44_102 n o44 a45 a59 l1 l2 l7 n ((l3 * 256)) ((l5 * (Int32.toInt64 (256 - l2)))) 0 (vp_updL u9.2 0 ((l5 * (Int32.toInt64 l2))))) (fun u17 => (Option.bind (l_X12_gainedOf_44_196 n o44 a45 u17.2.2.2 l1 l2 u17.1 u17.2.1 l7 n 0 a59) (fun u21 => (l_X12_gainedOf_44_41 n o44 a45 l1 l2 k u17.1 u17.2.1 ((l7 + 1)) u21.2 u17.2.2.2))))))))
set_option maxRecDepth 100000 in
set_option maxHeartbeats 400000 in
theorem lv_X12_gainedOf_44_41 (s0 : XW) (n : Nat) (o44 : Nat → Int32) (a45 : Nat → Int32) (l1 : Int32) (l2 : Int32) (Q : Nat → Option Value → XW → Prop) : ∀ (k : Nat) (l3 : Int64) (l5 : Int64) (l7 : Int32) (a59 : Nat → Int64) (a60 : Nat → Int64) (o : ((Int64) × (Int64) × (Int32) × (Nat → Int64) × (Nat → Int64))), l_X12_gainedOf_44_41 n o44 a45 l1 l2 k l3 l5 l7 a59 a60 = some o → (V yX12_gainedOf cX12_gainedOf (some .long) 0 61 (0, 0) 229 [none, none, none, some (.long o.1), none, none, none, none, none, none, none] [] (xof s0 [W_44 o44, W_45 a45, W_59 o.2.2.2.1, W_60 o.2.2.2.2]) Q) → V yX12_gainedOf cX12_gainedOf (some .long) 0 61 (0, 0) 41 [some (.ref 44), some (.int l1), some (.int l2), some (.long l3), none, some (.long l5), none, some (.int l7), none, none, none] [] (xof s0 [W_44 o44, W_45 a45, W_59 a59, W_60 a60]) Q := by
  intro k
  induction k with
  | zero =>
    intro _ _ _ _ _ _ h
    simp [l_X12_gainedOf_44_41] at h
  | succ k ih =>
    intro l3 l5 l7 a59 a60 o h hk
    rw [l_X12_gainedOf_44_41] at h
    refine x_iload dX12_gainedOf_41 rfl ?_
    refine x_iload_n dX12_gainedOf_43 rfl ?_
    refine x_icmp_ge (tgt := 229) dX12_gainedOf_44 (by decide) (fun c6 => ?_) (fun c6 => ?_)
    · replace h := xif_p c6 h
      refine V.drop1 (i := 0) (ls' := [_, _, _, _, _, _, _, _, _, _, _]) rfl ?_
      refine V.drop1 (i := 1) (ls' := [_, _, _, _, _, _, _, _, _, _, _]) rfl ?_
      refine V.drop1 (i := 2) (ls' := [_, _, _, _, _, _, _, _, _, _, _]) rfl ?_
      refine V.drop1 (i := 5) (ls' := [_, _, _, _, _, _, _, _, _, _, _]) rfl ?_
      refine V.drop1 (i := 7) (ls' := [_, _, _, _, _, _, _, _, _, _, _]) rfl ?_
      show V yX12_gainedOf cX12_gainedOf (some .long) 0 61 (0, 0) 229 [none, none, none, some (.long l3), none, none, none, none, none, none, none] [] (xof s0 [W_44 o44, W_45 a45, W_59 a59, W_60 a60]) _
      cases h
      exact hk
    · replace h := xif_n c6 h
      refine x_lload dX12_gainedOf_47 rfl ?_
      refine x_sipush (v := 256) dX12_gainedOf_49 (by decide) ?_
      refine x_iload_n dX12_gainedOf_52 rfl ?_
      refine x_isub dX12_gainedOf_53 ?_
      refine x_i2l dX12_gainedOf_54 ?_
      refine x_lmul dX12_gainedOf_55 ?_
      refine x_lstore (ls' := [_, _, _, _, _, _, _, _, _, _, _]) dX12_gainedOf_56 rfl rfl ?_
      refine x_lload_n dX12_gainedOf_58 rfl ?_
      refine x_ldc2 dX12_gainedOf_59 cn_X12_249 ?_
      refine x_lmul dX12_gainedOf_62 ?_
      refine x_lstore_n (ls' := [_, _, _, _, _, _, _, _, _, _, _]) dX12_gainedOf_63 rfl rfl ?_
      refine x_iconst (v := 0) dX12_gainedOf_64 (by decide) ?_
      refine x_istore (ls' := [_, _, _, _, _, _, _, _, _, _, _]) dX12_gainedOf_65 rfl rfl ?_
      obtain ⟨u9, hu9, h⟩ := Option.bind_eq_some_iff.mp h
      show V yX12_gainedOf cX12_gainedOf (some .long) 0 61 (0, 0) 67 [some (.ref 44), some (.int l1), some (.int l2), some (.long ((l3 * 256))), none, some (.long l5), none, some (.int l7), some (.long ((l5 * (Int32.toInt64 (256 - l2))))), none, some (.int 0)] [] (xof s0 [W_44 o44, W_45 a45, W_59 a59, W_60 a60]) _
      refine lv_X12_gainedOf_44_67 s0 _ o44 a45 a59 l1 l2 ((l3 * 256)) l5 l7 ((l5 * (Int32.toInt64 (256 - l2)))) _ n 0 a60 _ hu9 ?_
      refine x_aload_n dX12_gainedOf_88 rfl ?_
      refine g_X12_61 rfl dX12_gainedOf_89 (by decide) rfl rfl ?_
      refine x_iconst (v := 0) dX12_gainedOf_92 (by decide) ?_
      refine x_lload dX12_gainedOf_93 rfl ?_
      refine x_iload_n dX12_gainedOf_95 rfl ?_
      refine x_i2l dX12_gainedOf_96 ?_
      refine x_lmul dX12_gainedOf_97 ?_
      refine x_lastK (jn := 0) (L' := [(44, _), (45, _), (59, _), (60, _)]) dX12_gainedOf_98 (by decide) rfl (xin_ok (by decide)) (by decide) rfl ?_
      refine x_iconst (v := 0) dX12_gainedOf_99 (by decide) ?_
      refine x_istore (ls' := [_, _, _, _, _, _, _, _, _, _, _]) dX12_gainedOf_100 rfl rfl ?_
      refine V.drop1 (i := 5) (ls' := [_, _, _, _, _, _, _, _, _, _, _]) rfl ?_
      obtain ⟨u17, hu17, h⟩ := Option.bind_eq_some_iff.mp h
      show V yX12_gainedOf cX12_gainedOf (some .long) 0 61 (0, 0) 102 [some (.ref 44), some (.int l1), some (.int l2), some (.long ((l3 * 256))), none, none, none, some (.int l7), some (.long ((l5 * (Int32.toInt64 (256 - l2))))), none, some (.int 0)] [] (xof s0 [W_44 o44, W_45 a45, W_59 a59, W_60 (vp_updL u9.2 0 ((l5 * (Int32.toInt64 l2))))]) _
      refine lv_X12_gainedOf_44_102 s0 _ o44 a45 a59 l1 l2 l7 _ n ((l3 * 256)) ((l5 * (Int32.toInt64 (256 - l2)))) 0 (vp_updL u9.2 0 ((l5 * (Int32.toInt64 l2)))) _ hu17 ?_
      refine x_lload dX12_gainedOf_189 rfl ?_
      refine x_lstore (ls' := [_, _, _, _, _, _, _, _, _, _, _]) dX12_gainedOf_191 rfl rfl ?_
      refine x_iconst (v := 0) dX12_gainedOf_193 (by decide) ?_
      refine x_istore (ls' := [_, _, _, _, _, _, _, _, _, _, _]) dX12_gainedOf_194 rfl rfl ?_
      refine V.drop1 (i := 8) (ls' := [_, _, _, _, _, _, _, _, _, _, _]) rfl ?_
      obtain ⟨u21, hu21, h⟩ := Option.bind_eq_some_iff.mp h
      show V yX12_gainedOf cX12_gainedOf (some .long) 0 61 (0, 0) 196 [some (.ref 44), some (.int l1), some (.int l2), some (.long u17.1), none, some (.long u17.2.1), none, some (.int l7), none, none, some (.int 0)] [] (xof s0 [W_44 o44, W_45 a45, W_59 a59, W_60 u17.2.2.2]) _
      refine lv_X12_gainedOf_44_196 s0 _ o44 a45 u17.2.2.2 l1 l2 u17.1 u17.2.1 l7 _ n 0 a59 _ hu21 ?_
      refine x_iinc (v := l7 + 1) (ls' := [_, _, _, _, _, _, _, _, _, _, _]) dX12_gainedOf_223 rfl rfl rfl rfl ?_
      refine x_goto (tgt := 41) dX12_gainedOf_226 (by decide) ?_
      show V yX12_gainedOf cX12_gainedOf (some .long) 0 61 (0, 0) 41 [some (.ref 44), some (.int l1), some (.int l2), some (.long u17.1), none, some (.long u17.2.1), none, some (.int ((l7 + 1))), none, none, none] [] (xof s0 [W_44 o44, W_45 a45, W_59 u21.2, W_60 u17.2.2.2]) _
      exact ih u17.1 u17.2.1 ((l7 + 1)) u21.2 u17.2.2.2 _ h hk
def f_X12_gainedOf_44 (n : Nat) (o44 : Nat → Int32) (a45 : Nat → Int32) (a59 : Nat → Int64) (a60 : Nat → Int64) (p1 : Int32) (p2 : Int32) : Option (((Int64) × (Nat → Int64) × (Nat → Int64))) := (Option.bind (l_X12_gainedOf_44_8 n o44 a45 a60 p1 p2 0 0 n 0 a59) (fun u5 => (Option.bind (l_X12_gainedOf_44_41 n o44 a45 p1 p2 n 0 0 0 u5.2 a60) (fun u22 => (some (u22.1, u22.2.2.2.1, u22.2.2.2.2))))))
set_option maxRecDepth 100000 in
set_option maxHeartbeats 400000 in
theorem v_X12_gainedOf_44 (s0 : XW) (n : Nat) (o44 : Nat → Int32) (a45 : Nat → Int32) (a59 : Nat → Int64) (a60 : Nat → Int64) (p1 : Int32) (p2 : Int32) (q : ((Int64) × (Nat → Int64) × (Nat → Int64))) (h : f_X12_gainedOf_44 n o44 a45 a59 a60 p1 p2 = some q) : C_X12_gainedOf 0 61 [.ref 44, .int p1, .int p2] (xof s0 [W_44 o44, W_45 a45, W_59 a59, W_60 a60]) (some (.long q.1)) (xof s0 [W_44 o44, W_45 a45, W_59 q.2.1, W_60 q.2.2]) := by
  unfold f_X12_gainedOf_44 at h
  show V yX12_gainedOf cX12_gainedOf (some .long) 0 61 (0, 0) 0 [some (.ref 44), some (.int p1), some (.int p2), none, none, none, none, none, none, none, none] [] (xof s0 [W_44 o44, W_45 a45, W_59 a59, W_60 a60]) _
  refine x_lconst (v := 0) dX12_gainedOf_0 (by decide) ?_
  refine x_lstore_n (ls' := [_, _, _, _, _, _, _, _, _, _, _]) dX12_gainedOf_1 rfl rfl ?_
  refine x_lconst (v := 0) dX12_gainedOf_2 (by decide) ?_
  refine x_lstore (ls' := [_, _, _, _, _, _, _, _, _, _, _]) dX12_gainedOf_3 rfl rfl ?_
  refine x_iconst (v := 0) dX12_gainedOf_5 (by decide) ?_
  refine x_istore (ls' := [_, _, _, _, _, _, _, _, _, _, _]) dX12_gainedOf_6 rfl rfl ?_
  obtain ⟨u5, hu5, h⟩ := Option.bind_eq_some_iff.mp h
  show V yX12_gainedOf cX12_gainedOf (some .long) 0 61 (0, 0) 8 [some (.ref 44), some (.int p1), some (.int p2), some (.long 0), none, some (.long 0), none, some (.int 0), none, none, none] [] (xof s0 [W_44 o44, W_45 a45, W_59 a59, W_60 a60]) _
  refine lv_X12_gainedOf_44_8 s0 _ o44 a45 a60 p1 p2 0 0 _ n 0 a59 _ hu5 ?_
  refine x_iconst (v := 0) dX12_gainedOf_38 (by decide) ?_
  refine x_istore (ls' := [_, _, _, _, _, _, _, _, _, _, _]) dX12_gainedOf_39 rfl rfl ?_
  obtain ⟨u22, hu22, h⟩ := Option.bind_eq_some_iff.mp h
  show V yX12_gainedOf cX12_gainedOf (some .long) 0 61 (0, 0) 41 [some (.ref 44), some (.int p1), some (.int p2), some (.long 0), none, some (.long 0), none, some (.int 0), none, none, none] [] (xof s0 [W_44 o44, W_45 a45, W_59 u5.2, W_60 a60]) _
  refine lv_X12_gainedOf_44_41 s0 _ o44 a45 p1 p2 _ n 0 0 0 u5.2 a60 _ hu22 ?_
  refine x_lload_n dX12_gainedOf_229 rfl ?_
  cases h
  exact x_lret dX12_gainedOf_230 ⟨rfl, rfl, rfl⟩
def f_X12_oddsOf_44 (n : Nat) (o44 : Nat → Int32) (a45 : Nat → Int32) (a59 : Nat → Int64) (a60 : Nat → Int64) (p1 : Int32) (p2 : Int32) (p3 : Int32) : Option (((Int64) × (Nat → Int64) × (Nat → Int64))) := (if p1 = 0 then (Option.bind (f_X12_lostOf_44 n o44 a45 a59 a60 p2 p3) (fun q3 => (some (q3.1, q3.2.1, q3.2.2)))) else (Option.bind (f_X12_gainedOf_44 n o44 a45 a59 a60 p2 p3) (fun q2 => (some (q2.1, q2.2.1, q2.2.2)))))
set_option maxRecDepth 100000 in
set_option maxHeartbeats 400000 in
theorem v_X12_oddsOf_44 (s0 : XW) (n : Nat) (o44 : Nat → Int32) (a45 : Nat → Int32) (a59 : Nat → Int64) (a60 : Nat → Int64) (p1 : Int32) (p2 : Int32) (p3 : Int32) (q : ((Int64) × (Nat → Int64) × (Nat → Int64))) (h : f_X12_oddsOf_44 n o44 a45 a59 a60 p1 p2 p3 = some q) : C_X12_oddsOf 1 61 [.ref 44, .int p1, .int p2, .int p3] (xof s0 [W_44 o44, W_45 a45, W_59 a59, W_60 a60]) (some (.long q.1)) (xof s0 [W_44 o44, W_45 a45, W_59 q.2.1, W_60 q.2.2]) := by
  unfold f_X12_oddsOf_44 at h
  show V yX12_oddsOf cX12_oddsOf (some .long) 1 61 (0, 0) 0 [some (.ref 44), some (.int p1), some (.int p2), some (.int p3)] [] (xof s0 [W_44 o44, W_45 a45, W_59 a59, W_60 a60]) _
  refine x_iload_n dX12_oddsOf_0 rfl ?_
  refine x_if_ne (tgt := 13) dX12_oddsOf_1 (by decide) (fun c1 => ?_) (fun c1 => ?_)
  · replace h := xif_n c1 h
    refine x_aload_n dX12_oddsOf_13 rfl ?_
    refine x_iload_n dX12_oddsOf_14 rfl ?_
    refine x_iload_n dX12_oddsOf_15 rfl ?_
    obtain ⟨q2, hq2, h⟩ := Option.bind_eq_some_iff.mp h
    refine y_callVl (L' := [(44, _), (45, _), (59, _), (60, _)]) mi_X12_gainedOf ml_X12_255 im_X12_gainedOf se_X12_gainedOf (rfl : vwCl[11]? = _) dX12_oddsOf_16 (fun s1 => v_X12_gainedOf_44 s1 n _ _ _ _ _ _ q2 hq2) (by decide) rfl (Nat.le_of_ble_eq_true rfl) rfl (by decide) (Nat.le_of_ble_eq_true rfl) rfl rfl rfl rfl ?_
    cases h
    exact x_lret dX12_oddsOf_19 ⟨rfl, rfl, rfl⟩
  · replace h := xif_p c1 h
    refine x_aload_n dX12_oddsOf_4 rfl ?_
    refine x_iload_n dX12_oddsOf_5 rfl ?_
    refine x_iload_n dX12_oddsOf_6 rfl ?_
    obtain ⟨q3, hq3, h⟩ := Option.bind_eq_some_iff.mp h
    refine y_callVl (L' := [(44, _), (45, _), (59, _), (60, _)]) mi_X12_lostOf ml_X12_251 im_X12_lostOf se_X12_lostOf (rfl : vwCl[11]? = _) dX12_oddsOf_7 (fun s1 => v_X12_lostOf_44 s1 n _ _ _ _ _ _ q3 hq3) (by decide) rfl (Nat.le_of_ble_eq_true rfl) rfl (by decide) (Nat.le_of_ble_eq_true rfl) rfl rfl rfl rfl ?_
    refine x_goto (tgt := 19) dX12_oddsOf_10 (by decide) ?_
    cases h
    exact x_lret dX12_oddsOf_19 ⟨rfl, rfl, rfl⟩
def f_X12_all  (p0 : Int32) : Option Int64 := (some ((1 <<< (Int32.toInt64 (8 * p0) &&& 63))))
set_option maxRecDepth 100000 in
set_option maxHeartbeats 400000 in
theorem v_X12_all (N : Nat) (s0 : XW)  (p0 : Int32) (q : Int64) (h : f_X12_all p0 = some q) : C_X12_all 0 N [.int p0] (xof s0 []) (some (.long q)) (xof s0 []) := by
  unfold f_X12_all at h
  show V yX12_all cX12_all (some .long) 0 N (0, 0) 0 [some (.int p0)] [] (xof s0 []) _
  refine x_lconst (v := 1) dX12_all_0 (by decide) ?_
  refine x_bipush (v := 8) dX12_all_1 (by decide) ?_
  refine x_iload_n dX12_all_3 rfl ?_
  refine x_imul dX12_all_4 ?_
  refine x_lshl dX12_all_5 ?_
  cases h
  exact x_lret dX12_all_6 ⟨rfl, rfl, rfl⟩
def b_X12_odds_44_28 (n : Nat) (o44 : Nat → Int32) (a45 : Nat → Int32) (a59 : Nat → Int64) (a60 : Nat → Int64)  : Option (((Int64) × (Nat → Int32) × (Nat → Int64) × (Nat → Int64))) := (some ((-2), o44, a59, a60))
set_option maxRecDepth 100000 in
set_option maxHeartbeats 400000 in
theorem vb_X12_odds_44_28 (s0 : XW) (n : Nat) (o44 : Nat → Int32) (a45 : Nat → Int32) (a59 : Nat → Int64) (a60 : Nat → Int64)  (q : ((Int64) × (Nat → Int32) × (Nat → Int64) × (Nat → Int64))) (h : b_X12_odds_44_28 n o44 a45 a59 a60 = some q) : V yX12_odds cX12_odds (some .long) 2 61 (0, 0) 28 [none, none, none, none, none] [] (xof s0 [W_44 o44, W_45 a45, W_59 a59, W_60 a60]) (xq 61 (some (.long q.1)) (xof s0 [W_44 q.2.1, W_45 a45, W_59 q.2.2.1, W_60 q.2.2.2])) := by
  unfold b_X12_odds_44_28 at h
  refine x_ldc2 dX12_odds_28 cn_X12_237 ?_
  cases h
  exact x_lret dX12_odds_31 ⟨rfl, rfl, rfl⟩
def b_X12_odds_44_56 (n : Nat) (o44 : Nat → Int32) (a45 : Nat → Int32) (a59 : Nat → Int64) (a60 : Nat → Int64)  : Option (((Int64) × (Nat → Int32) × (Nat → Int64) × (Nat → Int64))) := (some ((-3), o44, a59, a60))
set_option maxRecDepth 100000 in
set_option maxHeartbeats 400000 in
theorem vb_X12_odds_44_56 (s0 : XW) (n : Nat) (o44 : Nat → Int32) (a45 : Nat → Int32) (a59 : Nat → Int64) (a60 : Nat → Int64)  (q : ((Int64) × (Nat → Int32) × (Nat → Int64) × (Nat → Int64))) (h : b_X12_odds_44_56 n o44 a45 a59 a60 = some q) : V yX12_odds cX12_odds (some .long) 2 61 (0, 0) 56 [none, none, none, none, none] [] (xof s0 [W_44 o44, W_45 a45, W_59 a59, W_60 a60]) (xq 61 (some (.long q.1)) (xof s0 [W_44 q.2.1, W_45 a45, W_59 q.2.2.1, W_60 q.2.2.2])) := by
  unfold b_X12_odds_44_56 at h
  refine x_ldc2 dX12_odds_56 cn_X12_226 ?_
  cases h
  exact x_lret dX12_odds_59 ⟨rfl, rfl, rfl⟩
def f_X12_odds_44 (n : Nat) (o44 : Nat → Int32) (a45 : Nat → Int32) (a59 : Nat → Int64) (a60 : Nat → Int64) (p1 : Int32) (p2 : Int32) (p3 : Int32) (p4 : Int32) : Option (((Int64) × (Nat → Int32) × (Nat → Int64) × (Nat → Int64))) := (Option.bind (f_X12_isIn ((Int32.toInt64 p1)) 0 1) (fun q1 => (if q1 = 0 then (b_X12_odds_44_28 n (upd o44 0 0) a45 a59 a60) else (Option.bind (f_X12_isIn ((Int32.toInt64 p4)) 0 4) (fun q3 => (if q3 = 0 then (b_X12_odds_44_28 n (upd o44 0 0) a45 a59 a60) else (Option.bind (f_X12_isIn ((Int32.toInt64 p2)) 0 7) (fun q5 => (if q5 = 0 then (b_X12_odds_44_56 n (upd o44 0 0) a45 a59 a60) else (Option.bind (f_X12_isIn ((Int32.toInt64 p3)) 0 256) (fun q7 => (if q7 = 0 then (b_X12_odds_44_56 n (upd o44 0 0) a45 a59 a60) else (Option.bind (f_X12_oddsOf_44 n (upd o44 0 0) a45 a59 a60 p1 p2 p3) (fun q9 => (Option.bind (f_X12_all p2) (fun q10 => (Option.bind (f_X12_numberBy n q9.1 q10 p4) (fun q11 => (some (q11, upd o44 0 0, q9.2.1, q9.2.2))))))))))))))))))))
set_option maxRecDepth 100000 in
set_option maxHeartbeats 400000 in
theorem v_X12_odds_44 (s0 : XW) (n : Nat) (o44 : Nat → Int32) (a45 : Nat → Int32) (a59 : Nat → Int64) (a60 : Nat → Int64) (p1 : Int32) (p2 : Int32) (p3 : Int32) (p4 : Int32) (q : ((Int64) × (Nat → Int32) × (Nat → Int64) × (Nat → Int64))) (h : f_X12_odds_44 n o44 a45 a59 a60 p1 p2 p3 p4 = some q) : C_X12_odds 2 61 [.ref 44, .int p1, .int p2, .int p3, .int p4] (xof s0 [W_44 o44, W_45 a45, W_59 a59, W_60 a60]) (some (.long q.1)) (xof s0 [W_44 q.2.1, W_45 a45, W_59 q.2.2.1, W_60 q.2.2.2]) := by
  unfold f_X12_odds_44 at h
  show V yX12_odds cX12_odds (some .long) 2 61 (0, 0) 0 [some (.ref 44), some (.int p1), some (.int p2), some (.int p3), some (.int p4)] [] (xof s0 [W_44 o44, W_45 a45, W_59 a59, W_60 a60]) _
  refine x_aload_n dX12_odds_0 rfl ?_
  refine x_iconst (v := 0) dX12_odds_1 (by decide) ?_
  refine p_X12_1 (fs' := [_, _, _, _, _, _, _, _, _, _, _, _, _, _, _, _, _, _, _, _, _, _]) (L' := [(44, _), (45, _), (59, _), (60, _)]) rfl dX12_odds_2 (by decide) rfl (Nat.le_of_ble_eq_true rfl) rfl rfl ?_
  refine x_iload_n dX12_odds_5 rfl ?_
  refine x_i2l dX12_odds_6 ?_
  refine x_lconst (v := 0) dX12_odds_7 (by decide) ?_
  refine x_lconst (v := 1) dX12_odds_8 (by decide) ?_
  obtain ⟨q1, hq1, h⟩ := Option.bind_eq_some_iff.mp h
  refine y_callSi (L' := [(44, _), (45, _), (59, _), (60, _)]) mi_X12_isIn ml_X12_77 st_X12_isIn dX12_odds_9 (fun s1 => v_X12_isIn 61 s1 _ _ _ q1 hq1) (Nat.le_of_ble_eq_true rfl) rfl (by decide) (Nat.le_of_ble_eq_true rfl) rfl rfl rfl rfl ?_
  refine x_if_eq (tgt := 28) dX12_odds_12 (by decide) (fun c2 => ?_) (fun c2 => ?_)
  · replace h := xif_p c2 h
    refine V.drop1 (i := 0) (ls' := [_, _, _, _, _]) rfl ?_
    refine V.drop1 (i := 1) (ls' := [_, _, _, _, _]) rfl ?_
    refine V.drop1 (i := 2) (ls' := [_, _, _, _, _]) rfl ?_
    refine V.drop1 (i := 3) (ls' := [_, _, _, _, _]) rfl ?_
    refine V.drop1 (i := 4) (ls' := [_, _, _, _, _]) rfl ?_
    show V yX12_odds cX12_odds (some .long) 2 61 (0, 0) 28 [none, none, none, none, none] [] (xof s0 [W_44 (upd o44 0 0), W_45 a45, W_59 a59, W_60 a60]) _
    exact vb_X12_odds_44_28 s0 n (upd o44 0 0) a45 a59 a60 q h
  · replace h := xif_n c2 h
    refine x_iload dX12_odds_15 rfl ?_
    refine x_i2l dX12_odds_17 ?_
    refine x_lconst (v := 0) dX12_odds_18 (by decide) ?_
    refine x_ldc2 dX12_odds_19 cn_X12_243 ?_
    obtain ⟨q3, hq3, h⟩ := Option.bind_eq_some_iff.mp h
    refine y_callSi (L' := [(44, _), (45, _), (59, _), (60, _)]) mi_X12_isIn ml_X12_77 st_X12_isIn dX12_odds_22 (fun s1 => v_X12_isIn 61 s1 _ _ _ q3 hq3) (Nat.le_of_ble_eq_true rfl) rfl (by decide) (Nat.le_of_ble_eq_true rfl) rfl rfl rfl rfl ?_
    refine x_if_ne (tgt := 32) dX12_odds_25 (by decide) (fun c4 => ?_) (fun c4 => ?_)
    · replace h := xif_n c4 h
      refine x_iload_n dX12_odds_32 rfl ?_
      refine x_i2l dX12_odds_33 ?_
      refine x_lconst (v := 0) dX12_odds_34 (by decide) ?_
      refine x_ldc2 dX12_odds_35 cn_X12_258 ?_
      obtain ⟨q5, hq5, h⟩ := Option.bind_eq_some_iff.mp h
      refine y_callSi (L' := [(44, _), (45, _), (59, _), (60, _)]) mi_X12_isIn ml_X12_77 st_X12_isIn dX12_odds_38 (fun s1 => v_X12_isIn 61 s1 _ _ _ q5 hq5) (Nat.le_of_ble_eq_true rfl) rfl (by decide) (Nat.le_of_ble_eq_true rfl) rfl rfl rfl rfl ?_
      refine x_if_eq (tgt := 56) dX12_odds_41 (by decide) (fun c6 => ?_) (fun c6 => ?_)
      · replace h := xif_p c6 h
        refine V.drop1 (i := 0) (ls' := [_, _, _, _, _]) rfl ?_
        refine V.drop1 (i := 1) (ls' := [_, _, _, _, _]) rfl ?_
        refine V.drop1 (i := 2) (ls' := [_, _, _, _, _]) rfl ?_
        refine V.drop1 (i := 3) (ls' := [_, _, _, _, _]) rfl ?_
        refine V.drop1 (i := 4) (ls' := [_, _, _, _, _]) rfl ?_
        show V yX12_odds cX12_odds (some .long) 2 61 (0, 0) 56 [none, none, none, none, none] [] (xof s0 [W_44 (upd o44 0 0), W_45 a45, W_59 a59, W_60 a60]) _
        exact vb_X12_odds_44_56 s0 n (upd o44 0 0) a45 a59 a60 q h
      · replace h := xif_n c6 h
        refine x_iload_n dX12_odds_44 rfl ?_
        refine x_i2l dX12_odds_45 ?_
        refine x_lconst (v := 0) dX12_odds_46 (by decide) ?_
        refine x_ldc2 dX12_odds_47 cn_X12_249 ?_
        obtain ⟨q7, hq7, h⟩ := Option.bind_eq_some_iff.mp h
        refine y_callSi (L' := [(44, _), (45, _), (59, _), (60, _)]) mi_X12_isIn ml_X12_77 st_X12_isIn dX12_odds_50 (fun s1 => v_X12_isIn 61 s1 _ _ _ q7 hq7) (Nat.le_of_ble_eq_true rfl) rfl (by decide) (Nat.le_of_ble_eq_true rfl) rfl rfl rfl rfl ?_
        refine x_if_ne (tgt := 60) dX12_odds_53 (by decide) (fun c8 => ?_) (fun c8 => ?_)
        · replace h := xif_n c8 h
          refine x_aload_n dX12_odds_60 rfl ?_
          refine x_iload_n dX12_odds_61 rfl ?_
          refine x_iload_n dX12_odds_62 rfl ?_
          refine x_iload_n dX12_odds_63 rfl ?_
          obtain ⟨q9, hq9, h⟩ := Option.bind_eq_some_iff.mp h
          refine y_callVl (L' := [(44, _), (45, _), (59, _), (60, _)]) mi_X12_oddsOf ml_X12_260 im_X12_oddsOf se_X12_oddsOf (rfl : vwCl[11]? = _) dX12_odds_64 (fun s1 => v_X12_oddsOf_44 s1 n _ _ _ _ _ _ _ q9 hq9) (by decide) rfl (Nat.le_of_ble_eq_true rfl) rfl (by decide) (Nat.le_of_ble_eq_true rfl) rfl rfl rfl rfl ?_
          refine x_iload_n dX12_odds_67 rfl ?_
          obtain ⟨q10, hq10, h⟩ := Option.bind_eq_some_iff.mp h
          refine y_callSl (L' := [(44, _), (45, _), (59, _), (60, _)]) mi_X12_all ml_X12_264 st_X12_all dX12_odds_68 (fun s1 => v_X12_all 61 s1 _ q10 hq10) (Nat.le_of_ble_eq_true rfl) rfl (by decide) (Nat.le_of_ble_eq_true rfl) rfl rfl rfl rfl ?_
          refine x_iload dX12_odds_71 rfl ?_
          obtain ⟨q11, hq11, h⟩ := Option.bind_eq_some_iff.mp h
          refine y_callSl (L' := [(44, _), (45, _), (59, _), (60, _)]) mi_X12_numberBy ml_X12_245 st_X12_numberBy dX12_odds_73 (fun s1 => v_X12_numberBy 61 s1 n _ _ _ q11 hq11) (Nat.le_of_ble_eq_true rfl) rfl (by decide) (Nat.le_of_ble_eq_true rfl) rfl rfl rfl rfl ?_
          cases h
          exact x_lret dX12_odds_76 ⟨rfl, rfl, rfl⟩
        · replace h := xif_p c8 h
          refine V.drop1 (i := 0) (ls' := [_, _, _, _, _]) rfl ?_
          refine V.drop1 (i := 1) (ls' := [_, _, _, _, _]) rfl ?_
          refine V.drop1 (i := 2) (ls' := [_, _, _, _, _]) rfl ?_
          refine V.drop1 (i := 3) (ls' := [_, _, _, _, _]) rfl ?_
          refine V.drop1 (i := 4) (ls' := [_, _, _, _, _]) rfl ?_
          show V yX12_odds cX12_odds (some .long) 2 61 (0, 0) 56 [none, none, none, none, none] [] (xof s0 [W_44 (upd o44 0 0), W_45 a45, W_59 a59, W_60 a60]) _
          exact vb_X12_odds_44_56 s0 n (upd o44 0 0) a45 a59 a60 q h
    · replace h := xif_p c4 h
      refine V.drop1 (i := 0) (ls' := [_, _, _, _, _]) rfl ?_
      refine V.drop1 (i := 1) (ls' := [_, _, _, _, _]) rfl ?_
      refine V.drop1 (i := 2) (ls' := [_, _, _, _, _]) rfl ?_
      refine V.drop1 (i := 3) (ls' := [_, _, _, _, _]) rfl ?_
      refine V.drop1 (i := 4) (ls' := [_, _, _, _, _]) rfl ?_
      show V yX12_odds cX12_odds (some .long) 2 61 (0, 0) 28 [none, none, none, none, none] [] (xof s0 [W_44 (upd o44 0 0), W_45 a45, W_59 a59, W_60 a60]) _
      exact vb_X12_odds_44_28 s0 n (upd o44 0 0) a45 a59 a60 q h
def b_X12_mean_44_25 (n : Nat) (o44 : Nat → Int32) (a45 : Nat → Int32)  : Option (((Int64) × (Nat → Int32))) := (some ((-2), o44))
set_option maxRecDepth 100000 in
set_option maxHeartbeats 400000 in
theorem vb_X12_mean_44_25 (s0 : XW) (n : Nat) (o44 : Nat → Int32) (a45 : Nat → Int32)  (q : ((Int64) × (Nat → Int32))) (h : b_X12_mean_44_25 n o44 a45 = some q) : V yX12_mean cX12_mean (some .long) 1 61 (0, 0) 25 [none, none, none, none, none, none, none, none, none, none, none] [] (xof s0 [W_44 o44, W_45 a45]) (xq 61 (some (.long q.1)) (xof s0 [W_44 q.2, W_45 a45])) := by
  unfold b_X12_mean_44_25 at h
  refine x_ldc2 dX12_mean_25 cn_X12_237 ?_
  cases h
  exact x_lret dX12_mean_28 ⟨rfl, rfl, rfl⟩
def l_X12_mean_44_84 (n : Nat) (o44 : Nat → Int32) (a45 : Nat → Int32) (l1 : Int32) (l3 : Int32) (l5 : UInt64) : Nat → (UInt64) → (Int32) → Option (((UInt64) × (Int32)))
  | 0, _, _ => none
  | k + 1, l7, l9 => (if l1 = 0 then (if (a45 1) ≤ l9 then (some (l7, l9)) else (bif xn64 (FP.dadd l7 4607182418800017408) then (bif xn64 (FP.ddiv (FP.dadd l7 4607182418800017408) l5) then (l_X12_mean_44_84 n o44 a45 l1 l3 l5 k ((FP.ddiv (FP.dadd l7 4607182418800017408) l5)) ((l9 + 1))) else none) else none)) else (if ((a45 2) + 1) ≤ l9 then (some (l7, l9)) else (bif xn64 (FP.dadd l7 4607182418800017408) then (bif xn64 (FP.ddiv (FP.dadd l7 4607182418800017408) l5) then (l_X12_mean_44_84 n o44 a45 l1 l3 l5 k ((FP.ddiv (FP.dadd l7 4607182418800017408) l5)) ((l9 + 1))) else none) else none)))
set_option maxRecDepth 100000 in
set_option maxHeartbeats 400000 in
theorem lv_X12_mean_44_84 (s0 : XW) (n : Nat) (o44 : Nat → Int32) (a45 : Nat → Int32) (l1 : Int32) (l3 : Int32) (l5 : UInt64) (Q : Nat → Option Value → XW → Prop) : ∀ (k : Nat) (l7 : UInt64) (l9 : Int32) (o : ((UInt64) × (Int32))), l_X12_mean_44_84 n o44 a45 l1 l3 l5 k l7 l9 = some o → (V yX12_mean cX12_mean (some .long) 1 61 (0, 0) 125 [none, none, none, some (.int l3), none, none, none, some (.double o.1), none, none, none] [] (xof s0 [W_44 o44, W_45 a45]) Q) → V yX12_mean cX12_mean (some .long) 1 61 (0, 0) 84 [some (.ref 44), some (.int l1), none, some (.int l3), none, some (.double l5), none, some (.double l7), none, some (.int l9), none] [] (xof s0 [W_44 o44, W_45 a45]) Q := by
  intro k
  induction k with
  | zero =>
    intro _ _ _ h
    simp [l_X12_mean_44_84] at h
  | succ k ih =>
    intro l7 l9 o h hk
    rw [l_X12_mean_44_84] at h
    refine x_iload dX12_mean_84 rfl ?_
    refine x_iload_n dX12_mean_86 rfl ?_
    refine x_if_ne (tgt := 99) dX12_mean_87 (by decide) (fun c10 => ?_) (fun c10 => ?_)
    · replace h := xif_n c10 h
      refine x_aload_n dX12_mean_99 rfl ?_
      refine g_X12_13 rfl dX12_mean_100 (by decide) rfl rfl ?_
      refine x_iconst (v := 2) dX12_mean_103 (by decide) ?_
      refine x_ialdK (jn := 2) (v := (a45 2)) dX12_mean_104 (by decide) rfl (xin_ok (by decide)) (by decide) rfl ?_
      refine x_iconst (v := 1) dX12_mean_105 (by decide) ?_
      refine x_iadd dX12_mean_106 ?_
      refine x_icmp_ge (tgt := 125) dX12_mean_107 (by decide) (fun c11 => ?_) (fun c11 => ?_)
      · replace h := xif_p c11 h
        refine V.drop1 (i := 0) (ls' := [_, _, _, _, _, _, _, _, _, _, _]) rfl ?_
        refine V.drop1 (i := 1) (ls' := [_, _, _, _, _, _, _, _, _, _, _]) rfl ?_
        refine V.drop1 (i := 5) (ls' := [_, _, _, _, _, _, _, _, _, _, _]) rfl ?_
        refine V.drop1 (i := 9) (ls' := [_, _, _, _, _, _, _, _, _, _, _]) rfl ?_
        show V yX12_mean cX12_mean (some .long) 1 61 (0, 0) 125 [none, none, none, some (.int l3), none, none, none, some (.double l7), none, none, none] [] (xof s0 [W_44 o44, W_45 a45]) _
        cases h
        exact hk
      · replace h := xif_n c11 h
        refine x_dload dX12_mean_110 rfl ?_
        refine x_dconst1 dX12_mean_112 ?_
        obtain ⟨c12, h⟩ := xck h
        refine x_dadd dX12_mean_113 (xn64_ok c12) ?_
        refine x_dload dX12_mean_114 rfl ?_
        obtain ⟨c13, h⟩ := xck h
        refine x_ddiv dX12_mean_116 (xn64_ok c13) ?_
        refine x_dstore (ls' := [_, _, _, _, _, _, _, _, _, _, _]) dX12_mean_117 rfl rfl ?_
        refine x_iinc (v := l9 + 1) (ls' := [_, _, _, _, _, _, _, _, _, _, _]) dX12_mean_119 rfl rfl rfl rfl ?_
        refine x_goto (tgt := 84) dX12_mean_122 (by decide) ?_
        show V yX12_mean cX12_mean (some .long) 1 61 (0, 0) 84 [some (.ref 44), some (.int l1), none, some (.int l3), none, some (.double l5), none, some (.double ((FP.ddiv (FP.dadd l7 4607182418800017408) l5))), none, some (.int ((l9 + 1))), none] [] (xof s0 [W_44 o44, W_45 a45]) _
        exact ih ((FP.ddiv (FP.dadd l7 4607182418800017408) l5)) ((l9 + 1)) _ h hk
    · replace h := xif_p c10 h
      refine x_aload_n dX12_mean_90 rfl ?_
      refine g_X12_13 rfl dX12_mean_91 (by decide) rfl rfl ?_
      refine x_iconst (v := 1) dX12_mean_94 (by decide) ?_
      refine x_ialdK (jn := 1) (v := (a45 1)) dX12_mean_95 (by decide) rfl (xin_ok (by decide)) (by decide) rfl ?_
      refine x_goto (tgt := 107) dX12_mean_96 (by decide) ?_
      refine x_icmp_ge (tgt := 125) dX12_mean_107 (by decide) (fun c14 => ?_) (fun c14 => ?_)
      · replace h := xif_p c14 h
        refine V.drop1 (i := 0) (ls' := [_, _, _, _, _, _, _, _, _, _, _]) rfl ?_
        refine V.drop1 (i := 1) (ls' := [_, _, _, _, _, _, _, _, _, _, _]) rfl ?_
        refine V.drop1 (i := 5) (ls' := [_, _, _, _, _, _, _, _, _, _, _]) rfl ?_
        refine V.drop1 (i := 9) (ls' := [_, _, _, _, _, _, _, _, _, _, _]) rfl ?_
        show V yX12_mean cX12_mean (some .long) 1 61 (0, 0) 125 [none, none, none, some (.int l3), none, none, none, some (.double l7), none, none, none] [] (xof s0 [W_44 o44, W_45 a45]) _
        cases h
        exact hk
      · replace h := xif_n c14 h
        refine x_dload dX12_mean_110 rfl ?_
        refine x_dconst1 dX12_mean_112 ?_
        obtain ⟨c15, h⟩ := xck h
        refine x_dadd dX12_mean_113 (xn64_ok c15) ?_
        refine x_dload dX12_mean_114 rfl ?_
        obtain ⟨c16, h⟩ := xck h
        refine x_ddiv dX12_mean_116 (xn64_ok c16) ?_
        refine x_dstore (ls' := [_, _, _, _, _, _, _, _, _, _, _]) dX12_mean_117 rfl rfl ?_
        refine x_iinc (v := l9 + 1) (ls' := [_, _, _, _, _, _, _, _, _, _, _]) dX12_mean_119 rfl rfl rfl rfl ?_
        refine x_goto (tgt := 84) dX12_mean_122 (by decide) ?_
        show V yX12_mean cX12_mean (some .long) 1 61 (0, 0) 84 [some (.ref 44), some (.int l1), none, some (.int l3), none, some (.double l5), none, some (.double ((FP.ddiv (FP.dadd l7 4607182418800017408) l5))), none, some (.int ((l9 + 1))), none] [] (xof s0 [W_44 o44, W_45 a45]) _
        exact ih ((FP.ddiv (FP.dadd l7 4607182418800017408) l5)) ((l9 + 1)) _ h hk
def b_X12_mean_44_58 (n : Nat) (o44 : Nat → Int32) (a45 : Nat → Int32) (l1 : Int32) (l3 : Int32) (t0 : Int32) : Option (((Int64) × (Nat → Int32))) := (if t0 = 0 then (some ((-5), o44)) else (bif xn64 (FP.ddiv (FP.i2d t0) 4643211215818981376) then (Option.bind (l_X12_mean_44_84 n o44 a45 l1 l3 ((FP.ddiv (FP.i2d t0) 4643211215818981376)) n 0 0) (fun u17 => (Option.bind (f_X12_bitsOf n u17.1 52 1023) (fun q18 => (if l3 = 0 then (some ((Int32.toInt64 (Int64.toInt32 (xul q18 32))), o44)) else (some ((Int32.toInt64 (Int64.toInt32 q18)), o44))))))) else none))
set_option maxRecDepth 100000 in
set_option maxHeartbeats 400000 in
theorem vb_X12_mean_44_58 (s0 : XW) (n : Nat) (o44 : Nat → Int32) (a45 : Nat → Int32) (l1 : Int32) (l3 : Int32) (t0 : Int32) (q : ((Int64) × (Nat → Int32))) (h : b_X12_mean_44_58 n o44 a45 l1 l3 t0 = some q) : V yX12_mean cX12_mean (some .long) 1 61 (0, 0) 58 [some (.ref 44), some (.int l1), none, some (.int l3), none, none, none, none, none, none, none] [.int t0] (xof s0 [W_44 o44, W_45 a45]) (xq 61 (some (.long q.1)) (xof s0 [W_44 q.2, W_45 a45])) := by
  unfold b_X12_mean_44_58 at h
  refine x_istore (ls' := [_, _, _, _, _, _, _, _, _, _, _]) dX12_mean_58 rfl rfl ?_
  refine x_iload dX12_mean_60 rfl ?_
  refine x_if_ne (tgt := 69) dX12_mean_62 (by decide) (fun c8 => ?_) (fun c8 => ?_)
  · replace h := xif_n c8 h
    refine x_iload dX12_mean_69 rfl ?_
    refine x_i2d dX12_mean_71 ?_
    refine x_ldc2d dX12_mean_72 cn_X12_269 ?_
    obtain ⟨c9, h⟩ := xck h
    refine x_ddiv dX12_mean_75 (xn64_ok c9) ?_
    refine x_dstore (ls' := [_, _, _, _, _, _, _, _, _, _, _]) dX12_mean_76 rfl rfl ?_
    refine x_dconst0 dX12_mean_78 ?_
    refine x_dstore (ls' := [_, _, _, _, _, _, _, _, _, _, _]) dX12_mean_79 rfl rfl ?_
    refine x_iconst (v := 0) dX12_mean_81 (by decide) ?_
    refine x_istore (ls' := [_, _, _, _, _, _, _, _, _, _, _]) dX12_mean_82 rfl rfl ?_
    refine V.drop1 (i := 4) (ls' := [_, _, _, _, _, _, _, _, _, _, _]) rfl ?_
    obtain ⟨u17, hu17, h⟩ := Option.bind_eq_some_iff.mp h
    show V yX12_mean cX12_mean (some .long) 1 61 (0, 0) 84 [some (.ref 44), some (.int l1), none, some (.int l3), none, some (.double ((FP.ddiv (FP.i2d t0) 4643211215818981376))), none, some (.double 0), none, some (.int 0), none] [] (xof s0 [W_44 o44, W_45 a45]) _
    refine lv_X12_mean_44_84 s0 _ o44 a45 l1 l3 ((FP.ddiv (FP.i2d t0) 4643211215818981376)) _ n 0 0 _ hu17 ?_
    refine x_dload dX12_mean_125 rfl ?_
    refine x_bipush (v := 52) dX12_mean_127 (by decide) ?_
    refine x_sipush (v := 1023) dX12_mean_129 (by decide) ?_
    obtain ⟨q18, hq18, h⟩ := Option.bind_eq_some_iff.mp h
    refine y_callSl (L' := [(44, _), (45, _)]) mi_X12_bitsOf ml_X12_233 st_X12_bitsOf dX12_mean_132 (fun s1 => v_X12_bitsOf 61 s1 n _ _ _ q18 hq18) (Nat.le_of_ble_eq_true rfl) rfl (by decide) (Nat.le_of_ble_eq_true rfl) rfl rfl rfl rfl ?_
    refine x_lstore (ls' := [_, _, _, _, _, _, _, _, _, _, _]) dX12_mean_135 rfl rfl ?_
    refine x_iload_n dX12_mean_137 rfl ?_
    refine x_if_ne (tgt := 151) dX12_mean_138 (by decide) (fun c19 => ?_) (fun c19 => ?_)
    · replace h := xif_n c19 h
      refine x_lload dX12_mean_151 rfl ?_
      refine x_l2i dX12_mean_153 ?_
      refine x_i2l dX12_mean_154 ?_
      cases h
      exact x_lret dX12_mean_155 ⟨rfl, rfl, rfl⟩
    · replace h := xif_p c19 h
      refine x_lload dX12_mean_141 rfl ?_
      refine x_bipush (v := 32) dX12_mean_143 (by decide) ?_
      refine x_lushr dX12_mean_145 ?_
      refine x_l2i dX12_mean_146 ?_
      refine x_i2l dX12_mean_147 ?_
      refine x_goto (tgt := 155) dX12_mean_148 (by decide) ?_
      cases h
      exact x_lret dX12_mean_155 ⟨rfl, rfl, rfl⟩
  · replace h := xif_p c8 h
    refine x_ldc2 dX12_mean_65 cn_X12_267 ?_
    cases h
    exact x_lret dX12_mean_68 ⟨rfl, rfl, rfl⟩
def f_X12_mean_44 (n : Nat) (o44 : Nat → Int32) (a45 : Nat → Int32) (p1 : Int32) (p2 : Int32) (p3 : Int32) : Option (((Int64) × (Nat → Int32))) := (Option.bind (f_X12_isIn ((Int32.toInt64 p1)) 0 1) (fun q1 => (if q1 = 0 then (b_X12_mean_44_25 n (upd o44 0 0) a45) else (Option.bind (f_X12_isIn ((Int32.toInt64 p3)) 0 1) (fun q3 => (if q3 = 0 then (b_X12_mean_44_25 n (upd o44 0 0) a45) else (Option.bind (f_X12_isIn ((Int32.toInt64 p2)) 0 256) (fun q5 => (if q5 = 0 then (some ((-3), upd o44 0 0)) else (if p1 = 0 then (b_X12_mean_44_58 n (upd o44 0 0) a45 p1 p3 ((256 - p2))) else (b_X12_mean_44_58 n (upd o44 0 0) a45 p1 p3 p2)))))))))))
set_option maxRecDepth 100000 in
set_option maxHeartbeats 400000 in
theorem v_X12_mean_44 (s0 : XW) (n : Nat) (o44 : Nat → Int32) (a45 : Nat → Int32) (p1 : Int32) (p2 : Int32) (p3 : Int32) (q : ((Int64) × (Nat → Int32))) (h : f_X12_mean_44 n o44 a45 p1 p2 p3 = some q) : C_X12_mean 1 61 [.ref 44, .int p1, .int p2, .int p3] (xof s0 [W_44 o44, W_45 a45]) (some (.long q.1)) (xof s0 [W_44 q.2, W_45 a45]) := by
  unfold f_X12_mean_44 at h
  show V yX12_mean cX12_mean (some .long) 1 61 (0, 0) 0 [some (.ref 44), some (.int p1), some (.int p2), some (.int p3), none, none, none, none, none, none, none] [] (xof s0 [W_44 o44, W_45 a45]) _
  refine x_aload_n dX12_mean_0 rfl ?_
  refine x_iconst (v := 0) dX12_mean_1 (by decide) ?_
  refine p_X12_1 (fs' := [_, _, _, _, _, _, _, _, _, _, _, _, _, _, _, _, _, _, _, _, _, _]) (L' := [(44, _), (45, _)]) rfl dX12_mean_2 (by decide) rfl (Nat.le_of_ble_eq_true rfl) rfl rfl ?_
  refine x_iload_n dX12_mean_5 rfl ?_
  refine x_i2l dX12_mean_6 ?_
  refine x_lconst (v := 0) dX12_mean_7 (by decide) ?_
  refine x_lconst (v := 1) dX12_mean_8 (by decide) ?_
  obtain ⟨q1, hq1, h⟩ := Option.bind_eq_some_iff.mp h
  refine y_callSi (L' := [(44, _), (45, _)]) mi_X12_isIn ml_X12_77 st_X12_isIn dX12_mean_9 (fun s1 => v_X12_isIn 61 s1 _ _ _ q1 hq1) (Nat.le_of_ble_eq_true rfl) rfl (by decide) (Nat.le_of_ble_eq_true rfl) rfl rfl rfl rfl ?_
  refine x_if_eq (tgt := 25) dX12_mean_12 (by decide) (fun c2 => ?_) (fun c2 => ?_)
  · replace h := xif_p c2 h
    refine V.drop1 (i := 0) (ls' := [_, _, _, _, _, _, _, _, _, _, _]) rfl ?_
    refine V.drop1 (i := 1) (ls' := [_, _, _, _, _, _, _, _, _, _, _]) rfl ?_
    refine V.drop1 (i := 2) (ls' := [_, _, _, _, _, _, _, _, _, _, _]) rfl ?_
    refine V.drop1 (i := 3) (ls' := [_, _, _, _, _, _, _, _, _, _, _]) rfl ?_
    show V yX12_mean cX12_mean (some .long) 1 61 (0, 0) 25 [none, none, none, none, none, none, none, none, none, none, none] [] (xof s0 [W_44 (upd o44 0 0), W_45 a45]) _
    exact vb_X12_mean_44_25 s0 n (upd o44 0 0) a45 q h
  · replace h := xif_n c2 h
    refine x_iload_n dX12_mean_15 rfl ?_
    refine x_i2l dX12_mean_16 ?_
    refine x_lconst (v := 0) dX12_mean_17 (by decide) ?_
    refine x_lconst (v := 1) dX12_mean_18 (by decide) ?_
    obtain ⟨q3, hq3, h⟩ := Option.bind_eq_some_iff.mp h
    refine y_callSi (L' := [(44, _), (45, _)]) mi_X12_isIn ml_X12_77 st_X12_isIn dX12_mean_19 (fun s1 => v_X12_isIn 61 s1 _ _ _ q3 hq3) (Nat.le_of_ble_eq_true rfl) rfl (by decide) (Nat.le_of_ble_eq_true rfl) rfl rfl rfl rfl ?_
    refine x_if_ne (tgt := 29) dX12_mean_22 (by decide) (fun c4 => ?_) (fun c4 => ?_)
    · replace h := xif_n c4 h
      refine x_iload_n dX12_mean_29 rfl ?_
      refine x_i2l dX12_mean_30 ?_
      refine x_lconst (v := 0) dX12_mean_31 (by decide) ?_
      refine x_ldc2 dX12_mean_32 cn_X12_249 ?_
      obtain ⟨q5, hq5, h⟩ := Option.bind_eq_some_iff.mp h
      refine y_callSi (L' := [(44, _), (45, _)]) mi_X12_isIn ml_X12_77 st_X12_isIn dX12_mean_35 (fun s1 => v_X12_isIn 61 s1 _ _ _ q5 hq5) (Nat.le_of_ble_eq_true rfl) rfl (by decide) (Nat.le_of_ble_eq_true rfl) rfl rfl rfl rfl ?_
      refine x_if_ne (tgt := 45) dX12_mean_38 (by decide) (fun c6 => ?_) (fun c6 => ?_)
      · replace h := xif_n c6 h
        refine x_iload_n dX12_mean_45 rfl ?_
        refine x_if_ne (tgt := 57) dX12_mean_46 (by decide) (fun c7 => ?_) (fun c7 => ?_)
        · replace h := xif_n c7 h
          refine x_iload_n dX12_mean_57 rfl ?_
          refine V.drop1 (i := 2) (ls' := [_, _, _, _, _, _, _, _, _, _, _]) rfl ?_
          show V yX12_mean cX12_mean (some .long) 1 61 (0, 0) 58 [some (.ref 44), some (.int p1), none, some (.int p3), none, none, none, none, none, none, none] [.int p2] (xof s0 [W_44 (upd o44 0 0), W_45 a45]) _
          exact vb_X12_mean_44_58 s0 n (upd o44 0 0) a45 p1 p3 p2 q h
        · replace h := xif_p c7 h
          refine x_sipush (v := 256) dX12_mean_49 (by decide) ?_
          refine x_iload_n dX12_mean_52 rfl ?_
          refine x_isub dX12_mean_53 ?_
          refine x_goto (tgt := 58) dX12_mean_54 (by decide) ?_
          refine V.drop1 (i := 2) (ls' := [_, _, _, _, _, _, _, _, _, _, _]) rfl ?_
          show V yX12_mean cX12_mean (some .long) 1 61 (0, 0) 58 [some (.ref 44), some (.int p1), none, some (.int p3), none, none, none, none, none, none, none] [.int ((256 - p2))] (xof s0 [W_44 (upd o44 0 0), W_45 a45]) _
          exact vb_X12_mean_44_58 s0 n (upd o44 0 0) a45 p1 p3 ((256 - p2)) q h
      · replace h := xif_p c6 h
        refine x_ldc2 dX12_mean_41 cn_X12_226 ?_
        cases h
        exact x_lret dX12_mean_44 ⟨rfl, rfl, rfl⟩
    · replace h := xif_p c4 h
      refine V.drop1 (i := 0) (ls' := [_, _, _, _, _, _, _, _, _, _, _]) rfl ?_
      refine V.drop1 (i := 1) (ls' := [_, _, _, _, _, _, _, _, _, _, _]) rfl ?_
      refine V.drop1 (i := 2) (ls' := [_, _, _, _, _, _, _, _, _, _, _]) rfl ?_
      refine V.drop1 (i := 3) (ls' := [_, _, _, _, _, _, _, _, _, _, _]) rfl ?_
      show V yX12_mean cX12_mean (some .long) 1 61 (0, 0) 25 [none, none, none, none, none, none, none, none, none, none, none] [] (xof s0 [W_44 (upd o44 0 0), W_45 a45]) _
      exact vb_X12_mean_44_25 s0 n (upd o44 0 0) a45 q h
def l_X12_half_44_35 (n : Nat) (o44 : Nat → Int32) (a45 : Nat → Int32) (l1 : Int32) (l2 : Int32) : Nat → (Int32) → (Nat → Int64) → (Nat → Int64) → Option ((((Int32) × (Nat → Int32) × (Nat → Int64) × (Nat → Int64))) ⊕ (((Int32) × (Nat → Int64) × (Nat → Int64))))
  | 0, _, _, _ => none
  | k + 1, l3, a59, a60 => (if 8 ≤ l3 then (some (Sum.inr (l3, a59, a60))) else (Option.bind (f_X12_oddsOf_44 n o44 a45 a59 a60 l1 l3 l2) (fun q6 => (Option.bind (f_X12_all l3) (fun q7 => (if (lg_cmp (2 * q6.1) q7) < 0 then (l_X12_half_44_35 n o44 a45 l1 l2 k ((l3 + 1)) q6.2.1 q6.2.2) else (some (Sum.inl (l3, o44, q6.2.1, q6.2.2)))))))))
set_option maxRecDepth 100000 in
set_option maxHeartbeats 400000 in
theorem lv_X12_half_44_35 (s0 : XW) (n : Nat) (o44 : Nat → Int32) (a45 : Nat → Int32) (l1 : Int32) (l2 : Int32) (Q : Nat → Option Value → XW → Prop) : ∀ (k : Nat) (l3 : Int32) (a59 : Nat → Int64) (a60 : Nat → Int64) (o : (((Int32) × (Nat → Int32) × (Nat → Int64) × (Nat → Int64))) ⊕ (((Int32) × (Nat → Int64) × (Nat → Int64)))), l_X12_half_44_35 n o44 a45 l1 l2 k l3 a59 a60 = some o → ((∀ z, o = Sum.inl z → Q 61 (some (.int z.1)) (xof s0 [W_44 z.2.1, W_45 a45, W_59 z.2.2.1, W_60 z.2.2.2])) ∧ (∀ z, o = Sum.inr z → V yX12_half cX12_half (some .int) 2 61 (0, 0) 68 [none, none, none, none] [] (xof s0 [W_44 o44, W_45 a45, W_59 z.2.1, W_60 z.2.2]) Q)) → V yX12_half cX12_half (some .int) 2 61 (0, 0) 35 [some (.ref 44), some (.int l1), some (.int l2), some (.int l3)] [] (xof s0 [W_44 o44, W_45 a45, W_59 a59, W_60 a60]) Q := by
  intro k
  induction k with
  | zero =>
    intro _ _ _ _ h
    simp [l_X12_half_44_35] at h
  | succ k ih =>
    intro l3 a59 a60 o h hk
    rw [l_X12_half_44_35] at h
    refine x_iload_n dX12_half_35 rfl ?_
    refine x_bipush (v := 8) dX12_half_36 (by decide) ?_
    refine x_icmp_ge (tgt := 68) dX12_half_38 (by decide) (fun c5 => ?_) (fun c5 => ?_)
    · replace h := xif_p c5 h
      refine V.drop1 (i := 0) (ls' := [_, _, _, _]) rfl ?_
      refine V.drop1 (i := 1) (ls' := [_, _, _, _]) rfl ?_
      refine V.drop1 (i := 2) (ls' := [_, _, _, _]) rfl ?_
      refine V.drop1 (i := 3) (ls' := [_, _, _, _]) rfl ?_
      show V yX12_half cX12_half (some .int) 2 61 (0, 0) 68 [none, none, none, none] [] (xof s0 [W_44 o44, W_45 a45, W_59 a59, W_60 a60]) _
      cases h
      exact hk.2 (l3, a59, a60) rfl
    · replace h := xif_n c5 h
      refine x_ldc2 dX12_half_41 cn_X12_99 ?_
      refine x_aload_n dX12_half_44 rfl ?_
      refine x_iload_n dX12_half_45 rfl ?_
      refine x_iload_n dX12_half_46 rfl ?_
      refine x_iload_n dX12_half_47 rfl ?_
      obtain ⟨q6, hq6, h⟩ := Option.bind_eq_some_iff.mp h
      refine y_callVl (L' := [(44, _), (45, _), (59, _), (60, _)]) mi_X12_oddsOf ml_X12_260 im_X12_oddsOf se_X12_oddsOf (rfl : vwCl[11]? = _) dX12_half_48 (fun s1 => v_X12_oddsOf_44 s1 n _ _ _ _ _ _ _ q6 hq6) (by decide) rfl (Nat.le_of_ble_eq_true rfl) rfl (by decide) (Nat.le_of_ble_eq_true rfl) rfl rfl rfl rfl ?_
      refine x_lmul dX12_half_51 ?_
      refine x_iload_n dX12_half_52 rfl ?_
      obtain ⟨q7, hq7, h⟩ := Option.bind_eq_some_iff.mp h
      refine y_callSl (L' := [(44, _), (45, _), (59, _), (60, _)]) mi_X12_all ml_X12_264 st_X12_all dX12_half_53 (fun s1 => v_X12_all 61 s1 _ q7 hq7) (Nat.le_of_ble_eq_true rfl) rfl (by decide) (Nat.le_of_ble_eq_true rfl) rfl rfl rfl rfl ?_
      refine x_lcmp dX12_half_56 ?_
      refine x_if_lt (tgt := 62) dX12_half_57 (by decide) (fun c8 => ?_) (fun c8 => ?_)
      · replace h := xif_p c8 h
        refine x_iinc (v := l3 + 1) (ls' := [_, _, _, _]) dX12_half_62 rfl rfl rfl rfl ?_
        refine x_goto (tgt := 35) dX12_half_65 (by decide) ?_
        show V yX12_half cX12_half (some .int) 2 61 (0, 0) 35 [some (.ref 44), some (.int l1), some (.int l2), some (.int ((l3 + 1)))] [] (xof s0 [W_44 o44, W_45 a45, W_59 q6.2.1, W_60 q6.2.2]) _
        exact ih ((l3 + 1)) q6.2.1 q6.2.2 _ h hk
      · replace h := xif_n c8 h
        refine x_iload_n dX12_half_60 rfl ?_
        cases h
        exact x_iret dX12_half_61 (hk.1 (l3, o44, q6.2.1, q6.2.2) rfl)
def f_X12_half_44 (n : Nat) (o44 : Nat → Int32) (a45 : Nat → Int32) (a59 : Nat → Int64) (a60 : Nat → Int64) (p1 : Int32) (p2 : Int32) : Option (((Int32) × (Nat → Int32) × (Nat → Int64) × (Nat → Int64))) := (Option.bind (f_X12_isIn ((Int32.toInt64 p1)) 0 1) (fun q1 => (if q1 = 0 then (some ((-2), upd o44 0 0, a59, a60)) else (Option.bind (f_X12_isIn ((Int32.toInt64 p2)) 0 256) (fun q3 => (if q3 = 0 then (some ((-3), upd o44 0 0, a59, a60)) else (Option.bind (l_X12_half_44_35 n (upd o44 0 0) a45 p1 p2 n 0 a59 a60) (fun u9 => Sum.elim (fun z10 => some z10) (fun z10 => (some ((-1), upd o44 0 0, z10.2.1, z10.2.2))) u9))))))))
set_option maxRecDepth 100000 in
set_option maxHeartbeats 400000 in
theorem v_X12_half_44 (s0 : XW) (n : Nat) (o44 : Nat → Int32) (a45 : Nat → Int32) (a59 : Nat → Int64) (a60 : Nat → Int64) (p1 : Int32) (p2 : Int32) (q : ((Int32) × (Nat → Int32) × (Nat → Int64) × (Nat → Int64))) (h : f_X12_half_44 n o44 a45 a59 a60 p1 p2 = some q) : C_X12_half 2 61 [.ref 44, .int p1, .int p2] (xof s0 [W_44 o44, W_45 a45, W_59 a59, W_60 a60]) (some (.int q.1)) (xof s0 [W_44 q.2.1, W_45 a45, W_59 q.2.2.1, W_60 q.2.2.2]) := by
  unfold f_X12_half_44 at h
  show V yX12_half cX12_half (some .int) 2 61 (0, 0) 0 [some (.ref 44), some (.int p1), some (.int p2), none] [] (xof s0 [W_44 o44, W_45 a45, W_59 a59, W_60 a60]) _
  refine x_aload_n dX12_half_0 rfl ?_
  refine x_iconst (v := 0) dX12_half_1 (by decide) ?_
  refine p_X12_1 (fs' := [_, _, _, _, _, _, _, _, _, _, _, _, _, _, _, _, _, _, _, _, _, _]) (L' := [(44, _), (45, _), (59, _), (60, _)]) rfl dX12_half_2 (by decide) rfl (Nat.le_of_ble_eq_true rfl) rfl rfl ?_
  refine x_iload_n dX12_half_5 rfl ?_
  refine x_i2l dX12_half_6 ?_
  refine x_lconst (v := 0) dX12_half_7 (by decide) ?_
  refine x_lconst (v := 1) dX12_half_8 (by decide) ?_
  obtain ⟨q1, hq1, h⟩ := Option.bind_eq_some_iff.mp h
  refine y_callSi (L' := [(44, _), (45, _), (59, _), (60, _)]) mi_X12_isIn ml_X12_77 st_X12_isIn dX12_half_9 (fun s1 => v_X12_isIn 61 s1 _ _ _ q1 hq1) (Nat.le_of_ble_eq_true rfl) rfl (by decide) (Nat.le_of_ble_eq_true rfl) rfl rfl rfl rfl ?_
  refine x_if_ne (tgt := 18) dX12_half_12 (by decide) (fun c2 => ?_) (fun c2 => ?_)
  · replace h := xif_n c2 h
    refine x_iload_n dX12_half_18 rfl ?_
    refine x_i2l dX12_half_19 ?_
    refine x_lconst (v := 0) dX12_half_20 (by decide) ?_
    refine x_ldc2 dX12_half_21 cn_X12_249 ?_
    obtain ⟨q3, hq3, h⟩ := Option.bind_eq_some_iff.mp h
    refine y_callSi (L' := [(44, _), (45, _), (59, _), (60, _)]) mi_X12_isIn ml_X12_77 st_X12_isIn dX12_half_24 (fun s1 => v_X12_isIn 61 s1 _ _ _ q3 hq3) (Nat.le_of_ble_eq_true rfl) rfl (by decide) (Nat.le_of_ble_eq_true rfl) rfl rfl rfl rfl ?_
    refine x_if_ne (tgt := 33) dX12_half_27 (by decide) (fun c4 => ?_) (fun c4 => ?_)
    · replace h := xif_n c4 h
      refine x_iconst (v := 0) dX12_half_33 (by decide) ?_
      refine x_istore_n (ls' := [_, _, _, _]) dX12_half_34 rfl rfl ?_
      obtain ⟨u9, hu9, h⟩ := Option.bind_eq_some_iff.mp h
      show V yX12_half cX12_half (some .int) 2 61 (0, 0) 35 [some (.ref 44), some (.int p1), some (.int p2), some (.int 0)] [] (xof s0 [W_44 (upd o44 0 0), W_45 a45, W_59 a59, W_60 a60]) _
      refine lv_X12_half_44_35 s0 _ (upd o44 0 0) a45 p1 p2 _ n 0 a59 a60 _ hu9 ⟨fun z10 hz => ?_, fun z10 hz => ?_⟩
      · subst hz
        replace h := xsl h
        cases h
        exact ⟨rfl, rfl, rfl⟩
      subst hz
      replace h := xsr h
      refine x_iconst (v := -1) dX12_half_68 (by decide) ?_
      cases h
      exact x_iret dX12_half_69 ⟨rfl, rfl, rfl⟩
    · replace h := xif_p c4 h
      refine x_bipush (v := -3) dX12_half_30 (by decide) ?_
      cases h
      exact x_iret dX12_half_32 ⟨rfl, rfl, rfl⟩
  · replace h := xif_p c2 h
    refine x_bipush (v := -2) dX12_half_15 (by decide) ?_
    cases h
    exact x_iret dX12_half_17 ⟨rfl, rfl, rfl⟩
def f_X12_told_44 (o44 : Nat → Int32) (a45 : Nat → Int32) (a51 : Nat → Int32) (p1 : Int32) : Option (((Int32) × (Nat → Int32))) := (Option.bind (f_X12_isIn ((Int32.toInt64 p1)) 10 16) (fun q1 => (if q1 = 0 then (if p1 = 0 then (some ((o44 6), upd o44 0 0)) else (if p1 = 1 then (some ((a51 0), upd o44 0 0)) else (if p1 = 2 then (some ((o44 7), upd o44 0 0)) else (some ((-1), upd o44 0 0))))) else (bif xin (p1 - 10) 7 then (some ((a45 (Int32.toNatClampNeg (p1 - 10))), upd o44 0 0)) else none))))
set_option maxRecDepth 100000 in
set_option maxHeartbeats 400000 in
theorem v_X12_told_44 (s0 : XW) (o44 : Nat → Int32) (a45 : Nat → Int32) (a51 : Nat → Int32) (p1 : Int32) (q : ((Int32) × (Nat → Int32))) (h : f_X12_told_44 o44 a45 a51 p1 = some q) : C_X12_told 1 61 [.ref 44, .int p1] (xof s0 [W_44 o44, W_45 a45, W_51 a51]) (some (.int q.1)) (xof s0 [W_44 q.2, W_45 a45, W_51 a51]) := by
  unfold f_X12_told_44 at h
  show V yX12_told cX12_told (some .int) 1 61 (0, 0) 0 [some (.ref 44), some (.int p1)] [] (xof s0 [W_44 o44, W_45 a45, W_51 a51]) _
  refine x_aload_n dX12_told_0 rfl ?_
  refine x_iconst (v := 0) dX12_told_1 (by decide) ?_
  refine p_X12_1 (fs' := [_, _, _, _, _, _, _, _, _, _, _, _, _, _, _, _, _, _, _, _, _, _]) (L' := [(44, _), (45, _), (51, _)]) rfl dX12_told_2 (by decide) rfl (Nat.le_of_ble_eq_true rfl) rfl rfl ?_
  refine x_iload_n dX12_told_5 rfl ?_
  refine x_i2l dX12_told_6 ?_
  refine x_ldc2 dX12_told_7 cn_X12_271 ?_
  refine x_ldc2 dX12_told_10 cn_X12_273 ?_
  obtain ⟨q1, hq1, h⟩ := Option.bind_eq_some_iff.mp h
  refine y_callSi (L' := [(44, _), (45, _), (51, _)]) mi_X12_isIn ml_X12_77 st_X12_isIn dX12_told_13 (fun s1 => v_X12_isIn 61 s1 _ _ _ q1 hq1) (Nat.le_of_ble_eq_true rfl) rfl (by decide) (Nat.le_of_ble_eq_true rfl) rfl rfl rfl rfl ?_
  refine x_if_eq (tgt := 29) dX12_told_16 (by decide) (fun c2 => ?_) (fun c2 => ?_)
  · replace h := xif_p c2 h
    refine x_iload_n dX12_told_29 rfl ?_
    refine x_if_ne (tgt := 40) dX12_told_30 (by decide) (fun c3 => ?_) (fun c3 => ?_)
    · replace h := xif_n c3 h
      refine x_iload_n dX12_told_40 rfl ?_
      refine x_iconst (v := 1) dX12_told_41 (by decide) ?_
      refine x_icmp_ne (tgt := 54) dX12_told_42 (by decide) (fun c4 => ?_) (fun c4 => ?_)
      · replace h := xif_n c4 h
        refine x_iload_n dX12_told_54 rfl ?_
        refine x_iconst (v := 2) dX12_told_55 (by decide) ?_
        refine x_icmp_ne (tgt := 66) dX12_told_56 (by decide) (fun c5 => ?_) (fun c5 => ?_)
        · replace h := xif_n c5 h
          refine x_iconst (v := -1) dX12_told_66 (by decide) ?_
          cases h
          exact x_iret dX12_told_67 ⟨rfl, rfl, rfl⟩
        · replace h := xif_p c5 h
          refine x_aload_n dX12_told_59 rfl ?_
          refine g_X12_109 rfl dX12_told_60 (by decide) rfl rfl ?_
          refine x_goto (tgt := 67) dX12_told_63 (by decide) ?_
          cases h
          exact x_iret dX12_told_67 ⟨rfl, rfl, rfl⟩
      · replace h := xif_p c4 h
        refine x_aload_n dX12_told_45 rfl ?_
        refine g_X12_32 rfl dX12_told_46 (by decide) rfl rfl ?_
        refine x_iconst (v := 0) dX12_told_49 (by decide) ?_
        refine x_ialdK (jn := 0) (v := (a51 0)) dX12_told_50 (by decide) rfl (xin_ok (by decide)) (by decide) rfl ?_
        refine x_goto (tgt := 67) dX12_told_51 (by decide) ?_
        cases h
        exact x_iret dX12_told_67 ⟨rfl, rfl, rfl⟩
    · replace h := xif_p c3 h
      refine x_aload_n dX12_told_33 rfl ?_
      refine g_X12_64 rfl dX12_told_34 (by decide) rfl rfl ?_
      refine x_goto (tgt := 67) dX12_told_37 (by decide) ?_
      cases h
      exact x_iret dX12_told_67 ⟨rfl, rfl, rfl⟩
  · replace h := xif_n c2 h
    refine x_aload_n dX12_told_19 rfl ?_
    refine g_X12_13 rfl dX12_told_20 (by decide) rfl rfl ?_
    refine x_iload_n dX12_told_23 rfl ?_
    refine x_bipush (v := 10) dX12_told_24 (by decide) ?_
    refine x_isub dX12_told_26 ?_
    obtain ⟨c6, h⟩ := xck h
    refine x_ialdK (jn := (Int32.toNatClampNeg (p1 - 10))) (v := (a45 (Int32.toNatClampNeg (p1 - 10)))) dX12_told_27 (by decide) rfl (xin_ok c6) rfl rfl ?_
    cases h
    exact x_iret dX12_told_28 ⟨rfl, rfl, rfl⟩
def f_X4_hasRoomFor_2 (o2 : Nat → Int32) (p1 : Int32) : Option Int32 := (if p1 < 0 then (some 0) else (if (9600 - (o2 1)) < p1 then (some 0) else (some 1)))
set_option maxRecDepth 100000 in
set_option maxHeartbeats 400000 in
theorem v_X4_hasRoomFor_2 (s0 : XW) (o2 : Nat → Int32) (p1 : Int32) (q : Int32) (h : f_X4_hasRoomFor_2 o2 p1 = some q) : C_X4_hasRoomFor 0 61 [.ref 2, .int p1] (xof s0 [W_2 o2]) (some (.int q)) (xof s0 [W_2 o2]) := by
  unfold f_X4_hasRoomFor_2 at h
  show V yX4_hasRoomFor cX4_hasRoomFor (some .boolean) 0 61 (0, 0) 0 [some (.ref 2), some (.int p1)] [] (xof s0 [W_2 o2]) _
  refine x_iload_n dX4_hasRoomFor_0 rfl ?_
  refine x_if_lt (tgt := 20) dX4_hasRoomFor_1 (by decide) (fun c1 => ?_) (fun c1 => ?_)
  · replace h := xif_p c1 h
    refine x_iconst (v := 0) dX4_hasRoomFor_20 (by decide) ?_
    cases h
    exact x_zret dX4_hasRoomFor_21 (Or.inl rfl) ⟨rfl, rfl, rfl⟩
  · replace h := xif_n c1 h
    refine x_iload_n dX4_hasRoomFor_4 rfl ?_
    refine x_sipush (v := 9600) dX4_hasRoomFor_5 (by decide) ?_
    refine x_aload_n dX4_hasRoomFor_8 rfl ?_
    refine g_X4_15 rfl dX4_hasRoomFor_9 (by decide) rfl rfl ?_
    refine x_isub dX4_hasRoomFor_12 ?_
    refine x_icmp_gt (tgt := 20) dX4_hasRoomFor_13 (by decide) (fun c2 => ?_) (fun c2 => ?_)
    · replace h := xif_p c2 h
      refine x_iconst (v := 0) dX4_hasRoomFor_20 (by decide) ?_
      cases h
      exact x_zret dX4_hasRoomFor_21 (Or.inl rfl) ⟨rfl, rfl, rfl⟩
    · replace h := xif_n c2 h
      refine x_iconst (v := 1) dX4_hasRoomFor_16 (by decide) ?_
      refine x_goto (tgt := 21) dX4_hasRoomFor_17 (by decide) ?_
      cases h
      exact x_zret dX4_hasRoomFor_21 (Or.inr rfl) ⟨rfl, rfl, rfl⟩
def l_X4_write_2_3 (n : Nat) (o2 : Nat → Int32) (l1 : Int32) (l2 : Int32) (l3 : Int32) : Nat → (Int32) → (Nat → Int32) → Option (((Int32) × (Nat → Int32)))
  | 0, _, _ => none
  | k + 1, l4, a3 => (if l2 ≤ l4 then (some (l4, a3)) else (if (l1 + l4) < 0 then (l_X4_write_2_3 n o2 l1 l2 l3 k ((l4 + 1)) a3) else (if 9600 ≤ (l1 + l4) then (l_X4_write_2_3 n o2 l1 l2 l3 k ((l4 + 1)) a3) else (bif xin (l1 + l4) 9600 then (l_X4_write_2_3 n o2 l1 l2 l3 k ((l4 + 1)) (upd a3 ((Int32.toNatClampNeg (l1 + l4))) ((vp_nar .byte (Int8.toInt32 (Int32.toInt8 ((xus l3 ((l2 - 1) - l4)) &&& 1))))))) else none))))
set_option maxRecDepth 100000 in
set_option maxHeartbeats 400000 in
theorem lv_X4_write_2_3 (s0 : XW) (n : Nat) (o2 : Nat → Int32) (l1 : Int32) (l2 : Int32) (l3 : Int32) (Q : Nat → Option Value → XW → Prop) : ∀ (k : Nat) (l4 : Int32) (a3 : Nat → Int32) (o : ((Int32) × (Nat → Int32))), l_X4_write_2_3 n o2 l1 l2 l3 k l4 a3 = some o → (V yX4_write cX4_write none 0 61 (0, 0) 54 [none, none, none, none, none, none] [] (xof s0 [W_2 o2, W_3 o.2]) Q) → V yX4_write cX4_write none 0 61 (0, 0) 3 [some (.ref 2), some (.int l1), some (.int l2), some (.int l3), some (.int l4), none] [] (xof s0 [W_2 o2, W_3 a3]) Q := by
  intro k
  induction k with
  | zero =>
    intro _ _ _ h
    simp [l_X4_write_2_3] at h
  | succ k ih =>
    intro l4 a3 o h hk
    rw [l_X4_write_2_3] at h
    refine x_iload dX4_write_3 rfl ?_
    refine x_iload_n dX4_write_5 rfl ?_
    refine x_icmp_ge (tgt := 54) dX4_write_6 (by decide) (fun c1 => ?_) (fun c1 => ?_)
    · replace h := xif_p c1 h
      refine V.drop1 (i := 0) (ls' := [_, _, _, _, _, _]) rfl ?_
      refine V.drop1 (i := 1) (ls' := [_, _, _, _, _, _]) rfl ?_
      refine V.drop1 (i := 2) (ls' := [_, _, _, _, _, _]) rfl ?_
      refine V.drop1 (i := 3) (ls' := [_, _, _, _, _, _]) rfl ?_
      refine V.drop1 (i := 4) (ls' := [_, _, _, _, _, _]) rfl ?_
      show V yX4_write cX4_write none 0 61 (0, 0) 54 [none, none, none, none, none, none] [] (xof s0 [W_2 o2, W_3 a3]) _
      cases h
      exact hk
    · replace h := xif_n c1 h
      refine x_iload_n dX4_write_9 rfl ?_
      refine x_iload dX4_write_10 rfl ?_
      refine x_iadd dX4_write_12 ?_
      refine x_istore (ls' := [_, _, _, _, _, _]) dX4_write_13 rfl rfl ?_
      refine x_iload dX4_write_15 rfl ?_
      refine x_if_lt (tgt := 48) dX4_write_17 (by decide) (fun c2 => ?_) (fun c2 => ?_)
      · replace h := xif_p c2 h
        refine x_iinc (v := l4 + 1) (ls' := [_, _, _, _, _, _]) dX4_write_48 rfl rfl rfl rfl ?_
        refine x_goto (tgt := 3) dX4_write_51 (by decide) ?_
        refine V.drop1 (i := 5) (ls' := [_, _, _, _, _, _]) rfl ?_
        show V yX4_write cX4_write none 0 61 (0, 0) 3 [some (.ref 2), some (.int l1), some (.int l2), some (.int l3), some (.int ((l4 + 1))), none] [] (xof s0 [W_2 o2, W_3 a3]) _
        exact ih ((l4 + 1)) a3 _ h hk
      · replace h := xif_n c2 h
        refine x_iload dX4_write_20 rfl ?_
        refine x_aload_n dX4_write_22 rfl ?_
        refine g_X4_9 rfl dX4_write_23 (by decide) rfl rfl ?_
        refine x_alen (v := 9600) dX4_write_26 (by decide) rfl (by decide) rfl ?_
        refine x_icmp_ge (tgt := 48) dX4_write_27 (by decide) (fun c3 => ?_) (fun c3 => ?_)
        · replace h := xif_p c3 h
          refine x_iinc (v := l4 + 1) (ls' := [_, _, _, _, _, _]) dX4_write_48 rfl rfl rfl rfl ?_
          refine x_goto (tgt := 3) dX4_write_51 (by decide) ?_
          refine V.drop1 (i := 5) (ls' := [_, _, _, _, _, _]) rfl ?_
          show V yX4_write cX4_write none 0 61 (0, 0) 3 [some (.ref 2), some (.int l1), some (.int l2), some (.int l3), some (.int ((l4 + 1))), none] [] (xof s0 [W_2 o2, W_3 a3]) _
          exact ih ((l4 + 1)) a3 _ h hk
        · replace h := xif_n c3 h
          refine x_aload_n dX4_write_30 rfl ?_
          refine g_X4_9 rfl dX4_write_31 (by decide) rfl rfl ?_
          refine x_iload dX4_write_34 rfl ?_
          refine x_iload_n dX4_write_36 rfl ?_
          refine x_iload_n dX4_write_37 rfl ?_
          refine x_iconst (v := 1) dX4_write_38 (by decide) ?_
          refine x_isub dX4_write_39 ?_
          refine x_iload dX4_write_40 rfl ?_
          refine x_isub dX4_write_42 ?_
          refine x_iushr dX4_write_43 ?_
          refine x_iconst (v := 1) dX4_write_44 (by decide) ?_
          refine x_iand dX4_write_45 ?_
          refine x_i2b dX4_write_46 ?_
          obtain ⟨c4, h⟩ := xck h
          refine x_bastK (jn := (Int32.toNatClampNeg (l1 + l4))) (L' := [(2, _), (3, _)]) dX4_write_47 (by decide) rfl (xin_ok c4) rfl rfl ?_
          refine x_iinc (v := l4 + 1) (ls' := [_, _, _, _, _, _]) dX4_write_48 rfl rfl rfl rfl ?_
          refine x_goto (tgt := 3) dX4_write_51 (by decide) ?_
          refine V.drop1 (i := 5) (ls' := [_, _, _, _, _, _]) rfl ?_
          show V yX4_write cX4_write none 0 61 (0, 0) 3 [some (.ref 2), some (.int l1), some (.int l2), some (.int l3), some (.int ((l4 + 1))), none] [] (xof s0 [W_2 o2, W_3 (upd a3 ((Int32.toNatClampNeg (l1 + l4))) ((vp_nar .byte (Int8.toInt32 (Int32.toInt8 ((xus l3 ((l2 - 1) - l4)) &&& 1))))))]) _
          exact ih ((l4 + 1)) (upd a3 ((Int32.toNatClampNeg (l1 + l4))) ((vp_nar .byte (Int8.toInt32 (Int32.toInt8 ((xus l3 ((l2 - 1) - l4)) &&& 1)))))) _ h hk
def f_X4_write_2 (n : Nat) (o2 : Nat → Int32) (a3 : Nat → Int32) (p1 : Int32) (p2 : Int32) (p3 : Int32) : Option (Nat → Int32) := (Option.bind (l_X4_write_2_3 n o2 p1 p2 p3 n 0 a3) (fun u5 => (some u5.2)))
set_option maxRecDepth 100000 in
set_option maxHeartbeats 400000 in
theorem v_X4_write_2 (s0 : XW) (n : Nat) (o2 : Nat → Int32) (a3 : Nat → Int32) (p1 : Int32) (p2 : Int32) (p3 : Int32) (q : Nat → Int32) (h : f_X4_write_2 n o2 a3 p1 p2 p3 = some q) : C_X4_write 0 61 [.ref 2, .int p1, .int p2, .int p3] (xof s0 [W_2 o2, W_3 a3]) none (xof s0 [W_2 o2, W_3 q]) := by
  unfold f_X4_write_2 at h
  show V yX4_write cX4_write none 0 61 (0, 0) 0 [some (.ref 2), some (.int p1), some (.int p2), some (.int p3), none, none] [] (xof s0 [W_2 o2, W_3 a3]) _
  refine x_iconst (v := 0) dX4_write_0 (by decide) ?_
  refine x_istore (ls' := [_, _, _, _, _, _]) dX4_write_1 rfl rfl ?_
  obtain ⟨u5, hu5, h⟩ := Option.bind_eq_some_iff.mp h
  show V yX4_write cX4_write none 0 61 (0, 0) 3 [some (.ref 2), some (.int p1), some (.int p2), some (.int p3), some (.int 0), none] [] (xof s0 [W_2 o2, W_3 a3]) _
  refine lv_X4_write_2_3 s0 _ o2 p1 p2 p3 _ n 0 a3 _ hu5 ?_
  cases h
  exact x_vret dX4_write_54 ⟨rfl, rfl, rfl⟩
def f_X4_append_2 (n : Nat) (o2 : Nat → Int32) (a3 : Nat → Int32) (p1 : Int32) (p2 : Int32) : Option (((Nat → Int32) × (Nat → Int32))) := (Option.bind (f_X4_hasRoomFor_2 o2 p1) (fun q1 => (if q1 = 0 then (some (o2, a3)) else (Option.bind (f_X4_write_2 n o2 a3 ((o2 1)) p1 p2) (fun q3 => (some (upd o2 1 (((o2 1) + p1)), q3)))))))
set_option maxRecDepth 100000 in
set_option maxHeartbeats 400000 in
theorem v_X4_append_2 (s0 : XW) (n : Nat) (o2 : Nat → Int32) (a3 : Nat → Int32) (p1 : Int32) (p2 : Int32) (q : ((Nat → Int32) × (Nat → Int32))) (h : f_X4_append_2 n o2 a3 p1 p2 = some q) : C_X4_append 1 61 [.ref 2, .int p1, .int p2] (xof s0 [W_2 o2, W_3 a3]) none (xof s0 [W_2 q.1, W_3 q.2]) := by
  unfold f_X4_append_2 at h
  show V yX4_append cX4_append none 1 61 (0, 0) 0 [some (.ref 2), some (.int p1), some (.int p2)] [] (xof s0 [W_2 o2, W_3 a3]) _
  refine x_aload_n dX4_append_0 rfl ?_
  refine x_iload_n dX4_append_1 rfl ?_
  obtain ⟨q1, hq1, h⟩ := Option.bind_eq_some_iff.mp h
  refine y_callVi (L' := [(2, _), (3, _)]) mi_X4_hasRoomFor ml_X4_26 im_X4_hasRoomFor se_X4_hasRoomFor (rfl : vwCl[3]? = _) dX4_append_2 (fun s1 => v_X4_hasRoomFor_2 s1 _ _ q1 hq1) (by decide) rfl (Nat.le_of_ble_eq_true rfl) rfl (by decide) (Nat.le_of_ble_eq_true rfl) rfl rfl rfl rfl ?_
  refine x_if_eq (tgt := 28) dX4_append_5 (by decide) (fun c2 => ?_) (fun c2 => ?_)
  · replace h := xif_p c2 h
    cases h
    exact x_vret dX4_append_28 ⟨rfl, rfl, rfl⟩
  · replace h := xif_n c2 h
    refine x_aload_n dX4_append_8 rfl ?_
    refine x_aload_n dX4_append_9 rfl ?_
    refine g_X4_15 rfl dX4_append_10 (by decide) rfl rfl ?_
    refine x_iload_n dX4_append_13 rfl ?_
    refine x_iload_n dX4_append_14 rfl ?_
    obtain ⟨q3, hq3, h⟩ := Option.bind_eq_some_iff.mp h
    refine y_callVv (L' := [(2, _), (3, _)]) mi_X4_write ml_X4_29 im_X4_write se_X4_write (rfl : vwCl[3]? = _) dX4_append_15 (fun s1 => v_X4_write_2 s1 n _ _ _ _ _ q3 hq3) (by decide) rfl (Nat.le_of_ble_eq_true rfl) rfl (by decide) (Nat.le_of_ble_eq_true rfl) rfl rfl rfl rfl ?_
    refine x_aload_n dX4_append_18 rfl ?_
    refine x_dup dX4_append_19 rfl ?_
    refine g_X4_15 rfl dX4_append_20 (by decide) rfl rfl ?_
    refine x_iload_n dX4_append_23 rfl ?_
    refine x_iadd dX4_append_24 ?_
    refine p_X4_15 (fs' := [_, _, _]) (L' := [(2, _), (3, _)]) rfl dX4_append_25 (by decide) rfl (Nat.le_of_ble_eq_true rfl) rfl rfl ?_
    cases h
    exact x_vret dX4_append_28 ⟨rfl, rfl, rfl⟩
def f_X11_feed_0 (n : Nat) (o2 : Nat → Int32) (a3 : Nat → Int32) (p1 : Int32) (p2 : Int32) (p3 : Int32) (p4 : Int32) (p5 : Int32) : Option (((Int32) × (Nat → Int32) × (Nat → Int32))) := (Option.bind (f_X4_hasRoomFor_2 o2 160) (fun q1 => (if q1 = 0 then (some ((-4), o2, a3)) else (Option.bind (f_X4_append_2 n o2 a3 32 p1) (fun q3 => (Option.bind (f_X4_append_2 n q3.1 q3.2 32 p2) (fun q4 => (Option.bind (f_X4_append_2 n q4.1 q4.2 32 p3) (fun q5 => (Option.bind (f_X4_append_2 n q5.1 q5.2 32 p4) (fun q6 => (Option.bind (f_X4_append_2 n q6.1 q6.2 32 p5) (fun q7 => (some ((q7.1 1), q7.1, q7.2)))))))))))))))
set_option maxRecDepth 100000 in
set_option maxHeartbeats 400000 in
theorem v_X11_feed_0 (s0 : XW) (n : Nat) (o2 : Nat → Int32) (a3 : Nat → Int32) (p1 : Int32) (p2 : Int32) (p3 : Int32) (p4 : Int32) (p5 : Int32) (q : ((Int32) × (Nat → Int32) × (Nat → Int32))) (h : f_X11_feed_0 n o2 a3 p1 p2 p3 p4 p5 = some q) : C_X11_feed 2 61 [.ref 0, .int p1, .int p2, .int p3, .int p4, .int p5] (xof s0 [W_0, W_2 o2, W_3 a3]) (some (.int q.1)) (xof s0 [W_0, W_2 q.2.1, W_3 q.2.2]) := by
  unfold f_X11_feed_0 at h
  show V yX11_feed cX11_feed (some .int) 2 61 (0, 0) 0 [some (.ref 0), some (.int p1), some (.int p2), some (.int p3), some (.int p4), some (.int p5)] [] (xof s0 [W_0, W_2 o2, W_3 a3]) _
  refine x_aload_n dX11_feed_0 rfl ?_
  refine g_X11_24 rfl dX11_feed_1 (by decide) rfl rfl ?_
  refine x_sipush (v := 160) dX11_feed_4 (by decide) ?_
  obtain ⟨q1, hq1, h⟩ := Option.bind_eq_some_iff.mp h
  refine y_callVi (L' := [(0, _), (2, _), (3, _)]) mi_X4_hasRoomFor ml_X11_88 im_X4_hasRoomFor se_X4_hasRoomFor (rfl : vwCl[3]? = _) dX11_feed_7 (fun s1 => v_X4_hasRoomFor_2 s1 _ _ q1 hq1) (by decide) rfl (Nat.le_of_ble_eq_true rfl) rfl (by decide) (Nat.le_of_ble_eq_true rfl) rfl rfl rfl rfl ?_
  refine x_if_ne (tgt := 16) dX11_feed_10 (by decide) (fun c2 => ?_) (fun c2 => ?_)
  · replace h := xif_n c2 h
    refine x_aload_n dX11_feed_16 rfl ?_
    refine g_X11_24 rfl dX11_feed_17 (by decide) rfl rfl ?_
    refine x_bipush (v := 32) dX11_feed_20 (by decide) ?_
    refine x_iload_n dX11_feed_22 rfl ?_
    obtain ⟨q3, hq3, h⟩ := Option.bind_eq_some_iff.mp h
    refine y_callVv (L' := [(0, _), (2, _), (3, _)]) mi_X4_append ml_X11_92 im_X4_append se_X4_append (rfl : vwCl[3]? = _) dX11_feed_23 (fun s1 => v_X4_append_2 s1 n _ _ _ _ q3 hq3) (by decide) rfl (Nat.le_of_ble_eq_true rfl) rfl (by decide) (Nat.le_of_ble_eq_true rfl) rfl rfl rfl rfl ?_
    refine x_aload_n dX11_feed_26 rfl ?_
    refine g_X11_24 rfl dX11_feed_27 (by decide) rfl rfl ?_
    refine x_bipush (v := 32) dX11_feed_30 (by decide) ?_
    refine x_iload_n dX11_feed_32 rfl ?_
    obtain ⟨q4, hq4, h⟩ := Option.bind_eq_some_iff.mp h
    refine y_callVv (L' := [(0, _), (2, _), (3, _)]) mi_X4_append ml_X11_92 im_X4_append se_X4_append (rfl : vwCl[3]? = _) dX11_feed_33 (fun s1 => v_X4_append_2 s1 n _ _ _ _ q4 hq4) (by decide) rfl (Nat.le_of_ble_eq_true rfl) rfl (by decide) (Nat.le_of_ble_eq_true rfl) rfl rfl rfl rfl ?_
    refine x_aload_n dX11_feed_36 rfl ?_
    refine g_X11_24 rfl dX11_feed_37 (by decide) rfl rfl ?_
    refine x_bipush (v := 32) dX11_feed_40 (by decide) ?_
    refine x_iload_n dX11_feed_42 rfl ?_
    obtain ⟨q5, hq5, h⟩ := Option.bind_eq_some_iff.mp h
    refine y_callVv (L' := [(0, _), (2, _), (3, _)]) mi_X4_append ml_X11_92 im_X4_append se_X4_append (rfl : vwCl[3]? = _) dX11_feed_43 (fun s1 => v_X4_append_2 s1 n _ _ _ _ q5 hq5) (by decide) rfl (Nat.le_of_ble_eq_true rfl) rfl (by decide) (Nat.le_of_ble_eq_true rfl) rfl rfl rfl rfl ?_
    refine x_aload_n dX11_feed_46 rfl ?_
    refine g_X11_24 rfl dX11_feed_47 (by decide) rfl rfl ?_
    refine x_bipush (v := 32) dX11_feed_50 (by decide) ?_
    refine x_iload dX11_feed_52 rfl ?_
    obtain ⟨q6, hq6, h⟩ := Option.bind_eq_some_iff.mp h
    refine y_callVv (L' := [(0, _), (2, _), (3, _)]) mi_X4_append ml_X11_92 im_X4_append se_X4_append (rfl : vwCl[3]? = _) dX11_feed_54 (fun s1 => v_X4_append_2 s1 n _ _ _ _ q6 hq6) (by decide) rfl (Nat.le_of_ble_eq_true rfl) rfl (by decide) (Nat.le_of_ble_eq_true rfl) rfl rfl rfl rfl ?_
    refine x_aload_n dX11_feed_57 rfl ?_
    refine g_X11_24 rfl dX11_feed_58 (by decide) rfl rfl ?_
    refine x_bipush (v := 32) dX11_feed_61 (by decide) ?_
    refine x_iload dX11_feed_63 rfl ?_
    obtain ⟨q7, hq7, h⟩ := Option.bind_eq_some_iff.mp h
    refine y_callVv (L' := [(0, _), (2, _), (3, _)]) mi_X4_append ml_X11_92 im_X4_append se_X4_append (rfl : vwCl[3]? = _) dX11_feed_65 (fun s1 => v_X4_append_2 s1 n _ _ _ _ q7 hq7) (by decide) rfl (Nat.le_of_ble_eq_true rfl) rfl (by decide) (Nat.le_of_ble_eq_true rfl) rfl rfl rfl rfl ?_
    refine x_aload_n dX11_feed_68 rfl ?_
    refine g_X11_24 rfl dX11_feed_69 (by decide) rfl rfl ?_
    refine g_X11_96 rfl dX11_feed_72 (by decide) rfl rfl ?_
    cases h
    exact x_iret dX11_feed_75 ⟨rfl, rfl, rfl⟩
  · replace h := xif_p c2 h
    refine x_bipush (v := -4) dX11_feed_13 (by decide) ?_
    cases h
    exact x_iret dX11_feed_15 ⟨rfl, rfl, rfl⟩
def f_X11_isWithin  (p0 : Int32) (p1 : Int32) (p2 : Int32) : Option Int32 := (if p0 < p1 then (some 0) else (if p2 < p0 then (some 0) else (some 1)))
set_option maxRecDepth 100000 in
set_option maxHeartbeats 400000 in
theorem v_X11_isWithin (N : Nat) (s0 : XW)  (p0 : Int32) (p1 : Int32) (p2 : Int32) (q : Int32) (h : f_X11_isWithin p0 p1 p2 = some q) : C_X11_isWithin 0 N [.int p0, .int p1, .int p2] (xof s0 []) (some (.int q)) (xof s0 []) := by
  unfold f_X11_isWithin at h
  show V yX11_isWithin cX11_isWithin (some .boolean) 0 N (0, 0) 0 [some (.int p0), some (.int p1), some (.int p2)] [] (xof s0 []) _
  refine x_iload_n dX11_isWithin_0 rfl ?_
  refine x_iload_n dX11_isWithin_1 rfl ?_
  refine x_icmp_lt (tgt := 14) dX11_isWithin_2 (by decide) (fun c1 => ?_) (fun c1 => ?_)
  · replace h := xif_p c1 h
    refine x_iconst (v := 0) dX11_isWithin_14 (by decide) ?_
    cases h
    exact x_zret dX11_isWithin_15 (Or.inl rfl) ⟨rfl, rfl, rfl⟩
  · replace h := xif_n c1 h
    refine x_iload_n dX11_isWithin_5 rfl ?_
    refine x_iload_n dX11_isWithin_6 rfl ?_
    refine x_icmp_gt (tgt := 14) dX11_isWithin_7 (by decide) (fun c2 => ?_) (fun c2 => ?_)
    · replace h := xif_p c2 h
      refine x_iconst (v := 0) dX11_isWithin_14 (by decide) ?_
      cases h
      exact x_zret dX11_isWithin_15 (Or.inl rfl) ⟨rfl, rfl, rfl⟩
    · replace h := xif_n c2 h
      refine x_iconst (v := 1) dX11_isWithin_10 (by decide) ?_
      refine x_goto (tgt := 15) dX11_isWithin_11 (by decide) ?_
      cases h
      exact x_zret dX11_isWithin_15 (Or.inr rfl) ⟨rfl, rfl, rfl⟩
def f_X11_bits_0 (n : Nat) (o2 : Nat → Int32) (a3 : Nat → Int32) (p1 : Int32) (p2 : Int32) : Option (((Int32) × (Nat → Int32) × (Nat → Int32))) := (Option.bind (f_X11_isWithin p1 1 32) (fun q1 => (if q1 = 0 then (some ((-3), o2, a3)) else (Option.bind (f_X4_hasRoomFor_2 o2 p1) (fun q3 => (if q3 = 0 then (some ((-4), o2, a3)) else (Option.bind (f_X4_append_2 n o2 a3 p1 p2) (fun q5 => (some ((q5.1 1), q5.1, q5.2))))))))))
set_option maxRecDepth 100000 in
set_option maxHeartbeats 400000 in
theorem v_X11_bits_0 (s0 : XW) (n : Nat) (o2 : Nat → Int32) (a3 : Nat → Int32) (p1 : Int32) (p2 : Int32) (q : ((Int32) × (Nat → Int32) × (Nat → Int32))) (h : f_X11_bits_0 n o2 a3 p1 p2 = some q) : C_X11_bits 2 61 [.ref 0, .int p1, .int p2] (xof s0 [W_0, W_2 o2, W_3 a3]) (some (.int q.1)) (xof s0 [W_0, W_2 q.2.1, W_3 q.2.2]) := by
  unfold f_X11_bits_0 at h
  show V yX11_bits cX11_bits (some .int) 2 61 (0, 0) 0 [some (.ref 0), some (.int p1), some (.int p2)] [] (xof s0 [W_0, W_2 o2, W_3 a3]) _
  refine x_iload_n dX11_bits_0 rfl ?_
  refine x_iconst (v := 1) dX11_bits_1 (by decide) ?_
  refine x_bipush (v := 32) dX11_bits_2 (by decide) ?_
  obtain ⟨q1, hq1, h⟩ := Option.bind_eq_some_iff.mp h
  refine y_callSi (L' := [(0, _), (2, _), (3, _)]) mi_X11_isWithin ml_X11_100 st_X11_isWithin dX11_bits_4 (fun s1 => v_X11_isWithin 61 s1 _ _ _ q1 hq1) (Nat.le_of_ble_eq_true rfl) rfl (by decide) (Nat.le_of_ble_eq_true rfl) rfl rfl rfl rfl ?_
  refine x_if_ne (tgt := 13) dX11_bits_7 (by decide) (fun c2 => ?_) (fun c2 => ?_)
  · replace h := xif_n c2 h
    refine x_aload_n dX11_bits_13 rfl ?_
    refine g_X11_24 rfl dX11_bits_14 (by decide) rfl rfl ?_
    refine x_iload_n dX11_bits_17 rfl ?_
    obtain ⟨q3, hq3, h⟩ := Option.bind_eq_some_iff.mp h
    refine y_callVi (L' := [(0, _), (2, _), (3, _)]) mi_X4_hasRoomFor ml_X11_88 im_X4_hasRoomFor se_X4_hasRoomFor (rfl : vwCl[3]? = _) dX11_bits_18 (fun s1 => v_X4_hasRoomFor_2 s1 _ _ q3 hq3) (by decide) rfl (Nat.le_of_ble_eq_true rfl) rfl (by decide) (Nat.le_of_ble_eq_true rfl) rfl rfl rfl rfl ?_
    refine x_if_ne (tgt := 27) dX11_bits_21 (by decide) (fun c4 => ?_) (fun c4 => ?_)
    · replace h := xif_n c4 h
      refine x_aload_n dX11_bits_27 rfl ?_
      refine g_X11_24 rfl dX11_bits_28 (by decide) rfl rfl ?_
      refine x_iload_n dX11_bits_31 rfl ?_
      refine x_iload_n dX11_bits_32 rfl ?_
      obtain ⟨q5, hq5, h⟩ := Option.bind_eq_some_iff.mp h
      refine y_callVv (L' := [(0, _), (2, _), (3, _)]) mi_X4_append ml_X11_92 im_X4_append se_X4_append (rfl : vwCl[3]? = _) dX11_bits_33 (fun s1 => v_X4_append_2 s1 n _ _ _ _ q5 hq5) (by decide) rfl (Nat.le_of_ble_eq_true rfl) rfl (by decide) (Nat.le_of_ble_eq_true rfl) rfl rfl rfl rfl ?_
      refine x_aload_n dX11_bits_36 rfl ?_
      refine g_X11_24 rfl dX11_bits_37 (by decide) rfl rfl ?_
      refine g_X11_96 rfl dX11_bits_40 (by decide) rfl rfl ?_
      cases h
      exact x_iret dX11_bits_43 ⟨rfl, rfl, rfl⟩
    · replace h := xif_p c4 h
      refine x_bipush (v := -4) dX11_bits_24 (by decide) ?_
      cases h
      exact x_iret dX11_bits_26 ⟨rfl, rfl, rfl⟩
  · replace h := xif_p c2 h
    refine x_bipush (v := -3) dX11_bits_10 (by decide) ?_
    cases h
    exact x_iret dX11_bits_12 ⟨rfl, rfl, rfl⟩
def f_X11_hasRoomForCells_0 (a1 : Nat → Int32) (o2 : Nat → Int32) (o4 : Nat → Int32) (p1 : Int32) : Option Int32 := (if 64 < ((o4 3) + p1) then (some 0) else (Option.bind (f_X4_hasRoomFor_2 o2 ((p1 * (40 + (8 * (a1 0)))))) (fun q2 => (if q2 = 0 then (some 0) else (some 1)))))
set_option maxRecDepth 100000 in
set_option maxHeartbeats 400000 in
theorem v_X11_hasRoomForCells_0 (s0 : XW) (a1 : Nat → Int32) (o2 : Nat → Int32) (o4 : Nat → Int32) (p1 : Int32) (q : Int32) (h : f_X11_hasRoomForCells_0 a1 o2 o4 p1 = some q) : C_X11_hasRoomForCells 1 61 [.ref 0, .int p1] (xof s0 [W_0, W_1 a1, W_2 o2, W_4 o4]) (some (.int q)) (xof s0 [W_0, W_1 a1, W_2 o2, W_4 o4]) := by
  unfold f_X11_hasRoomForCells_0 at h
  show V yX11_hasRoomForCells cX11_hasRoomForCells (some .boolean) 1 61 (0, 0) 0 [some (.ref 0), some (.int p1), none] [] (xof s0 [W_0, W_1 a1, W_2 o2, W_4 o4]) _
  refine x_bipush (v := 40) dX11_hasRoomForCells_0 (by decide) ?_
  refine x_bipush (v := 8) dX11_hasRoomForCells_2 (by decide) ?_
  refine x_aload_n dX11_hasRoomForCells_4 rfl ?_
  refine g_X11_18 rfl dX11_hasRoomForCells_5 (by decide) rfl rfl ?_
  refine x_iconst (v := 0) dX11_hasRoomForCells_8 (by decide) ?_
  refine x_ialdK (jn := 0) (v := (a1 0)) dX11_hasRoomForCells_9 (by decide) rfl (xin_ok (by decide)) (by decide) rfl ?_
  refine x_imul dX11_hasRoomForCells_10 ?_
  refine x_iadd dX11_hasRoomForCells_11 ?_
  refine x_istore_n (ls' := [_, _, _]) dX11_hasRoomForCells_12 rfl rfl ?_
  refine x_aload_n dX11_hasRoomForCells_13 rfl ?_
  refine g_X11_31 rfl dX11_hasRoomForCells_14 (by decide) rfl rfl ?_
  refine g_X11_115 rfl dX11_hasRoomForCells_17 (by decide) rfl rfl ?_
  refine x_iload_n dX11_hasRoomForCells_20 rfl ?_
  refine x_iadd dX11_hasRoomForCells_21 ?_
  refine x_bipush (v := 64) dX11_hasRoomForCells_22 (by decide) ?_
  refine x_icmp_gt (tgt := 44) dX11_hasRoomForCells_24 (by decide) (fun c1 => ?_) (fun c1 => ?_)
  · replace h := xif_p c1 h
    refine x_iconst (v := 0) dX11_hasRoomForCells_44 (by decide) ?_
    cases h
    exact x_zret dX11_hasRoomForCells_45 (Or.inl rfl) ⟨rfl, rfl, rfl⟩
  · replace h := xif_n c1 h
    refine x_aload_n dX11_hasRoomForCells_27 rfl ?_
    refine g_X11_24 rfl dX11_hasRoomForCells_28 (by decide) rfl rfl ?_
    refine x_iload_n dX11_hasRoomForCells_31 rfl ?_
    refine x_iload_n dX11_hasRoomForCells_32 rfl ?_
    refine x_imul dX11_hasRoomForCells_33 ?_
    obtain ⟨q2, hq2, h⟩ := Option.bind_eq_some_iff.mp h
    refine y_callVi (L' := [(0, _), (1, _), (2, _), (4, _)]) mi_X4_hasRoomFor ml_X11_88 im_X4_hasRoomFor se_X4_hasRoomFor (rfl : vwCl[3]? = _) dX11_hasRoomForCells_34 (fun s1 => v_X4_hasRoomFor_2 s1 _ _ q2 hq2) (by decide) rfl (Nat.le_of_ble_eq_true rfl) rfl (by decide) (Nat.le_of_ble_eq_true rfl) rfl rfl rfl rfl ?_
    refine x_if_eq (tgt := 44) dX11_hasRoomForCells_37 (by decide) (fun c3 => ?_) (fun c3 => ?_)
    · replace h := xif_p c3 h
      refine x_iconst (v := 0) dX11_hasRoomForCells_44 (by decide) ?_
      cases h
      exact x_zret dX11_hasRoomForCells_45 (Or.inl rfl) ⟨rfl, rfl, rfl⟩
    · replace h := xif_n c3 h
      refine x_iconst (v := 1) dX11_hasRoomForCells_40 (by decide) ?_
      refine x_goto (tgt := 45) dX11_hasRoomForCells_41 (by decide) ?_
      cases h
      exact x_zret dX11_hasRoomForCells_45 (Or.inr rfl) ⟨rfl, rfl, rfl⟩
def f_X8_following  (p0 : Int32) : Option Int32 := (some ((((p0 * 1103) + 12345) - ((p0 * 1103) + 12345) / 1000003 * 1000003)))
set_option maxRecDepth 100000 in
set_option maxHeartbeats 400000 in
theorem v_X8_following (N : Nat) (s0 : XW)  (p0 : Int32) (q : Int32) (h : f_X8_following p0 = some q) : C_X8_following 0 N [.int p0] (xof s0 []) (some (.int q)) (xof s0 []) := by
  unfold f_X8_following at h
  show V yX8_following cX8_following (some .int) 0 N (0, 0) 0 [some (.int p0)] [] (xof s0 []) _
  refine x_iload_n dX8_following_0 rfl ?_
  refine x_sipush (v := 1103) dX8_following_1 (by decide) ?_
  refine x_imul dX8_following_4 ?_
  refine x_sipush (v := 12345) dX8_following_5 (by decide) ?_
  refine x_iadd dX8_following_8 ?_
  refine x_ldc dX8_following_9 cn_X8_33 ?_
  refine x_irem dX8_following_11 (by decide) ?_
  cases h
  exact x_iret dX8_following_12 ⟨rfl, rfl, rfl⟩
def l_X8_fillBySeed_4_14 (n : Nat) (o4 : Nat → Int32) (l2 : Int32) (l3 : Int32) : Nat → (Int32) → (Int32) → (Nat → Int32) → Option (((Int32) × (Int32) × (Nat → Int32)))
  | 0, _, _, _ => none
  | k + 1, l4, l5, a7 => (if l2 ≤ l5 then (some (l4, l5, a7)) else (if 3072 ≤ (l3 + l5) then (some (l4, l5, a7)) else (Option.bind (f_X8_following l4) (fun q3 => (bif xin (l3 + l5) 3072 then (l_X8_fillBySeed_4_14 n o4 l2 l3 k q3 ((l5 + 1)) (upd a7 ((Int32.toNatClampNeg (l3 + l5))) ((vp_nar .byte (Int8.toInt32 (Int32.toInt8 q3)))))) else none)))))
set_option maxRecDepth 100000 in
set_option maxHeartbeats 400000 in
theorem lv_X8_fillBySeed_4_14 (s0 : XW) (n : Nat) (o4 : Nat → Int32) (l2 : Int32) (l3 : Int32) (Q : Nat → Option Value → XW → Prop) : ∀ (k : Nat) (l4 : Int32) (l5 : Int32) (a7 : Nat → Int32) (o : ((Int32) × (Int32) × (Nat → Int32))), l_X8_fillBySeed_4_14 n o4 l2 l3 k l4 l5 a7 = some o → (V yX8_fillBySeed cX8_fillBySeed none 1 61 (0, 0) 57 [none, none, none, none, none, none] [] (xof s0 [W_4 o4, W_7 o.2.2]) Q) → V yX8_fillBySeed cX8_fillBySeed none 1 61 (0, 0) 14 [some (.ref 4), none, some (.int l2), some (.int l3), some (.int l4), some (.int l5)] [] (xof s0 [W_4 o4, W_7 a7]) Q := by
  intro k
  induction k with
  | zero =>
    intro _ _ _ _ h
    simp [l_X8_fillBySeed_4_14] at h
  | succ k ih =>
    intro l4 l5 a7 o h hk
    rw [l_X8_fillBySeed_4_14] at h
    refine x_iload dX8_fillBySeed_14 rfl ?_
    refine x_iload_n dX8_fillBySeed_16 rfl ?_
    refine x_icmp_ge (tgt := 57) dX8_fillBySeed_17 (by decide) (fun c1 => ?_) (fun c1 => ?_)
    · replace h := xif_p c1 h
      refine V.drop1 (i := 0) (ls' := [_, _, _, _, _, _]) rfl ?_
      refine V.drop1 (i := 2) (ls' := [_, _, _, _, _, _]) rfl ?_
      refine V.drop1 (i := 3) (ls' := [_, _, _, _, _, _]) rfl ?_
      refine V.drop1 (i := 4) (ls' := [_, _, _, _, _, _]) rfl ?_
      refine V.drop1 (i := 5) (ls' := [_, _, _, _, _, _]) rfl ?_
      show V yX8_fillBySeed cX8_fillBySeed none 1 61 (0, 0) 57 [none, none, none, none, none, none] [] (xof s0 [W_4 o4, W_7 a7]) _
      cases h
      exact hk
    · replace h := xif_n c1 h
      refine x_iload_n dX8_fillBySeed_20 rfl ?_
      refine x_iload dX8_fillBySeed_21 rfl ?_
      refine x_iadd dX8_fillBySeed_23 ?_
      refine x_aload_n dX8_fillBySeed_24 rfl ?_
      refine g_X8_22 rfl dX8_fillBySeed_25 (by decide) rfl rfl ?_
      refine x_alen (v := 3072) dX8_fillBySeed_28 (by decide) rfl (by decide) rfl ?_
      refine x_icmp_ge (tgt := 57) dX8_fillBySeed_29 (by decide) (fun c2 => ?_) (fun c2 => ?_)
      · replace h := xif_p c2 h
        refine V.drop1 (i := 0) (ls' := [_, _, _, _, _, _]) rfl ?_
        refine V.drop1 (i := 2) (ls' := [_, _, _, _, _, _]) rfl ?_
        refine V.drop1 (i := 3) (ls' := [_, _, _, _, _, _]) rfl ?_
        refine V.drop1 (i := 4) (ls' := [_, _, _, _, _, _]) rfl ?_
        refine V.drop1 (i := 5) (ls' := [_, _, _, _, _, _]) rfl ?_
        show V yX8_fillBySeed cX8_fillBySeed none 1 61 (0, 0) 57 [none, none, none, none, none, none] [] (xof s0 [W_4 o4, W_7 a7]) _
        cases h
        exact hk
      · replace h := xif_n c2 h
        refine x_iload dX8_fillBySeed_32 rfl ?_
        obtain ⟨q3, hq3, h⟩ := Option.bind_eq_some_iff.mp h
        refine y_callSi (L' := [(4, _), (7, _)]) mi_X8_following ml_X8_34 st_X8_following dX8_fillBySeed_34 (fun s1 => v_X8_following 61 s1 _ q3 hq3) (Nat.le_of_ble_eq_true rfl) rfl (by decide) (Nat.le_of_ble_eq_true rfl) rfl rfl rfl rfl ?_
        refine x_istore (ls' := [_, _, _, _, _, _]) dX8_fillBySeed_37 rfl rfl ?_
        refine x_aload_n dX8_fillBySeed_39 rfl ?_
        refine g_X8_22 rfl dX8_fillBySeed_40 (by decide) rfl rfl ?_
        refine x_iload_n dX8_fillBySeed_43 rfl ?_
        refine x_iload dX8_fillBySeed_44 rfl ?_
        refine x_iadd dX8_fillBySeed_46 ?_
        refine x_iload dX8_fillBySeed_47 rfl ?_
        refine x_i2b dX8_fillBySeed_49 ?_
        obtain ⟨c4, h⟩ := xck h
        refine x_bastK (jn := (Int32.toNatClampNeg (l3 + l5))) (L' := [(4, _), (7, _)]) dX8_fillBySeed_50 (by decide) rfl (xin_ok c4) rfl rfl ?_
        refine x_iinc (v := l5 + 1) (ls' := [_, _, _, _, _, _]) dX8_fillBySeed_51 rfl rfl rfl rfl ?_
        refine x_goto (tgt := 14) dX8_fillBySeed_54 (by decide) ?_
        show V yX8_fillBySeed cX8_fillBySeed none 1 61 (0, 0) 14 [some (.ref 4), none, some (.int l2), some (.int l3), some (.int q3), some (.int ((l5 + 1)))] [] (xof s0 [W_4 o4, W_7 (upd a7 ((Int32.toNatClampNeg (l3 + l5))) ((vp_nar .byte (Int8.toInt32 (Int32.toInt8 q3)))))]) _
        exact ih q3 ((l5 + 1)) (upd a7 ((Int32.toNatClampNeg (l3 + l5))) ((vp_nar .byte (Int8.toInt32 (Int32.toInt8 q3))))) _ h hk
def f_X8_fillBySeed_4 (n : Nat) (o4 : Nat → Int32) (a7 : Nat → Int32) (p1 : Int32) (p2 : Int32) : Option (Nat → Int32) := (Option.bind (l_X8_fillBySeed_4_14 n o4 p2 (((o4 3) * 48)) n p1 0 a7) (fun u5 => (some u5.2.2)))
set_option maxRecDepth 100000 in
set_option maxHeartbeats 400000 in
theorem v_X8_fillBySeed_4 (s0 : XW) (n : Nat) (o4 : Nat → Int32) (a7 : Nat → Int32) (p1 : Int32) (p2 : Int32) (q : Nat → Int32) (h : f_X8_fillBySeed_4 n o4 a7 p1 p2 = some q) : C_X8_fillBySeed 1 61 [.ref 4, .int p1, .int p2] (xof s0 [W_4 o4, W_7 a7]) none (xof s0 [W_4 o4, W_7 q]) := by
  unfold f_X8_fillBySeed_4 at h
  show V yX8_fillBySeed cX8_fillBySeed none 1 61 (0, 0) 0 [some (.ref 4), some (.int p1), some (.int p2), none, none, none] [] (xof s0 [W_4 o4, W_7 a7]) _
  refine x_aload_n dX8_fillBySeed_0 rfl ?_
  refine g_X8_26 rfl dX8_fillBySeed_1 (by decide) rfl rfl ?_
  refine x_bipush (v := 48) dX8_fillBySeed_4 (by decide) ?_
  refine x_imul dX8_fillBySeed_6 ?_
  refine x_istore_n (ls' := [_, _, _, _, _, _]) dX8_fillBySeed_7 rfl rfl ?_
  refine x_iload_n dX8_fillBySeed_8 rfl ?_
  refine x_istore (ls' := [_, _, _, _, _, _]) dX8_fillBySeed_9 rfl rfl ?_
  refine x_iconst (v := 0) dX8_fillBySeed_11 (by decide) ?_
  refine x_istore (ls' := [_, _, _, _, _, _]) dX8_fillBySeed_12 rfl rfl ?_
  refine V.drop1 (i := 1) (ls' := [_, _, _, _, _, _]) rfl ?_
  obtain ⟨u5, hu5, h⟩ := Option.bind_eq_some_iff.mp h
  show V yX8_fillBySeed cX8_fillBySeed none 1 61 (0, 0) 14 [some (.ref 4), none, some (.int p2), some (.int (((o4 3) * 48))), some (.int p1), some (.int 0)] [] (xof s0 [W_4 o4, W_7 a7]) _
  refine lv_X8_fillBySeed_4_14 s0 _ o4 p2 (((o4 3) * 48)) _ n p1 0 a7 _ hu5 ?_
  cases h
  exact x_vret dX8_fillBySeed_57 ⟨rfl, rfl, rfl⟩
def f_X1_timesX  (p0 : Int32) : Option Int32 := (if (p0 <<< (1 &&& 31)) ≤ 255 then (some ((p0 <<< (1 &&& 31)))) else (some (((p0 <<< (1 &&& 31)) ^^^ 263))))
set_option maxRecDepth 100000 in
set_option maxHeartbeats 400000 in
theorem v_X1_timesX (N : Nat) (s0 : XW)  (p0 : Int32) (q : Int32) (h : f_X1_timesX p0 = some q) : C_X1_timesX 0 N [.int p0] (xof s0 []) (some (.int q)) (xof s0 []) := by
  unfold f_X1_timesX at h
  show V yX1_timesX cX1_timesX (some .int) 0 N (0, 0) 0 [some (.int p0), none] [] (xof s0 []) _
  refine x_iload_n dX1_timesX_0 rfl ?_
  refine x_iconst (v := 1) dX1_timesX_1 (by decide) ?_
  refine x_ishl dX1_timesX_2 ?_
  refine x_istore_n (ls' := [_, _]) dX1_timesX_3 rfl rfl ?_
  refine x_iload_n dX1_timesX_4 rfl ?_
  refine x_sipush (v := 255) dX1_timesX_5 (by decide) ?_
  refine x_icmp_le (tgt := 19) dX1_timesX_8 (by decide) (fun c1 => ?_) (fun c1 => ?_)
  · replace h := xif_p c1 h
    refine x_iload_n dX1_timesX_19 rfl ?_
    cases h
    exact x_iret dX1_timesX_20 ⟨rfl, rfl, rfl⟩
  · replace h := xif_n c1 h
    refine x_iload_n dX1_timesX_11 rfl ?_
    refine x_sipush (v := 263) dX1_timesX_12 (by decide) ?_
    refine x_ixor dX1_timesX_15 ?_
    refine x_goto (tgt := 20) dX1_timesX_16 (by decide) ?_
    cases h
    exact x_iret dX1_timesX_20 ⟨rfl, rfl, rfl⟩
def l_X1_ofHeader_5 (n : Nat) (l0 : Int32) : Nat → (Int32) → (Int32) → Option (((Int32) × (Int32)))
  | 0, _, _ => none
  | k + 1, l1, l2 => (if l2 < 0 then (some (l1, l2)) else (Option.bind (f_X1_timesX l1) (fun q2 => (l_X1_ofHeader_5 n l0 k ((q2 ^^^ ((xus l0 l2) &&& 1))) ((l2 + (-1)))))))
set_option maxRecDepth 100000 in
set_option maxHeartbeats 400000 in
theorem lv_X1_ofHeader_5 (N : Nat) (s0 : XW) (n : Nat) (l0 : Int32) (Q : Nat → Option Value → XW → Prop) : ∀ (k : Nat) (l1 : Int32) (l2 : Int32) (o : ((Int32) × (Int32))), l_X1_ofHeader_5 n l0 k l1 l2 = some o → (V yX1_ofHeader cX1_ofHeader (some .int) 1 N (0, 0) 26 [none, some (.int o.1), none] [] (xof s0 []) Q) → V yX1_ofHeader cX1_ofHeader (some .int) 1 N (0, 0) 5 [some (.int l0), some (.int l1), some (.int l2)] [] (xof s0 []) Q := by
  intro k
  induction k with
  | zero =>
    intro _ _ _ h
    simp [l_X1_ofHeader_5] at h
  | succ k ih =>
    intro l1 l2 o h hk
    rw [l_X1_ofHeader_5] at h
    refine x_iload_n dX1_ofHeader_5 rfl ?_
    refine x_if_lt (tgt := 26) dX1_ofHeader_6 (by decide) (fun c1 => ?_) (fun c1 => ?_)
    · replace h := xif_p c1 h
      refine V.drop1 (i := 0) (ls' := [_, _, _]) rfl ?_
      refine V.drop1 (i := 2) (ls' := [_, _, _]) rfl ?_
      show V yX1_ofHeader cX1_ofHeader (some .int) 1 N (0, 0) 26 [none, some (.int l1), none] [] (xof s0 []) _
      cases h
      exact hk
    · replace h := xif_n c1 h
      refine x_iload_n dX1_ofHeader_9 rfl ?_
      obtain ⟨q2, hq2, h⟩ := Option.bind_eq_some_iff.mp h
      refine y_callSi (L' := []) mi_X1_timesX ml_X1_18 st_X1_timesX dX1_ofHeader_10 (fun s1 => v_X1_timesX N s1 _ q2 hq2) (Nat.le_of_ble_eq_true rfl) rfl (by decide) (Nat.le_of_ble_eq_true rfl) rfl rfl rfl rfl ?_
      refine x_iload_n dX1_ofHeader_13 rfl ?_
      refine x_iload_n dX1_ofHeader_14 rfl ?_
      refine x_iushr dX1_ofHeader_15 ?_
      refine x_iconst (v := 1) dX1_ofHeader_16 (by decide) ?_
      refine x_iand dX1_ofHeader_17 ?_
      refine x_ixor dX1_ofHeader_18 ?_
      refine x_istore_n (ls' := [_, _, _]) dX1_ofHeader_19 rfl rfl ?_
      refine x_iinc (v := l2 + (-1)) (ls' := [_, _, _]) dX1_ofHeader_20 rfl rfl rfl rfl ?_
      refine x_goto (tgt := 5) dX1_ofHeader_23 (by decide) ?_
      show V yX1_ofHeader cX1_ofHeader (some .int) 1 N (0, 0) 5 [some (.int l0), some (.int ((q2 ^^^ ((xus l0 l2) &&& 1)))), some (.int ((l2 + (-1))))] [] (xof s0 []) _
      exact ih ((q2 ^^^ ((xus l0 l2) &&& 1))) ((l2 + (-1))) _ h hk
