def l_X12_phase_44_47 (n : Nat) (o44 : Nat → Int32) (a45 : Nat → Int32) (a48 : Nat → Int32) (a51 : Nat → Int32) (l1 : Int32) : Nat → (Int32) → (Nat → Int32) → Option (((Int32) × (Nat → Int32)))
  | 0, _, _ => none
  | k + 1, l2, a56 => (if (o44 6) ≤ l2 then (some (l2, a56)) else (Option.bind (f_X12_looksRight_44 n o44 a48 l2) (fun q7 => (if q7 = 0 then (l_X12_phase_44_47 n o44 a45 a48 a51 l1 k ((l2 + 1)) a56) else (Option.bind (f_X12_cellLong_44 o44 a45) (fun q9 => (bif xnz q9 then (bif xin ((l2 - (a51 0)) - (l2 - (a51 0)) / q9 * q9) 424 then (bif xin ((l2 - (a51 0)) - (l2 - (a51 0)) / q9 * q9) 424 then (l_X12_phase_44_47 n o44 a45 a48 a51 l1 k ((l2 + 1)) (upd a56 ((Int32.toNatClampNeg ((l2 - (a51 0)) - (l2 - (a51 0)) / q9 * q9))) (((a56 (Int32.toNatClampNeg ((l2 - (a51 0)) - (l2 - (a51 0)) / q9 * q9))) + 1)))) else none) else none) else none)))))))
set_option maxRecDepth 100000 in
set_option maxHeartbeats 400000 in
theorem lv_X12_phase_44_47 (s0 : XW) (n : Nat) (o44 : Nat → Int32) (a45 : Nat → Int32) (a48 : Nat → Int32) (a51 : Nat → Int32) (l1 : Int32) (Q : Nat → Option Value → XW → Prop) : ∀ (k : Nat) (l2 : Int32) (a56 : Nat → Int32) (o : ((Int32) × (Nat → Int32))), l_X12_phase_44_47 n o44 a45 a48 a51 l1 k l2 a56 = some o → (V yX12_phase cX12_phase (some .int) 3 61 (0, 0) 91 [some (.ref 44), some (.int l1), none, none] [] (xof s0 [W_44 o44, W_45 a45, W_48 a48, W_51 a51, W_56 o.2]) Q) → V yX12_phase cX12_phase (some .int) 3 61 (0, 0) 47 [some (.ref 44), some (.int l1), some (.int l2), none] [] (xof s0 [W_44 o44, W_45 a45, W_48 a48, W_51 a51, W_56 a56]) Q := by
  intro k
  induction k with
  | zero =>
    intro _ _ _ h
    simp [l_X12_phase_44_47] at h
  | succ k ih =>
    intro l2 a56 o h hk
    rw [l_X12_phase_44_47] at h
    refine x_iload_n dX12_phase_47 rfl ?_
    refine x_aload_n dX12_phase_48 rfl ?_
    refine g_X12_64 rfl dX12_phase_49 (by decide) rfl rfl ?_
    refine x_icmp_ge (tgt := 91) dX12_phase_52 (by decide) (fun c6 => ?_) (fun c6 => ?_)
    · replace h := xif_p c6 h
      refine V.drop1 (i := 2) (ls' := [_, _, _, _]) rfl ?_
      show V yX12_phase cX12_phase (some .int) 3 61 (0, 0) 91 [some (.ref 44), some (.int l1), none, none] [] (xof s0 [W_44 o44, W_45 a45, W_48 a48, W_51 a51, W_56 a56]) _
      cases h
      exact hk
    · replace h := xif_n c6 h
      refine x_aload_n dX12_phase_55 rfl ?_
      refine x_iload_n dX12_phase_56 rfl ?_
      obtain ⟨q7, hq7, h⟩ := Option.bind_eq_some_iff.mp h
      refine y_callVi (L' := [(44, _), (45, _), (48, _), (51, _), (56, _)]) mi_X12_looksRight ml_X12_221 im_X12_looksRight se_X12_looksRight (rfl : vwCl[11]? = _) dX12_phase_57 (fun s1 => v_X12_looksRight_44 s1 n _ _ _ q7 hq7) (by decide) rfl (Nat.le_of_ble_eq_true rfl) rfl (by decide) (Nat.le_of_ble_eq_true rfl) rfl rfl rfl rfl ?_
      refine x_if_eq (tgt := 85) dX12_phase_60 (by decide) (fun c8 => ?_) (fun c8 => ?_)
      · replace h := xif_p c8 h
        refine x_iinc (v := l2 + 1) (ls' := [_, _, _, _]) dX12_phase_85 rfl rfl rfl rfl ?_
        refine x_goto (tgt := 47) dX12_phase_88 (by decide) ?_
        show V yX12_phase cX12_phase (some .int) 3 61 (0, 0) 47 [some (.ref 44), some (.int l1), some (.int ((l2 + 1))), none] [] (xof s0 [W_44 o44, W_45 a45, W_48 a48, W_51 a51, W_56 a56]) _
        exact ih ((l2 + 1)) a56 _ h hk
      · replace h := xif_n c8 h
        refine x_aload_n dX12_phase_63 rfl ?_
        refine g_X12_48 rfl dX12_phase_64 (by decide) rfl rfl ?_
        refine x_iload_n dX12_phase_67 rfl ?_
        refine x_aload_n dX12_phase_68 rfl ?_
        refine g_X12_32 rfl dX12_phase_69 (by decide) rfl rfl ?_
        refine x_iconst (v := 0) dX12_phase_72 (by decide) ?_
        refine x_ialdK (jn := 0) (v := (a51 0)) dX12_phase_73 (by decide) rfl (xin_ok (by decide)) (by decide) rfl ?_
        refine x_isub dX12_phase_74 ?_
        refine x_aload_n dX12_phase_75 rfl ?_
        obtain ⟨q9, hq9, h⟩ := Option.bind_eq_some_iff.mp h
        refine y_callVi (L' := [(44, _), (45, _), (48, _), (51, _), (56, _)]) mi_X12_cellLong ml_X12_115 im_X12_cellLong se_X12_cellLong (rfl : vwCl[11]? = _) dX12_phase_76 (fun s1 => v_X12_cellLong_44 s1 _ _ q9 hq9) (by decide) rfl (Nat.le_of_ble_eq_true rfl) rfl (by decide) (Nat.le_of_ble_eq_true rfl) rfl rfl rfl rfl ?_
        obtain ⟨c10, h⟩ := xck h
        refine x_irem dX12_phase_79 (xnz_ok c10) ?_
        refine x_dup2 dX12_phase_80 rfl rfl ?_
        obtain ⟨c11, h⟩ := xck h
        refine x_ialdK (jn := (Int32.toNatClampNeg ((l2 - (a51 0)) - (l2 - (a51 0)) / q9 * q9))) (v := (a56 (Int32.toNatClampNeg ((l2 - (a51 0)) - (l2 - (a51 0)) / q9 * q9)))) dX12_phase_81 (by decide) rfl (xin_ok c11) rfl rfl ?_
        refine x_iconst (v := 1) dX12_phase_82 (by decide) ?_
        refine x_iadd dX12_phase_83 ?_
        obtain ⟨c12, h⟩ := xck h
        refine x_iastK (jn := (Int32.toNatClampNeg ((l2 - (a51 0)) - (l2 - (a51 0)) / q9 * q9))) (L' := [(44, _), (45, _), (48, _), (51, _), (56, _)]) dX12_phase_84 (by decide) rfl (xin_ok c12) rfl rfl ?_
        refine x_iinc (v := l2 + 1) (ls' := [_, _, _, _]) dX12_phase_85 rfl rfl rfl rfl ?_
        refine x_goto (tgt := 47) dX12_phase_88 (by decide) ?_
        show V yX12_phase cX12_phase (some .int) 3 61 (0, 0) 47 [some (.ref 44), some (.int l1), some (.int ((l2 + 1))), none] [] (xof s0 [W_44 o44, W_45 a45, W_48 a48, W_51 a51, W_56 (upd a56 ((Int32.toNatClampNeg ((l2 - (a51 0)) - (l2 - (a51 0)) / q9 * q9))) (((a56 (Int32.toNatClampNeg ((l2 - (a51 0)) - (l2 - (a51 0)) / q9 * q9))) + 1)))]) _
        exact ih ((l2 + 1)) (upd a56 ((Int32.toNatClampNeg ((l2 - (a51 0)) - (l2 - (a51 0)) / q9 * q9))) (((a56 (Int32.toNatClampNeg ((l2 - (a51 0)) - (l2 - (a51 0)) / q9 * q9))) + 1))) _ h hk
def l_X12_phase_44_95 (n : Nat) (o44 : Nat → Int32) (a45 : Nat → Int32) (a48 : Nat → Int32) (a51 : Nat → Int32) (a56 : Nat → Int32) (l1 : Int32) : Nat → (Int32) → (Int32) → Option (((Int32) × (Int32)))
  | 0, _, _ => none
  | k + 1, l2, l3 => (if 424 ≤ l3 then (some (l2, l3)) else (bif xin l3 424 then (bif xin l2 424 then (if (a56 (Int32.toNatClampNeg l3)) ≤ (a56 (Int32.toNatClampNeg l2)) then (l_X12_phase_44_95 n o44 a45 a48 a51 a56 l1 k l2 ((l3 + 1))) else (l_X12_phase_44_95 n o44 a45 a48 a51 a56 l1 k l3 ((l3 + 1)))) else none) else none))
set_option maxRecDepth 100000 in
set_option maxHeartbeats 400000 in
theorem lv_X12_phase_44_95 (s0 : XW) (n : Nat) (o44 : Nat → Int32) (a45 : Nat → Int32) (a48 : Nat → Int32) (a51 : Nat → Int32) (a56 : Nat → Int32) (l1 : Int32) (Q : Nat → Option Value → XW → Prop) : ∀ (k : Nat) (l2 : Int32) (l3 : Int32) (o : ((Int32) × (Int32))), l_X12_phase_44_95 n o44 a45 a48 a51 a56 l1 k l2 l3 = some o → (V yX12_phase cX12_phase (some .int) 3 61 (0, 0) 129 [some (.ref 44), some (.int l1), some (.int o.1), none] [] (xof s0 [W_44 o44, W_45 a45, W_48 a48, W_51 a51, W_56 a56]) Q) → V yX12_phase cX12_phase (some .int) 3 61 (0, 0) 95 [some (.ref 44), some (.int l1), some (.int l2), some (.int l3)] [] (xof s0 [W_44 o44, W_45 a45, W_48 a48, W_51 a51, W_56 a56]) Q := by
  intro k
  induction k with
  | zero =>
    intro _ _ _ h
    simp [l_X12_phase_44_95] at h
  | succ k ih =>
    intro l2 l3 o h hk
    rw [l_X12_phase_44_95] at h
    refine x_iload_n dX12_phase_95 rfl ?_
    refine x_sipush (v := 424) dX12_phase_96 (by decide) ?_
    refine x_icmp_ge (tgt := 129) dX12_phase_99 (by decide) (fun c14 => ?_) (fun c14 => ?_)
    · replace h := xif_p c14 h
      refine V.drop1 (i := 3) (ls' := [_, _, _, _]) rfl ?_
      show V yX12_phase cX12_phase (some .int) 3 61 (0, 0) 129 [some (.ref 44), some (.int l1), some (.int l2), none] [] (xof s0 [W_44 o44, W_45 a45, W_48 a48, W_51 a51, W_56 a56]) _
      cases h
      exact hk
    · replace h := xif_n c14 h
      refine x_aload_n dX12_phase_102 rfl ?_
      refine g_X12_48 rfl dX12_phase_103 (by decide) rfl rfl ?_
      refine x_iload_n dX12_phase_106 rfl ?_
      obtain ⟨c15, h⟩ := xck h
      refine x_ialdK (jn := (Int32.toNatClampNeg l3)) (v := (a56 (Int32.toNatClampNeg l3))) dX12_phase_107 (by decide) rfl (xin_ok c15) rfl rfl ?_
      refine x_aload_n dX12_phase_108 rfl ?_
      refine g_X12_48 rfl dX12_phase_109 (by decide) rfl rfl ?_
      refine x_iload_n dX12_phase_112 rfl ?_
      obtain ⟨c16, h⟩ := xck h
      refine x_ialdK (jn := (Int32.toNatClampNeg l2)) (v := (a56 (Int32.toNatClampNeg l2))) dX12_phase_113 (by decide) rfl (xin_ok c16) rfl rfl ?_
      refine x_icmp_le (tgt := 121) dX12_phase_114 (by decide) (fun c17 => ?_) (fun c17 => ?_)
      · replace h := xif_p c17 h
        refine x_iload_n dX12_phase_121 rfl ?_
        refine x_istore_n (ls' := [_, _, _, _]) dX12_phase_122 rfl rfl ?_
        refine x_iinc (v := l3 + 1) (ls' := [_, _, _, _]) dX12_phase_123 rfl rfl rfl rfl ?_
        refine x_goto (tgt := 95) dX12_phase_126 (by decide) ?_
        show V yX12_phase cX12_phase (some .int) 3 61 (0, 0) 95 [some (.ref 44), some (.int l1), some (.int l2), some (.int ((l3 + 1)))] [] (xof s0 [W_44 o44, W_45 a45, W_48 a48, W_51 a51, W_56 a56]) _
        exact ih l2 ((l3 + 1)) _ h hk
      · replace h := xif_n c17 h
        refine x_iload_n dX12_phase_117 rfl ?_
        refine x_goto (tgt := 122) dX12_phase_118 (by decide) ?_
        refine x_istore_n (ls' := [_, _, _, _]) dX12_phase_122 rfl rfl ?_
        refine x_iinc (v := l3 + 1) (ls' := [_, _, _, _]) dX12_phase_123 rfl rfl rfl rfl ?_
        refine x_goto (tgt := 95) dX12_phase_126 (by decide) ?_
        show V yX12_phase cX12_phase (some .int) 3 61 (0, 0) 95 [some (.ref 44), some (.int l1), some (.int l3), some (.int ((l3 + 1)))] [] (xof s0 [W_44 o44, W_45 a45, W_48 a48, W_51 a51, W_56 a56]) _
        exact ih l3 ((l3 + 1)) _ h hk
def f_X12_phase_44 (n : Nat) (o44 : Nat → Int32) (a45 : Nat → Int32) (a48 : Nat → Int32) (a51 : Nat → Int32) (a56 : Nat → Int32) (p1 : Int32) : Option (((Int32) × (Nat → Int32) × (Nat → Int32))) := (Option.bind (f_X12_isIn ((Int32.toInt64 p1)) 0 1) (fun q1 => (if q1 = 0 then (some ((-2), upd o44 0 0, a56)) else (Option.bind (l_X12_phase_44_20 n (upd o44 0 0) a45 a48 a51 p1 n 0 a56) (fun u5 => (Option.bind (l_X12_phase_44_47 n (upd o44 0 0) a45 a48 a51 p1 n ((a51 0)) u5.2) (fun u13 => (Option.bind (l_X12_phase_44_95 n (upd o44 0 0) a45 a48 a51 u13.2 p1 n 0 1) (fun u18 => (bif xin u18.1 424 then (if (u13.2 (Int32.toNatClampNeg u18.1)) = 0 then (some ((-1), upd o44 0 0, u13.2)) else (if p1 = 0 then (some (u18.1, upd o44 0 0, u13.2)) else (bif xin u18.1 424 then (some ((u13.2 (Int32.toNatClampNeg u18.1)), upd o44 0 0, u13.2)) else none))) else none))))))))))
set_option maxRecDepth 100000 in
set_option maxHeartbeats 400000 in
theorem v_X12_phase_44 (s0 : XW) (n : Nat) (o44 : Nat → Int32) (a45 : Nat → Int32) (a48 : Nat → Int32) (a51 : Nat → Int32) (a56 : Nat → Int32) (p1 : Int32) (q : ((Int32) × (Nat → Int32) × (Nat → Int32))) (h : f_X12_phase_44 n o44 a45 a48 a51 a56 p1 = some q) : C_X12_phase 3 61 [.ref 44, .int p1] (xof s0 [W_44 o44, W_45 a45, W_48 a48, W_51 a51, W_56 a56]) (some (.int q.1)) (xof s0 [W_44 q.2.1, W_45 a45, W_48 a48, W_51 a51, W_56 q.2.2]) := by
  unfold f_X12_phase_44 at h
  show V yX12_phase cX12_phase (some .int) 3 61 (0, 0) 0 [some (.ref 44), some (.int p1), none, none] [] (xof s0 [W_44 o44, W_45 a45, W_48 a48, W_51 a51, W_56 a56]) _
  refine x_aload_n dX12_phase_0 rfl ?_
  refine x_iconst (v := 0) dX12_phase_1 (by decide) ?_
  refine p_X12_1 (fs' := [_, _, _, _, _, _, _, _, _, _, _, _, _, _, _, _, _, _, _, _, _, _]) (L' := [(44, _), (45, _), (48, _), (51, _), (56, _)]) rfl dX12_phase_2 (by decide) rfl (Nat.le_of_ble_eq_true rfl) rfl rfl ?_
  refine x_iload_n dX12_phase_5 rfl ?_
  refine x_i2l dX12_phase_6 ?_
  refine x_lconst (v := 0) dX12_phase_7 (by decide) ?_
  refine x_lconst (v := 1) dX12_phase_8 (by decide) ?_
  obtain ⟨q1, hq1, h⟩ := Option.bind_eq_some_iff.mp h
  refine y_callSi (L' := [(44, _), (45, _), (48, _), (51, _), (56, _)]) mi_X12_isIn ml_X12_77 st_X12_isIn dX12_phase_9 (fun s1 => v_X12_isIn 61 s1 _ _ _ q1 hq1) (Nat.le_of_ble_eq_true rfl) rfl (by decide) (Nat.le_of_ble_eq_true rfl) rfl rfl rfl rfl ?_
  refine x_if_ne (tgt := 18) dX12_phase_12 (by decide) (fun c2 => ?_) (fun c2 => ?_)
  · replace h := xif_n c2 h
    refine x_iconst (v := 0) dX12_phase_18 (by decide) ?_
    refine x_istore_n (ls' := [_, _, _, _]) dX12_phase_19 rfl rfl ?_
    obtain ⟨u5, hu5, h⟩ := Option.bind_eq_some_iff.mp h
    show V yX12_phase cX12_phase (some .int) 3 61 (0, 0) 20 [some (.ref 44), some (.int p1), some (.int 0), none] [] (xof s0 [W_44 (upd o44 0 0), W_45 a45, W_48 a48, W_51 a51, W_56 a56]) _
    refine lv_X12_phase_44_20 s0 _ (upd o44 0 0) a45 a48 a51 p1 _ n 0 a56 _ hu5 ?_
    refine x_aload_n dX12_phase_40 rfl ?_
    refine g_X12_32 rfl dX12_phase_41 (by decide) rfl rfl ?_
    refine x_iconst (v := 0) dX12_phase_44 (by decide) ?_
    refine x_ialdK (jn := 0) (v := (a51 0)) dX12_phase_45 (by decide) rfl (xin_ok (by decide)) (by decide) rfl ?_
    refine x_istore_n (ls' := [_, _, _, _]) dX12_phase_46 rfl rfl ?_
    obtain ⟨u13, hu13, h⟩ := Option.bind_eq_some_iff.mp h
    show V yX12_phase cX12_phase (some .int) 3 61 (0, 0) 47 [some (.ref 44), some (.int p1), some (.int ((a51 0))), none] [] (xof s0 [W_44 (upd o44 0 0), W_45 a45, W_48 a48, W_51 a51, W_56 u5.2]) _
    refine lv_X12_phase_44_47 s0 _ (upd o44 0 0) a45 a48 a51 p1 _ n ((a51 0)) u5.2 _ hu13 ?_
    refine x_iconst (v := 0) dX12_phase_91 (by decide) ?_
    refine x_istore_n (ls' := [_, _, _, _]) dX12_phase_92 rfl rfl ?_
    refine x_iconst (v := 1) dX12_phase_93 (by decide) ?_
    refine x_istore_n (ls' := [_, _, _, _]) dX12_phase_94 rfl rfl ?_
    obtain ⟨u18, hu18, h⟩ := Option.bind_eq_some_iff.mp h
    show V yX12_phase cX12_phase (some .int) 3 61 (0, 0) 95 [some (.ref 44), some (.int p1), some (.int 0), some (.int 1)] [] (xof s0 [W_44 (upd o44 0 0), W_45 a45, W_48 a48, W_51 a51, W_56 u13.2]) _
    refine lv_X12_phase_44_95 s0 _ (upd o44 0 0) a45 a48 a51 u13.2 p1 _ n 0 1 _ hu18 ?_
    refine x_aload_n dX12_phase_129 rfl ?_
    refine g_X12_48 rfl dX12_phase_130 (by decide) rfl rfl ?_
    refine x_iload_n dX12_phase_133 rfl ?_
    obtain ⟨c19, h⟩ := xck h
    refine x_ialdK (jn := (Int32.toNatClampNeg u18.1)) (v := (u13.2 (Int32.toNatClampNeg u18.1))) dX12_phase_134 (by decide) rfl (xin_ok c19) rfl rfl ?_
    refine x_if_ne (tgt := 142) dX12_phase_135 (by decide) (fun c20 => ?_) (fun c20 => ?_)
    · replace h := xif_n c20 h
      refine x_iload_n dX12_phase_142 rfl ?_
      refine x_if_ne (tgt := 150) dX12_phase_143 (by decide) (fun c21 => ?_) (fun c21 => ?_)
      · replace h := xif_n c21 h
        refine x_aload_n dX12_phase_150 rfl ?_
        refine g_X12_48 rfl dX12_phase_151 (by decide) rfl rfl ?_
        refine x_iload_n dX12_phase_154 rfl ?_
        obtain ⟨c22, h⟩ := xck h
        refine x_ialdK (jn := (Int32.toNatClampNeg u18.1)) (v := (u13.2 (Int32.toNatClampNeg u18.1))) dX12_phase_155 (by decide) rfl (xin_ok c22) rfl rfl ?_
        cases h
        exact x_iret dX12_phase_156 ⟨rfl, rfl, rfl⟩
      · replace h := xif_p c21 h
        refine x_iload_n dX12_phase_146 rfl ?_
        refine x_goto (tgt := 156) dX12_phase_147 (by decide) ?_
        cases h
        exact x_iret dX12_phase_156 ⟨rfl, rfl, rfl⟩
    · replace h := xif_p c20 h
      refine x_iconst (v := -1) dX12_phase_138 (by decide) ?_
      refine x_goto (tgt := 156) dX12_phase_139 (by decide) ?_
      cases h
      exact x_iret dX12_phase_156 ⟨rfl, rfl, rfl⟩
  · replace h := xif_p c2 h
    refine x_bipush (v := -2) dX12_phase_15 (by decide) ?_
    cases h
    exact x_iret dX12_phase_17 ⟨rfl, rfl, rfl⟩
def l_X12_tuned_44_40 (n : Nat) (o44 : Nat → Int32) (a46 : Nat → Int32) (a47 : Nat → Int32) (a48 : Nat → Int32) (a49 : Nat → Int32) (l1 : Int32) (l2 : Int32) : Nat → (Int32) → (Int32) → (Int32) → (Nat → Int32) → (Nat → Int32) → (Nat → Int32) → (Nat → Int32) → (Nat → Int32) → Option (((Int32) × (Int32) × (Int32) × (Nat → Int32) × (Nat → Int32) × (Nat → Int32) × (Nat → Int32) × (Nat → Int32)))
  | 0, _, _, _, _, _, _, _, _ => none
  | k + 1, l3, l4, l5, a45, a51, a52, a53, a54 => (bif xin l1 7 then (if (a47 (Int32.toNatClampNeg l1)) < l5 then (some (l3, l4, l5, a45, a51, a52, a53, a54)) else (bif xin l1 7 then (Option.bind (f_X12_opens_44 n o44 a51 a52) (fun q8 => (Option.bind (f_X12_takes_44 n o44 (upd a45 ((Int32.toNatClampNeg l1)) l5) a48 a49 a51 a53 a54 9600) (fun q9 => (Option.bind (f_X12_closes_44 n o44 q9.1 q8) (fun q10 => (if l3 = (-1) then (l_X12_tuned_44_40 n o44 a46 a47 a48 a49 l1 l2 k l5 (((q9.1 16) - (2 * (q9.1 22)))) ((l5 + 1)) (upd a45 ((Int32.toNatClampNeg l1)) l5) q10 q8 q9.2.1 q9.2.2) else (if l4 < ((q9.1 16) - (2 * (q9.1 22))) then (l_X12_tuned_44_40 n o44 a46 a47 a48 a49 l1 l2 k l5 (((q9.1 16) - (2 * (q9.1 22)))) ((l5 + 1)) (upd a45 ((Int32.toNatClampNeg l1)) l5) q10 q8 q9.2.1 q9.2.2) else (l_X12_tuned_44_40 n o44 a46 a47 a48 a49 l1 l2 k l3 l4 ((l5 + 1)) (upd a45 ((Int32.toNatClampNeg l1)) l5) q10 q8 q9.2.1 q9.2.2))))))))) else none)) else none)
set_option maxRecDepth 100000 in
set_option maxHeartbeats 400000 in
theorem lv_X12_tuned_44_40 (s0 : XW) (n : Nat) (o44 : Nat → Int32) (a46 : Nat → Int32) (a47 : Nat → Int32) (a48 : Nat → Int32) (a49 : Nat → Int32) (l1 : Int32) (l2 : Int32) (Q : Nat → Option Value → XW → Prop) : ∀ (k : Nat) (l3 : Int32) (l4 : Int32) (l5 : Int32) (a45 : Nat → Int32) (a51 : Nat → Int32) (a52 : Nat → Int32) (a53 : Nat → Int32) (a54 : Nat → Int32) (o : ((Int32) × (Int32) × (Int32) × (Nat → Int32) × (Nat → Int32) × (Nat → Int32) × (Nat → Int32) × (Nat → Int32))), l_X12_tuned_44_40 n o44 a46 a47 a48 a49 l1 l2 k l3 l4 l5 a45 a51 a52 a53 a54 = some o → (V yX12_tuned cX12_tuned (some .int) 7 61 (0, 0) 121 [some (.ref 44), some (.int l1), some (.int l2), some (.int o.1), none, none, none] [] (xof s0 [W_44 o44, W_45 o.2.2.2.1, W_46 a46, W_47 a47, W_48 a48, W_49 a49, W_51 o.2.2.2.2.1, W_52 o.2.2.2.2.2.1, W_53 o.2.2.2.2.2.2.1, W_54 o.2.2.2.2.2.2.2]) Q) → V yX12_tuned cX12_tuned (some .int) 7 61 (0, 0) 40 [some (.ref 44), some (.int l1), some (.int l2), some (.int l3), some (.int l4), some (.int l5), none] [] (xof s0 [W_44 o44, W_45 a45, W_46 a46, W_47 a47, W_48 a48, W_49 a49, W_51 a51, W_52 a52, W_53 a53, W_54 a54]) Q := by
  intro k
  induction k with
  | zero =>
    intro _ _ _ _ _ _ _ _ _ h
    simp [l_X12_tuned_44_40] at h
  | succ k ih =>
    intro l3 l4 l5 a45 a51 a52 a53 a54 o h hk
    rw [l_X12_tuned_44_40] at h
    refine x_iload dX12_tuned_40 rfl ?_
    refine x_aload_n dX12_tuned_42 rfl ?_
    refine g_X12_20 rfl dX12_tuned_43 (by decide) rfl rfl ?_
    refine x_iload_n dX12_tuned_46 rfl ?_
    obtain ⟨c5, h⟩ := xck h
    refine x_ialdK (jn := (Int32.toNatClampNeg l1)) (v := (a47 (Int32.toNatClampNeg l1))) dX12_tuned_47 (by decide) rfl (xin_ok c5) rfl rfl ?_
    refine x_icmp_gt (tgt := 121) dX12_tuned_48 (by decide) (fun c6 => ?_) (fun c6 => ?_)
    · replace h := xif_p c6 h
      refine V.drop1 (i := 4) (ls' := [_, _, _, _, _, _, _]) rfl ?_
      refine V.drop1 (i := 5) (ls' := [_, _, _, _, _, _, _]) rfl ?_
      show V yX12_tuned cX12_tuned (some .int) 7 61 (0, 0) 121 [some (.ref 44), some (.int l1), some (.int l2), some (.int l3), none, none, none] [] (xof s0 [W_44 o44, W_45 a45, W_46 a46, W_47 a47, W_48 a48, W_49 a49, W_51 a51, W_52 a52, W_53 a53, W_54 a54]) _
      cases h
      exact hk
    · replace h := xif_n c6 h
      refine x_aload_n dX12_tuned_51 rfl ?_
      refine g_X12_13 rfl dX12_tuned_52 (by decide) rfl rfl ?_
      refine x_iload_n dX12_tuned_55 rfl ?_
      refine x_iload dX12_tuned_56 rfl ?_
      obtain ⟨c7, h⟩ := xck h
      refine x_iastK (jn := (Int32.toNatClampNeg l1)) (L' := [(44, _), (45, _), (46, _), (47, _), (48, _), (49, _), (51, _), (52, _), (53, _), (54, _)]) dX12_tuned_58 (by decide) rfl (xin_ok c7) rfl rfl ?_
      refine x_aload_n dX12_tuned_59 rfl ?_
      obtain ⟨q8, hq8, h⟩ := Option.bind_eq_some_iff.mp h
      refine y_callVv (L' := [(44, _), (45, _), (46, _), (47, _), (48, _), (49, _), (51, _), (52, _), (53, _), (54, _)]) mi_X12_opens ml_X12_210 im_X12_opens se_X12_opens (rfl : vwCl[11]? = _) dX12_tuned_60 (fun s1 => v_X12_opens_44 s1 n _ _ _ q8 hq8) (by decide) rfl (Nat.le_of_ble_eq_true rfl) rfl (by decide) (Nat.le_of_ble_eq_true rfl) rfl rfl rfl rfl ?_
      refine x_aload_n dX12_tuned_63 rfl ?_
      refine x_sipush (v := 9600) dX12_tuned_64 (by decide) ?_
      obtain ⟨q9, hq9, h⟩ := Option.bind_eq_some_iff.mp h
      refine y_callVv (L' := [(44, _), (45, _), (46, _), (47, _), (48, _), (49, _), (51, _), (52, _), (53, _), (54, _)]) mi_X12_takes ml_X12_188 im_X12_takes se_X12_takes (rfl : vwCl[11]? = _) dX12_tuned_67 (fun s1 => v_X12_takes_44 s1 n _ _ _ _ _ _ _ _ q9 hq9) (by decide) rfl (Nat.le_of_ble_eq_true rfl) rfl (by decide) (Nat.le_of_ble_eq_true rfl) rfl rfl rfl rfl ?_
      refine x_aload_n dX12_tuned_70 rfl ?_
      refine g_X12_32 rfl dX12_tuned_71 (by decide) rfl rfl ?_
      refine x_bipush (v := 16) dX12_tuned_74 (by decide) ?_
      refine x_ialdK (jn := 16) (v := (q9.1 16)) dX12_tuned_76 (by decide) rfl (xin_ok (by decide)) (by decide) rfl ?_
      refine x_iconst (v := 2) dX12_tuned_77 (by decide) ?_
      refine x_aload_n dX12_tuned_78 rfl ?_
      refine g_X12_32 rfl dX12_tuned_79 (by decide) rfl rfl ?_
      refine x_bipush (v := 22) dX12_tuned_82 (by decide) ?_
      refine x_ialdK (jn := 22) (v := (q9.1 22)) dX12_tuned_84 (by decide) rfl (xin_ok (by decide)) (by decide) rfl ?_
      refine x_imul dX12_tuned_85 ?_
      refine x_isub dX12_tuned_86 ?_
      refine x_istore (ls' := [_, _, _, _, _, _, _]) dX12_tuned_87 rfl rfl ?_
      refine x_aload_n dX12_tuned_89 rfl ?_
      obtain ⟨q10, hq10, h⟩ := Option.bind_eq_some_iff.mp h
      refine y_callVv (L' := [(44, _), (45, _), (46, _), (47, _), (48, _), (49, _), (51, _), (52, _), (53, _), (54, _)]) mi_X12_closes ml_X12_213 im_X12_closes se_X12_closes (rfl : vwCl[11]? = _) dX12_tuned_90 (fun s1 => v_X12_closes_44 s1 n _ _ _ q10 hq10) (by decide) rfl (Nat.le_of_ble_eq_true rfl) rfl (by decide) (Nat.le_of_ble_eq_true rfl) rfl rfl rfl rfl ?_
      refine x_iload_n dX12_tuned_93 rfl ?_
      refine x_iconst (v := -1) dX12_tuned_94 (by decide) ?_
      refine x_icmp_eq (tgt := 108) dX12_tuned_95 (by decide) (fun c11 => ?_) (fun c11 => ?_)
      · replace h := xif_p c11 h
        refine x_iload dX12_tuned_108 rfl ?_
        refine x_istore_n (ls' := [_, _, _, _, _, _, _]) dX12_tuned_110 rfl rfl ?_
        refine x_iload dX12_tuned_111 rfl ?_
        refine x_istore (ls' := [_, _, _, _, _, _, _]) dX12_tuned_113 rfl rfl ?_
        refine x_iinc (v := l5 + 1) (ls' := [_, _, _, _, _, _, _]) dX12_tuned_115 rfl rfl rfl rfl ?_
        refine x_goto (tgt := 40) dX12_tuned_118 (by decide) ?_
        refine V.drop1 (i := 6) (ls' := [_, _, _, _, _, _, _]) rfl ?_
        show V yX12_tuned cX12_tuned (some .int) 7 61 (0, 0) 40 [some (.ref 44), some (.int l1), some (.int l2), some (.int l5), some (.int (((q9.1 16) - (2 * (q9.1 22))))), some (.int ((l5 + 1))), none] [] (xof s0 [W_44 o44, W_45 (upd a45 ((Int32.toNatClampNeg l1)) l5), W_46 a46, W_47 a47, W_48 a48, W_49 a49, W_51 q10, W_52 q8, W_53 q9.2.1, W_54 q9.2.2]) _
        exact ih l5 (((q9.1 16) - (2 * (q9.1 22)))) ((l5 + 1)) (upd a45 ((Int32.toNatClampNeg l1)) l5) q10 q8 q9.2.1 q9.2.2 _ h hk
      · replace h := xif_n c11 h
        refine x_iload dX12_tuned_98 rfl ?_
        refine x_iload dX12_tuned_100 rfl ?_
        refine x_icmp_gt (tgt := 108) dX12_tuned_102 (by decide) (fun c12 => ?_) (fun c12 => ?_)
        · replace h := xif_p c12 h
          refine x_iload dX12_tuned_108 rfl ?_
          refine x_istore_n (ls' := [_, _, _, _, _, _, _]) dX12_tuned_110 rfl rfl ?_
          refine x_iload dX12_tuned_111 rfl ?_
          refine x_istore (ls' := [_, _, _, _, _, _, _]) dX12_tuned_113 rfl rfl ?_
          refine x_iinc (v := l5 + 1) (ls' := [_, _, _, _, _, _, _]) dX12_tuned_115 rfl rfl rfl rfl ?_
          refine x_goto (tgt := 40) dX12_tuned_118 (by decide) ?_
          refine V.drop1 (i := 6) (ls' := [_, _, _, _, _, _, _]) rfl ?_
          show V yX12_tuned cX12_tuned (some .int) 7 61 (0, 0) 40 [some (.ref 44), some (.int l1), some (.int l2), some (.int l5), some (.int (((q9.1 16) - (2 * (q9.1 22))))), some (.int ((l5 + 1))), none] [] (xof s0 [W_44 o44, W_45 (upd a45 ((Int32.toNatClampNeg l1)) l5), W_46 a46, W_47 a47, W_48 a48, W_49 a49, W_51 q10, W_52 q8, W_53 q9.2.1, W_54 q9.2.2]) _
          exact ih l5 (((q9.1 16) - (2 * (q9.1 22)))) ((l5 + 1)) (upd a45 ((Int32.toNatClampNeg l1)) l5) q10 q8 q9.2.1 q9.2.2 _ h hk
        · replace h := xif_n c12 h
          refine x_goto (tgt := 115) dX12_tuned_105 (by decide) ?_
          refine x_iinc (v := l5 + 1) (ls' := [_, _, _, _, _, _, _]) dX12_tuned_115 rfl rfl rfl rfl ?_
          refine x_goto (tgt := 40) dX12_tuned_118 (by decide) ?_
          refine V.drop1 (i := 6) (ls' := [_, _, _, _, _, _, _]) rfl ?_
          show V yX12_tuned cX12_tuned (some .int) 7 61 (0, 0) 40 [some (.ref 44), some (.int l1), some (.int l2), some (.int l3), some (.int l4), some (.int ((l5 + 1))), none] [] (xof s0 [W_44 o44, W_45 (upd a45 ((Int32.toNatClampNeg l1)) l5), W_46 a46, W_47 a47, W_48 a48, W_49 a49, W_51 q10, W_52 q8, W_53 q9.2.1, W_54 q9.2.2]) _
          exact ih l3 l4 ((l5 + 1)) (upd a45 ((Int32.toNatClampNeg l1)) l5) q10 q8 q9.2.1 q9.2.2 _ h hk
def f_X12_tuned_44 (n : Nat) (o44 : Nat → Int32) (a45 : Nat → Int32) (a46 : Nat → Int32) (a47 : Nat → Int32) (a48 : Nat → Int32) (a49 : Nat → Int32) (a51 : Nat → Int32) (a52 : Nat → Int32) (a53 : Nat → Int32) (a54 : Nat → Int32) (p1 : Int32) : Option (((Int32) × (Nat → Int32) × (Nat → Int32) × (Nat → Int32) × (Nat → Int32) × (Nat → Int32) × (Nat → Int32))) := (Option.bind (f_X12_isIn ((Int32.toInt64 p1)) 1 3) (fun q1 => (if q1 = 0 then (some ((-2), upd o44 0 0, a45, a51, a52, a53, a54)) else (bif xin p1 7 then (bif xin p1 7 then (Option.bind (l_X12_tuned_44_40 n (upd o44 0 0) a46 a47 a48 a49 p1 ((a45 (Int32.toNatClampNeg p1))) n ((-1)) 0 ((a46 (Int32.toNatClampNeg p1))) a45 a51 a52 a53 a54) (fun u13 => (bif xin p1 7 then (some (u13.1, upd o44 0 0, upd u13.2.2.2.1 ((Int32.toNatClampNeg p1)) ((a45 (Int32.toNatClampNeg p1))), u13.2.2.2.2.1, u13.2.2.2.2.2.1, u13.2.2.2.2.2.2.1, u13.2.2.2.2.2.2.2)) else none))) else none) else none))))
set_option maxRecDepth 100000 in
set_option maxHeartbeats 400000 in
theorem v_X12_tuned_44 (s0 : XW) (n : Nat) (o44 : Nat → Int32) (a45 : Nat → Int32) (a46 : Nat → Int32) (a47 : Nat → Int32) (a48 : Nat → Int32) (a49 : Nat → Int32) (a51 : Nat → Int32) (a52 : Nat → Int32) (a53 : Nat → Int32) (a54 : Nat → Int32) (p1 : Int32) (q : ((Int32) × (Nat → Int32) × (Nat → Int32) × (Nat → Int32) × (Nat → Int32) × (Nat → Int32) × (Nat → Int32))) (h : f_X12_tuned_44 n o44 a45 a46 a47 a48 a49 a51 a52 a53 a54 p1 = some q) : C_X12_tuned 7 61 [.ref 44, .int p1] (xof s0 [W_44 o44, W_45 a45, W_46 a46, W_47 a47, W_48 a48, W_49 a49, W_51 a51, W_52 a52, W_53 a53, W_54 a54]) (some (.int q.1)) (xof s0 [W_44 q.2.1, W_45 q.2.2.1, W_46 a46, W_47 a47, W_48 a48, W_49 a49, W_51 q.2.2.2.1, W_52 q.2.2.2.2.1, W_53 q.2.2.2.2.2.1, W_54 q.2.2.2.2.2.2]) := by
  unfold f_X12_tuned_44 at h
  show V yX12_tuned cX12_tuned (some .int) 7 61 (0, 0) 0 [some (.ref 44), some (.int p1), none, none, none, none, none] [] (xof s0 [W_44 o44, W_45 a45, W_46 a46, W_47 a47, W_48 a48, W_49 a49, W_51 a51, W_52 a52, W_53 a53, W_54 a54]) _
  refine x_aload_n dX12_tuned_0 rfl ?_
  refine x_iconst (v := 0) dX12_tuned_1 (by decide) ?_
  refine p_X12_1 (fs' := [_, _, _, _, _, _, _, _, _, _, _, _, _, _, _, _, _, _, _, _, _, _]) (L' := [(44, _), (45, _), (46, _), (47, _), (48, _), (49, _), (51, _), (52, _), (53, _), (54, _)]) rfl dX12_tuned_2 (by decide) rfl (Nat.le_of_ble_eq_true rfl) rfl rfl ?_
  refine x_iload_n dX12_tuned_5 rfl ?_
  refine x_i2l dX12_tuned_6 ?_
  refine x_lconst (v := 1) dX12_tuned_7 (by decide) ?_
  refine x_ldc2 dX12_tuned_8 cn_X12_207 ?_
  obtain ⟨q1, hq1, h⟩ := Option.bind_eq_some_iff.mp h
  refine y_callSi (L' := [(44, _), (45, _), (46, _), (47, _), (48, _), (49, _), (51, _), (52, _), (53, _), (54, _)]) mi_X12_isIn ml_X12_77 st_X12_isIn dX12_tuned_11 (fun s1 => v_X12_isIn 61 s1 _ _ _ q1 hq1) (Nat.le_of_ble_eq_true rfl) rfl (by decide) (Nat.le_of_ble_eq_true rfl) rfl rfl rfl rfl ?_
  refine x_if_ne (tgt := 20) dX12_tuned_14 (by decide) (fun c2 => ?_) (fun c2 => ?_)
  · replace h := xif_n c2 h
    refine x_aload_n dX12_tuned_20 rfl ?_
    refine g_X12_13 rfl dX12_tuned_21 (by decide) rfl rfl ?_
    refine x_iload_n dX12_tuned_24 rfl ?_
    obtain ⟨c3, h⟩ := xck h
    refine x_ialdK (jn := (Int32.toNatClampNeg p1)) (v := (a45 (Int32.toNatClampNeg p1))) dX12_tuned_25 (by decide) rfl (xin_ok c3) rfl rfl ?_
    refine x_istore_n (ls' := [_, _, _, _, _, _, _]) dX12_tuned_26 rfl rfl ?_
    refine x_iconst (v := -1) dX12_tuned_27 (by decide) ?_
    refine x_istore_n (ls' := [_, _, _, _, _, _, _]) dX12_tuned_28 rfl rfl ?_
    refine x_iconst (v := 0) dX12_tuned_29 (by decide) ?_
    refine x_istore (ls' := [_, _, _, _, _, _, _]) dX12_tuned_30 rfl rfl ?_
    refine x_aload_n dX12_tuned_32 rfl ?_
    refine g_X12_17 rfl dX12_tuned_33 (by decide) rfl rfl ?_
    refine x_iload_n dX12_tuned_36 rfl ?_
    obtain ⟨c4, h⟩ := xck h
    refine x_ialdK (jn := (Int32.toNatClampNeg p1)) (v := (a46 (Int32.toNatClampNeg p1))) dX12_tuned_37 (by decide) rfl (xin_ok c4) rfl rfl ?_
    refine x_istore (ls' := [_, _, _, _, _, _, _]) dX12_tuned_38 rfl rfl ?_
    obtain ⟨u13, hu13, h⟩ := Option.bind_eq_some_iff.mp h
    show V yX12_tuned cX12_tuned (some .int) 7 61 (0, 0) 40 [some (.ref 44), some (.int p1), some (.int ((a45 (Int32.toNatClampNeg p1)))), some (.int ((-1))), some (.int 0), some (.int ((a46 (Int32.toNatClampNeg p1)))), none] [] (xof s0 [W_44 (upd o44 0 0), W_45 a45, W_46 a46, W_47 a47, W_48 a48, W_49 a49, W_51 a51, W_52 a52, W_53 a53, W_54 a54]) _
    refine lv_X12_tuned_44_40 s0 _ (upd o44 0 0) a46 a47 a48 a49 p1 ((a45 (Int32.toNatClampNeg p1))) _ n ((-1)) 0 ((a46 (Int32.toNatClampNeg p1))) a45 a51 a52 a53 a54 _ hu13 ?_
    refine x_aload_n dX12_tuned_121 rfl ?_
    refine g_X12_13 rfl dX12_tuned_122 (by decide) rfl rfl ?_
    refine x_iload_n dX12_tuned_125 rfl ?_
    refine x_iload_n dX12_tuned_126 rfl ?_
    obtain ⟨c14, h⟩ := xck h
    refine x_iastK (jn := (Int32.toNatClampNeg p1)) (L' := [(44, _), (45, _), (46, _), (47, _), (48, _), (49, _), (51, _), (52, _), (53, _), (54, _)]) dX12_tuned_127 (by decide) rfl (xin_ok c14) rfl rfl ?_
    refine x_iload_n dX12_tuned_128 rfl ?_
    cases h
    exact x_iret dX12_tuned_129 ⟨rfl, rfl, rfl⟩
  · replace h := xif_p c2 h
    refine x_bipush (v := -2) dX12_tuned_17 (by decide) ?_
    cases h
    exact x_iret dX12_tuned_19 ⟨rfl, rfl, rfl⟩
def l_X12_starts_44_78 (n : Nat) (o44 : Nat → Int32) (a45 : Nat → Int32) (a48 : Nat → Int32) (a49 : Nat → Int32) (a52 : Nat → Int32) (l1 : Int32) (l2 : Int32) (l3 : Int32) (l4 : Int32) (l5 : Int32) (l6 : Int32) : Nat → (Int32) → (Nat → Int32) → (Nat → Int32) → (Nat → Int32) → Option (((Int32) × (Nat → Int32) × (Nat → Int32) × (Nat → Int32)))
  | 0, _, _, _, _ => none
  | k + 1, l7, a51, a53, a54 => (if (a51 1) = 2 then (some (l7, a51, a53, a54)) else (if (o44 6) ≤ (a51 0) then (some (l7, a51, a53, a54)) else (Option.bind (f_X12_takesOne_44 n o44 a45 a48 a49 a51 a53 a54) (fun q9 => (if l7 = 0 then (if (a51 1) = 1 then (if (q9.1 1) = 0 then (l_X12_starts_44_78 n o44 a45 a48 a49 a52 l1 l2 l3 l4 l5 l6 k 1 q9.1 q9.2.1 q9.2.2) else (l_X12_starts_44_78 n o44 a45 a48 a49 a52 l1 l2 l3 l4 l5 l6 k 0 q9.1 q9.2.1 q9.2.2)) else (l_X12_starts_44_78 n o44 a45 a48 a49 a52 l1 l2 l3 l4 l5 l6 k 0 q9.1 q9.2.1 q9.2.2)) else (l_X12_starts_44_78 n o44 a45 a48 a49 a52 l1 l2 l3 l4 l5 l6 k 1 q9.1 q9.2.1 q9.2.2))))))
set_option maxRecDepth 100000 in
set_option maxHeartbeats 400000 in
theorem lv_X12_starts_44_78 (s0 : XW) (n : Nat) (o44 : Nat → Int32) (a45 : Nat → Int32) (a48 : Nat → Int32) (a49 : Nat → Int32) (a52 : Nat → Int32) (l1 : Int32) (l2 : Int32) (l3 : Int32) (l4 : Int32) (l5 : Int32) (l6 : Int32) (Q : Nat → Option Value → XW → Prop) : ∀ (k : Nat) (l7 : Int32) (a51 : Nat → Int32) (a53 : Nat → Int32) (a54 : Nat → Int32) (o : ((Int32) × (Nat → Int32) × (Nat → Int32) × (Nat → Int32))), l_X12_starts_44_78 n o44 a45 a48 a49 a52 l1 l2 l3 l4 l5 l6 k l7 a51 a53 a54 = some o → (V yX12_starts cX12_starts (some .int) 6 61 (0, 0) 143 [some (.ref 44), some (.int l1), some (.int l2), some (.int l3), some (.int l4), some (.int l5), some (.int l6), some (.int o.1), none] [] (xof s0 [W_44 o44, W_45 a45, W_48 a48, W_49 a49, W_51 o.2.1, W_52 a52, W_53 o.2.2.1, W_54 o.2.2.2]) Q) → V yX12_starts cX12_starts (some .int) 6 61 (0, 0) 78 [some (.ref 44), some (.int l1), some (.int l2), some (.int l3), some (.int l4), some (.int l5), some (.int l6), some (.int l7), none] [] (xof s0 [W_44 o44, W_45 a45, W_48 a48, W_49 a49, W_51 a51, W_52 a52, W_53 a53, W_54 a54]) Q := by
  intro k
  induction k with
  | zero =>
    intro _ _ _ _ _ h
    simp [l_X12_starts_44_78] at h
  | succ k ih =>
    intro l7 a51 a53 a54 o h hk
    rw [l_X12_starts_44_78] at h
    refine x_aload_n dX12_starts_78 rfl ?_
    refine g_X12_32 rfl dX12_starts_79 (by decide) rfl rfl ?_
    refine x_iconst (v := 1) dX12_starts_82 (by decide) ?_
    refine x_ialdK (jn := 1) (v := (a51 1)) dX12_starts_83 (by decide) rfl (xin_ok (by decide)) (by decide) rfl ?_
    refine x_iconst (v := 2) dX12_starts_84 (by decide) ?_
    refine x_icmp_eq (tgt := 143) dX12_starts_85 (by decide) (fun c7 => ?_) (fun c7 => ?_)
    · replace h := xif_p c7 h
      show V yX12_starts cX12_starts (some .int) 6 61 (0, 0) 143 [some (.ref 44), some (.int l1), some (.int l2), some (.int l3), some (.int l4), some (.int l5), some (.int l6), some (.int l7), none] [] (xof s0 [W_44 o44, W_45 a45, W_48 a48, W_49 a49, W_51 a51, W_52 a52, W_53 a53, W_54 a54]) _
      cases h
      exact hk
    · replace h := xif_n c7 h
      refine x_aload_n dX12_starts_88 rfl ?_
      refine g_X12_32 rfl dX12_starts_89 (by decide) rfl rfl ?_
      refine x_iconst (v := 0) dX12_starts_92 (by decide) ?_
      refine x_ialdK (jn := 0) (v := (a51 0)) dX12_starts_93 (by decide) rfl (xin_ok (by decide)) (by decide) rfl ?_
      refine x_aload_n dX12_starts_94 rfl ?_
      refine g_X12_64 rfl dX12_starts_95 (by decide) rfl rfl ?_
      refine x_icmp_ge (tgt := 143) dX12_starts_98 (by decide) (fun c8 => ?_) (fun c8 => ?_)
      · replace h := xif_p c8 h
        show V yX12_starts cX12_starts (some .int) 6 61 (0, 0) 143 [some (.ref 44), some (.int l1), some (.int l2), some (.int l3), some (.int l4), some (.int l5), some (.int l6), some (.int l7), none] [] (xof s0 [W_44 o44, W_45 a45, W_48 a48, W_49 a49, W_51 a51, W_52 a52, W_53 a53, W_54 a54]) _
        cases h
        exact hk
      · replace h := xif_n c8 h
        refine x_aload_n dX12_starts_101 rfl ?_
        refine g_X12_32 rfl dX12_starts_102 (by decide) rfl rfl ?_
        refine x_iconst (v := 1) dX12_starts_105 (by decide) ?_
        refine x_ialdK (jn := 1) (v := (a51 1)) dX12_starts_106 (by decide) rfl (xin_ok (by decide)) (by decide) rfl ?_
        refine x_istore (ls' := [_, _, _, _, _, _, _, _, _]) dX12_starts_107 rfl rfl ?_
        refine x_aload_n dX12_starts_109 rfl ?_
        obtain ⟨q9, hq9, h⟩ := Option.bind_eq_some_iff.mp h
        refine y_callVv (L' := [(44, _), (45, _), (48, _), (49, _), (51, _), (52, _), (53, _), (54, _)]) mi_X12_takesOne ml_X12_183 im_X12_takesOne se_X12_takesOne (rfl : vwCl[11]? = _) dX12_starts_110 (fun s1 => v_X12_takesOne_44 s1 n _ _ _ _ _ _ _ q9 hq9) (by decide) rfl (Nat.le_of_ble_eq_true rfl) rfl (by decide) (Nat.le_of_ble_eq_true rfl) rfl rfl rfl rfl ?_
        refine x_iload dX12_starts_113 rfl ?_
        refine x_if_ne (tgt := 133) dX12_starts_115 (by decide) (fun c10 => ?_) (fun c10 => ?_)
        · replace h := xif_n c10 h
          refine x_iconst (v := 1) dX12_starts_133 (by decide) ?_
          refine x_goto (tgt := 138) dX12_starts_134 (by decide) ?_
          refine x_istore (ls' := [_, _, _, _, _, _, _, _, _]) dX12_starts_138 rfl rfl ?_
          refine x_goto (tgt := 78) dX12_starts_140 (by decide) ?_
          refine V.drop1 (i := 8) (ls' := [_, _, _, _, _, _, _, _, _]) rfl ?_
          show V yX12_starts cX12_starts (some .int) 6 61 (0, 0) 78 [some (.ref 44), some (.int l1), some (.int l2), some (.int l3), some (.int l4), some (.int l5), some (.int l6), some (.int 1), none] [] (xof s0 [W_44 o44, W_45 a45, W_48 a48, W_49 a49, W_51 q9.1, W_52 a52, W_53 q9.2.1, W_54 q9.2.2]) _
          exact ih 1 q9.1 q9.2.1 q9.2.2 _ h hk
        · replace h := xif_p c10 h
          refine x_iload dX12_starts_118 rfl ?_
          refine x_iconst (v := 1) dX12_starts_120 (by decide) ?_
          refine x_icmp_ne (tgt := 137) dX12_starts_121 (by decide) (fun c11 => ?_) (fun c11 => ?_)
          · replace h := xif_n c11 h
            refine x_iconst (v := 0) dX12_starts_137 (by decide) ?_
            refine x_istore (ls' := [_, _, _, _, _, _, _, _, _]) dX12_starts_138 rfl rfl ?_
            refine x_goto (tgt := 78) dX12_starts_140 (by decide) ?_
            refine V.drop1 (i := 8) (ls' := [_, _, _, _, _, _, _, _, _]) rfl ?_
            show V yX12_starts cX12_starts (some .int) 6 61 (0, 0) 78 [some (.ref 44), some (.int l1), some (.int l2), some (.int l3), some (.int l4), some (.int l5), some (.int l6), some (.int 0), none] [] (xof s0 [W_44 o44, W_45 a45, W_48 a48, W_49 a49, W_51 q9.1, W_52 a52, W_53 q9.2.1, W_54 q9.2.2]) _
            exact ih 0 q9.1 q9.2.1 q9.2.2 _ h hk
          · replace h := xif_p c11 h
            refine x_aload_n dX12_starts_124 rfl ?_
            refine g_X12_32 rfl dX12_starts_125 (by decide) rfl rfl ?_
            refine x_iconst (v := 1) dX12_starts_128 (by decide) ?_
            refine x_ialdK (jn := 1) (v := (q9.1 1)) dX12_starts_129 (by decide) rfl (xin_ok (by decide)) (by decide) rfl ?_
            refine x_if_ne (tgt := 137) dX12_starts_130 (by decide) (fun c12 => ?_) (fun c12 => ?_)
            · replace h := xif_n c12 h
              refine x_iconst (v := 0) dX12_starts_137 (by decide) ?_
              refine x_istore (ls' := [_, _, _, _, _, _, _, _, _]) dX12_starts_138 rfl rfl ?_
              refine x_goto (tgt := 78) dX12_starts_140 (by decide) ?_
              refine V.drop1 (i := 8) (ls' := [_, _, _, _, _, _, _, _, _]) rfl ?_
              show V yX12_starts cX12_starts (some .int) 6 61 (0, 0) 78 [some (.ref 44), some (.int l1), some (.int l2), some (.int l3), some (.int l4), some (.int l5), some (.int l6), some (.int 0), none] [] (xof s0 [W_44 o44, W_45 a45, W_48 a48, W_49 a49, W_51 q9.1, W_52 a52, W_53 q9.2.1, W_54 q9.2.2]) _
              exact ih 0 q9.1 q9.2.1 q9.2.2 _ h hk
            · replace h := xif_p c12 h
              refine x_iconst (v := 1) dX12_starts_133 (by decide) ?_
              refine x_goto (tgt := 138) dX12_starts_134 (by decide) ?_
              refine x_istore (ls' := [_, _, _, _, _, _, _, _, _]) dX12_starts_138 rfl rfl ?_
              refine x_goto (tgt := 78) dX12_starts_140 (by decide) ?_
              refine V.drop1 (i := 8) (ls' := [_, _, _, _, _, _, _, _, _]) rfl ?_
              show V yX12_starts cX12_starts (some .int) 6 61 (0, 0) 78 [some (.ref 44), some (.int l1), some (.int l2), some (.int l3), some (.int l4), some (.int l5), some (.int l6), some (.int 1), none] [] (xof s0 [W_44 o44, W_45 a45, W_48 a48, W_49 a49, W_51 q9.1, W_52 a52, W_53 q9.2.1, W_54 q9.2.2]) _
              exact ih 1 q9.1 q9.2.1 q9.2.2 _ h hk
def l_X12_starts_44_33 (n : Nat) (o44 : Nat → Int32) (a45 : Nat → Int32) (a48 : Nat → Int32) (a49 : Nat → Int32) (l1 : Int32) : Nat → (Int32) → (Int32) → (Int32) → (Int32) → (Int32) → (Nat → Int32) → (Nat → Int32) → (Nat → Int32) → (Nat → Int32) → Option (((Int32) × (Int32) × (Int32) × (Int32) × (Int32) × (Nat → Int32) × (Nat → Int32) × (Nat → Int32) × (Nat → Int32)))
  | 0, _, _, _, _, _, _, _, _, _ => none
  | k + 1, l2, l3, l4, l5, l6, a51, a52, a53, a54 => (if 64 ≤ l6 then (some (l2, l3, l4, l5, l6, a51, a52, a53, a54)) else (if (o44 6) ≤ ((a51 0) + l6) then (some (l2, l3, l4, l5, l6, a51, a52, a53, a54)) else (Option.bind (f_X12_opens_44 n o44 a51 a52) (fun q5 => (Option.bind (f_X12_freshens_44 n o44 a51) (fun q6 => (Option.bind (l_X12_starts_44_78 n o44 a45 a48 a49 q5 l1 l2 l3 l4 l5 l6 n 0 (upd q6 0 (((q6 0) + l6))) a53 a54) (fun u13 => (if (u13.2.1 1) = 2 then (if (u13.2.1 5) ≤ l4 then (if u13.1 = 0 then (Option.bind (f_X12_closes_44 n o44 u13.2.1 q5) (fun q20 => (l_X12_starts_44_33 n o44 a45 a48 a49 l1 k ((l2 + 1)) ((l3 + (u13.2.1 5))) l4 ((l5 + 0)) ((l6 + 1)) q20 q5 u13.2.2.1 u13.2.2.2))) else (Option.bind (f_X12_closes_44 n o44 u13.2.1 q5) (fun q21 => (l_X12_starts_44_33 n o44 a45 a48 a49 l1 k ((l2 + 1)) ((l3 + (u13.2.1 5))) l4 ((l5 + 1)) ((l6 + 1)) q21 q5 u13.2.2.1 u13.2.2.2)))) else (if u13.1 = 0 then (Option.bind (f_X12_closes_44 n o44 u13.2.1 q5) (fun q23 => (l_X12_starts_44_33 n o44 a45 a48 a49 l1 k ((l2 + 1)) ((l3 + (u13.2.1 5))) ((u13.2.1 5)) ((l5 + 0)) ((l6 + 1)) q23 q5 u13.2.2.1 u13.2.2.2))) else (Option.bind (f_X12_closes_44 n o44 u13.2.1 q5) (fun q24 => (l_X12_starts_44_33 n o44 a45 a48 a49 l1 k ((l2 + 1)) ((l3 + (u13.2.1 5))) ((u13.2.1 5)) ((l5 + 1)) ((l6 + 1)) q24 q5 u13.2.2.1 u13.2.2.2))))) else (if u13.1 = 0 then (Option.bind (f_X12_closes_44 n o44 u13.2.1 q5) (fun q16 => (l_X12_starts_44_33 n o44 a45 a48 a49 l1 k l2 l3 l4 ((l5 + 0)) ((l6 + 1)) q16 q5 u13.2.2.1 u13.2.2.2))) else (Option.bind (f_X12_closes_44 n o44 u13.2.1 q5) (fun q17 => (l_X12_starts_44_33 n o44 a45 a48 a49 l1 k l2 l3 l4 ((l5 + 1)) ((l6 + 1)) q17 q5 u13.2.2.1 u13.2.2.2)))))))))))))
set_option maxRecDepth 100000 in
set_option maxHeartbeats 400000 in
theorem lv_X12_starts_44_33 (s0 : XW) (n : Nat) (o44 : Nat → Int32) (a45 : Nat → Int32) (a48 : Nat → Int32) (a49 : Nat → Int32) (l1 : Int32) (Q : Nat → Option Value → XW → Prop) : ∀ (k : Nat) (l2 : Int32) (l3 : Int32) (l4 : Int32) (l5 : Int32) (l6 : Int32) (a51 : Nat → Int32) (a52 : Nat → Int32) (a53 : Nat → Int32) (a54 : Nat → Int32) (o : ((Int32) × (Int32) × (Int32) × (Int32) × (Int32) × (Nat → Int32) × (Nat → Int32) × (Nat → Int32) × (Nat → Int32))), l_X12_starts_44_33 n o44 a45 a48 a49 l1 k l2 l3 l4 l5 l6 a51 a52 a53 a54 = some o → (V yX12_starts cX12_starts (some .int) 6 61 (0, 0) 214 [none, some (.int l1), some (.int o.1), some (.int o.2.1), some (.int o.2.2.1), some (.int o.2.2.2.1), none, none, none] [] (xof s0 [W_44 o44, W_45 a45, W_48 a48, W_49 a49, W_51 o.2.2.2.2.2.1, W_52 o.2.2.2.2.2.2.1, W_53 o.2.2.2.2.2.2.2.1, W_54 o.2.2.2.2.2.2.2.2]) Q) → V yX12_starts cX12_starts (some .int) 6 61 (0, 0) 33 [some (.ref 44), some (.int l1), some (.int l2), some (.int l3), some (.int l4), some (.int l5), some (.int l6), none, none] [] (xof s0 [W_44 o44, W_45 a45, W_48 a48, W_49 a49, W_51 a51, W_52 a52, W_53 a53, W_54 a54]) Q := by
  intro k
  induction k with
  | zero =>
    intro _ _ _ _ _ _ _ _ _ _ h
    simp [l_X12_starts_44_33] at h
  | succ k ih =>
    intro l2 l3 l4 l5 l6 a51 a52 a53 a54 o h hk
    rw [l_X12_starts_44_33] at h
    refine x_iload dX12_starts_33 rfl ?_
    refine x_bipush (v := 64) dX12_starts_35 (by decide) ?_
    refine x_icmp_ge (tgt := 214) dX12_starts_37 (by decide) (fun c3 => ?_) (fun c3 => ?_)
    · replace h := xif_p c3 h
      refine V.drop1 (i := 0) (ls' := [_, _, _, _, _, _, _, _, _]) rfl ?_
      refine V.drop1 (i := 6) (ls' := [_, _, _, _, _, _, _, _, _]) rfl ?_
      show V yX12_starts cX12_starts (some .int) 6 61 (0, 0) 214 [none, some (.int l1), some (.int l2), some (.int l3), some (.int l4), some (.int l5), none, none, none] [] (xof s0 [W_44 o44, W_45 a45, W_48 a48, W_49 a49, W_51 a51, W_52 a52, W_53 a53, W_54 a54]) _
      cases h
      exact hk
    · replace h := xif_n c3 h
      refine x_aload_n dX12_starts_40 rfl ?_
      refine g_X12_32 rfl dX12_starts_41 (by decide) rfl rfl ?_
      refine x_iconst (v := 0) dX12_starts_44 (by decide) ?_
      refine x_ialdK (jn := 0) (v := (a51 0)) dX12_starts_45 (by decide) rfl (xin_ok (by decide)) (by decide) rfl ?_
      refine x_iload dX12_starts_46 rfl ?_
      refine x_iadd dX12_starts_48 ?_
      refine x_aload_n dX12_starts_49 rfl ?_
      refine g_X12_64 rfl dX12_starts_50 (by decide) rfl rfl ?_
      refine x_icmp_ge (tgt := 214) dX12_starts_53 (by decide) (fun c4 => ?_) (fun c4 => ?_)
      · replace h := xif_p c4 h
        refine V.drop1 (i := 0) (ls' := [_, _, _, _, _, _, _, _, _]) rfl ?_
        refine V.drop1 (i := 6) (ls' := [_, _, _, _, _, _, _, _, _]) rfl ?_
        show V yX12_starts cX12_starts (some .int) 6 61 (0, 0) 214 [none, some (.int l1), some (.int l2), some (.int l3), some (.int l4), some (.int l5), none, none, none] [] (xof s0 [W_44 o44, W_45 a45, W_48 a48, W_49 a49, W_51 a51, W_52 a52, W_53 a53, W_54 a54]) _
        cases h
        exact hk
      · replace h := xif_n c4 h
        refine x_aload_n dX12_starts_56 rfl ?_
        obtain ⟨q5, hq5, h⟩ := Option.bind_eq_some_iff.mp h
        refine y_callVv (L' := [(44, _), (45, _), (48, _), (49, _), (51, _), (52, _), (53, _), (54, _)]) mi_X12_opens ml_X12_210 im_X12_opens se_X12_opens (rfl : vwCl[11]? = _) dX12_starts_57 (fun s1 => v_X12_opens_44 s1 n _ _ _ q5 hq5) (by decide) rfl (Nat.le_of_ble_eq_true rfl) rfl (by decide) (Nat.le_of_ble_eq_true rfl) rfl rfl rfl rfl ?_
        refine x_aload_n dX12_starts_60 rfl ?_
        obtain ⟨q6, hq6, h⟩ := Option.bind_eq_some_iff.mp h
        refine y_callVv (L' := [(44, _), (45, _), (48, _), (49, _), (51, _), (52, _), (53, _), (54, _)]) mi_X12_freshens ml_X12_191 im_X12_freshens se_X12_freshens (rfl : vwCl[11]? = _) dX12_starts_61 (fun s1 => v_X12_freshens_44 s1 n _ _ q6 hq6) (by decide) rfl (Nat.le_of_ble_eq_true rfl) rfl (by decide) (Nat.le_of_ble_eq_true rfl) rfl rfl rfl rfl ?_
        refine x_aload_n dX12_starts_64 rfl ?_
        refine g_X12_32 rfl dX12_starts_65 (by decide) rfl rfl ?_
        refine x_iconst (v := 0) dX12_starts_68 (by decide) ?_
        refine x_dup2 dX12_starts_69 rfl rfl ?_
        refine x_ialdK (jn := 0) (v := (q6 0)) dX12_starts_70 (by decide) rfl (xin_ok (by decide)) (by decide) rfl ?_
        refine x_iload dX12_starts_71 rfl ?_
        refine x_iadd dX12_starts_73 ?_
        refine x_iastK (jn := 0) (L' := [(44, _), (45, _), (48, _), (49, _), (51, _), (52, _), (53, _), (54, _)]) dX12_starts_74 (by decide) rfl (xin_ok (by decide)) (by decide) rfl ?_
        refine x_iconst (v := 0) dX12_starts_75 (by decide) ?_
        refine x_istore (ls' := [_, _, _, _, _, _, _, _, _]) dX12_starts_76 rfl rfl ?_
        obtain ⟨u13, hu13, h⟩ := Option.bind_eq_some_iff.mp h
        show V yX12_starts cX12_starts (some .int) 6 61 (0, 0) 78 [some (.ref 44), some (.int l1), some (.int l2), some (.int l3), some (.int l4), some (.int l5), some (.int l6), some (.int 0), none] [] (xof s0 [W_44 o44, W_45 a45, W_48 a48, W_49 a49, W_51 (upd q6 0 (((q6 0) + l6))), W_52 q5, W_53 a53, W_54 a54]) _
        refine lv_X12_starts_44_78 s0 _ o44 a45 a48 a49 q5 l1 l2 l3 l4 l5 l6 _ n 0 (upd q6 0 (((q6 0) + l6))) a53 a54 _ hu13 ?_
        refine x_aload_n dX12_starts_143 rfl ?_
        refine g_X12_32 rfl dX12_starts_144 (by decide) rfl rfl ?_
        refine x_iconst (v := 1) dX12_starts_147 (by decide) ?_
        refine x_ialdK (jn := 1) (v := (u13.2.1 1)) dX12_starts_148 (by decide) rfl (xin_ok (by decide)) (by decide) rfl ?_
        refine x_iconst (v := 2) dX12_starts_149 (by decide) ?_
        refine x_icmp_ne (tgt := 189) dX12_starts_150 (by decide) (fun c14 => ?_) (fun c14 => ?_)
        · replace h := xif_n c14 h
          refine x_iload dX12_starts_189 rfl ?_
          refine x_iload dX12_starts_191 rfl ?_
          refine x_if_eq (tgt := 200) dX12_starts_193 (by decide) (fun c15 => ?_) (fun c15 => ?_)
          · replace h := xif_p c15 h
            refine x_iconst (v := 0) dX12_starts_200 (by decide) ?_
            refine x_iadd dX12_starts_201 ?_
            refine x_istore (ls' := [_, _, _, _, _, _, _, _, _]) dX12_starts_202 rfl rfl ?_
            refine x_aload_n dX12_starts_204 rfl ?_
            obtain ⟨q16, hq16, h⟩ := Option.bind_eq_some_iff.mp h
            refine y_callVv (L' := [(44, _), (45, _), (48, _), (49, _), (51, _), (52, _), (53, _), (54, _)]) mi_X12_closes ml_X12_213 im_X12_closes se_X12_closes (rfl : vwCl[11]? = _) dX12_starts_205 (fun s1 => v_X12_closes_44 s1 n _ _ _ q16 hq16) (by decide) rfl (Nat.le_of_ble_eq_true rfl) rfl (by decide) (Nat.le_of_ble_eq_true rfl) rfl rfl rfl rfl ?_
            refine x_iinc (v := l6 + 1) (ls' := [_, _, _, _, _, _, _, _, _]) dX12_starts_208 rfl rfl rfl rfl ?_
            refine x_goto (tgt := 33) dX12_starts_211 (by decide) ?_
            refine V.drop1 (i := 7) (ls' := [_, _, _, _, _, _, _, _, _]) rfl ?_
            show V yX12_starts cX12_starts (some .int) 6 61 (0, 0) 33 [some (.ref 44), some (.int l1), some (.int l2), some (.int l3), some (.int l4), some (.int ((l5 + 0))), some (.int ((l6 + 1))), none, none] [] (xof s0 [W_44 o44, W_45 a45, W_48 a48, W_49 a49, W_51 q16, W_52 q5, W_53 u13.2.2.1, W_54 u13.2.2.2]) _
            exact ih l2 l3 l4 ((l5 + 0)) ((l6 + 1)) q16 q5 u13.2.2.1 u13.2.2.2 _ h hk
          · replace h := xif_n c15 h
            refine x_iconst (v := 1) dX12_starts_196 (by decide) ?_
            refine x_goto (tgt := 201) dX12_starts_197 (by decide) ?_
            refine x_iadd dX12_starts_201 ?_
            refine x_istore (ls' := [_, _, _, _, _, _, _, _, _]) dX12_starts_202 rfl rfl ?_
            refine x_aload_n dX12_starts_204 rfl ?_
            obtain ⟨q17, hq17, h⟩ := Option.bind_eq_some_iff.mp h
            refine y_callVv (L' := [(44, _), (45, _), (48, _), (49, _), (51, _), (52, _), (53, _), (54, _)]) mi_X12_closes ml_X12_213 im_X12_closes se_X12_closes (rfl : vwCl[11]? = _) dX12_starts_205 (fun s1 => v_X12_closes_44 s1 n _ _ _ q17 hq17) (by decide) rfl (Nat.le_of_ble_eq_true rfl) rfl (by decide) (Nat.le_of_ble_eq_true rfl) rfl rfl rfl rfl ?_
            refine x_iinc (v := l6 + 1) (ls' := [_, _, _, _, _, _, _, _, _]) dX12_starts_208 rfl rfl rfl rfl ?_
            refine x_goto (tgt := 33) dX12_starts_211 (by decide) ?_
            refine V.drop1 (i := 7) (ls' := [_, _, _, _, _, _, _, _, _]) rfl ?_
            show V yX12_starts cX12_starts (some .int) 6 61 (0, 0) 33 [some (.ref 44), some (.int l1), some (.int l2), some (.int l3), some (.int l4), some (.int ((l5 + 1))), some (.int ((l6 + 1))), none, none] [] (xof s0 [W_44 o44, W_45 a45, W_48 a48, W_49 a49, W_51 q17, W_52 q5, W_53 u13.2.2.1, W_54 u13.2.2.2]) _
            exact ih l2 l3 l4 ((l5 + 1)) ((l6 + 1)) q17 q5 u13.2.2.1 u13.2.2.2 _ h hk
        · replace h := xif_p c14 h
          refine x_iinc (v := l2 + 1) (ls' := [_, _, _, _, _, _, _, _, _]) dX12_starts_153 rfl rfl rfl rfl ?_
          refine x_iload_n dX12_starts_156 rfl ?_
          refine x_aload_n dX12_starts_157 rfl ?_
          refine g_X12_32 rfl dX12_starts_158 (by decide) rfl rfl ?_
          refine x_iconst (v := 5) dX12_starts_161 (by decide) ?_
          refine x_ialdK (jn := 5) (v := (u13.2.1 5)) dX12_starts_162 (by decide) rfl (xin_ok (by decide)) (by decide) rfl ?_
          refine x_iadd dX12_starts_163 ?_
          refine x_istore_n (ls' := [_, _, _, _, _, _, _, _, _]) dX12_starts_164 rfl rfl ?_
          refine x_aload_n dX12_starts_165 rfl ?_
          refine g_X12_32 rfl dX12_starts_166 (by decide) rfl rfl ?_
          refine x_iconst (v := 5) dX12_starts_169 (by decide) ?_
          refine x_ialdK (jn := 5) (v := (u13.2.1 5)) dX12_starts_170 (by decide) rfl (xin_ok (by decide)) (by decide) rfl ?_
          refine x_iload dX12_starts_171 rfl ?_
          refine x_icmp_le (tgt := 185) dX12_starts_173 (by decide) (fun c18 => ?_) (fun c18 => ?_)
          · replace h := xif_p c18 h
            refine x_iload dX12_starts_185 rfl ?_
            refine x_istore (ls' := [_, _, _, _, _, _, _, _, _]) dX12_starts_187 rfl rfl ?_
            refine x_iload dX12_starts_189 rfl ?_
            refine x_iload dX12_starts_191 rfl ?_
            refine x_if_eq (tgt := 200) dX12_starts_193 (by decide) (fun c19 => ?_) (fun c19 => ?_)
            · replace h := xif_p c19 h
              refine x_iconst (v := 0) dX12_starts_200 (by decide) ?_
              refine x_iadd dX12_starts_201 ?_
              refine x_istore (ls' := [_, _, _, _, _, _, _, _, _]) dX12_starts_202 rfl rfl ?_
              refine x_aload_n dX12_starts_204 rfl ?_
              obtain ⟨q20, hq20, h⟩ := Option.bind_eq_some_iff.mp h
              refine y_callVv (L' := [(44, _), (45, _), (48, _), (49, _), (51, _), (52, _), (53, _), (54, _)]) mi_X12_closes ml_X12_213 im_X12_closes se_X12_closes (rfl : vwCl[11]? = _) dX12_starts_205 (fun s1 => v_X12_closes_44 s1 n _ _ _ q20 hq20) (by decide) rfl (Nat.le_of_ble_eq_true rfl) rfl (by decide) (Nat.le_of_ble_eq_true rfl) rfl rfl rfl rfl ?_
              refine x_iinc (v := l6 + 1) (ls' := [_, _, _, _, _, _, _, _, _]) dX12_starts_208 rfl rfl rfl rfl ?_
              refine x_goto (tgt := 33) dX12_starts_211 (by decide) ?_
              refine V.drop1 (i := 7) (ls' := [_, _, _, _, _, _, _, _, _]) rfl ?_
              show V yX12_starts cX12_starts (some .int) 6 61 (0, 0) 33 [some (.ref 44), some (.int l1), some (.int ((l2 + 1))), some (.int ((l3 + (u13.2.1 5)))), some (.int l4), some (.int ((l5 + 0))), some (.int ((l6 + 1))), none, none] [] (xof s0 [W_44 o44, W_45 a45, W_48 a48, W_49 a49, W_51 q20, W_52 q5, W_53 u13.2.2.1, W_54 u13.2.2.2]) _
              exact ih ((l2 + 1)) ((l3 + (u13.2.1 5))) l4 ((l5 + 0)) ((l6 + 1)) q20 q5 u13.2.2.1 u13.2.2.2 _ h hk
            · replace h := xif_n c19 h
              refine x_iconst (v := 1) dX12_starts_196 (by decide) ?_
              refine x_goto (tgt := 201) dX12_starts_197 (by decide) ?_
              refine x_iadd dX12_starts_201 ?_
              refine x_istore (ls' := [_, _, _, _, _, _, _, _, _]) dX12_starts_202 rfl rfl ?_
              refine x_aload_n dX12_starts_204 rfl ?_
              obtain ⟨q21, hq21, h⟩ := Option.bind_eq_some_iff.mp h
              refine y_callVv (L' := [(44, _), (45, _), (48, _), (49, _), (51, _), (52, _), (53, _), (54, _)]) mi_X12_closes ml_X12_213 im_X12_closes se_X12_closes (rfl : vwCl[11]? = _) dX12_starts_205 (fun s1 => v_X12_closes_44 s1 n _ _ _ q21 hq21) (by decide) rfl (Nat.le_of_ble_eq_true rfl) rfl (by decide) (Nat.le_of_ble_eq_true rfl) rfl rfl rfl rfl ?_
              refine x_iinc (v := l6 + 1) (ls' := [_, _, _, _, _, _, _, _, _]) dX12_starts_208 rfl rfl rfl rfl ?_
              refine x_goto (tgt := 33) dX12_starts_211 (by decide) ?_
              refine V.drop1 (i := 7) (ls' := [_, _, _, _, _, _, _, _, _]) rfl ?_
              show V yX12_starts cX12_starts (some .int) 6 61 (0, 0) 33 [some (.ref 44), some (.int l1), some (.int ((l2 + 1))), some (.int ((l3 + (u13.2.1 5)))), some (.int l4), some (.int ((l5 + 1))), some (.int ((l6 + 1))), none, none] [] (xof s0 [W_44 o44, W_45 a45, W_48 a48, W_49 a49, W_51 q21, W_52 q5, W_53 u13.2.2.1, W_54 u13.2.2.2]) _
              exact ih ((l2 + 1)) ((l3 + (u13.2.1 5))) l4 ((l5 + 1)) ((l6 + 1)) q21 q5 u13.2.2.1 u13.2.2.2 _ h hk
          · replace h := xif_n c18 h
            refine x_aload_n dX12_starts_176 rfl ?_
            refine g_X12_32 rfl dX12_starts_177 (by decide) rfl rfl ?_
            refine x_iconst (v := 5) dX12_starts_180 (by decide) ?_
            refine x_ialdK (jn := 5) (v := (u13.2.1 5)) dX12_starts_181 (by decide) rfl (xin_ok (by decide)) (by decide) rfl ?_
            refine x_goto (tgt := 187) dX12_starts_182 (by decide) ?_
            refine x_istore (ls' := [_, _, _, _, _, _, _, _, _]) dX12_starts_187 rfl rfl ?_
            refine x_iload dX12_starts_189 rfl ?_
            refine x_iload dX12_starts_191 rfl ?_
            refine x_if_eq (tgt := 200) dX12_starts_193 (by decide) (fun c22 => ?_) (fun c22 => ?_)
            · replace h := xif_p c22 h
              refine x_iconst (v := 0) dX12_starts_200 (by decide) ?_
              refine x_iadd dX12_starts_201 ?_
              refine x_istore (ls' := [_, _, _, _, _, _, _, _, _]) dX12_starts_202 rfl rfl ?_
              refine x_aload_n dX12_starts_204 rfl ?_
              obtain ⟨q23, hq23, h⟩ := Option.bind_eq_some_iff.mp h
              refine y_callVv (L' := [(44, _), (45, _), (48, _), (49, _), (51, _), (52, _), (53, _), (54, _)]) mi_X12_closes ml_X12_213 im_X12_closes se_X12_closes (rfl : vwCl[11]? = _) dX12_starts_205 (fun s1 => v_X12_closes_44 s1 n _ _ _ q23 hq23) (by decide) rfl (Nat.le_of_ble_eq_true rfl) rfl (by decide) (Nat.le_of_ble_eq_true rfl) rfl rfl rfl rfl ?_
              refine x_iinc (v := l6 + 1) (ls' := [_, _, _, _, _, _, _, _, _]) dX12_starts_208 rfl rfl rfl rfl ?_
              refine x_goto (tgt := 33) dX12_starts_211 (by decide) ?_
              refine V.drop1 (i := 7) (ls' := [_, _, _, _, _, _, _, _, _]) rfl ?_
              show V yX12_starts cX12_starts (some .int) 6 61 (0, 0) 33 [some (.ref 44), some (.int l1), some (.int ((l2 + 1))), some (.int ((l3 + (u13.2.1 5)))), some (.int ((u13.2.1 5))), some (.int ((l5 + 0))), some (.int ((l6 + 1))), none, none] [] (xof s0 [W_44 o44, W_45 a45, W_48 a48, W_49 a49, W_51 q23, W_52 q5, W_53 u13.2.2.1, W_54 u13.2.2.2]) _
              exact ih ((l2 + 1)) ((l3 + (u13.2.1 5))) ((u13.2.1 5)) ((l5 + 0)) ((l6 + 1)) q23 q5 u13.2.2.1 u13.2.2.2 _ h hk
            · replace h := xif_n c22 h
              refine x_iconst (v := 1) dX12_starts_196 (by decide) ?_
              refine x_goto (tgt := 201) dX12_starts_197 (by decide) ?_
              refine x_iadd dX12_starts_201 ?_
              refine x_istore (ls' := [_, _, _, _, _, _, _, _, _]) dX12_starts_202 rfl rfl ?_
              refine x_aload_n dX12_starts_204 rfl ?_
              obtain ⟨q24, hq24, h⟩ := Option.bind_eq_some_iff.mp h
              refine y_callVv (L' := [(44, _), (45, _), (48, _), (49, _), (51, _), (52, _), (53, _), (54, _)]) mi_X12_closes ml_X12_213 im_X12_closes se_X12_closes (rfl : vwCl[11]? = _) dX12_starts_205 (fun s1 => v_X12_closes_44 s1 n _ _ _ q24 hq24) (by decide) rfl (Nat.le_of_ble_eq_true rfl) rfl (by decide) (Nat.le_of_ble_eq_true rfl) rfl rfl rfl rfl ?_
              refine x_iinc (v := l6 + 1) (ls' := [_, _, _, _, _, _, _, _, _]) dX12_starts_208 rfl rfl rfl rfl ?_
              refine x_goto (tgt := 33) dX12_starts_211 (by decide) ?_
              refine V.drop1 (i := 7) (ls' := [_, _, _, _, _, _, _, _, _]) rfl ?_
              show V yX12_starts cX12_starts (some .int) 6 61 (0, 0) 33 [some (.ref 44), some (.int l1), some (.int ((l2 + 1))), some (.int ((l3 + (u13.2.1 5)))), some (.int ((u13.2.1 5))), some (.int ((l5 + 1))), some (.int ((l6 + 1))), none, none] [] (xof s0 [W_44 o44, W_45 a45, W_48 a48, W_49 a49, W_51 q24, W_52 q5, W_53 u13.2.2.1, W_54 u13.2.2.2]) _
              exact ih ((l2 + 1)) ((l3 + (u13.2.1 5))) ((u13.2.1 5)) ((l5 + 1)) ((l6 + 1)) q24 q5 u13.2.2.1 u13.2.2.2 _ h hk
def b_X12_starts_44_214 (n : Nat) (o44 : Nat → Int32) (a45 : Nat → Int32) (a48 : Nat → Int32) (a49 : Nat → Int32) (a51 : Nat → Int32) (a52 : Nat → Int32) (a53 : Nat → Int32) (a54 : Nat → Int32) (l1 : Int32) (l2 : Int32) (l3 : Int32) (l4 : Int32) (l5 : Int32) : Option (((Int32) × (Nat → Int32) × (Nat → Int32) × (Nat → Int32) × (Nat → Int32) × (Nat → Int32))) := (if l1 = 0 then (some (l2, o44, a51, a52, a53, a54)) else (if l1 = 1 then (some (l3, o44, a51, a52, a53, a54)) else (if l1 = 2 then (some (l4, o44, a51, a52, a53, a54)) else (some (l5, o44, a51, a52, a53, a54)))))
set_option maxRecDepth 100000 in
set_option maxHeartbeats 400000 in
theorem vb_X12_starts_44_214 (s0 : XW) (n : Nat) (o44 : Nat → Int32) (a45 : Nat → Int32) (a48 : Nat → Int32) (a49 : Nat → Int32) (a51 : Nat → Int32) (a52 : Nat → Int32) (a53 : Nat → Int32) (a54 : Nat → Int32) (l1 : Int32) (l2 : Int32) (l3 : Int32) (l4 : Int32) (l5 : Int32) (q : ((Int32) × (Nat → Int32) × (Nat → Int32) × (Nat → Int32) × (Nat → Int32) × (Nat → Int32))) (h : b_X12_starts_44_214 n o44 a45 a48 a49 a51 a52 a53 a54 l1 l2 l3 l4 l5 = some q) : V yX12_starts cX12_starts (some .int) 6 61 (0, 0) 214 [none, some (.int l1), some (.int l2), some (.int l3), some (.int l4), some (.int l5), none, none, none] [] (xof s0 [W_44 o44, W_45 a45, W_48 a48, W_49 a49, W_51 a51, W_52 a52, W_53 a53, W_54 a54]) (xq 61 (some (.int q.1)) (xof s0 [W_44 q.2.1, W_45 a45, W_48 a48, W_49 a49, W_51 q.2.2.1, W_52 q.2.2.2.1, W_53 q.2.2.2.2.1, W_54 q.2.2.2.2.2])) := by
  unfold b_X12_starts_44_214 at h
  refine x_iload_n dX12_starts_214 rfl ?_
  refine x_if_ne (tgt := 222) dX12_starts_215 (by decide) (fun c26 => ?_) (fun c26 => ?_)
  · replace h := xif_n c26 h
    refine x_iload_n dX12_starts_222 rfl ?_
    refine x_iconst (v := 1) dX12_starts_223 (by decide) ?_
    refine x_icmp_ne (tgt := 231) dX12_starts_224 (by decide) (fun c27 => ?_) (fun c27 => ?_)
    · replace h := xif_n c27 h
      refine x_iload_n dX12_starts_231 rfl ?_
      refine x_iconst (v := 2) dX12_starts_232 (by decide) ?_
      refine x_icmp_ne (tgt := 241) dX12_starts_233 (by decide) (fun c28 => ?_) (fun c28 => ?_)
      · replace h := xif_n c28 h
        refine x_iload dX12_starts_241 rfl ?_
        cases h
        exact x_iret dX12_starts_243 ⟨rfl, rfl, rfl⟩
      · replace h := xif_p c28 h
        refine x_iload dX12_starts_236 rfl ?_
        refine x_goto (tgt := 243) dX12_starts_238 (by decide) ?_
        cases h
        exact x_iret dX12_starts_243 ⟨rfl, rfl, rfl⟩
    · replace h := xif_p c27 h
      refine x_iload_n dX12_starts_227 rfl ?_
      refine x_goto (tgt := 243) dX12_starts_228 (by decide) ?_
      cases h
      exact x_iret dX12_starts_243 ⟨rfl, rfl, rfl⟩
  · replace h := xif_p c26 h
    refine x_iload_n dX12_starts_218 rfl ?_
    refine x_goto (tgt := 243) dX12_starts_219 (by decide) ?_
    cases h
    exact x_iret dX12_starts_243 ⟨rfl, rfl, rfl⟩
def f_X12_starts_44 (n : Nat) (o44 : Nat → Int32) (a45 : Nat → Int32) (a48 : Nat → Int32) (a49 : Nat → Int32) (a51 : Nat → Int32) (a52 : Nat → Int32) (a53 : Nat → Int32) (a54 : Nat → Int32) (p1 : Int32) : Option (((Int32) × (Nat → Int32) × (Nat → Int32) × (Nat → Int32) × (Nat → Int32) × (Nat → Int32))) := (Option.bind (f_X12_isIn ((Int32.toInt64 p1)) 0 3) (fun q1 => (if q1 = 0 then (some ((-2), upd o44 0 0, a51, a52, a53, a54)) else (Option.bind (l_X12_starts_44_33 n (upd o44 0 0) a45 a48 a49 p1 n 0 0 0 0 0 a51 a52 a53 a54) (fun u25 => (b_X12_starts_44_214 n (upd o44 0 0) a45 a48 a49 u25.2.2.2.2.2.1 u25.2.2.2.2.2.2.1 u25.2.2.2.2.2.2.2.1 u25.2.2.2.2.2.2.2.2 p1 u25.1 u25.2.1 u25.2.2.1 u25.2.2.2.1))))))
set_option maxRecDepth 100000 in
set_option maxHeartbeats 400000 in
theorem v_X12_starts_44 (s0 : XW) (n : Nat) (o44 : Nat → Int32) (a45 : Nat → Int32) (a48 : Nat → Int32) (a49 : Nat → Int32) (a51 : Nat → Int32) (a52 : Nat → Int32) (a53 : Nat → Int32) (a54 : Nat → Int32) (p1 : Int32) (q : ((Int32) × (Nat → Int32) × (Nat → Int32) × (Nat → Int32) × (Nat → Int32) × (Nat → Int32))) (h : f_X12_starts_44 n o44 a45 a48 a49 a51 a52 a53 a54 p1 = some q) : C_X12_starts 6 61 [.ref 44, .int p1] (xof s0 [W_44 o44, W_45 a45, W_48 a48, W_49 a49, W_51 a51, W_52 a52, W_53 a53, W_54 a54]) (some (.int q.1)) (xof s0 [W_44 q.2.1, W_45 a45, W_48 a48, W_49 a49, W_51 q.2.2.1, W_52 q.2.2.2.1, W_53 q.2.2.2.2.1, W_54 q.2.2.2.2.2]) := by
  unfold f_X12_starts_44 at h
  show V yX12_starts cX12_starts (some .int) 6 61 (0, 0) 0 [some (.ref 44), some (.int p1), none, none, none, none, none, none, none] [] (xof s0 [W_44 o44, W_45 a45, W_48 a48, W_49 a49, W_51 a51, W_52 a52, W_53 a53, W_54 a54]) _
  refine x_aload_n dX12_starts_0 rfl ?_
  refine x_iconst (v := 0) dX12_starts_1 (by decide) ?_
  refine p_X12_1 (fs' := [_, _, _, _, _, _, _, _, _, _, _, _, _, _, _, _, _, _, _, _, _, _]) (L' := [(44, _), (45, _), (48, _), (49, _), (51, _), (52, _), (53, _), (54, _)]) rfl dX12_starts_2 (by decide) rfl (Nat.le_of_ble_eq_true rfl) rfl rfl ?_
  refine x_iload_n dX12_starts_5 rfl ?_
  refine x_i2l dX12_starts_6 ?_
  refine x_lconst (v := 0) dX12_starts_7 (by decide) ?_
  refine x_ldc2 dX12_starts_8 cn_X12_207 ?_
  obtain ⟨q1, hq1, h⟩ := Option.bind_eq_some_iff.mp h
  refine y_callSi (L' := [(44, _), (45, _), (48, _), (49, _), (51, _), (52, _), (53, _), (54, _)]) mi_X12_isIn ml_X12_77 st_X12_isIn dX12_starts_11 (fun s1 => v_X12_isIn 61 s1 _ _ _ q1 hq1) (Nat.le_of_ble_eq_true rfl) rfl (by decide) (Nat.le_of_ble_eq_true rfl) rfl rfl rfl rfl ?_
  refine x_if_ne (tgt := 20) dX12_starts_14 (by decide) (fun c2 => ?_) (fun c2 => ?_)
  · replace h := xif_n c2 h
    refine x_iconst (v := 0) dX12_starts_20 (by decide) ?_
    refine x_istore_n (ls' := [_, _, _, _, _, _, _, _, _]) dX12_starts_21 rfl rfl ?_
    refine x_iconst (v := 0) dX12_starts_22 (by decide) ?_
    refine x_istore_n (ls' := [_, _, _, _, _, _, _, _, _]) dX12_starts_23 rfl rfl ?_
    refine x_iconst (v := 0) dX12_starts_24 (by decide) ?_
    refine x_istore (ls' := [_, _, _, _, _, _, _, _, _]) dX12_starts_25 rfl rfl ?_
    refine x_iconst (v := 0) dX12_starts_27 (by decide) ?_
    refine x_istore (ls' := [_, _, _, _, _, _, _, _, _]) dX12_starts_28 rfl rfl ?_
    refine x_iconst (v := 0) dX12_starts_30 (by decide) ?_
    refine x_istore (ls' := [_, _, _, _, _, _, _, _, _]) dX12_starts_31 rfl rfl ?_
    obtain ⟨u25, hu25, h⟩ := Option.bind_eq_some_iff.mp h
    show V yX12_starts cX12_starts (some .int) 6 61 (0, 0) 33 [some (.ref 44), some (.int p1), some (.int 0), some (.int 0), some (.int 0), some (.int 0), some (.int 0), none, none] [] (xof s0 [W_44 (upd o44 0 0), W_45 a45, W_48 a48, W_49 a49, W_51 a51, W_52 a52, W_53 a53, W_54 a54]) _
    refine lv_X12_starts_44_33 s0 _ (upd o44 0 0) a45 a48 a49 p1 _ n 0 0 0 0 0 a51 a52 a53 a54 _ hu25 ?_
    show V yX12_starts cX12_starts (some .int) 6 61 (0, 0) 214 [none, some (.int p1), some (.int u25.1), some (.int u25.2.1), some (.int u25.2.2.1), some (.int u25.2.2.2.1), none, none, none] [] (xof s0 [W_44 (upd o44 0 0), W_45 a45, W_48 a48, W_49 a49, W_51 u25.2.2.2.2.2.1, W_52 u25.2.2.2.2.2.2.1, W_53 u25.2.2.2.2.2.2.2.1, W_54 u25.2.2.2.2.2.2.2.2]) _
    exact vb_X12_starts_44_214 s0 n (upd o44 0 0) a45 a48 a49 u25.2.2.2.2.2.1 u25.2.2.2.2.2.2.1 u25.2.2.2.2.2.2.2.1 u25.2.2.2.2.2.2.2.2 p1 u25.1 u25.2.1 u25.2.2.1 u25.2.2.2.1 q h
  · replace h := xif_p c2 h
    refine x_bipush (v := -2) dX12_starts_17 (by decide) ?_
    cases h
    exact x_iret dX12_starts_19 ⟨rfl, rfl, rfl⟩
def f_X12_check_44 (n : Nat) (o44 : Nat → Int32) (p1 : Int32) : Option (((Int32) × (Nat → Int32))) := (Option.bind (f_X12_checkOf n p1) (fun q1 => (some (q1, upd o44 0 0))))
set_option maxRecDepth 100000 in
set_option maxHeartbeats 400000 in
theorem v_X12_check_44 (s0 : XW) (n : Nat) (o44 : Nat → Int32) (p1 : Int32) (q : ((Int32) × (Nat → Int32))) (h : f_X12_check_44 n o44 p1 = some q) : C_X12_check 2 61 [.ref 44, .int p1] (xof s0 [W_44 o44]) (some (.int q.1)) (xof s0 [W_44 q.2]) := by
  unfold f_X12_check_44 at h
  show V yX12_check cX12_check (some .int) 2 61 (0, 0) 0 [some (.ref 44), some (.int p1)] [] (xof s0 [W_44 o44]) _
  refine x_aload_n dX12_check_0 rfl ?_
  refine x_iconst (v := 0) dX12_check_1 (by decide) ?_
  refine p_X12_1 (fs' := [_, _, _, _, _, _, _, _, _, _, _, _, _, _, _, _, _, _, _, _, _, _]) (L' := [(44, _)]) rfl dX12_check_2 (by decide) rfl (Nat.le_of_ble_eq_true rfl) rfl rfl ?_
  refine x_iload_n dX12_check_5 rfl ?_
  obtain ⟨q1, hq1, h⟩ := Option.bind_eq_some_iff.mp h
  refine y_callSi (L' := [(44, _)]) mi_X12_checkOf ml_X12_88 st_X12_checkOf dX12_check_6 (fun s1 => v_X12_checkOf 61 s1 n _ q1 hq1) (Nat.le_of_ble_eq_true rfl) rfl (by decide) (Nat.le_of_ble_eq_true rfl) rfl rfl rfl rfl ?_
  cases h
  exact x_iret dX12_check_9 ⟨rfl, rfl, rfl⟩
def f_X12_syndrome_44 (n : Nat) (o44 : Nat → Int32) (p1 : Int32) (p2 : Int32) : Option (((Int32) × (Nat → Int32))) := (Option.bind (f_X12_isIn ((Int32.toInt64 p2)) 0 255) (fun q1 => (if q1 = 0 then (some ((-3), upd o44 0 0)) else (Option.bind (f_X12_checkOf n p1) (fun q3 => (some ((q3 ^^^ p2), upd o44 0 0)))))))
set_option maxRecDepth 100000 in
set_option maxHeartbeats 400000 in
theorem v_X12_syndrome_44 (s0 : XW) (n : Nat) (o44 : Nat → Int32) (p1 : Int32) (p2 : Int32) (q : ((Int32) × (Nat → Int32))) (h : f_X12_syndrome_44 n o44 p1 p2 = some q) : C_X12_syndrome 2 61 [.ref 44, .int p1, .int p2] (xof s0 [W_44 o44]) (some (.int q.1)) (xof s0 [W_44 q.2]) := by
  unfold f_X12_syndrome_44 at h
  show V yX12_syndrome cX12_syndrome (some .int) 2 61 (0, 0) 0 [some (.ref 44), some (.int p1), some (.int p2)] [] (xof s0 [W_44 o44]) _
  refine x_aload_n dX12_syndrome_0 rfl ?_
  refine x_iconst (v := 0) dX12_syndrome_1 (by decide) ?_
  refine p_X12_1 (fs' := [_, _, _, _, _, _, _, _, _, _, _, _, _, _, _, _, _, _, _, _, _, _]) (L' := [(44, _)]) rfl dX12_syndrome_2 (by decide) rfl (Nat.le_of_ble_eq_true rfl) rfl rfl ?_
  refine x_iload_n dX12_syndrome_5 rfl ?_
  refine x_i2l dX12_syndrome_6 ?_
  refine x_lconst (v := 0) dX12_syndrome_7 (by decide) ?_
  refine x_ldc2 dX12_syndrome_8 cn_X12_91 ?_
  obtain ⟨q1, hq1, h⟩ := Option.bind_eq_some_iff.mp h
  refine y_callSi (L' := [(44, _)]) mi_X12_isIn ml_X12_77 st_X12_isIn dX12_syndrome_11 (fun s1 => v_X12_isIn 61 s1 _ _ _ q1 hq1) (Nat.le_of_ble_eq_true rfl) rfl (by decide) (Nat.le_of_ble_eq_true rfl) rfl rfl rfl rfl ?_
  refine x_if_eq (tgt := 26) dX12_syndrome_14 (by decide) (fun c2 => ?_) (fun c2 => ?_)
  · replace h := xif_p c2 h
    refine x_bipush (v := -3) dX12_syndrome_26 (by decide) ?_
    cases h
    exact x_iret dX12_syndrome_28 ⟨rfl, rfl, rfl⟩
  · replace h := xif_n c2 h
    refine x_iload_n dX12_syndrome_17 rfl ?_
    obtain ⟨q3, hq3, h⟩ := Option.bind_eq_some_iff.mp h
    refine y_callSi (L' := [(44, _)]) mi_X12_checkOf ml_X12_88 st_X12_checkOf dX12_syndrome_18 (fun s1 => v_X12_checkOf 61 s1 n _ q3 hq3) (Nat.le_of_ble_eq_true rfl) rfl (by decide) (Nat.le_of_ble_eq_true rfl) rfl rfl rfl rfl ?_
    refine x_iload_n dX12_syndrome_21 rfl ?_
    refine x_ixor dX12_syndrome_22 ?_
    refine x_goto (tgt := 28) dX12_syndrome_23 (by decide) ?_
    cases h
    exact x_iret dX12_syndrome_28 ⟨rfl, rfl, rfl⟩
def f_X12_single_44 (n : Nat) (o44 : Nat → Int32) (p1 : Int32) : Option (((Int32) × (Nat → Int32))) := (Option.bind (f_X12_isIn ((Int32.toInt64 p1)) 0 255) (fun q1 => (if q1 = 0 then (some ((-3), upd o44 0 0)) else (Option.bind (f_X12_singleOf n p1) (fun q3 => (some (q3, upd o44 0 0)))))))
set_option maxRecDepth 100000 in
set_option maxHeartbeats 400000 in
theorem v_X12_single_44 (s0 : XW) (n : Nat) (o44 : Nat → Int32) (p1 : Int32) (q : ((Int32) × (Nat → Int32))) (h : f_X12_single_44 n o44 p1 = some q) : C_X12_single 3 61 [.ref 44, .int p1] (xof s0 [W_44 o44]) (some (.int q.1)) (xof s0 [W_44 q.2]) := by
  unfold f_X12_single_44 at h
  show V yX12_single cX12_single (some .int) 3 61 (0, 0) 0 [some (.ref 44), some (.int p1)] [] (xof s0 [W_44 o44]) _
  refine x_aload_n dX12_single_0 rfl ?_
  refine x_iconst (v := 0) dX12_single_1 (by decide) ?_
  refine p_X12_1 (fs' := [_, _, _, _, _, _, _, _, _, _, _, _, _, _, _, _, _, _, _, _, _, _]) (L' := [(44, _)]) rfl dX12_single_2 (by decide) rfl (Nat.le_of_ble_eq_true rfl) rfl rfl ?_
  refine x_iload_n dX12_single_5 rfl ?_
  refine x_i2l dX12_single_6 ?_
  refine x_lconst (v := 0) dX12_single_7 (by decide) ?_
  refine x_ldc2 dX12_single_8 cn_X12_91 ?_
  obtain ⟨q1, hq1, h⟩ := Option.bind_eq_some_iff.mp h
  refine y_callSi (L' := [(44, _)]) mi_X12_isIn ml_X12_77 st_X12_isIn dX12_single_11 (fun s1 => v_X12_isIn 61 s1 _ _ _ q1 hq1) (Nat.le_of_ble_eq_true rfl) rfl (by decide) (Nat.le_of_ble_eq_true rfl) rfl rfl rfl rfl ?_
  refine x_if_eq (tgt := 24) dX12_single_14 (by decide) (fun c2 => ?_) (fun c2 => ?_)
  · replace h := xif_p c2 h
    refine x_bipush (v := -3) dX12_single_24 (by decide) ?_
    cases h
    exact x_iret dX12_single_26 ⟨rfl, rfl, rfl⟩
  · replace h := xif_n c2 h
    refine x_iload_n dX12_single_17 rfl ?_
    obtain ⟨q3, hq3, h⟩ := Option.bind_eq_some_iff.mp h
    refine y_callSi (L' := [(44, _)]) mi_X12_singleOf ml_X12_93 st_X12_singleOf dX12_single_18 (fun s1 => v_X12_singleOf 61 s1 n _ q3 hq3) (Nat.le_of_ble_eq_true rfl) rfl (by decide) (Nat.le_of_ble_eq_true rfl) rfl rfl rfl rfl ?_
    refine x_goto (tgt := 26) dX12_single_21 (by decide) ?_
    cases h
    exact x_iret dX12_single_26 ⟨rfl, rfl, rfl⟩
def l_X12_latest_44_30 (n : Nat) (o44 : Nat → Int32) (a45 : Nat → Int32) (a48 : Nat → Int32) (a49 : Nat → Int32) (l1 : Int32) : Nat → (Int32) → (Int32) → (Int32) → (Int32) → (Nat → Int32) → (Nat → Int32) → (Nat → Int32) → (Nat → Int32) → Option (((Int32) × (Int32) × (Int32) × (Int32) × (Nat → Int32) × (Nat → Int32) × (Nat → Int32) × (Nat → Int32)))
  | 0, _, _, _, _, _, _, _, _ => none
  | k + 1, l2, l3, l4, l5, a51, a52, a53, a54 => (if 64 < l5 then (some (l2, l3, l4, l5, a51, a52, a53, a54)) else (if ((o44 6) - (a51 0)) < l5 then (some (l2, l3, l4, l5, a51, a52, a53, a54)) else (Option.bind (f_X12_regainedBy_44 n o44 a45 a48 a49 a51 a52 a53 a54 l5) (fun q5 => (if q5.1 = (-1) then (if l2 < q5.1 then (l_X12_latest_44_30 n o44 a45 a48 a49 l1 k q5.1 l5 ((l4 + 0)) ((l5 + 1)) q5.2.1 q5.2.2.1 q5.2.2.2.1 q5.2.2.2.2) else (l_X12_latest_44_30 n o44 a45 a48 a49 l1 k l2 l3 ((l4 + 0)) ((l5 + 1)) q5.2.1 q5.2.2.1 q5.2.2.2.1 q5.2.2.2.2)) else (if l2 < q5.1 then (l_X12_latest_44_30 n o44 a45 a48 a49 l1 k q5.1 l5 ((l4 + 1)) ((l5 + 1)) q5.2.1 q5.2.2.1 q5.2.2.2.1 q5.2.2.2.2) else (l_X12_latest_44_30 n o44 a45 a48 a49 l1 k l2 l3 ((l4 + 1)) ((l5 + 1)) q5.2.1 q5.2.2.1 q5.2.2.2.1 q5.2.2.2.2)))))))
set_option maxRecDepth 100000 in
set_option maxHeartbeats 400000 in
theorem lv_X12_latest_44_30 (s0 : XW) (n : Nat) (o44 : Nat → Int32) (a45 : Nat → Int32) (a48 : Nat → Int32) (a49 : Nat → Int32) (l1 : Int32) (Q : Nat → Option Value → XW → Prop) : ∀ (k : Nat) (l2 : Int32) (l3 : Int32) (l4 : Int32) (l5 : Int32) (a51 : Nat → Int32) (a52 : Nat → Int32) (a53 : Nat → Int32) (a54 : Nat → Int32) (o : ((Int32) × (Int32) × (Int32) × (Int32) × (Nat → Int32) × (Nat → Int32) × (Nat → Int32) × (Nat → Int32))), l_X12_latest_44_30 n o44 a45 a48 a49 l1 k l2 l3 l4 l5 a51 a52 a53 a54 = some o → (V yX12_latest cX12_latest (some .int) 7 61 (0, 0) 98 [none, some (.int l1), some (.int o.1), some (.int o.2.1), some (.int o.2.2.1), none, none] [] (xof s0 [W_44 o44, W_45 a45, W_48 a48, W_49 a49, W_51 o.2.2.2.2.1, W_52 o.2.2.2.2.2.1, W_53 o.2.2.2.2.2.2.1, W_54 o.2.2.2.2.2.2.2]) Q) → V yX12_latest cX12_latest (some .int) 7 61 (0, 0) 30 [some (.ref 44), some (.int l1), some (.int l2), some (.int l3), some (.int l4), some (.int l5), none] [] (xof s0 [W_44 o44, W_45 a45, W_48 a48, W_49 a49, W_51 a51, W_52 a52, W_53 a53, W_54 a54]) Q := by
  intro k
  induction k with
  | zero =>
    intro _ _ _ _ _ _ _ _ _ h
    simp [l_X12_latest_44_30] at h
  | succ k ih =>
    intro l2 l3 l4 l5 a51 a52 a53 a54 o h hk
    rw [l_X12_latest_44_30] at h
    refine x_iload dX12_latest_30 rfl ?_
    refine x_bipush (v := 64) dX12_latest_32 (by decide) ?_
    refine x_icmp_gt (tgt := 98) dX12_latest_34 (by decide) (fun c3 => ?_) (fun c3 => ?_)
    · replace h := xif_p c3 h
      refine V.drop1 (i := 0) (ls' := [_, _, _, _, _, _, _]) rfl ?_
      refine V.drop1 (i := 5) (ls' := [_, _, _, _, _, _, _]) rfl ?_
      show V yX12_latest cX12_latest (some .int) 7 61 (0, 0) 98 [none, some (.int l1), some (.int l2), some (.int l3), some (.int l4), none, none] [] (xof s0 [W_44 o44, W_45 a45, W_48 a48, W_49 a49, W_51 a51, W_52 a52, W_53 a53, W_54 a54]) _
      cases h
      exact hk
    · replace h := xif_n c3 h
      refine x_iload dX12_latest_37 rfl ?_
      refine x_aload_n dX12_latest_39 rfl ?_
      refine g_X12_64 rfl dX12_latest_40 (by decide) rfl rfl ?_
      refine x_aload_n dX12_latest_43 rfl ?_
      refine g_X12_32 rfl dX12_latest_44 (by decide) rfl rfl ?_
      refine x_iconst (v := 0) dX12_latest_47 (by decide) ?_
      refine x_ialdK (jn := 0) (v := (a51 0)) dX12_latest_48 (by decide) rfl (xin_ok (by decide)) (by decide) rfl ?_
      refine x_isub dX12_latest_49 ?_
      refine x_icmp_gt (tgt := 98) dX12_latest_50 (by decide) (fun c4 => ?_) (fun c4 => ?_)
      · replace h := xif_p c4 h
        refine V.drop1 (i := 0) (ls' := [_, _, _, _, _, _, _]) rfl ?_
        refine V.drop1 (i := 5) (ls' := [_, _, _, _, _, _, _]) rfl ?_
        show V yX12_latest cX12_latest (some .int) 7 61 (0, 0) 98 [none, some (.int l1), some (.int l2), some (.int l3), some (.int l4), none, none] [] (xof s0 [W_44 o44, W_45 a45, W_48 a48, W_49 a49, W_51 a51, W_52 a52, W_53 a53, W_54 a54]) _
        cases h
        exact hk
      · replace h := xif_n c4 h
        refine x_aload_n dX12_latest_53 rfl ?_
        refine x_iload dX12_latest_54 rfl ?_
        obtain ⟨q5, hq5, h⟩ := Option.bind_eq_some_iff.mp h
        refine y_callVi (L' := [(44, _), (45, _), (48, _), (49, _), (51, _), (52, _), (53, _), (54, _)]) mi_X12_regainedBy ml_X12_218 im_X12_regainedBy se_X12_regainedBy (rfl : vwCl[11]? = _) dX12_latest_56 (fun s1 => v_X12_regainedBy_44 s1 n _ _ _ _ _ _ _ _ _ q5 hq5) (by decide) rfl (Nat.le_of_ble_eq_true rfl) rfl (by decide) (Nat.le_of_ble_eq_true rfl) rfl rfl rfl rfl ?_
        refine x_istore (ls' := [_, _, _, _, _, _, _]) dX12_latest_59 rfl rfl ?_
        refine x_iload dX12_latest_61 rfl ?_
        refine x_iload dX12_latest_63 rfl ?_
        refine x_iconst (v := -1) dX12_latest_65 (by decide) ?_
        refine x_icmp_ne (tgt := 73) dX12_latest_66 (by decide) (fun c6 => ?_) (fun c6 => ?_)
        · replace h := xif_n c6 h
          refine x_iconst (v := 1) dX12_latest_73 (by decide) ?_
          refine x_iadd dX12_latest_74 ?_
          refine x_istore (ls' := [_, _, _, _, _, _, _]) dX12_latest_75 rfl rfl ?_
          refine x_iload dX12_latest_77 rfl ?_
          refine x_iload_n dX12_latest_79 rfl ?_
          refine x_icmp_gt (tgt := 86) dX12_latest_80 (by decide) (fun c7 => ?_) (fun c7 => ?_)
          · replace h := xif_p c7 h
            refine x_iload dX12_latest_86 rfl ?_
            refine x_istore_n (ls' := [_, _, _, _, _, _, _]) dX12_latest_88 rfl rfl ?_
            refine x_iload dX12_latest_89 rfl ?_
            refine x_istore_n (ls' := [_, _, _, _, _, _, _]) dX12_latest_91 rfl rfl ?_
            refine x_iinc (v := l5 + 1) (ls' := [_, _, _, _, _, _, _]) dX12_latest_92 rfl rfl rfl rfl ?_
            refine x_goto (tgt := 30) dX12_latest_95 (by decide) ?_
            refine V.drop1 (i := 6) (ls' := [_, _, _, _, _, _, _]) rfl ?_
            show V yX12_latest cX12_latest (some .int) 7 61 (0, 0) 30 [some (.ref 44), some (.int l1), some (.int q5.1), some (.int l5), some (.int ((l4 + 1))), some (.int ((l5 + 1))), none] [] (xof s0 [W_44 o44, W_45 a45, W_48 a48, W_49 a49, W_51 q5.2.1, W_52 q5.2.2.1, W_53 q5.2.2.2.1, W_54 q5.2.2.2.2]) _
            exact ih q5.1 l5 ((l4 + 1)) ((l5 + 1)) q5.2.1 q5.2.2.1 q5.2.2.2.1 q5.2.2.2.2 _ h hk
          · replace h := xif_n c7 h
            refine x_goto (tgt := 92) dX12_latest_83 (by decide) ?_
            refine x_iinc (v := l5 + 1) (ls' := [_, _, _, _, _, _, _]) dX12_latest_92 rfl rfl rfl rfl ?_
            refine x_goto (tgt := 30) dX12_latest_95 (by decide) ?_
            refine V.drop1 (i := 6) (ls' := [_, _, _, _, _, _, _]) rfl ?_
            show V yX12_latest cX12_latest (some .int) 7 61 (0, 0) 30 [some (.ref 44), some (.int l1), some (.int l2), some (.int l3), some (.int ((l4 + 1))), some (.int ((l5 + 1))), none] [] (xof s0 [W_44 o44, W_45 a45, W_48 a48, W_49 a49, W_51 q5.2.1, W_52 q5.2.2.1, W_53 q5.2.2.2.1, W_54 q5.2.2.2.2]) _
            exact ih l2 l3 ((l4 + 1)) ((l5 + 1)) q5.2.1 q5.2.2.1 q5.2.2.2.1 q5.2.2.2.2 _ h hk
        · replace h := xif_p c6 h
          refine x_iconst (v := 0) dX12_latest_69 (by decide) ?_
          refine x_goto (tgt := 74) dX12_latest_70 (by decide) ?_
          refine x_iadd dX12_latest_74 ?_
          refine x_istore (ls' := [_, _, _, _, _, _, _]) dX12_latest_75 rfl rfl ?_
          refine x_iload dX12_latest_77 rfl ?_
          refine x_iload_n dX12_latest_79 rfl ?_
          refine x_icmp_gt (tgt := 86) dX12_latest_80 (by decide) (fun c8 => ?_) (fun c8 => ?_)
          · replace h := xif_p c8 h
            refine x_iload dX12_latest_86 rfl ?_
            refine x_istore_n (ls' := [_, _, _, _, _, _, _]) dX12_latest_88 rfl rfl ?_
            refine x_iload dX12_latest_89 rfl ?_
            refine x_istore_n (ls' := [_, _, _, _, _, _, _]) dX12_latest_91 rfl rfl ?_
            refine x_iinc (v := l5 + 1) (ls' := [_, _, _, _, _, _, _]) dX12_latest_92 rfl rfl rfl rfl ?_
            refine x_goto (tgt := 30) dX12_latest_95 (by decide) ?_
            refine V.drop1 (i := 6) (ls' := [_, _, _, _, _, _, _]) rfl ?_
            show V yX12_latest cX12_latest (some .int) 7 61 (0, 0) 30 [some (.ref 44), some (.int l1), some (.int q5.1), some (.int l5), some (.int ((l4 + 0))), some (.int ((l5 + 1))), none] [] (xof s0 [W_44 o44, W_45 a45, W_48 a48, W_49 a49, W_51 q5.2.1, W_52 q5.2.2.1, W_53 q5.2.2.2.1, W_54 q5.2.2.2.2]) _
            exact ih q5.1 l5 ((l4 + 0)) ((l5 + 1)) q5.2.1 q5.2.2.1 q5.2.2.2.1 q5.2.2.2.2 _ h hk
          · replace h := xif_n c8 h
            refine x_goto (tgt := 92) dX12_latest_83 (by decide) ?_
            refine x_iinc (v := l5 + 1) (ls' := [_, _, _, _, _, _, _]) dX12_latest_92 rfl rfl rfl rfl ?_
            refine x_goto (tgt := 30) dX12_latest_95 (by decide) ?_
            refine V.drop1 (i := 6) (ls' := [_, _, _, _, _, _, _]) rfl ?_
            show V yX12_latest cX12_latest (some .int) 7 61 (0, 0) 30 [some (.ref 44), some (.int l1), some (.int l2), some (.int l3), some (.int ((l4 + 0))), some (.int ((l5 + 1))), none] [] (xof s0 [W_44 o44, W_45 a45, W_48 a48, W_49 a49, W_51 q5.2.1, W_52 q5.2.2.1, W_53 q5.2.2.2.1, W_54 q5.2.2.2.2]) _
            exact ih l2 l3 ((l4 + 0)) ((l5 + 1)) q5.2.1 q5.2.2.1 q5.2.2.2.1 q5.2.2.2.2 _ h hk
def b_X12_latest_44_98 (n : Nat) (o44 : Nat → Int32) (a45 : Nat → Int32) (a48 : Nat → Int32) (a49 : Nat → Int32) (a51 : Nat → Int32) (a52 : Nat → Int32) (a53 : Nat → Int32) (a54 : Nat → Int32) (l1 : Int32) (l2 : Int32) (l3 : Int32) (l4 : Int32) : Option (((Int32) × (Nat → Int32) × (Nat → Int32) × (Nat → Int32) × (Nat → Int32) × (Nat → Int32))) := (if l1 = 0 then (some (l2, o44, a51, a52, a53, a54)) else (if l1 = 1 then (some (l3, o44, a51, a52, a53, a54)) else (some (l4, o44, a51, a52, a53, a54))))
set_option maxRecDepth 100000 in
set_option maxHeartbeats 400000 in
theorem vb_X12_latest_44_98 (s0 : XW) (n : Nat) (o44 : Nat → Int32) (a45 : Nat → Int32) (a48 : Nat → Int32) (a49 : Nat → Int32) (a51 : Nat → Int32) (a52 : Nat → Int32) (a53 : Nat → Int32) (a54 : Nat → Int32) (l1 : Int32) (l2 : Int32) (l3 : Int32) (l4 : Int32) (q : ((Int32) × (Nat → Int32) × (Nat → Int32) × (Nat → Int32) × (Nat → Int32) × (Nat → Int32))) (h : b_X12_latest_44_98 n o44 a45 a48 a49 a51 a52 a53 a54 l1 l2 l3 l4 = some q) : V yX12_latest cX12_latest (some .int) 7 61 (0, 0) 98 [none, some (.int l1), some (.int l2), some (.int l3), some (.int l4), none, none] [] (xof s0 [W_44 o44, W_45 a45, W_48 a48, W_49 a49, W_51 a51, W_52 a52, W_53 a53, W_54 a54]) (xq 61 (some (.int q.1)) (xof s0 [W_44 q.2.1, W_45 a45, W_48 a48, W_49 a49, W_51 q.2.2.1, W_52 q.2.2.2.1, W_53 q.2.2.2.2.1, W_54 q.2.2.2.2.2])) := by
  unfold b_X12_latest_44_98 at h
  refine x_iload_n dX12_latest_98 rfl ?_
  refine x_if_ne (tgt := 106) dX12_latest_99 (by decide) (fun c10 => ?_) (fun c10 => ?_)
  · replace h := xif_n c10 h
    refine x_iload_n dX12_latest_106 rfl ?_
    refine x_iconst (v := 1) dX12_latest_107 (by decide) ?_
    refine x_icmp_ne (tgt := 115) dX12_latest_108 (by decide) (fun c11 => ?_) (fun c11 => ?_)
    · replace h := xif_n c11 h
      refine x_iload dX12_latest_115 rfl ?_
      cases h
      exact x_iret dX12_latest_117 ⟨rfl, rfl, rfl⟩
    · replace h := xif_p c11 h
      refine x_iload_n dX12_latest_111 rfl ?_
      refine x_goto (tgt := 117) dX12_latest_112 (by decide) ?_
      cases h
      exact x_iret dX12_latest_117 ⟨rfl, rfl, rfl⟩
  · replace h := xif_p c10 h
    refine x_iload_n dX12_latest_102 rfl ?_
    refine x_goto (tgt := 117) dX12_latest_103 (by decide) ?_
    cases h
    exact x_iret dX12_latest_117 ⟨rfl, rfl, rfl⟩
def f_X12_latest_44 (n : Nat) (o44 : Nat → Int32) (a45 : Nat → Int32) (a48 : Nat → Int32) (a49 : Nat → Int32) (a51 : Nat → Int32) (a52 : Nat → Int32) (a53 : Nat → Int32) (a54 : Nat → Int32) (p1 : Int32) : Option (((Int32) × (Nat → Int32) × (Nat → Int32) × (Nat → Int32) × (Nat → Int32) × (Nat → Int32))) := (Option.bind (f_X12_isIn ((Int32.toInt64 p1)) 0 2) (fun q1 => (if q1 = 0 then (some ((-2), upd o44 0 0, a51, a52, a53, a54)) else (Option.bind (l_X12_latest_44_30 n (upd o44 0 0) a45 a48 a49 p1 n ((-1)) ((-1)) 0 1 a51 a52 a53 a54) (fun u9 => (b_X12_latest_44_98 n (upd o44 0 0) a45 a48 a49 u9.2.2.2.2.1 u9.2.2.2.2.2.1 u9.2.2.2.2.2.2.1 u9.2.2.2.2.2.2.2 p1 u9.1 u9.2.1 u9.2.2.1))))))
set_option maxRecDepth 100000 in
set_option maxHeartbeats 400000 in
theorem v_X12_latest_44 (s0 : XW) (n : Nat) (o44 : Nat → Int32) (a45 : Nat → Int32) (a48 : Nat → Int32) (a49 : Nat → Int32) (a51 : Nat → Int32) (a52 : Nat → Int32) (a53 : Nat → Int32) (a54 : Nat → Int32) (p1 : Int32) (q : ((Int32) × (Nat → Int32) × (Nat → Int32) × (Nat → Int32) × (Nat → Int32) × (Nat → Int32))) (h : f_X12_latest_44 n o44 a45 a48 a49 a51 a52 a53 a54 p1 = some q) : C_X12_latest 7 61 [.ref 44, .int p1] (xof s0 [W_44 o44, W_45 a45, W_48 a48, W_49 a49, W_51 a51, W_52 a52, W_53 a53, W_54 a54]) (some (.int q.1)) (xof s0 [W_44 q.2.1, W_45 a45, W_48 a48, W_49 a49, W_51 q.2.2.1, W_52 q.2.2.2.1, W_53 q.2.2.2.2.1, W_54 q.2.2.2.2.2]) := by
  unfold f_X12_latest_44 at h
  show V yX12_latest cX12_latest (some .int) 7 61 (0, 0) 0 [some (.ref 44), some (.int p1), none, none, none, none, none] [] (xof s0 [W_44 o44, W_45 a45, W_48 a48, W_49 a49, W_51 a51, W_52 a52, W_53 a53, W_54 a54]) _
  refine x_aload_n dX12_latest_0 rfl ?_
  refine x_iconst (v := 0) dX12_latest_1 (by decide) ?_
  refine p_X12_1 (fs' := [_, _, _, _, _, _, _, _, _, _, _, _, _, _, _, _, _, _, _, _, _, _]) (L' := [(44, _), (45, _), (48, _), (49, _), (51, _), (52, _), (53, _), (54, _)]) rfl dX12_latest_2 (by decide) rfl (Nat.le_of_ble_eq_true rfl) rfl rfl ?_
  refine x_iload_n dX12_latest_5 rfl ?_
  refine x_i2l dX12_latest_6 ?_
  refine x_lconst (v := 0) dX12_latest_7 (by decide) ?_
  refine x_ldc2 dX12_latest_8 cn_X12_99 ?_
  obtain ⟨q1, hq1, h⟩ := Option.bind_eq_some_iff.mp h
  refine y_callSi (L' := [(44, _), (45, _), (48, _), (49, _), (51, _), (52, _), (53, _), (54, _)]) mi_X12_isIn ml_X12_77 st_X12_isIn dX12_latest_11 (fun s1 => v_X12_isIn 61 s1 _ _ _ q1 hq1) (Nat.le_of_ble_eq_true rfl) rfl (by decide) (Nat.le_of_ble_eq_true rfl) rfl rfl rfl rfl ?_
  refine x_if_ne (tgt := 20) dX12_latest_14 (by decide) (fun c2 => ?_) (fun c2 => ?_)
  · replace h := xif_n c2 h
    refine x_iconst (v := -1) dX12_latest_20 (by decide) ?_
    refine x_istore_n (ls' := [_, _, _, _, _, _, _]) dX12_latest_21 rfl rfl ?_
    refine x_iconst (v := -1) dX12_latest_22 (by decide) ?_
    refine x_istore_n (ls' := [_, _, _, _, _, _, _]) dX12_latest_23 rfl rfl ?_
    refine x_iconst (v := 0) dX12_latest_24 (by decide) ?_
    refine x_istore (ls' := [_, _, _, _, _, _, _]) dX12_latest_25 rfl rfl ?_
    refine x_iconst (v := 1) dX12_latest_27 (by decide) ?_
    refine x_istore (ls' := [_, _, _, _, _, _, _]) dX12_latest_28 rfl rfl ?_
    obtain ⟨u9, hu9, h⟩ := Option.bind_eq_some_iff.mp h
    show V yX12_latest cX12_latest (some .int) 7 61 (0, 0) 30 [some (.ref 44), some (.int p1), some (.int ((-1))), some (.int ((-1))), some (.int 0), some (.int 1), none] [] (xof s0 [W_44 (upd o44 0 0), W_45 a45, W_48 a48, W_49 a49, W_51 a51, W_52 a52, W_53 a53, W_54 a54]) _
    refine lv_X12_latest_44_30 s0 _ (upd o44 0 0) a45 a48 a49 p1 _ n ((-1)) ((-1)) 0 1 a51 a52 a53 a54 _ hu9 ?_
    show V yX12_latest cX12_latest (some .int) 7 61 (0, 0) 98 [none, some (.int p1), some (.int u9.1), some (.int u9.2.1), some (.int u9.2.2.1), none, none] [] (xof s0 [W_44 (upd o44 0 0), W_45 a45, W_48 a48, W_49 a49, W_51 u9.2.2.2.2.1, W_52 u9.2.2.2.2.2.1, W_53 u9.2.2.2.2.2.2.1, W_54 u9.2.2.2.2.2.2.2]) _
    exact vb_X12_latest_44_98 s0 n (upd o44 0 0) a45 a48 a49 u9.2.2.2.2.1 u9.2.2.2.2.2.1 u9.2.2.2.2.2.2.1 u9.2.2.2.2.2.2.2 p1 u9.1 u9.2.1 u9.2.2.1 q h
  · replace h := xif_p c2 h
    refine x_bipush (v := -2) dX12_latest_17 (by decide) ?_
    cases h
    exact x_iret dX12_latest_19 ⟨rfl, rfl, rfl⟩
def l_X12_pairs_44_43 (n : Nat) (o44 : Nat → Int32) (l1 : Int32) (l2 : Int32) (l4 : Int32) : Nat → (Int32) → (Int32) → Option ((((Int32) × (Nat → Int32))) ⊕ (((Int32) × (Int32))))
  | 0, _, _ => none
  | k + 1, l3, l5 => (if 40 ≤ l5 then (some (Sum.inr (l3, l5))) else (Option.bind (f_X12_markOf n l4) (fun q6 => (Option.bind (f_X12_markOf n l5) (fun q7 => (if (q6 ^^^ q7) = l1 then (if l3 = l2 then (some (Sum.inl (((100 * l4) + l5), o44))) else (l_X12_pairs_44_43 n o44 l1 l2 l4 k ((l3 + 1)) ((l5 + 1)))) else (l_X12_pairs_44_43 n o44 l1 l2 l4 k l3 ((l5 + 1)))))))))
set_option maxRecDepth 100000 in
set_option maxHeartbeats 400000 in
theorem lv_X12_pairs_44_43 (s0 : XW) (n : Nat) (o44 : Nat → Int32) (l1 : Int32) (l2 : Int32) (l4 : Int32) (Q : Nat → Option Value → XW → Prop) : ∀ (k : Nat) (l3 : Int32) (l5 : Int32) (o : (((Int32) × (Nat → Int32))) ⊕ (((Int32) × (Int32)))), l_X12_pairs_44_43 n o44 l1 l2 l4 k l3 l5 = some o → ((∀ z, o = Sum.inl z → Q 61 (some (.int z.1)) (xof s0 [W_44 z.2])) ∧ (∀ z, o = Sum.inr z → V yX12_pairs cX12_pairs (some .int) 2 61 (0, 0) 91 [none, some (.int l1), some (.int l2), some (.int z.1), some (.int l4), none] [] (xof s0 [W_44 o44]) Q)) → V yX12_pairs cX12_pairs (some .int) 2 61 (0, 0) 43 [none, some (.int l1), some (.int l2), some (.int l3), some (.int l4), some (.int l5)] [] (xof s0 [W_44 o44]) Q := by
  intro k
  induction k with
  | zero =>
    intro _ _ _ h
    simp [l_X12_pairs_44_43] at h
  | succ k ih =>
    intro l3 l5 o h hk
    rw [l_X12_pairs_44_43] at h
    refine x_iload dX12_pairs_43 rfl ?_
    refine x_bipush (v := 40) dX12_pairs_45 (by decide) ?_
    refine x_icmp_ge (tgt := 91) dX12_pairs_47 (by decide) (fun c5 => ?_) (fun c5 => ?_)
    · replace h := xif_p c5 h
      refine V.drop1 (i := 5) (ls' := [_, _, _, _, _, _]) rfl ?_
      show V yX12_pairs cX12_pairs (some .int) 2 61 (0, 0) 91 [none, some (.int l1), some (.int l2), some (.int l3), some (.int l4), none] [] (xof s0 [W_44 o44]) _
      cases h
      exact hk.2 (l3, l5) rfl
    · replace h := xif_n c5 h
      refine x_iload dX12_pairs_50 rfl ?_
      obtain ⟨q6, hq6, h⟩ := Option.bind_eq_some_iff.mp h
      refine y_callSi (L' := [(44, _)]) mi_X12_markOf ml_X12_85 st_X12_markOf dX12_pairs_52 (fun s1 => v_X12_markOf 61 s1 n _ q6 hq6) (Nat.le_of_ble_eq_true rfl) rfl (by decide) (Nat.le_of_ble_eq_true rfl) rfl rfl rfl rfl ?_
      refine x_iload dX12_pairs_55 rfl ?_
      obtain ⟨q7, hq7, h⟩ := Option.bind_eq_some_iff.mp h
      refine y_callSi (L' := [(44, _)]) mi_X12_markOf ml_X12_85 st_X12_markOf dX12_pairs_57 (fun s1 => v_X12_markOf 61 s1 n _ q7 hq7) (Nat.le_of_ble_eq_true rfl) rfl (by decide) (Nat.le_of_ble_eq_true rfl) rfl rfl rfl rfl ?_
      refine x_ixor dX12_pairs_60 ?_
      refine x_iload_n dX12_pairs_61 rfl ?_
      refine x_icmp_eq (tgt := 68) dX12_pairs_62 (by decide) (fun c8 => ?_) (fun c8 => ?_)
      · replace h := xif_p c8 h
        refine x_iload_n dX12_pairs_68 rfl ?_
        refine x_iload_n dX12_pairs_69 rfl ?_
        refine x_icmp_ne (tgt := 82) dX12_pairs_70 (by decide) (fun c9 => ?_) (fun c9 => ?_)
        · replace h := xif_n c9 h
          refine x_iinc (v := l3 + 1) (ls' := [_, _, _, _, _, _]) dX12_pairs_82 rfl rfl rfl rfl ?_
          refine x_iinc (v := l5 + 1) (ls' := [_, _, _, _, _, _]) dX12_pairs_85 rfl rfl rfl rfl ?_
          refine x_goto (tgt := 43) dX12_pairs_88 (by decide) ?_
          show V yX12_pairs cX12_pairs (some .int) 2 61 (0, 0) 43 [none, some (.int l1), some (.int l2), some (.int ((l3 + 1))), some (.int l4), some (.int ((l5 + 1)))] [] (xof s0 [W_44 o44]) _
          exact ih ((l3 + 1)) ((l5 + 1)) _ h hk
        · replace h := xif_p c9 h
          refine x_bipush (v := 100) dX12_pairs_73 (by decide) ?_
          refine x_iload dX12_pairs_75 rfl ?_
          refine x_imul dX12_pairs_77 ?_
          refine x_iload dX12_pairs_78 rfl ?_
          refine x_iadd dX12_pairs_80 ?_
          cases h
          exact x_iret dX12_pairs_81 (hk.1 (((100 * l4) + l5), o44) rfl)
      · replace h := xif_n c8 h
        refine x_goto (tgt := 85) dX12_pairs_65 (by decide) ?_
        refine x_iinc (v := l5 + 1) (ls' := [_, _, _, _, _, _]) dX12_pairs_85 rfl rfl rfl rfl ?_
        refine x_goto (tgt := 43) dX12_pairs_88 (by decide) ?_
        show V yX12_pairs cX12_pairs (some .int) 2 61 (0, 0) 43 [none, some (.int l1), some (.int l2), some (.int l3), some (.int l4), some (.int ((l5 + 1)))] [] (xof s0 [W_44 o44]) _
        exact ih l3 ((l5 + 1)) _ h hk
def l_X12_pairs_44_30 (n : Nat) (o44 : Nat → Int32) (l1 : Int32) (l2 : Int32) : Nat → (Int32) → (Int32) → Option ((((Int32) × (Nat → Int32))) ⊕ (((Int32) × (Int32))))
  | 0, _, _ => none
  | k + 1, l3, l4 => (if 40 ≤ l4 then (some (Sum.inr (l3, l4))) else (Option.bind (l_X12_pairs_44_43 n o44 l1 l2 l4 n l3 ((l4 + 1))) (fun u10 => Sum.elim (fun z11 => some (Sum.inl z11)) (fun z11 => (l_X12_pairs_44_30 n o44 l1 l2 k z11.1 ((l4 + 1)))) u10)))
set_option maxRecDepth 100000 in
set_option maxHeartbeats 400000 in
theorem lv_X12_pairs_44_30 (s0 : XW) (n : Nat) (o44 : Nat → Int32) (l1 : Int32) (l2 : Int32) (Q : Nat → Option Value → XW → Prop) : ∀ (k : Nat) (l3 : Int32) (l4 : Int32) (o : (((Int32) × (Nat → Int32))) ⊕ (((Int32) × (Int32)))), l_X12_pairs_44_30 n o44 l1 l2 k l3 l4 = some o → ((∀ z, o = Sum.inl z → Q 61 (some (.int z.1)) (xof s0 [W_44 z.2])) ∧ (∀ z, o = Sum.inr z → V yX12_pairs cX12_pairs (some .int) 2 61 (0, 0) 97 [none, none, some (.int l2), some (.int z.1), none, none] [] (xof s0 [W_44 o44]) Q)) → V yX12_pairs cX12_pairs (some .int) 2 61 (0, 0) 30 [none, some (.int l1), some (.int l2), some (.int l3), some (.int l4), none] [] (xof s0 [W_44 o44]) Q := by
  intro k
  induction k with
  | zero =>
    intro _ _ _ h
    simp [l_X12_pairs_44_30] at h
  | succ k ih =>
    intro l3 l4 o h hk
    rw [l_X12_pairs_44_30] at h
    refine x_iload dX12_pairs_30 rfl ?_
    refine x_bipush (v := 40) dX12_pairs_32 (by decide) ?_
    refine x_icmp_ge (tgt := 97) dX12_pairs_34 (by decide) (fun c4 => ?_) (fun c4 => ?_)
    · replace h := xif_p c4 h
      refine V.drop1 (i := 1) (ls' := [_, _, _, _, _, _]) rfl ?_
      refine V.drop1 (i := 4) (ls' := [_, _, _, _, _, _]) rfl ?_
      show V yX12_pairs cX12_pairs (some .int) 2 61 (0, 0) 97 [none, none, some (.int l2), some (.int l3), none, none] [] (xof s0 [W_44 o44]) _
      cases h
      exact hk.2 (l3, l4) rfl
    · replace h := xif_n c4 h
      refine x_iload dX12_pairs_37 rfl ?_
      refine x_iconst (v := 1) dX12_pairs_39 (by decide) ?_
      refine x_iadd dX12_pairs_40 ?_
      refine x_istore (ls' := [_, _, _, _, _, _]) dX12_pairs_41 rfl rfl ?_
      obtain ⟨u10, hu10, h⟩ := Option.bind_eq_some_iff.mp h
      show V yX12_pairs cX12_pairs (some .int) 2 61 (0, 0) 43 [none, some (.int l1), some (.int l2), some (.int l3), some (.int l4), some (.int ((l4 + 1)))] [] (xof s0 [W_44 o44]) _
      refine lv_X12_pairs_44_43 s0 _ o44 l1 l2 l4 _ n l3 ((l4 + 1)) _ hu10 ⟨fun z11 hz => ?_, fun z11 hz => ?_⟩
      · subst hz
        replace h := xsl h
        cases h
        exact hk.1 z11 rfl
      subst hz
      replace h := xsr h
      refine x_iinc (v := l4 + 1) (ls' := [_, _, _, _, _, _]) dX12_pairs_91 rfl rfl rfl rfl ?_
      refine x_goto (tgt := 30) dX12_pairs_94 (by decide) ?_
      show V yX12_pairs cX12_pairs (some .int) 2 61 (0, 0) 30 [none, some (.int l1), some (.int l2), some (.int z11.1), some (.int ((l4 + 1))), none] [] (xof s0 [W_44 o44]) _
      exact ih z11.1 ((l4 + 1)) _ h hk
def f_X12_pairs_44 (n : Nat) (o44 : Nat → Int32) (p1 : Int32) (p2 : Int32) : Option (((Int32) × (Nat → Int32))) := (Option.bind (f_X12_isIn ((Int32.toInt64 p1)) 0 255) (fun q1 => (if q1 = 0 then (some ((-3), upd o44 0 0)) else (if (-1) ≤ p2 then (Option.bind (l_X12_pairs_44_30 n (upd o44 0 0) p1 p2 n 0 0) (fun u12 => Sum.elim (fun z13 => some z13) (fun z13 => (if p2 = (-1) then (some (z13.1, upd o44 0 0)) else (some ((-1), upd o44 0 0)))) u12)) else (some ((-3), upd o44 0 0))))))
set_option maxRecDepth 100000 in
set_option maxHeartbeats 400000 in
theorem v_X12_pairs_44 (s0 : XW) (n : Nat) (o44 : Nat → Int32) (p1 : Int32) (p2 : Int32) (q : ((Int32) × (Nat → Int32))) (h : f_X12_pairs_44 n o44 p1 p2 = some q) : C_X12_pairs 2 61 [.ref 44, .int p1, .int p2] (xof s0 [W_44 o44]) (some (.int q.1)) (xof s0 [W_44 q.2]) := by
  unfold f_X12_pairs_44 at h
  show V yX12_pairs cX12_pairs (some .int) 2 61 (0, 0) 0 [some (.ref 44), some (.int p1), some (.int p2), none, none, none] [] (xof s0 [W_44 o44]) _
  refine x_aload_n dX12_pairs_0 rfl ?_
  refine x_iconst (v := 0) dX12_pairs_1 (by decide) ?_
  refine p_X12_1 (fs' := [_, _, _, _, _, _, _, _, _, _, _, _, _, _, _, _, _, _, _, _, _, _]) (L' := [(44, _)]) rfl dX12_pairs_2 (by decide) rfl (Nat.le_of_ble_eq_true rfl) rfl rfl ?_
  refine x_iload_n dX12_pairs_5 rfl ?_
  refine x_i2l dX12_pairs_6 ?_
  refine x_lconst (v := 0) dX12_pairs_7 (by decide) ?_
  refine x_ldc2 dX12_pairs_8 cn_X12_91 ?_
  obtain ⟨q1, hq1, h⟩ := Option.bind_eq_some_iff.mp h
  refine y_callSi (L' := [(44, _)]) mi_X12_isIn ml_X12_77 st_X12_isIn dX12_pairs_11 (fun s1 => v_X12_isIn 61 s1 _ _ _ q1 hq1) (Nat.le_of_ble_eq_true rfl) rfl (by decide) (Nat.le_of_ble_eq_true rfl) rfl rfl rfl rfl ?_
  refine x_if_eq (tgt := 22) dX12_pairs_14 (by decide) (fun c2 => ?_) (fun c2 => ?_)
  · replace h := xif_p c2 h
    refine x_bipush (v := -3) dX12_pairs_22 (by decide) ?_
    cases h
    exact x_iret dX12_pairs_24 ⟨rfl, rfl, rfl⟩
  · replace h := xif_n c2 h
    refine x_iload_n dX12_pairs_17 rfl ?_
    refine x_iconst (v := -1) dX12_pairs_18 (by decide) ?_
    refine x_icmp_ge (tgt := 25) dX12_pairs_19 (by decide) (fun c3 => ?_) (fun c3 => ?_)
    · replace h := xif_p c3 h
      refine x_iconst (v := 0) dX12_pairs_25 (by decide) ?_
      refine x_istore_n (ls' := [_, _, _, _, _, _]) dX12_pairs_26 rfl rfl ?_
      refine x_iconst (v := 0) dX12_pairs_27 (by decide) ?_
      refine x_istore (ls' := [_, _, _, _, _, _]) dX12_pairs_28 rfl rfl ?_
      refine V.drop1 (i := 0) (ls' := [_, _, _, _, _, _]) rfl ?_
      obtain ⟨u12, hu12, h⟩ := Option.bind_eq_some_iff.mp h
      show V yX12_pairs cX12_pairs (some .int) 2 61 (0, 0) 30 [none, some (.int p1), some (.int p2), some (.int 0), some (.int 0), none] [] (xof s0 [W_44 (upd o44 0 0)]) _
      refine lv_X12_pairs_44_30 s0 _ (upd o44 0 0) p1 p2 _ n 0 0 _ hu12 ⟨fun z13 hz => ?_, fun z13 hz => ?_⟩
      · subst hz
        replace h := xsl h
        cases h
        exact ⟨rfl, rfl, rfl⟩
      subst hz
      replace h := xsr h
      refine x_iload_n dX12_pairs_97 rfl ?_
      refine x_iconst (v := -1) dX12_pairs_98 (by decide) ?_
      refine x_icmp_ne (tgt := 106) dX12_pairs_99 (by decide) (fun c14 => ?_) (fun c14 => ?_)
      · replace h := xif_n c14 h
        refine x_iconst (v := -1) dX12_pairs_106 (by decide) ?_
        cases h
        exact x_iret dX12_pairs_107 ⟨rfl, rfl, rfl⟩
      · replace h := xif_p c14 h
        refine x_iload_n dX12_pairs_102 rfl ?_
        refine x_goto (tgt := 107) dX12_pairs_103 (by decide) ?_
        cases h
        exact x_iret dX12_pairs_107 ⟨rfl, rfl, rfl⟩
    · replace h := xif_n c3 h
      refine x_bipush (v := -3) dX12_pairs_22 (by decide) ?_
      cases h
      exact x_iret dX12_pairs_24 ⟨rfl, rfl, rfl⟩
def l_X12_laysFewest_44_2 (n : Nat) (o44 : Nat → Int32) : Nat → (Int32) → (Nat → Int32) → Option (((Int32) × (Nat → Int32)))
  | 0, _, _ => none
  | k + 1, l1, a50 => (if 256 ≤ l1 then (some (l1, a50)) else (if l1 = 0 then (bif xin (10240 + l1) 10496 then (l_X12_laysFewest_44_2 n o44 k ((l1 + 1)) (upd a50 ((Int32.toNatClampNeg (10240 + l1))) 0)) else none) else (bif xin (10240 + l1) 10496 then (l_X12_laysFewest_44_2 n o44 k ((l1 + 1)) (upd a50 ((Int32.toNatClampNeg (10240 + l1))) 64)) else none)))
set_option maxRecDepth 100000 in
set_option maxHeartbeats 400000 in
theorem lv_X12_laysFewest_44_2 (s0 : XW) (n : Nat) (o44 : Nat → Int32) (Q : Nat → Option Value → XW → Prop) : ∀ (k : Nat) (l1 : Int32) (a50 : Nat → Int32) (o : ((Int32) × (Nat → Int32))), l_X12_laysFewest_44_2 n o44 k l1 a50 = some o → (V yX12_laysFewest cX12_laysFewest none 2 61 (0, 0) 35 [some (.ref 44), none, none, none, none] [] (xof s0 [W_44 o44, W_50 o.2]) Q) → V yX12_laysFewest cX12_laysFewest none 2 61 (0, 0) 2 [some (.ref 44), some (.int l1), none, none, none] [] (xof s0 [W_44 o44, W_50 a50]) Q := by
  intro k
  induction k with
  | zero =>
    intro _ _ _ h
    simp [l_X12_laysFewest_44_2] at h
  | succ k ih =>
    intro l1 a50 o h hk
    rw [l_X12_laysFewest_44_2] at h
    refine x_iload_n dX12_laysFewest_2 rfl ?_
    refine x_sipush (v := 256) dX12_laysFewest_3 (by decide) ?_
    refine x_icmp_ge (tgt := 35) dX12_laysFewest_6 (by decide) (fun c1 => ?_) (fun c1 => ?_)
    · replace h := xif_p c1 h
      refine V.drop1 (i := 1) (ls' := [_, _, _, _, _]) rfl ?_
      show V yX12_laysFewest cX12_laysFewest none 2 61 (0, 0) 35 [some (.ref 44), none, none, none, none] [] (xof s0 [W_44 o44, W_50 a50]) _
      cases h
      exact hk
    · replace h := xif_n c1 h
      refine x_aload_n dX12_laysFewest_9 rfl ?_
      refine g_X12_29 rfl dX12_laysFewest_10 (by decide) rfl rfl ?_
      refine x_sipush (v := 10240) dX12_laysFewest_13 (by decide) ?_
      refine x_iload_n dX12_laysFewest_16 rfl ?_
      refine x_iadd dX12_laysFewest_17 ?_
      refine x_iload_n dX12_laysFewest_18 rfl ?_
      refine x_if_ne (tgt := 26) dX12_laysFewest_19 (by decide) (fun c2 => ?_) (fun c2 => ?_)
      · replace h := xif_n c2 h
        refine x_bipush (v := 64) dX12_laysFewest_26 (by decide) ?_
        obtain ⟨c3, h⟩ := xck h
        refine x_iastK (jn := (Int32.toNatClampNeg (10240 + l1))) (L' := [(44, _), (50, _)]) dX12_laysFewest_28 (by decide) rfl (xin_ok c3) rfl rfl ?_
        refine x_iinc (v := l1 + 1) (ls' := [_, _, _, _, _]) dX12_laysFewest_29 rfl rfl rfl rfl ?_
        refine x_goto (tgt := 2) dX12_laysFewest_32 (by decide) ?_
        show V yX12_laysFewest cX12_laysFewest none 2 61 (0, 0) 2 [some (.ref 44), some (.int ((l1 + 1))), none, none, none] [] (xof s0 [W_44 o44, W_50 (upd a50 ((Int32.toNatClampNeg (10240 + l1))) 64)]) _
        exact ih ((l1 + 1)) (upd a50 ((Int32.toNatClampNeg (10240 + l1))) 64) _ h hk
      · replace h := xif_p c2 h
        refine x_iconst (v := 0) dX12_laysFewest_22 (by decide) ?_
        refine x_goto (tgt := 28) dX12_laysFewest_23 (by decide) ?_
        obtain ⟨c4, h⟩ := xck h
        refine x_iastK (jn := (Int32.toNatClampNeg (10240 + l1))) (L' := [(44, _), (50, _)]) dX12_laysFewest_28 (by decide) rfl (xin_ok c4) rfl rfl ?_
        refine x_iinc (v := l1 + 1) (ls' := [_, _, _, _, _]) dX12_laysFewest_29 rfl rfl rfl rfl ?_
        refine x_goto (tgt := 2) dX12_laysFewest_32 (by decide) ?_
        show V yX12_laysFewest cX12_laysFewest none 2 61 (0, 0) 2 [some (.ref 44), some (.int ((l1 + 1))), none, none, none] [] (xof s0 [W_44 o44, W_50 (upd a50 ((Int32.toNatClampNeg (10240 + l1))) 0)]) _
        exact ih ((l1 + 1)) (upd a50 ((Int32.toNatClampNeg (10240 + l1))) 0) _ h hk
def l_X12_laysFewest_44_44 (n : Nat) (o44 : Nat → Int32) (l1 : Int32) : Nat → (Int32) → (Nat → Int32) → Option (((Int32) × (Nat → Int32)))
  | 0, _, _ => none
  | k + 1, l2, a50 => (if 256 ≤ l2 then (some (l2, a50)) else (Option.bind (f_X12_markOf n l1) (fun q8 => (bif xin ((256 * (l1 + 1)) + (l2 ^^^ q8)) 10496 then (bif xin ((256 * (l1 + 1)) + l2) 10496 then (if (a50 (Int32.toNatClampNeg ((256 * (l1 + 1)) + l2))) ≤ (1 + (a50 (Int32.toNatClampNeg ((256 * (l1 + 1)) + (l2 ^^^ q8))))) then (bif xin ((256 * l1) + l2) 10496 then (l_X12_laysFewest_44_44 n o44 l1 k ((l2 + 1)) (upd a50 ((Int32.toNatClampNeg ((256 * l1) + l2))) ((a50 (Int32.toNatClampNeg ((256 * (l1 + 1)) + l2)))))) else none) else (bif xin ((256 * l1) + l2) 10496 then (l_X12_laysFewest_44_44 n o44 l1 k ((l2 + 1)) (upd a50 ((Int32.toNatClampNeg ((256 * l1) + l2))) ((1 + (a50 (Int32.toNatClampNeg ((256 * (l1 + 1)) + (l2 ^^^ q8)))))))) else none)) else none) else none))))
set_option maxRecDepth 100000 in
set_option maxHeartbeats 400000 in
theorem lv_X12_laysFewest_44_44 (s0 : XW) (n : Nat) (o44 : Nat → Int32) (l1 : Int32) (Q : Nat → Option Value → XW → Prop) : ∀ (k : Nat) (l2 : Int32) (a50 : Nat → Int32) (o : ((Int32) × (Nat → Int32))), l_X12_laysFewest_44_44 n o44 l1 k l2 a50 = some o → (V yX12_laysFewest cX12_laysFewest none 2 61 (0, 0) 119 [some (.ref 44), some (.int l1), none, none, none] [] (xof s0 [W_44 o44, W_50 o.2]) Q) → V yX12_laysFewest cX12_laysFewest none 2 61 (0, 0) 44 [some (.ref 44), some (.int l1), some (.int l2), none, none] [] (xof s0 [W_44 o44, W_50 a50]) Q := by
  intro k
  induction k with
  | zero =>
    intro _ _ _ h
    simp [l_X12_laysFewest_44_44] at h
  | succ k ih =>
    intro l2 a50 o h hk
    rw [l_X12_laysFewest_44_44] at h
    refine x_iload_n dX12_laysFewest_44 rfl ?_
    refine x_sipush (v := 256) dX12_laysFewest_45 (by decide) ?_
    refine x_icmp_ge (tgt := 119) dX12_laysFewest_48 (by decide) (fun c7 => ?_) (fun c7 => ?_)
    · replace h := xif_p c7 h
      refine V.drop1 (i := 2) (ls' := [_, _, _, _, _]) rfl ?_
      show V yX12_laysFewest cX12_laysFewest none 2 61 (0, 0) 119 [some (.ref 44), some (.int l1), none, none, none] [] (xof s0 [W_44 o44, W_50 a50]) _
      cases h
      exact hk
    · replace h := xif_n c7 h
      refine x_iconst (v := 1) dX12_laysFewest_51 (by decide) ?_
      refine x_aload_n dX12_laysFewest_52 rfl ?_
      refine g_X12_29 rfl dX12_laysFewest_53 (by decide) rfl rfl ?_
      refine x_sipush (v := 256) dX12_laysFewest_56 (by decide) ?_
      refine x_iload_n dX12_laysFewest_59 rfl ?_
      refine x_iconst (v := 1) dX12_laysFewest_60 (by decide) ?_
      refine x_iadd dX12_laysFewest_61 ?_
      refine x_imul dX12_laysFewest_62 ?_
      refine x_iload_n dX12_laysFewest_63 rfl ?_
      refine x_iload_n dX12_laysFewest_64 rfl ?_
      obtain ⟨q8, hq8, h⟩ := Option.bind_eq_some_iff.mp h
      refine y_callSi (L' := [(44, _), (50, _)]) mi_X12_markOf ml_X12_85 st_X12_markOf dX12_laysFewest_65 (fun s1 => v_X12_markOf 61 s1 n _ q8 hq8) (Nat.le_of_ble_eq_true rfl) rfl (by decide) (Nat.le_of_ble_eq_true rfl) rfl rfl rfl rfl ?_
      refine x_ixor dX12_laysFewest_68 ?_
      refine x_iadd dX12_laysFewest_69 ?_
      obtain ⟨c9, h⟩ := xck h
      refine x_ialdK (jn := (Int32.toNatClampNeg ((256 * (l1 + 1)) + (l2 ^^^ q8)))) (v := (a50 (Int32.toNatClampNeg ((256 * (l1 + 1)) + (l2 ^^^ q8))))) dX12_laysFewest_70 (by decide) rfl (xin_ok c9) rfl rfl ?_
      refine x_iadd dX12_laysFewest_71 ?_
      refine x_istore_n (ls' := [_, _, _, _, _]) dX12_laysFewest_72 rfl rfl ?_
      refine x_aload_n dX12_laysFewest_73 rfl ?_
      refine g_X12_29 rfl dX12_laysFewest_74 (by decide) rfl rfl ?_
      refine x_sipush (v := 256) dX12_laysFewest_77 (by decide) ?_
      refine x_iload_n dX12_laysFewest_80 rfl ?_
      refine x_iconst (v := 1) dX12_laysFewest_81 (by decide) ?_
      refine x_iadd dX12_laysFewest_82 ?_
      refine x_imul dX12_laysFewest_83 ?_
      refine x_iload_n dX12_laysFewest_84 rfl ?_
      refine x_iadd dX12_laysFewest_85 ?_
      obtain ⟨c10, h⟩ := xck h
      refine x_ialdK (jn := (Int32.toNatClampNeg ((256 * (l1 + 1)) + l2))) (v := (a50 (Int32.toNatClampNeg ((256 * (l1 + 1)) + l2)))) dX12_laysFewest_86 (by decide) rfl (xin_ok c10) rfl rfl ?_
      refine x_istore (ls' := [_, _, _, _, _]) dX12_laysFewest_87 rfl rfl ?_
      refine x_aload_n dX12_laysFewest_89 rfl ?_
      refine g_X12_29 rfl dX12_laysFewest_90 (by decide) rfl rfl ?_
      refine x_sipush (v := 256) dX12_laysFewest_93 (by decide) ?_
      refine x_iload_n dX12_laysFewest_96 rfl ?_
      refine x_imul dX12_laysFewest_97 ?_
      refine x_iload_n dX12_laysFewest_98 rfl ?_
      refine x_iadd dX12_laysFewest_99 ?_
      refine x_iload_n dX12_laysFewest_100 rfl ?_
      refine x_iload dX12_laysFewest_101 rfl ?_
      refine x_icmp_ge (tgt := 110) dX12_laysFewest_103 (by decide) (fun c11 => ?_) (fun c11 => ?_)
      · replace h := xif_p c11 h
        refine x_iload dX12_laysFewest_110 rfl ?_
        obtain ⟨c12, h⟩ := xck h
        refine x_iastK (jn := (Int32.toNatClampNeg ((256 * l1) + l2))) (L' := [(44, _), (50, _)]) dX12_laysFewest_112 (by decide) rfl (xin_ok c12) rfl rfl ?_
        refine x_iinc (v := l2 + 1) (ls' := [_, _, _, _, _]) dX12_laysFewest_113 rfl rfl rfl rfl ?_
        refine x_goto (tgt := 44) dX12_laysFewest_116 (by decide) ?_
        refine V.drop1 (i := 3) (ls' := [_, _, _, _, _]) rfl ?_
        refine V.drop1 (i := 4) (ls' := [_, _, _, _, _]) rfl ?_
        show V yX12_laysFewest cX12_laysFewest none 2 61 (0, 0) 44 [some (.ref 44), some (.int l1), some (.int ((l2 + 1))), none, none] [] (xof s0 [W_44 o44, W_50 (upd a50 ((Int32.toNatClampNeg ((256 * l1) + l2))) ((a50 (Int32.toNatClampNeg ((256 * (l1 + 1)) + l2)))))]) _
        exact ih ((l2 + 1)) (upd a50 ((Int32.toNatClampNeg ((256 * l1) + l2))) ((a50 (Int32.toNatClampNeg ((256 * (l1 + 1)) + l2))))) _ h hk
      · replace h := xif_n c11 h
        refine x_iload_n dX12_laysFewest_106 rfl ?_
        refine x_goto (tgt := 112) dX12_laysFewest_107 (by decide) ?_
        obtain ⟨c13, h⟩ := xck h
        refine x_iastK (jn := (Int32.toNatClampNeg ((256 * l1) + l2))) (L' := [(44, _), (50, _)]) dX12_laysFewest_112 (by decide) rfl (xin_ok c13) rfl rfl ?_
        refine x_iinc (v := l2 + 1) (ls' := [_, _, _, _, _]) dX12_laysFewest_113 rfl rfl rfl rfl ?_
        refine x_goto (tgt := 44) dX12_laysFewest_116 (by decide) ?_
        refine V.drop1 (i := 3) (ls' := [_, _, _, _, _]) rfl ?_
        refine V.drop1 (i := 4) (ls' := [_, _, _, _, _]) rfl ?_
        show V yX12_laysFewest cX12_laysFewest none 2 61 (0, 0) 44 [some (.ref 44), some (.int l1), some (.int ((l2 + 1))), none, none] [] (xof s0 [W_44 o44, W_50 (upd a50 ((Int32.toNatClampNeg ((256 * l1) + l2))) ((1 + (a50 (Int32.toNatClampNeg ((256 * (l1 + 1)) + (l2 ^^^ q8)))))))]) _
        exact ih ((l2 + 1)) (upd a50 ((Int32.toNatClampNeg ((256 * l1) + l2))) ((1 + (a50 (Int32.toNatClampNeg ((256 * (l1 + 1)) + (l2 ^^^ q8))))))) _ h hk
def l_X12_laysFewest_44_38 (n : Nat) (o44 : Nat → Int32) : Nat → (Int32) → (Nat → Int32) → Option (((Int32) × (Nat → Int32)))
  | 0, _, _ => none
  | k + 1, l1, a50 => (if l1 < 0 then (some (l1, a50)) else (Option.bind (l_X12_laysFewest_44_44 n o44 l1 n 0 a50) (fun u14 => (l_X12_laysFewest_44_38 n o44 k ((l1 + (-1))) u14.2))))
set_option maxRecDepth 100000 in
set_option maxHeartbeats 400000 in
theorem lv_X12_laysFewest_44_38 (s0 : XW) (n : Nat) (o44 : Nat → Int32) (Q : Nat → Option Value → XW → Prop) : ∀ (k : Nat) (l1 : Int32) (a50 : Nat → Int32) (o : ((Int32) × (Nat → Int32))), l_X12_laysFewest_44_38 n o44 k l1 a50 = some o → (V yX12_laysFewest cX12_laysFewest none 2 61 (0, 0) 125 [none, none, none, none, none] [] (xof s0 [W_44 o44, W_50 o.2]) Q) → V yX12_laysFewest cX12_laysFewest none 2 61 (0, 0) 38 [some (.ref 44), some (.int l1), none, none, none] [] (xof s0 [W_44 o44, W_50 a50]) Q := by
  intro k
  induction k with
  | zero =>
    intro _ _ _ h
    simp [l_X12_laysFewest_44_38] at h
  | succ k ih =>
    intro l1 a50 o h hk
    rw [l_X12_laysFewest_44_38] at h
    refine x_iload_n dX12_laysFewest_38 rfl ?_
    refine x_if_lt (tgt := 125) dX12_laysFewest_39 (by decide) (fun c6 => ?_) (fun c6 => ?_)
    · replace h := xif_p c6 h
      refine V.drop1 (i := 0) (ls' := [_, _, _, _, _]) rfl ?_
      refine V.drop1 (i := 1) (ls' := [_, _, _, _, _]) rfl ?_
      show V yX12_laysFewest cX12_laysFewest none 2 61 (0, 0) 125 [none, none, none, none, none] [] (xof s0 [W_44 o44, W_50 a50]) _
      cases h
      exact hk
    · replace h := xif_n c6 h
      refine x_iconst (v := 0) dX12_laysFewest_42 (by decide) ?_
      refine x_istore_n (ls' := [_, _, _, _, _]) dX12_laysFewest_43 rfl rfl ?_
      obtain ⟨u14, hu14, h⟩ := Option.bind_eq_some_iff.mp h
      show V yX12_laysFewest cX12_laysFewest none 2 61 (0, 0) 44 [some (.ref 44), some (.int l1), some (.int 0), none, none] [] (xof s0 [W_44 o44, W_50 a50]) _
      refine lv_X12_laysFewest_44_44 s0 _ o44 l1 _ n 0 a50 _ hu14 ?_
      refine x_iinc (v := l1 + (-1)) (ls' := [_, _, _, _, _]) dX12_laysFewest_119 rfl rfl rfl rfl ?_
      refine x_goto (tgt := 38) dX12_laysFewest_122 (by decide) ?_
      show V yX12_laysFewest cX12_laysFewest none 2 61 (0, 0) 38 [some (.ref 44), some (.int ((l1 + (-1)))), none, none, none] [] (xof s0 [W_44 o44, W_50 u14.2]) _
      exact ih ((l1 + (-1))) u14.2 _ h hk
def f_X12_laysFewest_44 (n : Nat) (o44 : Nat → Int32) (a50 : Nat → Int32)  : Option (Nat → Int32) := (Option.bind (l_X12_laysFewest_44_2 n o44 n 0 a50) (fun u5 => (Option.bind (l_X12_laysFewest_44_38 n o44 n 39 u5.2) (fun u15 => (some u15.2)))))
set_option maxRecDepth 100000 in
set_option maxHeartbeats 400000 in
theorem v_X12_laysFewest_44 (s0 : XW) (n : Nat) (o44 : Nat → Int32) (a50 : Nat → Int32)  (q : Nat → Int32) (h : f_X12_laysFewest_44 n o44 a50 = some q) : C_X12_laysFewest 2 61 [.ref 44] (xof s0 [W_44 o44, W_50 a50]) none (xof s0 [W_44 o44, W_50 q]) := by
  unfold f_X12_laysFewest_44 at h
  show V yX12_laysFewest cX12_laysFewest none 2 61 (0, 0) 0 [some (.ref 44), none, none, none, none] [] (xof s0 [W_44 o44, W_50 a50]) _
  refine x_iconst (v := 0) dX12_laysFewest_0 (by decide) ?_
  refine x_istore_n (ls' := [_, _, _, _, _]) dX12_laysFewest_1 rfl rfl ?_
  obtain ⟨u5, hu5, h⟩ := Option.bind_eq_some_iff.mp h
  show V yX12_laysFewest cX12_laysFewest none 2 61 (0, 0) 2 [some (.ref 44), some (.int 0), none, none, none] [] (xof s0 [W_44 o44, W_50 a50]) _
  refine lv_X12_laysFewest_44_2 s0 _ o44 _ n 0 a50 _ hu5 ?_
  refine x_bipush (v := 39) dX12_laysFewest_35 (by decide) ?_
  refine x_istore_n (ls' := [_, _, _, _, _]) dX12_laysFewest_37 rfl rfl ?_
  obtain ⟨u15, hu15, h⟩ := Option.bind_eq_some_iff.mp h
  show V yX12_laysFewest cX12_laysFewest none 2 61 (0, 0) 38 [some (.ref 44), some (.int 39), none, none, none] [] (xof s0 [W_44 o44, W_50 u5.2]) _
  refine lv_X12_laysFewest_44_38 s0 _ o44 _ n 39 u5.2 _ hu15 ?_
  cases h
  exact x_vret dX12_laysFewest_125 ⟨rfl, rfl, rfl⟩
def l_X12_nearest_44_49 (n : Nat) (o44 : Nat → Int32) (a50 : Nat → Int32) (l2 : Int32) : Nat → (Int32) → (Int32) → (Int32) → Option ((((Int32) × (Nat → Int32) × (Nat → Int32))) ⊕ (((Int32) × (Int32) × (Int32))))
  | 0, _, _, _ => none
  | k + 1, l3, l4, l5 => (if 40 ≤ l5 then (some (Sum.inr (l3, l4, l5))) else (if l3 = 0 then (some (Sum.inr (l3, l4, l5))) else (Option.bind (f_X12_markOf n l5) (fun q8 => (bif xin ((256 * (l5 + 1)) + (l3 ^^^ q8)) 10496 then (bif xin ((256 * l5) + l3) 10496 then (if (1 + (a50 (Int32.toNatClampNeg ((256 * (l5 + 1)) + (l3 ^^^ q8))))) = (a50 (Int32.toNatClampNeg ((256 * l5) + l3))) then (if l4 = l2 then (some (Sum.inl (l5, o44, a50))) else (l_X12_nearest_44_49 n o44 a50 l2 k ((l3 ^^^ q8)) ((l4 + 1)) ((l5 + 1)))) else (l_X12_nearest_44_49 n o44 a50 l2 k l3 l4 ((l5 + 1)))) else none) else none)))))
set_option maxRecDepth 100000 in
set_option maxHeartbeats 400000 in
theorem lv_X12_nearest_44_49 (s0 : XW) (n : Nat) (o44 : Nat → Int32) (a50 : Nat → Int32) (l2 : Int32) (Q : Nat → Option Value → XW → Prop) : ∀ (k : Nat) (l3 : Int32) (l4 : Int32) (l5 : Int32) (o : (((Int32) × (Nat → Int32) × (Nat → Int32))) ⊕ (((Int32) × (Int32) × (Int32)))), l_X12_nearest_44_49 n o44 a50 l2 k l3 l4 l5 = some o → ((∀ z, o = Sum.inl z → Q 61 (some (.int z.1)) (xof s0 [W_44 z.2.1, W_50 z.2.2])) ∧ (∀ z, o = Sum.inr z → V yX12_nearest cX12_nearest (some .int) 3 61 (0, 0) 127 [none, none, none, none, none, none, none] [] (xof s0 [W_44 o44, W_50 a50]) Q)) → V yX12_nearest cX12_nearest (some .int) 3 61 (0, 0) 49 [some (.ref 44), none, some (.int l2), some (.int l3), some (.int l4), some (.int l5), none] [] (xof s0 [W_44 o44, W_50 a50]) Q := by
  intro k
  induction k with
  | zero =>
    intro _ _ _ _ h
    simp [l_X12_nearest_44_49] at h
  | succ k ih =>
    intro l3 l4 l5 o h hk
    rw [l_X12_nearest_44_49] at h
    refine x_iload dX12_nearest_49 rfl ?_
    refine x_bipush (v := 40) dX12_nearest_51 (by decide) ?_
    refine x_icmp_ge (tgt := 127) dX12_nearest_53 (by decide) (fun c6 => ?_) (fun c6 => ?_)
    · replace h := xif_p c6 h
      refine V.drop1 (i := 0) (ls' := [_, _, _, _, _, _, _]) rfl ?_
      refine V.drop1 (i := 2) (ls' := [_, _, _, _, _, _, _]) rfl ?_
      refine V.drop1 (i := 3) (ls' := [_, _, _, _, _, _, _]) rfl ?_
      refine V.drop1 (i := 4) (ls' := [_, _, _, _, _, _, _]) rfl ?_
      refine V.drop1 (i := 5) (ls' := [_, _, _, _, _, _, _]) rfl ?_
      show V yX12_nearest cX12_nearest (some .int) 3 61 (0, 0) 127 [none, none, none, none, none, none, none] [] (xof s0 [W_44 o44, W_50 a50]) _
      cases h
      exact hk.2 (l3, l4, l5) rfl
    · replace h := xif_n c6 h
      refine x_iload_n dX12_nearest_56 rfl ?_
      refine x_if_eq (tgt := 127) dX12_nearest_57 (by decide) (fun c7 => ?_) (fun c7 => ?_)
      · replace h := xif_p c7 h
        refine V.drop1 (i := 0) (ls' := [_, _, _, _, _, _, _]) rfl ?_
        refine V.drop1 (i := 2) (ls' := [_, _, _, _, _, _, _]) rfl ?_
        refine V.drop1 (i := 3) (ls' := [_, _, _, _, _, _, _]) rfl ?_
        refine V.drop1 (i := 4) (ls' := [_, _, _, _, _, _, _]) rfl ?_
        refine V.drop1 (i := 5) (ls' := [_, _, _, _, _, _, _]) rfl ?_
        show V yX12_nearest cX12_nearest (some .int) 3 61 (0, 0) 127 [none, none, none, none, none, none, none] [] (xof s0 [W_44 o44, W_50 a50]) _
        cases h
        exact hk.2 (l3, l4, l5) rfl
      · replace h := xif_n c7 h
        refine x_iload_n dX12_nearest_60 rfl ?_
        refine x_iload dX12_nearest_61 rfl ?_
        obtain ⟨q8, hq8, h⟩ := Option.bind_eq_some_iff.mp h
        refine y_callSi (L' := [(44, _), (50, _)]) mi_X12_markOf ml_X12_85 st_X12_markOf dX12_nearest_63 (fun s1 => v_X12_markOf 61 s1 n _ q8 hq8) (Nat.le_of_ble_eq_true rfl) rfl (by decide) (Nat.le_of_ble_eq_true rfl) rfl rfl rfl rfl ?_
        refine x_ixor dX12_nearest_66 ?_
        refine x_istore (ls' := [_, _, _, _, _, _, _]) dX12_nearest_67 rfl rfl ?_
        refine x_iconst (v := 1) dX12_nearest_69 (by decide) ?_
        refine x_aload_n dX12_nearest_70 rfl ?_
        refine g_X12_29 rfl dX12_nearest_71 (by decide) rfl rfl ?_
        refine x_sipush (v := 256) dX12_nearest_74 (by decide) ?_
        refine x_iload dX12_nearest_77 rfl ?_
        refine x_iconst (v := 1) dX12_nearest_79 (by decide) ?_
        refine x_iadd dX12_nearest_80 ?_
        refine x_imul dX12_nearest_81 ?_
        refine x_iload dX12_nearest_82 rfl ?_
        refine x_iadd dX12_nearest_84 ?_
        obtain ⟨c9, h⟩ := xck h
        refine x_ialdK (jn := (Int32.toNatClampNeg ((256 * (l5 + 1)) + (l3 ^^^ q8)))) (v := (a50 (Int32.toNatClampNeg ((256 * (l5 + 1)) + (l3 ^^^ q8))))) dX12_nearest_85 (by decide) rfl (xin_ok c9) rfl rfl ?_
        refine x_iadd dX12_nearest_86 ?_
        refine x_aload_n dX12_nearest_87 rfl ?_
        refine g_X12_29 rfl dX12_nearest_88 (by decide) rfl rfl ?_
        refine x_sipush (v := 256) dX12_nearest_91 (by decide) ?_
        refine x_iload dX12_nearest_94 rfl ?_
        refine x_imul dX12_nearest_96 ?_
        refine x_iload_n dX12_nearest_97 rfl ?_
        refine x_iadd dX12_nearest_98 ?_
        obtain ⟨c10, h⟩ := xck h
        refine x_ialdK (jn := (Int32.toNatClampNeg ((256 * l5) + l3))) (v := (a50 (Int32.toNatClampNeg ((256 * l5) + l3)))) dX12_nearest_99 (by decide) rfl (xin_ok c10) rfl rfl ?_
        refine x_icmp_eq (tgt := 106) dX12_nearest_100 (by decide) (fun c11 => ?_) (fun c11 => ?_)
        · replace h := xif_p c11 h
          refine x_iload dX12_nearest_106 rfl ?_
          refine x_iload_n dX12_nearest_108 rfl ?_
          refine x_icmp_ne (tgt := 115) dX12_nearest_109 (by decide) (fun c12 => ?_) (fun c12 => ?_)
          · replace h := xif_n c12 h
            refine x_iinc (v := l4 + 1) (ls' := [_, _, _, _, _, _, _]) dX12_nearest_115 rfl rfl rfl rfl ?_
            refine x_iload dX12_nearest_118 rfl ?_
            refine x_istore_n (ls' := [_, _, _, _, _, _, _]) dX12_nearest_120 rfl rfl ?_
            refine x_iinc (v := l5 + 1) (ls' := [_, _, _, _, _, _, _]) dX12_nearest_121 rfl rfl rfl rfl ?_
            refine x_goto (tgt := 49) dX12_nearest_124 (by decide) ?_
            refine V.drop1 (i := 6) (ls' := [_, _, _, _, _, _, _]) rfl ?_
            show V yX12_nearest cX12_nearest (some .int) 3 61 (0, 0) 49 [some (.ref 44), none, some (.int l2), some (.int ((l3 ^^^ q8))), some (.int ((l4 + 1))), some (.int ((l5 + 1))), none] [] (xof s0 [W_44 o44, W_50 a50]) _
            exact ih ((l3 ^^^ q8)) ((l4 + 1)) ((l5 + 1)) _ h hk
          · replace h := xif_p c12 h
            refine x_iload dX12_nearest_112 rfl ?_
            cases h
            exact x_iret dX12_nearest_114 (hk.1 (l5, o44, a50) rfl)
        · replace h := xif_n c11 h
          refine x_goto (tgt := 121) dX12_nearest_103 (by decide) ?_
          refine x_iinc (v := l5 + 1) (ls' := [_, _, _, _, _, _, _]) dX12_nearest_121 rfl rfl rfl rfl ?_
          refine x_goto (tgt := 49) dX12_nearest_124 (by decide) ?_
          refine V.drop1 (i := 6) (ls' := [_, _, _, _, _, _, _]) rfl ?_
          show V yX12_nearest cX12_nearest (some .int) 3 61 (0, 0) 49 [some (.ref 44), none, some (.int l2), some (.int l3), some (.int l4), some (.int ((l5 + 1))), none] [] (xof s0 [W_44 o44, W_50 a50]) _
          exact ih l3 l4 ((l5 + 1)) _ h hk
def f_X12_nearest_44 (n : Nat) (o44 : Nat → Int32) (a50 : Nat → Int32) (p1 : Int32) (p2 : Int32) : Option (((Int32) × (Nat → Int32) × (Nat → Int32))) := (Option.bind (f_X12_isIn ((Int32.toInt64 p1)) 0 255) (fun q1 => (if q1 = 0 then (some ((-3), upd o44 0 0, a50)) else (if (-1) ≤ p2 then (Option.bind (f_X12_laysFewest_44 n (upd o44 0 0) a50) (fun q4 => (if p2 = (-1) then (bif xin p1 10496 then (some ((q4 (Int32.toNatClampNeg p1)), upd o44 0 0, q4)) else none) else (Option.bind (l_X12_nearest_44_49 n (upd o44 0 0) q4 p2 n p1 0 0) (fun u13 => Sum.elim (fun z14 => some z14) (fun z14 => (some ((-1), upd o44 0 0, q4))) u13))))) else (some ((-3), upd o44 0 0, a50))))))
set_option maxRecDepth 100000 in
set_option maxHeartbeats 400000 in
theorem v_X12_nearest_44 (s0 : XW) (n : Nat) (o44 : Nat → Int32) (a50 : Nat → Int32) (p1 : Int32) (p2 : Int32) (q : ((Int32) × (Nat → Int32) × (Nat → Int32))) (h : f_X12_nearest_44 n o44 a50 p1 p2 = some q) : C_X12_nearest 3 61 [.ref 44, .int p1, .int p2] (xof s0 [W_44 o44, W_50 a50]) (some (.int q.1)) (xof s0 [W_44 q.2.1, W_50 q.2.2]) := by
  unfold f_X12_nearest_44 at h
  show V yX12_nearest cX12_nearest (some .int) 3 61 (0, 0) 0 [some (.ref 44), some (.int p1), some (.int p2), none, none, none, none] [] (xof s0 [W_44 o44, W_50 a50]) _
  refine x_aload_n dX12_nearest_0 rfl ?_
  refine x_iconst (v := 0) dX12_nearest_1 (by decide) ?_
  refine p_X12_1 (fs' := [_, _, _, _, _, _, _, _, _, _, _, _, _, _, _, _, _, _, _, _, _, _]) (L' := [(44, _), (50, _)]) rfl dX12_nearest_2 (by decide) rfl (Nat.le_of_ble_eq_true rfl) rfl rfl ?_
  refine x_iload_n dX12_nearest_5 rfl ?_
  refine x_i2l dX12_nearest_6 ?_
  refine x_lconst (v := 0) dX12_nearest_7 (by decide) ?_
  refine x_ldc2 dX12_nearest_8 cn_X12_91 ?_
  obtain ⟨q1, hq1, h⟩ := Option.bind_eq_some_iff.mp h
  refine y_callSi (L' := [(44, _), (50, _)]) mi_X12_isIn ml_X12_77 st_X12_isIn dX12_nearest_11 (fun s1 => v_X12_isIn 61 s1 _ _ _ q1 hq1) (Nat.le_of_ble_eq_true rfl) rfl (by decide) (Nat.le_of_ble_eq_true rfl) rfl rfl rfl rfl ?_
  refine x_if_eq (tgt := 22) dX12_nearest_14 (by decide) (fun c2 => ?_) (fun c2 => ?_)
  · replace h := xif_p c2 h
    refine x_bipush (v := -3) dX12_nearest_22 (by decide) ?_
    cases h
    exact x_iret dX12_nearest_24 ⟨rfl, rfl, rfl⟩
  · replace h := xif_n c2 h
    refine x_iload_n dX12_nearest_17 rfl ?_
    refine x_iconst (v := -1) dX12_nearest_18 (by decide) ?_
    refine x_icmp_ge (tgt := 25) dX12_nearest_19 (by decide) (fun c3 => ?_) (fun c3 => ?_)
    · replace h := xif_p c3 h
      refine x_aload_n dX12_nearest_25 rfl ?_
      obtain ⟨q4, hq4, h⟩ := Option.bind_eq_some_iff.mp h
      refine y_callVv (L' := [(44, _), (50, _)]) mi_X12_laysFewest ml_X12_96 im_X12_laysFewest se_X12_laysFewest (rfl : vwCl[11]? = _) dX12_nearest_26 (fun s1 => v_X12_laysFewest_44 s1 n _ _ q4 hq4) (by decide) rfl (Nat.le_of_ble_eq_true rfl) rfl (by decide) (Nat.le_of_ble_eq_true rfl) rfl rfl rfl rfl ?_
      refine x_iload_n dX12_nearest_29 rfl ?_
      refine x_iconst (v := -1) dX12_nearest_30 (by decide) ?_
      refine x_icmp_ne (tgt := 41) dX12_nearest_31 (by decide) (fun c5 => ?_) (fun c5 => ?_)
      · replace h := xif_n c5 h
        refine x_iload_n dX12_nearest_41 rfl ?_
        refine x_istore_n (ls' := [_, _, _, _, _, _, _]) dX12_nearest_42 rfl rfl ?_
        refine x_iconst (v := 0) dX12_nearest_43 (by decide) ?_
        refine x_istore (ls' := [_, _, _, _, _, _, _]) dX12_nearest_44 rfl rfl ?_
        refine x_iconst (v := 0) dX12_nearest_46 (by decide) ?_
        refine x_istore (ls' := [_, _, _, _, _, _, _]) dX12_nearest_47 rfl rfl ?_
        refine V.drop1 (i := 1) (ls' := [_, _, _, _, _, _, _]) rfl ?_
        obtain ⟨u13, hu13, h⟩ := Option.bind_eq_some_iff.mp h
        show V yX12_nearest cX12_nearest (some .int) 3 61 (0, 0) 49 [some (.ref 44), none, some (.int p2), some (.int p1), some (.int 0), some (.int 0), none] [] (xof s0 [W_44 (upd o44 0 0), W_50 q4]) _
        refine lv_X12_nearest_44_49 s0 _ (upd o44 0 0) q4 p2 _ n p1 0 0 _ hu13 ⟨fun z14 hz => ?_, fun z14 hz => ?_⟩
        · subst hz
          replace h := xsl h
          cases h
          exact ⟨rfl, rfl, rfl⟩
        subst hz
        replace h := xsr h
        refine x_iconst (v := -1) dX12_nearest_127 (by decide) ?_
        cases h
        exact x_iret dX12_nearest_128 ⟨rfl, rfl, rfl⟩
      · replace h := xif_p c5 h
        refine x_aload_n dX12_nearest_34 rfl ?_
        refine g_X12_29 rfl dX12_nearest_35 (by decide) rfl rfl ?_
        refine x_iload_n dX12_nearest_38 rfl ?_
        obtain ⟨c15, h⟩ := xck h
        refine x_ialdK (jn := (Int32.toNatClampNeg p1)) (v := (q4 (Int32.toNatClampNeg p1))) dX12_nearest_39 (by decide) rfl (xin_ok c15) rfl rfl ?_
        cases h
        exact x_iret dX12_nearest_40 ⟨rfl, rfl, rfl⟩
    · replace h := xif_n c3 h
      refine x_bipush (v := -3) dX12_nearest_22 (by decide) ?_
      cases h
      exact x_iret dX12_nearest_24 ⟨rfl, rfl, rfl⟩
def f_X12_mending_44 (n : Nat) (o44 : Nat → Int32) (p1 : Int32) (p2 : Int32) (p3 : Int32) : Option (((Int32) × (Nat → Int32))) := (Option.bind (f_X12_isIn ((Int32.toInt64 p3)) 0 2) (fun q1 => (if q1 = 0 then (some ((-2), upd o44 0 0)) else (Option.bind (f_X12_isIn ((Int32.toInt64 p2)) 0 255) (fun q3 => (if q3 = 0 then (some ((-3), upd o44 0 0)) else (Option.bind (f_X12_checkOf n p1) (fun q5 => (Option.bind (f_X12_singleOf n ((q5 ^^^ p2))) (fun q6 => (if p3 = 0 then (if (q5 ^^^ p2) = 0 then (some (0, upd o44 0 0)) else (if q6 = (-1) then (some (2, upd o44 0 0)) else (some (1, upd o44 0 0)))) else (if p3 = 1 then (Option.bind (f_X12_isIn ((Int32.toInt64 q6)) 0 31) (fun q10 => (if q10 = 0 then (some (p1, upd o44 0 0)) else (some ((p1 ^^^ (1 <<< ((31 - q6) &&& 31))), upd o44 0 0))))) else (if q6 < 32 then (some (p2, upd o44 0 0)) else (some ((p2 ^^^ (1 <<< ((39 - q6) &&& 31))), upd o44 0 0)))))))))))))))
set_option maxRecDepth 100000 in
set_option maxHeartbeats 400000 in
theorem v_X12_mending_44 (s0 : XW) (n : Nat) (o44 : Nat → Int32) (p1 : Int32) (p2 : Int32) (p3 : Int32) (q : ((Int32) × (Nat → Int32))) (h : f_X12_mending_44 n o44 p1 p2 p3 = some q) : C_X12_mending 3 61 [.ref 44, .int p1, .int p2, .int p3] (xof s0 [W_44 o44]) (some (.int q.1)) (xof s0 [W_44 q.2]) := by
  unfold f_X12_mending_44 at h
  show V yX12_mending cX12_mending (some .int) 3 61 (0, 0) 0 [some (.ref 44), some (.int p1), some (.int p2), some (.int p3), none, none] [] (xof s0 [W_44 o44]) _
  refine x_aload_n dX12_mending_0 rfl ?_
  refine x_iconst (v := 0) dX12_mending_1 (by decide) ?_
  refine p_X12_1 (fs' := [_, _, _, _, _, _, _, _, _, _, _, _, _, _, _, _, _, _, _, _, _, _]) (L' := [(44, _)]) rfl dX12_mending_2 (by decide) rfl (Nat.le_of_ble_eq_true rfl) rfl rfl ?_
  refine x_iload_n dX12_mending_5 rfl ?_
  refine x_i2l dX12_mending_6 ?_
  refine x_lconst (v := 0) dX12_mending_7 (by decide) ?_
  refine x_ldc2 dX12_mending_8 cn_X12_99 ?_
  obtain ⟨q1, hq1, h⟩ := Option.bind_eq_some_iff.mp h
  refine y_callSi (L' := [(44, _)]) mi_X12_isIn ml_X12_77 st_X12_isIn dX12_mending_11 (fun s1 => v_X12_isIn 61 s1 _ _ _ q1 hq1) (Nat.le_of_ble_eq_true rfl) rfl (by decide) (Nat.le_of_ble_eq_true rfl) rfl rfl rfl rfl ?_
  refine x_if_ne (tgt := 20) dX12_mending_14 (by decide) (fun c2 => ?_) (fun c2 => ?_)
  · replace h := xif_n c2 h
    refine x_iload_n dX12_mending_20 rfl ?_
    refine x_i2l dX12_mending_21 ?_
    refine x_lconst (v := 0) dX12_mending_22 (by decide) ?_
    refine x_ldc2 dX12_mending_23 cn_X12_91 ?_
    obtain ⟨q3, hq3, h⟩ := Option.bind_eq_some_iff.mp h
    refine y_callSi (L' := [(44, _)]) mi_X12_isIn ml_X12_77 st_X12_isIn dX12_mending_26 (fun s1 => v_X12_isIn 61 s1 _ _ _ q3 hq3) (Nat.le_of_ble_eq_true rfl) rfl (by decide) (Nat.le_of_ble_eq_true rfl) rfl rfl rfl rfl ?_
    refine x_if_ne (tgt := 35) dX12_mending_29 (by decide) (fun c4 => ?_) (fun c4 => ?_)
    · replace h := xif_n c4 h
      refine x_iload_n dX12_mending_35 rfl ?_
      obtain ⟨q5, hq5, h⟩ := Option.bind_eq_some_iff.mp h
      refine y_callSi (L' := [(44, _)]) mi_X12_checkOf ml_X12_88 st_X12_checkOf dX12_mending_36 (fun s1 => v_X12_checkOf 61 s1 n _ q5 hq5) (Nat.le_of_ble_eq_true rfl) rfl (by decide) (Nat.le_of_ble_eq_true rfl) rfl rfl rfl rfl ?_
      refine x_iload_n dX12_mending_39 rfl ?_
      refine x_ixor dX12_mending_40 ?_
      refine x_istore (ls' := [_, _, _, _, _, _]) dX12_mending_41 rfl rfl ?_
      refine x_iload dX12_mending_43 rfl ?_
      obtain ⟨q6, hq6, h⟩ := Option.bind_eq_some_iff.mp h
      refine y_callSi (L' := [(44, _)]) mi_X12_singleOf ml_X12_93 st_X12_singleOf dX12_mending_45 (fun s1 => v_X12_singleOf 61 s1 n _ q6 hq6) (Nat.le_of_ble_eq_true rfl) rfl (by decide) (Nat.le_of_ble_eq_true rfl) rfl rfl rfl rfl ?_
      refine x_istore (ls' := [_, _, _, _, _, _]) dX12_mending_48 rfl rfl ?_
      refine x_iload_n dX12_mending_50 rfl ?_
      refine x_if_ne (tgt := 75) dX12_mending_51 (by decide) (fun c7 => ?_) (fun c7 => ?_)
      · replace h := xif_n c7 h
        refine x_iload_n dX12_mending_75 rfl ?_
        refine x_iconst (v := 1) dX12_mending_76 (by decide) ?_
        refine x_icmp_ne (tgt := 107) dX12_mending_77 (by decide) (fun c8 => ?_) (fun c8 => ?_)
        · replace h := xif_n c8 h
          refine x_iload dX12_mending_107 rfl ?_
          refine x_bipush (v := 32) dX12_mending_109 (by decide) ?_
          refine x_icmp_lt (tgt := 126) dX12_mending_111 (by decide) (fun c9 => ?_) (fun c9 => ?_)
          · replace h := xif_p c9 h
            refine x_iload_n dX12_mending_126 rfl ?_
            cases h
            exact x_iret dX12_mending_127 ⟨rfl, rfl, rfl⟩
          · replace h := xif_n c9 h
            refine x_iload_n dX12_mending_114 rfl ?_
            refine x_iconst (v := 1) dX12_mending_115 (by decide) ?_
            refine x_bipush (v := 39) dX12_mending_116 (by decide) ?_
            refine x_iload dX12_mending_118 rfl ?_
            refine x_isub dX12_mending_120 ?_
            refine x_ishl dX12_mending_121 ?_
            refine x_ixor dX12_mending_122 ?_
            refine x_goto (tgt := 127) dX12_mending_123 (by decide) ?_
            cases h
            exact x_iret dX12_mending_127 ⟨rfl, rfl, rfl⟩
        · replace h := xif_p c8 h
          refine x_iload dX12_mending_80 rfl ?_
          refine x_i2l dX12_mending_82 ?_
          refine x_lconst (v := 0) dX12_mending_83 (by decide) ?_
          refine x_ldc2 dX12_mending_84 cn_X12_101 ?_
          obtain ⟨q10, hq10, h⟩ := Option.bind_eq_some_iff.mp h
          refine y_callSi (L' := [(44, _)]) mi_X12_isIn ml_X12_77 st_X12_isIn dX12_mending_87 (fun s1 => v_X12_isIn 61 s1 _ _ _ q10 hq10) (Nat.le_of_ble_eq_true rfl) rfl (by decide) (Nat.le_of_ble_eq_true rfl) rfl rfl rfl rfl ?_
          refine x_if_eq (tgt := 105) dX12_mending_90 (by decide) (fun c11 => ?_) (fun c11 => ?_)
          · replace h := xif_p c11 h
            refine x_iload_n dX12_mending_105 rfl ?_
            cases h
            exact x_iret dX12_mending_106 ⟨rfl, rfl, rfl⟩
          · replace h := xif_n c11 h
            refine x_iload_n dX12_mending_93 rfl ?_
            refine x_iconst (v := 1) dX12_mending_94 (by decide) ?_
            refine x_bipush (v := 31) dX12_mending_95 (by decide) ?_
            refine x_iload dX12_mending_97 rfl ?_
            refine x_isub dX12_mending_99 ?_
            refine x_ishl dX12_mending_100 ?_
            refine x_ixor dX12_mending_101 ?_
            refine x_goto (tgt := 106) dX12_mending_102 (by decide) ?_
            cases h
            exact x_iret dX12_mending_106 ⟨rfl, rfl, rfl⟩
      · replace h := xif_p c7 h
        refine x_iload dX12_mending_54 rfl ?_
        refine x_if_ne (tgt := 63) dX12_mending_56 (by decide) (fun c12 => ?_) (fun c12 => ?_)
        · replace h := xif_n c12 h
          refine x_iload dX12_mending_63 rfl ?_
          refine x_iconst (v := -1) dX12_mending_65 (by decide) ?_
          refine x_icmp_ne (tgt := 73) dX12_mending_66 (by decide) (fun c13 => ?_) (fun c13 => ?_)
          · replace h := xif_n c13 h
            refine x_iconst (v := 1) dX12_mending_73 (by decide) ?_
            cases h
            exact x_iret dX12_mending_74 ⟨rfl, rfl, rfl⟩
          · replace h := xif_p c13 h
            refine x_iconst (v := 2) dX12_mending_69 (by decide) ?_
            refine x_goto (tgt := 74) dX12_mending_70 (by decide) ?_
            cases h
            exact x_iret dX12_mending_74 ⟨rfl, rfl, rfl⟩
        · replace h := xif_p c12 h
          refine x_iconst (v := 0) dX12_mending_59 (by decide) ?_
          refine x_goto (tgt := 74) dX12_mending_60 (by decide) ?_
          cases h
          exact x_iret dX12_mending_74 ⟨rfl, rfl, rfl⟩
    · replace h := xif_p c4 h
      refine x_bipush (v := -3) dX12_mending_32 (by decide) ?_
      cases h
      exact x_iret dX12_mending_34 ⟨rfl, rfl, rfl⟩
  · replace h := xif_p c2 h
    refine x_bipush (v := -2) dX12_mending_17 (by decide) ?_
    cases h
    exact x_iret dX12_mending_19 ⟨rfl, rfl, rfl⟩
def l_X12_laysWays_44_34 (n : Nat) (o44 : Nat → Int32) (a57 : Nat → Int64) (l1 : Int32) (l2 : Int32) : Nat → (Int32) → (Nat → Int64) → Option (((Int32) × (Nat → Int64)))
  | 0, _, _ => none
  | k + 1, l3, a58 => (if 10496 ≤ l3 then (some (l3, a58)) else (bif xin l3 10496 then (if 256 ≤ l3 then (bif xin ((((l3 / 256) - 1) * 256) + ((l3 - l3 / 256 * 256) ^^^ l2)) 10496 then (bif xin l3 10496 then (l_X12_laysWays_44_34 n o44 a57 l1 l2 k ((l3 + 1)) (vp_updL a58 ((Int32.toNatClampNeg l3)) (((a57 (Int32.toNatClampNeg l3)) + (a57 (Int32.toNatClampNeg ((((l3 / 256) - 1) * 256) + ((l3 - l3 / 256 * 256) ^^^ l2)))))))) else none) else none) else (bif xin l3 10496 then (l_X12_laysWays_44_34 n o44 a57 l1 l2 k ((l3 + 1)) (vp_updL a58 ((Int32.toNatClampNeg l3)) (((a57 (Int32.toNatClampNeg l3)) + 0)))) else none)) else none))
set_option maxRecDepth 100000 in
set_option maxHeartbeats 400000 in
theorem lv_X12_laysWays_44_34 (s0 : XW) (n : Nat) (o44 : Nat → Int32) (a57 : Nat → Int64) (l1 : Int32) (l2 : Int32) (Q : Nat → Option Value → XW → Prop) : ∀ (k : Nat) (l3 : Int32) (a58 : Nat → Int64) (o : ((Int32) × (Nat → Int64))), l_X12_laysWays_44_34 n o44 a57 l1 l2 k l3 a58 = some o → (V yX12_laysWays cX12_laysWays none 2 61 (0, 0) 95 [some (.ref 44), some (.int l1), none, none] [] (xof s0 [W_44 o44, W_57 a57, W_58 o.2]) Q) → V yX12_laysWays cX12_laysWays none 2 61 (0, 0) 34 [some (.ref 44), some (.int l1), some (.int l2), some (.int l3)] [] (xof s0 [W_44 o44, W_57 a57, W_58 a58]) Q := by
  intro k
  induction k with
  | zero =>
    intro _ _ _ h
    simp [l_X12_laysWays_44_34] at h
  | succ k ih =>
    intro l3 a58 o h hk
    rw [l_X12_laysWays_44_34] at h
    refine x_iload_n dX12_laysWays_34 rfl ?_
    refine x_sipush (v := 10496) dX12_laysWays_35 (by decide) ?_
    refine x_icmp_ge (tgt := 95) dX12_laysWays_38 (by decide) (fun c4 => ?_) (fun c4 => ?_)
    · replace h := xif_p c4 h
      refine V.drop1 (i := 2) (ls' := [_, _, _, _]) rfl ?_
      refine V.drop1 (i := 3) (ls' := [_, _, _, _]) rfl ?_
      show V yX12_laysWays cX12_laysWays none 2 61 (0, 0) 95 [some (.ref 44), some (.int l1), none, none] [] (xof s0 [W_44 o44, W_57 a57, W_58 a58]) _
      cases h
      exact hk
    · replace h := xif_n c4 h
      refine x_aload_n dX12_laysWays_41 rfl ?_
      refine g_X12_55 rfl dX12_laysWays_42 (by decide) rfl rfl ?_
      refine x_iload_n dX12_laysWays_45 rfl ?_
      refine x_aload_n dX12_laysWays_46 rfl ?_
      refine g_X12_51 rfl dX12_laysWays_47 (by decide) rfl rfl ?_
      refine x_iload_n dX12_laysWays_50 rfl ?_
      obtain ⟨c5, h⟩ := xck h
      refine x_laldK (jn := (Int32.toNatClampNeg l3)) (v := (a57 (Int32.toNatClampNeg l3))) dX12_laysWays_51 (by decide) rfl (xin_ok c5) rfl rfl ?_
      refine x_iload_n dX12_laysWays_52 rfl ?_
      refine x_sipush (v := 256) dX12_laysWays_53 (by decide) ?_
      refine x_icmp_ge (tgt := 63) dX12_laysWays_56 (by decide) (fun c6 => ?_) (fun c6 => ?_)
      · replace h := xif_p c6 h
        refine x_aload_n dX12_laysWays_63 rfl ?_
        refine g_X12_51 rfl dX12_laysWays_64 (by decide) rfl rfl ?_
        refine x_iload_n dX12_laysWays_67 rfl ?_
        refine x_sipush (v := 256) dX12_laysWays_68 (by decide) ?_
        refine x_idiv dX12_laysWays_71 (by decide) ?_
        refine x_iconst (v := 1) dX12_laysWays_72 (by decide) ?_
        refine x_isub dX12_laysWays_73 ?_
        refine x_sipush (v := 256) dX12_laysWays_74 (by decide) ?_
        refine x_imul dX12_laysWays_77 ?_
        refine x_iload_n dX12_laysWays_78 rfl ?_
        refine x_sipush (v := 256) dX12_laysWays_79 (by decide) ?_
        refine x_irem dX12_laysWays_82 (by decide) ?_
        refine x_iload_n dX12_laysWays_83 rfl ?_
        refine x_ixor dX12_laysWays_84 ?_
        refine x_iadd dX12_laysWays_85 ?_
        obtain ⟨c7, h⟩ := xck h
        refine x_laldK (jn := (Int32.toNatClampNeg ((((l3 / 256) - 1) * 256) + ((l3 - l3 / 256 * 256) ^^^ l2)))) (v := (a57 (Int32.toNatClampNeg ((((l3 / 256) - 1) * 256) + ((l3 - l3 / 256 * 256) ^^^ l2))))) dX12_laysWays_86 (by decide) rfl (xin_ok c7) rfl rfl ?_
        refine x_ladd dX12_laysWays_87 ?_
        obtain ⟨c8, h⟩ := xck h
        refine x_lastK (jn := (Int32.toNatClampNeg l3)) (L' := [(44, _), (57, _), (58, _)]) dX12_laysWays_88 (by decide) rfl (xin_ok c8) rfl rfl ?_
        refine x_iinc (v := l3 + 1) (ls' := [_, _, _, _]) dX12_laysWays_89 rfl rfl rfl rfl ?_
        refine x_goto (tgt := 34) dX12_laysWays_92 (by decide) ?_
        show V yX12_laysWays cX12_laysWays none 2 61 (0, 0) 34 [some (.ref 44), some (.int l1), some (.int l2), some (.int ((l3 + 1)))] [] (xof s0 [W_44 o44, W_57 a57, W_58 (vp_updL a58 ((Int32.toNatClampNeg l3)) (((a57 (Int32.toNatClampNeg l3)) + (a57 (Int32.toNatClampNeg ((((l3 / 256) - 1) * 256) + ((l3 - l3 / 256 * 256) ^^^ l2)))))))]) _
        exact ih ((l3 + 1)) (vp_updL a58 ((Int32.toNatClampNeg l3)) (((a57 (Int32.toNatClampNeg l3)) + (a57 (Int32.toNatClampNeg ((((l3 / 256) - 1) * 256) + ((l3 - l3 / 256 * 256) ^^^ l2))))))) _ h hk
      · replace h := xif_n c6 h
        refine x_lconst (v := 0) dX12_laysWays_59 (by decide) ?_
        refine x_goto (tgt := 87) dX12_laysWays_60 (by decide) ?_
        refine x_ladd dX12_laysWays_87 ?_
        obtain ⟨c9, h⟩ := xck h
        refine x_lastK (jn := (Int32.toNatClampNeg l3)) (L' := [(44, _), (57, _), (58, _)]) dX12_laysWays_88 (by decide) rfl (xin_ok c9) rfl rfl ?_
        refine x_iinc (v := l3 + 1) (ls' := [_, _, _, _]) dX12_laysWays_89 rfl rfl rfl rfl ?_
        refine x_goto (tgt := 34) dX12_laysWays_92 (by decide) ?_
        show V yX12_laysWays cX12_laysWays none 2 61 (0, 0) 34 [some (.ref 44), some (.int l1), some (.int l2), some (.int ((l3 + 1)))] [] (xof s0 [W_44 o44, W_57 a57, W_58 (vp_updL a58 ((Int32.toNatClampNeg l3)) (((a57 (Int32.toNatClampNeg l3)) + 0)))]) _
        exact ih ((l3 + 1)) (vp_updL a58 ((Int32.toNatClampNeg l3)) (((a57 (Int32.toNatClampNeg l3)) + 0))) _ h hk
def l_X12_laysWays_44_97 (n : Nat) (o44 : Nat → Int32) (a58 : Nat → Int64) (l1 : Int32) : Nat → (Int32) → (Nat → Int64) → Option (((Int32) × (Nat → Int64)))
  | 0, _, _ => none
  | k + 1, l3, a57 => (if 10496 ≤ l3 then (some (l3, a57)) else (bif xin l3 10496 then (bif xin l3 10496 then (l_X12_laysWays_44_97 n o44 a58 l1 k ((l3 + 1)) (vp_updL a57 ((Int32.toNatClampNeg l3)) ((a58 (Int32.toNatClampNeg l3))))) else none) else none))
set_option maxRecDepth 100000 in
set_option maxHeartbeats 400000 in
theorem lv_X12_laysWays_44_97 (s0 : XW) (n : Nat) (o44 : Nat → Int32) (a58 : Nat → Int64) (l1 : Int32) (Q : Nat → Option Value → XW → Prop) : ∀ (k : Nat) (l3 : Int32) (a57 : Nat → Int64) (o : ((Int32) × (Nat → Int64))), l_X12_laysWays_44_97 n o44 a58 l1 k l3 a57 = some o → (V yX12_laysWays cX12_laysWays none 2 61 (0, 0) 122 [some (.ref 44), some (.int l1), none, none] [] (xof s0 [W_44 o44, W_57 o.2, W_58 a58]) Q) → V yX12_laysWays cX12_laysWays none 2 61 (0, 0) 97 [some (.ref 44), some (.int l1), none, some (.int l3)] [] (xof s0 [W_44 o44, W_57 a57, W_58 a58]) Q := by
  intro k
  induction k with
  | zero =>
    intro _ _ _ h
    simp [l_X12_laysWays_44_97] at h
  | succ k ih =>
    intro l3 a57 o h hk
    rw [l_X12_laysWays_44_97] at h
    refine x_iload_n dX12_laysWays_97 rfl ?_
    refine x_sipush (v := 10496) dX12_laysWays_98 (by decide) ?_
    refine x_icmp_ge (tgt := 122) dX12_laysWays_101 (by decide) (fun c11 => ?_) (fun c11 => ?_)
    · replace h := xif_p c11 h
      refine V.drop1 (i := 3) (ls' := [_, _, _, _]) rfl ?_
      show V yX12_laysWays cX12_laysWays none 2 61 (0, 0) 122 [some (.ref 44), some (.int l1), none, none] [] (xof s0 [W_44 o44, W_57 a57, W_58 a58]) _
      cases h
      exact hk
    · replace h := xif_n c11 h
      refine x_aload_n dX12_laysWays_104 rfl ?_
      refine g_X12_51 rfl dX12_laysWays_105 (by decide) rfl rfl ?_
      refine x_iload_n dX12_laysWays_108 rfl ?_
      refine x_aload_n dX12_laysWays_109 rfl ?_
      refine g_X12_55 rfl dX12_laysWays_110 (by decide) rfl rfl ?_
      refine x_iload_n dX12_laysWays_113 rfl ?_
      obtain ⟨c12, h⟩ := xck h
      refine x_laldK (jn := (Int32.toNatClampNeg l3)) (v := (a58 (Int32.toNatClampNeg l3))) dX12_laysWays_114 (by decide) rfl (xin_ok c12) rfl rfl ?_
      obtain ⟨c13, h⟩ := xck h
      refine x_lastK (jn := (Int32.toNatClampNeg l3)) (L' := [(44, _), (57, _), (58, _)]) dX12_laysWays_115 (by decide) rfl (xin_ok c13) rfl rfl ?_
      refine x_iinc (v := l3 + 1) (ls' := [_, _, _, _]) dX12_laysWays_116 rfl rfl rfl rfl ?_
      refine x_goto (tgt := 97) dX12_laysWays_119 (by decide) ?_
      show V yX12_laysWays cX12_laysWays none 2 61 (0, 0) 97 [some (.ref 44), some (.int l1), none, some (.int ((l3 + 1)))] [] (xof s0 [W_44 o44, W_57 (vp_updL a57 ((Int32.toNatClampNeg l3)) ((a58 (Int32.toNatClampNeg l3)))), W_58 a58]) _
      exact ih ((l3 + 1)) (vp_updL a57 ((Int32.toNatClampNeg l3)) ((a58 (Int32.toNatClampNeg l3)))) _ h hk
def l_X12_laysWays_44_21 (n : Nat) (o44 : Nat → Int32) : Nat → (Int32) → (Nat → Int64) → (Nat → Int64) → Option (((Int32) × (Nat → Int64) × (Nat → Int64)))
  | 0, _, _, _ => none
  | k + 1, l1, a57, a58 => (if 40 ≤ l1 then (some (l1, a57, a58)) else (Option.bind (f_X12_markOf n l1) (fun q3 => (Option.bind (l_X12_laysWays_44_34 n o44 a57 l1 q3 n 0 a58) (fun u10 => (Option.bind (l_X12_laysWays_44_97 n o44 u10.2 l1 n 0 a57) (fun u14 => (l_X12_laysWays_44_21 n o44 k ((l1 + 1)) u14.2 u10.2))))))))
set_option maxRecDepth 100000 in
set_option maxHeartbeats 400000 in
theorem lv_X12_laysWays_44_21 (s0 : XW) (n : Nat) (o44 : Nat → Int32) (Q : Nat → Option Value → XW → Prop) : ∀ (k : Nat) (l1 : Int32) (a57 : Nat → Int64) (a58 : Nat → Int64) (o : ((Int32) × (Nat → Int64) × (Nat → Int64))), l_X12_laysWays_44_21 n o44 k l1 a57 a58 = some o → (V yX12_laysWays cX12_laysWays none 2 61 (0, 0) 128 [none, none, none, none] [] (xof s0 [W_44 o44, W_57 o.2.1, W_58 o.2.2]) Q) → V yX12_laysWays cX12_laysWays none 2 61 (0, 0) 21 [some (.ref 44), some (.int l1), none, none] [] (xof s0 [W_44 o44, W_57 a57, W_58 a58]) Q := by
  intro k
  induction k with
  | zero =>
    intro _ _ _ _ h
    simp [l_X12_laysWays_44_21] at h
  | succ k ih =>
    intro l1 a57 a58 o h hk
    rw [l_X12_laysWays_44_21] at h
    refine x_iload_n dX12_laysWays_21 rfl ?_
    refine x_bipush (v := 40) dX12_laysWays_22 (by decide) ?_
    refine x_icmp_ge (tgt := 128) dX12_laysWays_24 (by decide) (fun c2 => ?_) (fun c2 => ?_)
    · replace h := xif_p c2 h
      refine V.drop1 (i := 0) (ls' := [_, _, _, _]) rfl ?_
      refine V.drop1 (i := 1) (ls' := [_, _, _, _]) rfl ?_
      show V yX12_laysWays cX12_laysWays none 2 61 (0, 0) 128 [none, none, none, none] [] (xof s0 [W_44 o44, W_57 a57, W_58 a58]) _
      cases h
      exact hk
    · replace h := xif_n c2 h
      refine x_iload_n dX12_laysWays_27 rfl ?_
      obtain ⟨q3, hq3, h⟩ := Option.bind_eq_some_iff.mp h
      refine y_callSi (L' := [(44, _), (57, _), (58, _)]) mi_X12_markOf ml_X12_85 st_X12_markOf dX12_laysWays_28 (fun s1 => v_X12_markOf 61 s1 n _ q3 hq3) (Nat.le_of_ble_eq_true rfl) rfl (by decide) (Nat.le_of_ble_eq_true rfl) rfl rfl rfl rfl ?_
      refine x_istore_n (ls' := [_, _, _, _]) dX12_laysWays_31 rfl rfl ?_
      refine x_iconst (v := 0) dX12_laysWays_32 (by decide) ?_
      refine x_istore_n (ls' := [_, _, _, _]) dX12_laysWays_33 rfl rfl ?_
      obtain ⟨u10, hu10, h⟩ := Option.bind_eq_some_iff.mp h
      show V yX12_laysWays cX12_laysWays none 2 61 (0, 0) 34 [some (.ref 44), some (.int l1), some (.int q3), some (.int 0)] [] (xof s0 [W_44 o44, W_57 a57, W_58 a58]) _
      refine lv_X12_laysWays_44_34 s0 _ o44 a57 l1 q3 _ n 0 a58 _ hu10 ?_
      refine x_iconst (v := 0) dX12_laysWays_95 (by decide) ?_
      refine x_istore_n (ls' := [_, _, _, _]) dX12_laysWays_96 rfl rfl ?_
      obtain ⟨u14, hu14, h⟩ := Option.bind_eq_some_iff.mp h
      show V yX12_laysWays cX12_laysWays none 2 61 (0, 0) 97 [some (.ref 44), some (.int l1), none, some (.int 0)] [] (xof s0 [W_44 o44, W_57 a57, W_58 u10.2]) _
      refine lv_X12_laysWays_44_97 s0 _ o44 u10.2 l1 _ n 0 a57 _ hu14 ?_
      refine x_iinc (v := l1 + 1) (ls' := [_, _, _, _]) dX12_laysWays_122 rfl rfl rfl rfl ?_
      refine x_goto (tgt := 21) dX12_laysWays_125 (by decide) ?_
      show V yX12_laysWays cX12_laysWays none 2 61 (0, 0) 21 [some (.ref 44), some (.int ((l1 + 1))), none, none] [] (xof s0 [W_44 o44, W_57 u14.2, W_58 u10.2]) _
      exact ih ((l1 + 1)) u14.2 u10.2 _ h hk
def f_X12_laysWays_44 (n : Nat) (o44 : Nat → Int32) (a57 : Nat → Int64) (a58 : Nat → Int64)  : Option (((Nat → Int64) × (Nat → Int64))) := (if (lg_cmp (a57 0) 1) = 0 then (some (a57, a58)) else (Option.bind (l_X12_laysWays_44_21 n o44 n 0 (vp_updL a57 0 1) a58) (fun u15 => (some (u15.2.1, u15.2.2)))))
set_option maxRecDepth 100000 in
set_option maxHeartbeats 400000 in
theorem v_X12_laysWays_44 (s0 : XW) (n : Nat) (o44 : Nat → Int32) (a57 : Nat → Int64) (a58 : Nat → Int64)  (q : ((Nat → Int64) × (Nat → Int64))) (h : f_X12_laysWays_44 n o44 a57 a58 = some q) : C_X12_laysWays 2 61 [.ref 44] (xof s0 [W_44 o44, W_57 a57, W_58 a58]) none (xof s0 [W_44 o44, W_57 q.1, W_58 q.2]) := by
  unfold f_X12_laysWays_44 at h
  show V yX12_laysWays cX12_laysWays none 2 61 (0, 0) 0 [some (.ref 44), none, none, none] [] (xof s0 [W_44 o44, W_57 a57, W_58 a58]) _
  refine x_aload_n dX12_laysWays_0 rfl ?_
  refine g_X12_51 rfl dX12_laysWays_1 (by decide) rfl rfl ?_
  refine x_iconst (v := 0) dX12_laysWays_4 (by decide) ?_
  refine x_laldK (jn := 0) (v := (a57 0)) dX12_laysWays_5 (by decide) rfl (xin_ok (by decide)) (by decide) rfl ?_
  refine x_lconst (v := 1) dX12_laysWays_6 (by decide) ?_
  refine x_lcmp dX12_laysWays_7 ?_
  refine x_if_ne (tgt := 12) dX12_laysWays_8 (by decide) (fun c1 => ?_) (fun c1 => ?_)
  · replace h := xif_n c1 h
    refine x_aload_n dX12_laysWays_12 rfl ?_
    refine g_X12_51 rfl dX12_laysWays_13 (by decide) rfl rfl ?_
    refine x_iconst (v := 0) dX12_laysWays_16 (by decide) ?_
    refine x_lconst (v := 1) dX12_laysWays_17 (by decide) ?_
    refine x_lastK (jn := 0) (L' := [(44, _), (57, _), (58, _)]) dX12_laysWays_18 (by decide) rfl (xin_ok (by decide)) (by decide) rfl ?_
    refine x_iconst (v := 0) dX12_laysWays_19 (by decide) ?_
    refine x_istore_n (ls' := [_, _, _, _]) dX12_laysWays_20 rfl rfl ?_
    obtain ⟨u15, hu15, h⟩ := Option.bind_eq_some_iff.mp h
    show V yX12_laysWays cX12_laysWays none 2 61 (0, 0) 21 [some (.ref 44), some (.int 0), none, none] [] (xof s0 [W_44 o44, W_57 (vp_updL a57 0 1), W_58 a58]) _
    refine lv_X12_laysWays_44_21 s0 _ o44 _ n 0 (vp_updL a57 0 1) a58 _ hu15 ?_
    cases h
    exact x_vret dX12_laysWays_128 ⟨rfl, rfl, rfl⟩
  · replace h := xif_p c1 h
    cases h
    exact x_vret dX12_laysWays_11 ⟨rfl, rfl, rfl⟩
def f_X12_words_44 (n : Nat) (o44 : Nat → Int32) (a57 : Nat → Int64) (a58 : Nat → Int64) (p1 : Int32) : Option (((Int64) × (Nat → Int32) × (Nat → Int64) × (Nat → Int64))) := (Option.bind (f_X12_isIn ((Int32.toInt64 p1)) 0 40) (fun q1 => (if q1 = 0 then (some ((-3), upd o44 0 0, a57, a58)) else (Option.bind (f_X12_laysWays_44 n (upd o44 0 0) a57 a58) (fun q3 => (bif xin (256 * p1) 10496 then (some ((q3.1 (Int32.toNatClampNeg (256 * p1))), upd o44 0 0, q3.1, q3.2)) else none))))))
set_option maxRecDepth 100000 in
set_option maxHeartbeats 400000 in
theorem v_X12_words_44 (s0 : XW) (n : Nat) (o44 : Nat → Int32) (a57 : Nat → Int64) (a58 : Nat → Int64) (p1 : Int32) (q : ((Int64) × (Nat → Int32) × (Nat → Int64) × (Nat → Int64))) (h : f_X12_words_44 n o44 a57 a58 p1 = some q) : C_X12_words 3 61 [.ref 44, .int p1] (xof s0 [W_44 o44, W_57 a57, W_58 a58]) (some (.long q.1)) (xof s0 [W_44 q.2.1, W_57 q.2.2.1, W_58 q.2.2.2]) := by
  unfold f_X12_words_44 at h
  show V yX12_words cX12_words (some .long) 3 61 (0, 0) 0 [some (.ref 44), some (.int p1)] [] (xof s0 [W_44 o44, W_57 a57, W_58 a58]) _
  refine x_aload_n dX12_words_0 rfl ?_
  refine x_iconst (v := 0) dX12_words_1 (by decide) ?_
  refine p_X12_1 (fs' := [_, _, _, _, _, _, _, _, _, _, _, _, _, _, _, _, _, _, _, _, _, _]) (L' := [(44, _), (57, _), (58, _)]) rfl dX12_words_2 (by decide) rfl (Nat.le_of_ble_eq_true rfl) rfl rfl ?_
  refine x_iload_n dX12_words_5 rfl ?_
  refine x_i2l dX12_words_6 ?_
  refine x_lconst (v := 0) dX12_words_7 (by decide) ?_
  refine x_ldc2 dX12_words_8 cn_X12_224 ?_
  obtain ⟨q1, hq1, h⟩ := Option.bind_eq_some_iff.mp h
  refine y_callSi (L' := [(44, _), (57, _), (58, _)]) mi_X12_isIn ml_X12_77 st_X12_isIn dX12_words_11 (fun s1 => v_X12_isIn 61 s1 _ _ _ q1 hq1) (Nat.le_of_ble_eq_true rfl) rfl (by decide) (Nat.le_of_ble_eq_true rfl) rfl rfl rfl rfl ?_
  refine x_if_ne (tgt := 21) dX12_words_14 (by decide) (fun c2 => ?_) (fun c2 => ?_)
  · replace h := xif_n c2 h
    refine x_aload_n dX12_words_21 rfl ?_
    obtain ⟨q3, hq3, h⟩ := Option.bind_eq_some_iff.mp h
    refine y_callVv (L' := [(44, _), (57, _), (58, _)]) mi_X12_laysWays ml_X12_228 im_X12_laysWays se_X12_laysWays (rfl : vwCl[11]? = _) dX12_words_22 (fun s1 => v_X12_laysWays_44 s1 n _ _ _ q3 hq3) (by decide) rfl (Nat.le_of_ble_eq_true rfl) rfl (by decide) (Nat.le_of_ble_eq_true rfl) rfl rfl rfl rfl ?_
    refine x_aload_n dX12_words_25 rfl ?_
    refine g_X12_51 rfl dX12_words_26 (by decide) rfl rfl ?_
    refine x_sipush (v := 256) dX12_words_29 (by decide) ?_
    refine x_iload_n dX12_words_32 rfl ?_
    refine x_imul dX12_words_33 ?_
    obtain ⟨c4, h⟩ := xck h
    refine x_laldK (jn := (Int32.toNatClampNeg (256 * p1))) (v := (q3.1 (Int32.toNatClampNeg (256 * p1)))) dX12_words_34 (by decide) rfl (xin_ok c4) rfl rfl ?_
    cases h
    exact x_lret dX12_words_35 ⟨rfl, rfl, rfl⟩
  · replace h := xif_p c2 h
    refine x_ldc2 dX12_words_17 cn_X12_226 ?_
    cases h
    exact x_lret dX12_words_20 ⟨rfl, rfl, rfl⟩
def l_X12_chosen_4 (n : Nat) (l0 : Int32) : Nat → (Int64) → (Int32) → Option (((Int64) × (Int32)))
  | 0, _, _ => none
  | k + 1, l1, l3 => (if l0 < l3 then (some (l1, l3)) else (bif xnzl (Int32.toInt64 l3) then (l_X12_chosen_4 n l0 k (((l1 * (Int32.toInt64 (41 - l3))) / (Int32.toInt64 l3))) ((l3 + 1))) else none))
set_option maxRecDepth 100000 in
set_option maxHeartbeats 400000 in
theorem lv_X12_chosen_4 (N : Nat) (s0 : XW) (n : Nat) (l0 : Int32) (Q : Nat → Option Value → XW → Prop) : ∀ (k : Nat) (l1 : Int64) (l3 : Int32) (o : ((Int64) × (Int32))), l_X12_chosen_4 n l0 k l1 l3 = some o → (V yX12_chosen cX12_chosen (some .long) 0 N (0, 0) 26 [none, some (.long o.1), none, none] [] (xof s0 []) Q) → V yX12_chosen cX12_chosen (some .long) 0 N (0, 0) 4 [some (.int l0), some (.long l1), none, some (.int l3)] [] (xof s0 []) Q := by
  intro k
  induction k with
  | zero =>
    intro _ _ _ h
    simp [l_X12_chosen_4] at h
  | succ k ih =>
    intro l1 l3 o h hk
    rw [l_X12_chosen_4] at h
    refine x_iload_n dX12_chosen_4 rfl ?_
    refine x_iload_n dX12_chosen_5 rfl ?_
    refine x_icmp_gt (tgt := 26) dX12_chosen_6 (by decide) (fun c1 => ?_) (fun c1 => ?_)
    · replace h := xif_p c1 h
      refine V.drop1 (i := 0) (ls' := [_, _, _, _]) rfl ?_
      refine V.drop1 (i := 3) (ls' := [_, _, _, _]) rfl ?_
      show V yX12_chosen cX12_chosen (some .long) 0 N (0, 0) 26 [none, some (.long l1), none, none] [] (xof s0 []) _
      cases h
      exact hk
    · replace h := xif_n c1 h
      refine x_lload_n dX12_chosen_9 rfl ?_
      refine x_bipush (v := 41) dX12_chosen_10 (by decide) ?_
      refine x_iload_n dX12_chosen_12 rfl ?_
      refine x_isub dX12_chosen_13 ?_
      refine x_i2l dX12_chosen_14 ?_
      refine x_lmul dX12_chosen_15 ?_
      refine x_iload_n dX12_chosen_16 rfl ?_
      refine x_i2l dX12_chosen_17 ?_
      obtain ⟨c2, h⟩ := xck h
      refine x_ldiv dX12_chosen_18 (xnzl_ok c2) ?_
      refine x_lstore_n (ls' := [_, _, _, _]) dX12_chosen_19 rfl rfl ?_
      refine x_iinc (v := l3 + 1) (ls' := [_, _, _, _]) dX12_chosen_20 rfl rfl rfl rfl ?_
      refine x_goto (tgt := 4) dX12_chosen_23 (by decide) ?_
      show V yX12_chosen cX12_chosen (some .long) 0 N (0, 0) 4 [some (.int l0), some (.long (((l1 * (Int32.toInt64 (41 - l3))) / (Int32.toInt64 l3)))), none, some (.int ((l3 + 1)))] [] (xof s0 []) _
      exact ih (((l1 * (Int32.toInt64 (41 - l3))) / (Int32.toInt64 l3))) ((l3 + 1)) _ h hk
def f_X12_chosen (n : Nat)  (p0 : Int32) : Option Int64 := (Option.bind (l_X12_chosen_4 n p0 n 1 1) (fun u3 => (some u3.1)))
set_option maxRecDepth 100000 in
set_option maxHeartbeats 400000 in
theorem v_X12_chosen (N : Nat) (s0 : XW) (n : Nat)  (p0 : Int32) (q : Int64) (h : f_X12_chosen n p0 = some q) : C_X12_chosen 0 N [.int p0] (xof s0 []) (some (.long q)) (xof s0 []) := by
  unfold f_X12_chosen at h
  show V yX12_chosen cX12_chosen (some .long) 0 N (0, 0) 0 [some (.int p0), none, none, none] [] (xof s0 []) _
  refine x_lconst (v := 1) dX12_chosen_0 (by decide) ?_
  refine x_lstore_n (ls' := [_, _, _, _]) dX12_chosen_1 rfl rfl ?_
  refine x_iconst (v := 1) dX12_chosen_2 (by decide) ?_
  refine x_istore_n (ls' := [_, _, _, _]) dX12_chosen_3 rfl rfl ?_
  obtain ⟨u3, hu3, h⟩ := Option.bind_eq_some_iff.mp h
  show V yX12_chosen cX12_chosen (some .long) 0 N (0, 0) 4 [some (.int p0), some (.long 1), none, some (.int 1)] [] (xof s0 []) _
  refine lv_X12_chosen_4 N s0 _ p0 _ n 1 1 _ hu3 ?_
  refine x_lload_n dX12_chosen_26 rfl ?_
  cases h
  exact x_lret dX12_chosen_27 ⟨rfl, rfl, rfl⟩
def l_X12_cases_44_46 (n : Nat) (o44 : Nat → Int32) (a57 : Nat → Int64) (a58 : Nat → Int64) (l1 : Int32) (l2 : Int32) : Nat → (Int64) → (Int32) → Option (((Int64) × (Int32)))
  | 0, _, _ => none
  | k + 1, l3, l5 => (if 40 ≤ l5 then (some (l3, l5)) else (Option.bind (f_X12_markOf n l5) (fun q7 => (bif xin ((256 * l1) + q7) 10496 then (l_X12_cases_44_46 n o44 a57 a58 l1 l2 k ((l3 + (a57 (Int32.toNatClampNeg ((256 * l1) + q7))))) ((l5 + 1))) else none))))
set_option maxRecDepth 100000 in
set_option maxHeartbeats 400000 in
theorem lv_X12_cases_44_46 (s0 : XW) (n : Nat) (o44 : Nat → Int32) (a57 : Nat → Int64) (a58 : Nat → Int64) (l1 : Int32) (l2 : Int32) (Q : Nat → Option Value → XW → Prop) : ∀ (k : Nat) (l3 : Int64) (l5 : Int32) (o : ((Int64) × (Int32))), l_X12_cases_44_46 n o44 a57 a58 l1 l2 k l3 l5 = some o → (V yX12_cases cX12_cases (some .long) 3 61 (0, 0) 78 [some (.ref 44), some (.int l1), some (.int l2), some (.long o.1), none, none, none] [] (xof s0 [W_44 o44, W_57 a57, W_58 a58]) Q) → V yX12_cases cX12_cases (some .long) 3 61 (0, 0) 46 [some (.ref 44), some (.int l1), some (.int l2), some (.long l3), none, some (.int l5), none] [] (xof s0 [W_44 o44, W_57 a57, W_58 a58]) Q := by
  intro k
  induction k with
  | zero =>
    intro _ _ _ h
    simp [l_X12_cases_44_46] at h
  | succ k ih =>
    intro l3 l5 o h hk
    rw [l_X12_cases_44_46] at h
    refine x_iload dX12_cases_46 rfl ?_
    refine x_bipush (v := 40) dX12_cases_48 (by decide) ?_
    refine x_icmp_ge (tgt := 78) dX12_cases_50 (by decide) (fun c6 => ?_) (fun c6 => ?_)
    · replace h := xif_p c6 h
      refine V.drop1 (i := 5) (ls' := [_, _, _, _, _, _, _]) rfl ?_
      show V yX12_cases cX12_cases (some .long) 3 61 (0, 0) 78 [some (.ref 44), some (.int l1), some (.int l2), some (.long l3), none, none, none] [] (xof s0 [W_44 o44, W_57 a57, W_58 a58]) _
      cases h
      exact hk
    · replace h := xif_n c6 h
      refine x_lload_n dX12_cases_53 rfl ?_
      refine x_aload_n dX12_cases_54 rfl ?_
      refine g_X12_51 rfl dX12_cases_55 (by decide) rfl rfl ?_
      refine x_sipush (v := 256) dX12_cases_58 (by decide) ?_
      refine x_iload_n dX12_cases_61 rfl ?_
      refine x_imul dX12_cases_62 ?_
      refine x_iload dX12_cases_63 rfl ?_
      obtain ⟨q7, hq7, h⟩ := Option.bind_eq_some_iff.mp h
      refine y_callSi (L' := [(44, _), (57, _), (58, _)]) mi_X12_markOf ml_X12_85 st_X12_markOf dX12_cases_65 (fun s1 => v_X12_markOf 61 s1 n _ q7 hq7) (Nat.le_of_ble_eq_true rfl) rfl (by decide) (Nat.le_of_ble_eq_true rfl) rfl rfl rfl rfl ?_
      refine x_iadd dX12_cases_68 ?_
      obtain ⟨c8, h⟩ := xck h
      refine x_laldK (jn := (Int32.toNatClampNeg ((256 * l1) + q7))) (v := (a57 (Int32.toNatClampNeg ((256 * l1) + q7)))) dX12_cases_69 (by decide) rfl (xin_ok c8) rfl rfl ?_
      refine x_ladd dX12_cases_70 ?_
      refine x_lstore_n (ls' := [_, _, _, _, _, _, _]) dX12_cases_71 rfl rfl ?_
      refine x_iinc (v := l5 + 1) (ls' := [_, _, _, _, _, _, _]) dX12_cases_72 rfl rfl rfl rfl ?_
      refine x_goto (tgt := 46) dX12_cases_75 (by decide) ?_
      show V yX12_cases cX12_cases (some .long) 3 61 (0, 0) 46 [some (.ref 44), some (.int l1), some (.int l2), some (.long ((l3 + (a57 (Int32.toNatClampNeg ((256 * l1) + q7)))))), none, some (.int ((l5 + 1))), none] [] (xof s0 [W_44 o44, W_57 a57, W_58 a58]) _
      exact ih ((l3 + (a57 (Int32.toNatClampNeg ((256 * l1) + q7))))) ((l5 + 1)) _ h hk
