def b_X12_takesHead_44_204 (n : Nat) (o44 : Nat → Int32) (a45 : Nat → Int32) (a51 : Nat → Int32) (t1 : Int32) (t2 : Int32) : Option (Nat → Int32) := (bif xin t1 875 then (some (upd a51 ((Int32.toNatClampNeg t1)) t2)) else none)
set_option maxRecDepth 100000 in
set_option maxHeartbeats 400000 in
theorem vb_X12_takesHead_44_204 (s0 : XW) (n : Nat) (o44 : Nat → Int32) (a45 : Nat → Int32) (a51 : Nat → Int32) (t1 : Int32) (t2 : Int32) (q : Nat → Int32) (h : b_X12_takesHead_44_204 n o44 a45 a51 t1 t2 = some q) : V yX12_takesHead cX12_takesHead none 4 61 (0, 0) 204 [none, none, none] [.int t2, .int t1, .ref 51] (xof s0 [W_44 o44, W_45 a45, W_51 a51]) (xq 61 none (xof s0 [W_44 o44, W_45 a45, W_51 q])) := by
  unfold b_X12_takesHead_44_204 at h
  obtain ⟨c12, h⟩ := xck h
  refine x_iastK (jn := (Int32.toNatClampNeg t1)) (L' := [(44, _), (45, _), (51, _)]) dX12_takesHead_204 (by decide) rfl (xin_ok c12) rfl rfl ?_
  cases h
  exact x_vret dX12_takesHead_205 ⟨rfl, rfl, rfl⟩
def b_X12_takesHead_44_160 (n : Nat) (o44 : Nat → Int32) (a45 : Nat → Int32) (a51 : Nat → Int32) (l1 : Int32) (l2 : Int32) : Option (Nat → Int32) := (if l1 = 0 then (b_X12_takesHead_44_204 n o44 a45 a51 ((l2 + 2)) 0) else (if (a51 1) = 0 then (b_X12_takesHead_44_204 n o44 a45 a51 ((l2 + 2)) 3) else (if (a51 10) = 1 then (b_X12_takesHead_44_204 n o44 a45 a51 ((l2 + 2)) 1) else (b_X12_takesHead_44_204 n o44 a45 a51 ((l2 + 2)) 2))))
set_option maxRecDepth 100000 in
set_option maxHeartbeats 400000 in
theorem vb_X12_takesHead_44_160 (s0 : XW) (n : Nat) (o44 : Nat → Int32) (a45 : Nat → Int32) (a51 : Nat → Int32) (l1 : Int32) (l2 : Int32) (q : Nat → Int32) (h : b_X12_takesHead_44_160 n o44 a45 a51 l1 l2 = some q) : V yX12_takesHead cX12_takesHead none 4 61 (0, 0) 160 [some (.ref 44), some (.int l1), some (.int l2)] [] (xof s0 [W_44 o44, W_45 a45, W_51 a51]) (xq 61 none (xof s0 [W_44 o44, W_45 a45, W_51 q])) := by
  unfold b_X12_takesHead_44_160 at h
  refine x_aload_n dX12_takesHead_160 rfl ?_
  refine g_X12_32 rfl dX12_takesHead_161 (by decide) rfl rfl ?_
  refine x_iload_n dX12_takesHead_164 rfl ?_
  refine x_iconst (v := 2) dX12_takesHead_165 (by decide) ?_
  refine x_iadd dX12_takesHead_166 ?_
  refine x_iload_n dX12_takesHead_167 rfl ?_
  refine x_if_ne (tgt := 175) dX12_takesHead_168 (by decide) (fun c9 => ?_) (fun c9 => ?_)
  · replace h := xif_n c9 h
    refine x_aload_n dX12_takesHead_175 rfl ?_
    refine g_X12_32 rfl dX12_takesHead_176 (by decide) rfl rfl ?_
    refine x_iconst (v := 1) dX12_takesHead_179 (by decide) ?_
    refine x_ialdK (jn := 1) (v := (a51 1)) dX12_takesHead_180 (by decide) rfl (xin_ok (by decide)) (by decide) rfl ?_
    refine x_if_ne (tgt := 188) dX12_takesHead_181 (by decide) (fun c10 => ?_) (fun c10 => ?_)
    · replace h := xif_n c10 h
      refine x_aload_n dX12_takesHead_188 rfl ?_
      refine g_X12_32 rfl dX12_takesHead_189 (by decide) rfl rfl ?_
      refine x_bipush (v := 10) dX12_takesHead_192 (by decide) ?_
      refine x_ialdK (jn := 10) (v := (a51 10)) dX12_takesHead_194 (by decide) rfl (xin_ok (by decide)) (by decide) rfl ?_
      refine x_iconst (v := 1) dX12_takesHead_195 (by decide) ?_
      refine x_icmp_ne (tgt := 203) dX12_takesHead_196 (by decide) (fun c11 => ?_) (fun c11 => ?_)
      · replace h := xif_n c11 h
        refine x_iconst (v := 2) dX12_takesHead_203 (by decide) ?_
        refine V.drop1 (i := 0) (ls' := [_, _, _]) rfl ?_
        refine V.drop1 (i := 1) (ls' := [_, _, _]) rfl ?_
        refine V.drop1 (i := 2) (ls' := [_, _, _]) rfl ?_
        show V yX12_takesHead cX12_takesHead none 4 61 (0, 0) 204 [none, none, none] [.int 2, .int ((l2 + 2)), .ref 51] (xof s0 [W_44 o44, W_45 a45, W_51 a51]) _
        exact vb_X12_takesHead_44_204 s0 n o44 a45 a51 ((l2 + 2)) 2 q h
      · replace h := xif_p c11 h
        refine x_iconst (v := 1) dX12_takesHead_199 (by decide) ?_
        refine x_goto (tgt := 204) dX12_takesHead_200 (by decide) ?_
        refine V.drop1 (i := 0) (ls' := [_, _, _]) rfl ?_
        refine V.drop1 (i := 1) (ls' := [_, _, _]) rfl ?_
        refine V.drop1 (i := 2) (ls' := [_, _, _]) rfl ?_
        show V yX12_takesHead cX12_takesHead none 4 61 (0, 0) 204 [none, none, none] [.int 1, .int ((l2 + 2)), .ref 51] (xof s0 [W_44 o44, W_45 a45, W_51 a51]) _
        exact vb_X12_takesHead_44_204 s0 n o44 a45 a51 ((l2 + 2)) 1 q h
    · replace h := xif_p c10 h
      refine x_iconst (v := 3) dX12_takesHead_184 (by decide) ?_
      refine x_goto (tgt := 204) dX12_takesHead_185 (by decide) ?_
      refine V.drop1 (i := 0) (ls' := [_, _, _]) rfl ?_
      refine V.drop1 (i := 1) (ls' := [_, _, _]) rfl ?_
      refine V.drop1 (i := 2) (ls' := [_, _, _]) rfl ?_
      show V yX12_takesHead cX12_takesHead none 4 61 (0, 0) 204 [none, none, none] [.int 3, .int ((l2 + 2)), .ref 51] (xof s0 [W_44 o44, W_45 a45, W_51 a51]) _
      exact vb_X12_takesHead_44_204 s0 n o44 a45 a51 ((l2 + 2)) 3 q h
  · replace h := xif_p c9 h
    refine x_iconst (v := 0) dX12_takesHead_171 (by decide) ?_
    refine x_goto (tgt := 204) dX12_takesHead_172 (by decide) ?_
    refine V.drop1 (i := 0) (ls' := [_, _, _]) rfl ?_
    refine V.drop1 (i := 1) (ls' := [_, _, _]) rfl ?_
    refine V.drop1 (i := 2) (ls' := [_, _, _]) rfl ?_
    show V yX12_takesHead cX12_takesHead none 4 61 (0, 0) 204 [none, none, none] [.int 0, .int ((l2 + 2)), .ref 51] (xof s0 [W_44 o44, W_45 a45, W_51 a51]) _
    exact vb_X12_takesHead_44_204 s0 n o44 a45 a51 ((l2 + 2)) 0 q h
def b_X12_takesHead_44_92 (n : Nat) (o44 : Nat → Int32) (a45 : Nat → Int32) (a51 : Nat → Int32) (l1 : Int32) : Option (Nat → Int32) := (bif xin (776 + (3 * ((a51 21) - (a51 21) / 32 * 32))) 875 then (bif xin ((776 + (3 * ((a51 21) - (a51 21) / 32 * 32))) + 1) 875 then (Option.bind (f_X12_counts_44 o44 (upd (upd a51 ((Int32.toNatClampNeg (776 + (3 * ((a51 21) - (a51 21) / 32 * 32))))) ((a51 12))) ((Int32.toNatClampNeg ((776 + (3 * ((a51 21) - (a51 21) / 32 * 32))) + 1))) l1) 8) (fun q6 => (if (q6 1) = 1 then (Option.bind (f_X12_checksNear_44 o44 a45 q6 l1) (fun q13 => (b_X12_takesHead_44_160 n o44 a45 q13 l1 ((776 + (3 * ((a51 21) - (a51 21) / 32 * 32))))))) else (Option.bind (f_X12_checksSure_44 n o44 a45 q6 l1) (fun q8 => (b_X12_takesHead_44_160 n o44 a45 q8 l1 ((776 + (3 * ((a51 21) - (a51 21) / 32 * 32)))))))))) else none) else none)
set_option maxRecDepth 100000 in
set_option maxHeartbeats 400000 in
theorem vb_X12_takesHead_44_92 (s0 : XW) (n : Nat) (o44 : Nat → Int32) (a45 : Nat → Int32) (a51 : Nat → Int32) (l1 : Int32) (q : Nat → Int32) (h : b_X12_takesHead_44_92 n o44 a45 a51 l1 = some q) : V yX12_takesHead cX12_takesHead none 4 61 (0, 0) 92 [some (.ref 44), some (.int l1), none] [] (xof s0 [W_44 o44, W_45 a45, W_51 a51]) (xq 61 none (xof s0 [W_44 o44, W_45 a45, W_51 q])) := by
  unfold b_X12_takesHead_44_92 at h
  refine x_sipush (v := 776) dX12_takesHead_92 (by decide) ?_
  refine x_iconst (v := 3) dX12_takesHead_95 (by decide) ?_
  refine x_aload_n dX12_takesHead_96 rfl ?_
  refine g_X12_32 rfl dX12_takesHead_97 (by decide) rfl rfl ?_
  refine x_bipush (v := 21) dX12_takesHead_100 (by decide) ?_
  refine x_ialdK (jn := 21) (v := (a51 21)) dX12_takesHead_102 (by decide) rfl (xin_ok (by decide)) (by decide) rfl ?_
  refine x_bipush (v := 32) dX12_takesHead_103 (by decide) ?_
  refine x_irem dX12_takesHead_105 (by decide) ?_
  refine x_imul dX12_takesHead_106 ?_
  refine x_iadd dX12_takesHead_107 ?_
  refine x_istore_n (ls' := [_, _, _]) dX12_takesHead_108 rfl rfl ?_
  refine x_aload_n dX12_takesHead_109 rfl ?_
  refine g_X12_32 rfl dX12_takesHead_110 (by decide) rfl rfl ?_
  refine x_iload_n dX12_takesHead_113 rfl ?_
  refine x_aload_n dX12_takesHead_114 rfl ?_
  refine g_X12_32 rfl dX12_takesHead_115 (by decide) rfl rfl ?_
  refine x_bipush (v := 12) dX12_takesHead_118 (by decide) ?_
  refine x_ialdK (jn := 12) (v := (a51 12)) dX12_takesHead_120 (by decide) rfl (xin_ok (by decide)) (by decide) rfl ?_
  obtain ⟨c4, h⟩ := xck h
  refine x_iastK (jn := (Int32.toNatClampNeg (776 + (3 * ((a51 21) - (a51 21) / 32 * 32))))) (L' := [(44, _), (45, _), (51, _)]) dX12_takesHead_121 (by decide) rfl (xin_ok c4) rfl rfl ?_
  refine x_aload_n dX12_takesHead_122 rfl ?_
  refine g_X12_32 rfl dX12_takesHead_123 (by decide) rfl rfl ?_
  refine x_iload_n dX12_takesHead_126 rfl ?_
  refine x_iconst (v := 1) dX12_takesHead_127 (by decide) ?_
  refine x_iadd dX12_takesHead_128 ?_
  refine x_iload_n dX12_takesHead_129 rfl ?_
  obtain ⟨c5, h⟩ := xck h
  refine x_iastK (jn := (Int32.toNatClampNeg ((776 + (3 * ((a51 21) - (a51 21) / 32 * 32))) + 1))) (L' := [(44, _), (45, _), (51, _)]) dX12_takesHead_130 (by decide) rfl (xin_ok c5) rfl rfl ?_
  refine x_aload_n dX12_takesHead_131 rfl ?_
  refine x_bipush (v := 8) dX12_takesHead_132 (by decide) ?_
  obtain ⟨q6, hq6, h⟩ := Option.bind_eq_some_iff.mp h
  refine y_callVv (L' := [(44, _), (45, _), (51, _)]) mi_X12_counts ml_X12_142 im_X12_counts se_X12_counts (rfl : vwCl[11]? = _) dX12_takesHead_134 (fun s1 => v_X12_counts_44 s1 _ _ _ q6 hq6) (by decide) rfl (Nat.le_of_ble_eq_true rfl) rfl (by decide) (Nat.le_of_ble_eq_true rfl) rfl rfl rfl rfl ?_
  refine x_aload_n dX12_takesHead_137 rfl ?_
  refine g_X12_32 rfl dX12_takesHead_138 (by decide) rfl rfl ?_
  refine x_iconst (v := 1) dX12_takesHead_141 (by decide) ?_
  refine x_ialdK (jn := 1) (v := (q6 1)) dX12_takesHead_142 (by decide) rfl (xin_ok (by decide)) (by decide) rfl ?_
  refine x_iconst (v := 1) dX12_takesHead_143 (by decide) ?_
  refine x_icmp_ne (tgt := 155) dX12_takesHead_144 (by decide) (fun c7 => ?_) (fun c7 => ?_)
  · replace h := xif_n c7 h
    refine x_aload_n dX12_takesHead_155 rfl ?_
    refine x_iload_n dX12_takesHead_156 rfl ?_
    obtain ⟨q8, hq8, h⟩ := Option.bind_eq_some_iff.mp h
    refine y_callVv (L' := [(44, _), (45, _), (51, _)]) mi_X12_checksSure ml_X12_176 im_X12_checksSure se_X12_checksSure (rfl : vwCl[11]? = _) dX12_takesHead_157 (fun s1 => v_X12_checksSure_44 s1 n _ _ _ _ q8 hq8) (by decide) rfl (Nat.le_of_ble_eq_true rfl) rfl (by decide) (Nat.le_of_ble_eq_true rfl) rfl rfl rfl rfl ?_
    show V yX12_takesHead cX12_takesHead none 4 61 (0, 0) 160 [some (.ref 44), some (.int l1), some (.int ((776 + (3 * ((a51 21) - (a51 21) / 32 * 32)))))] [] (xof s0 [W_44 o44, W_45 a45, W_51 q8]) _
    exact vb_X12_takesHead_44_160 s0 n o44 a45 q8 l1 ((776 + (3 * ((a51 21) - (a51 21) / 32 * 32)))) q h
  · replace h := xif_p c7 h
    refine x_aload_n dX12_takesHead_147 rfl ?_
    refine x_iload_n dX12_takesHead_148 rfl ?_
    obtain ⟨q13, hq13, h⟩ := Option.bind_eq_some_iff.mp h
    refine y_callVv (L' := [(44, _), (45, _), (51, _)]) mi_X12_checksNear ml_X12_173 im_X12_checksNear se_X12_checksNear (rfl : vwCl[11]? = _) dX12_takesHead_149 (fun s1 => v_X12_checksNear_44 s1 _ _ _ _ q13 hq13) (by decide) rfl (Nat.le_of_ble_eq_true rfl) rfl (by decide) (Nat.le_of_ble_eq_true rfl) rfl rfl rfl rfl ?_
    refine x_goto (tgt := 160) dX12_takesHead_152 (by decide) ?_
    show V yX12_takesHead cX12_takesHead none 4 61 (0, 0) 160 [some (.ref 44), some (.int l1), some (.int ((776 + (3 * ((a51 21) - (a51 21) / 32 * 32)))))] [] (xof s0 [W_44 o44, W_45 a45, W_51 q13]) _
    exact vb_X12_takesHead_44_160 s0 n o44 a45 q13 l1 ((776 + (3 * ((a51 21) - (a51 21) / 32 * 32)))) q h
def f_X12_takesHead_44 (n : Nat) (o44 : Nat → Int32) (a45 : Nat → Int32) (a51 : Nat → Int32)  : Option (Nat → Int32) := (if 40 ≤ ((a51 8) + 1) then (Option.bind (f_X12_syndromeNow_44 n o44 (upd (upd (upd (upd (upd (upd a51 8 (((a51 8) + 1))) 8 0) 6 0) 12 (((a51 0) - 40))) 11 ((a51 27))) 10 0)) (fun q2 => (if q2 = 0 then (Option.bind (f_X12_counts_44 o44 (upd (upd (upd (upd (upd (upd a51 8 (((a51 8) + 1))) 8 0) 6 0) 12 (((a51 0) - 40))) 11 ((a51 27))) 10 0) 0) (fun q14 => (b_X12_takesHead_44_92 n o44 a45 q14 q2))) else (b_X12_takesHead_44_92 n o44 a45 (upd (upd (upd (upd (upd (upd a51 8 (((a51 8) + 1))) 8 0) 6 0) 12 (((a51 0) - 40))) 11 ((a51 27))) 10 0) q2)))) else (some (upd a51 8 (((a51 8) + 1)))))
set_option maxRecDepth 100000 in
set_option maxHeartbeats 400000 in
theorem v_X12_takesHead_44 (s0 : XW) (n : Nat) (o44 : Nat → Int32) (a45 : Nat → Int32) (a51 : Nat → Int32)  (q : Nat → Int32) (h : f_X12_takesHead_44 n o44 a45 a51 = some q) : C_X12_takesHead 4 61 [.ref 44] (xof s0 [W_44 o44, W_45 a45, W_51 a51]) none (xof s0 [W_44 o44, W_45 a45, W_51 q]) := by
  unfold f_X12_takesHead_44 at h
  show V yX12_takesHead cX12_takesHead none 4 61 (0, 0) 0 [some (.ref 44), none, none] [] (xof s0 [W_44 o44, W_45 a45, W_51 a51]) _
  refine x_aload_n dX12_takesHead_0 rfl ?_
  refine g_X12_32 rfl dX12_takesHead_1 (by decide) rfl rfl ?_
  refine x_bipush (v := 8) dX12_takesHead_4 (by decide) ?_
  refine x_dup2 dX12_takesHead_6 rfl rfl ?_
  refine x_ialdK (jn := 8) (v := (a51 8)) dX12_takesHead_7 (by decide) rfl (xin_ok (by decide)) (by decide) rfl ?_
  refine x_iconst (v := 1) dX12_takesHead_8 (by decide) ?_
  refine x_iadd dX12_takesHead_9 ?_
  refine x_iastK (jn := 8) (L' := [(44, _), (45, _), (51, _)]) dX12_takesHead_10 (by decide) rfl (xin_ok (by decide)) (by decide) rfl ?_
  refine x_aload_n dX12_takesHead_11 rfl ?_
  refine g_X12_32 rfl dX12_takesHead_12 (by decide) rfl rfl ?_
  refine x_bipush (v := 8) dX12_takesHead_15 (by decide) ?_
  refine x_ialdK (jn := 8) (v := ((a51 8) + 1)) dX12_takesHead_17 (by decide) rfl (xin_ok (by decide)) (by decide) rfl ?_
  refine x_bipush (v := 40) dX12_takesHead_18 (by decide) ?_
  refine x_icmp_ge (tgt := 24) dX12_takesHead_20 (by decide) (fun c1 => ?_) (fun c1 => ?_)
  · replace h := xif_p c1 h
    refine x_aload_n dX12_takesHead_24 rfl ?_
    refine g_X12_32 rfl dX12_takesHead_25 (by decide) rfl rfl ?_
    refine x_bipush (v := 8) dX12_takesHead_28 (by decide) ?_
    refine x_iconst (v := 0) dX12_takesHead_30 (by decide) ?_
    refine x_iastK (jn := 8) (L' := [(44, _), (45, _), (51, _)]) dX12_takesHead_31 (by decide) rfl (xin_ok (by decide)) (by decide) rfl ?_
    refine x_aload_n dX12_takesHead_32 rfl ?_
    refine g_X12_32 rfl dX12_takesHead_33 (by decide) rfl rfl ?_
    refine x_bipush (v := 6) dX12_takesHead_36 (by decide) ?_
    refine x_iconst (v := 0) dX12_takesHead_38 (by decide) ?_
    refine x_iastK (jn := 6) (L' := [(44, _), (45, _), (51, _)]) dX12_takesHead_39 (by decide) rfl (xin_ok (by decide)) (by decide) rfl ?_
    refine x_aload_n dX12_takesHead_40 rfl ?_
    refine g_X12_32 rfl dX12_takesHead_41 (by decide) rfl rfl ?_
    refine x_bipush (v := 12) dX12_takesHead_44 (by decide) ?_
    refine x_aload_n dX12_takesHead_46 rfl ?_
    refine g_X12_32 rfl dX12_takesHead_47 (by decide) rfl rfl ?_
    refine x_iconst (v := 0) dX12_takesHead_50 (by decide) ?_
    refine x_ialdK (jn := 0) (v := (a51 0)) dX12_takesHead_51 (by decide) rfl (xin_ok (by decide)) (by decide) rfl ?_
    refine x_bipush (v := 40) dX12_takesHead_52 (by decide) ?_
    refine x_isub dX12_takesHead_54 ?_
    refine x_iastK (jn := 12) (L' := [(44, _), (45, _), (51, _)]) dX12_takesHead_55 (by decide) rfl (xin_ok (by decide)) (by decide) rfl ?_
    refine x_aload_n dX12_takesHead_56 rfl ?_
    refine g_X12_32 rfl dX12_takesHead_57 (by decide) rfl rfl ?_
    refine x_bipush (v := 11) dX12_takesHead_60 (by decide) ?_
    refine x_aload_n dX12_takesHead_62 rfl ?_
    refine g_X12_32 rfl dX12_takesHead_63 (by decide) rfl rfl ?_
    refine x_bipush (v := 27) dX12_takesHead_66 (by decide) ?_
    refine x_ialdK (jn := 27) (v := (a51 27)) dX12_takesHead_68 (by decide) rfl (xin_ok (by decide)) (by decide) rfl ?_
    refine x_iastK (jn := 11) (L' := [(44, _), (45, _), (51, _)]) dX12_takesHead_69 (by decide) rfl (xin_ok (by decide)) (by decide) rfl ?_
    refine x_aload_n dX12_takesHead_70 rfl ?_
    refine g_X12_32 rfl dX12_takesHead_71 (by decide) rfl rfl ?_
    refine x_bipush (v := 10) dX12_takesHead_74 (by decide) ?_
    refine x_iconst (v := 0) dX12_takesHead_76 (by decide) ?_
    refine x_iastK (jn := 10) (L' := [(44, _), (45, _), (51, _)]) dX12_takesHead_77 (by decide) rfl (xin_ok (by decide)) (by decide) rfl ?_
    refine x_aload_n dX12_takesHead_78 rfl ?_
    obtain ⟨q2, hq2, h⟩ := Option.bind_eq_some_iff.mp h
    refine y_callVi (L' := [(44, _), (45, _), (51, _)]) mi_X12_syndromeNow ml_X12_154 im_X12_syndromeNow se_X12_syndromeNow (rfl : vwCl[11]? = _) dX12_takesHead_79 (fun s1 => v_X12_syndromeNow_44 s1 n _ _ q2 hq2) (by decide) rfl (Nat.le_of_ble_eq_true rfl) rfl (by decide) (Nat.le_of_ble_eq_true rfl) rfl rfl rfl rfl ?_
    refine x_istore_n (ls' := [_, _, _]) dX12_takesHead_82 rfl rfl ?_
    refine x_iload_n dX12_takesHead_83 rfl ?_
    refine x_if_ne (tgt := 92) dX12_takesHead_84 (by decide) (fun c3 => ?_) (fun c3 => ?_)
    · replace h := xif_n c3 h
      show V yX12_takesHead cX12_takesHead none 4 61 (0, 0) 92 [some (.ref 44), some (.int q2), none] [] (xof s0 [W_44 o44, W_45 a45, W_51 (upd (upd (upd (upd (upd (upd a51 8 (((a51 8) + 1))) 8 0) 6 0) 12 (((a51 0) - 40))) 11 ((a51 27))) 10 0)]) _
      exact vb_X12_takesHead_44_92 s0 n o44 a45 (upd (upd (upd (upd (upd (upd a51 8 (((a51 8) + 1))) 8 0) 6 0) 12 (((a51 0) - 40))) 11 ((a51 27))) 10 0) q2 q h
    · replace h := xif_p c3 h
      refine x_aload_n dX12_takesHead_87 rfl ?_
      refine x_iconst (v := 0) dX12_takesHead_88 (by decide) ?_
      obtain ⟨q14, hq14, h⟩ := Option.bind_eq_some_iff.mp h
      refine y_callVv (L' := [(44, _), (45, _), (51, _)]) mi_X12_counts ml_X12_142 im_X12_counts se_X12_counts (rfl : vwCl[11]? = _) dX12_takesHead_89 (fun s1 => v_X12_counts_44 s1 _ _ _ q14 hq14) (by decide) rfl (Nat.le_of_ble_eq_true rfl) rfl (by decide) (Nat.le_of_ble_eq_true rfl) rfl rfl rfl rfl ?_
      show V yX12_takesHead cX12_takesHead none 4 61 (0, 0) 92 [some (.ref 44), some (.int q2), none] [] (xof s0 [W_44 o44, W_45 a45, W_51 q14]) _
      exact vb_X12_takesHead_44_92 s0 n o44 a45 q14 q2 q h
  · replace h := xif_n c1 h
    cases h
    exact x_vret dX12_takesHead_23 ⟨rfl, rfl, rfl⟩
def l_X12_copies_51_51_3 (n : Nat) (l1 : Int32) (l3 : Int32) (l4 : Int32) : Nat → (Int32) → (Nat → Int32) → Option (((Int32) × (Nat → Int32)))
  | 0, _, _ => none
  | k + 1, l5, a51 => (if l4 ≤ l5 then (some (l5, a51)) else (bif xin (l1 + l5) 875 then (bif xin (l3 + l5) 875 then (l_X12_copies_51_51_3 n l1 l3 l4 k ((l5 + 1)) (upd a51 ((Int32.toNatClampNeg (l3 + l5))) ((a51 (Int32.toNatClampNeg (l1 + l5)))))) else none) else none))
set_option maxRecDepth 100000 in
set_option maxHeartbeats 400000 in
theorem lv_X12_copies_51_51_3 (s0 : XW) (n : Nat) (l1 : Int32) (l3 : Int32) (l4 : Int32) (Q : Nat → Option Value → XW → Prop) : ∀ (k : Nat) (l5 : Int32) (a51 : Nat → Int32) (o : ((Int32) × (Nat → Int32))), l_X12_copies_51_51_3 n l1 l3 l4 k l5 a51 = some o → (V yX12_copies cX12_copies none 0 61 (0, 0) 28 [none, none, none, none, none, none] [] (xof s0 [W_51 o.2]) Q) → V yX12_copies cX12_copies none 0 61 (0, 0) 3 [some (.ref 51), some (.int l1), some (.ref 51), some (.int l3), some (.int l4), some (.int l5)] [] (xof s0 [W_51 a51]) Q := by
  intro k
  induction k with
  | zero =>
    intro _ _ _ h
    simp [l_X12_copies_51_51_3] at h
  | succ k ih =>
    intro l5 a51 o h hk
    rw [l_X12_copies_51_51_3] at h
    refine x_iload dX12_copies_3 rfl ?_
    refine x_iload dX12_copies_5 rfl ?_
    refine x_icmp_ge (tgt := 28) dX12_copies_7 (by decide) (fun c1 => ?_) (fun c1 => ?_)
    · replace h := xif_p c1 h
      refine V.drop1 (i := 0) (ls' := [_, _, _, _, _, _]) rfl ?_
      refine V.drop1 (i := 1) (ls' := [_, _, _, _, _, _]) rfl ?_
      refine V.drop1 (i := 2) (ls' := [_, _, _, _, _, _]) rfl ?_
      refine V.drop1 (i := 3) (ls' := [_, _, _, _, _, _]) rfl ?_
      refine V.drop1 (i := 4) (ls' := [_, _, _, _, _, _]) rfl ?_
      refine V.drop1 (i := 5) (ls' := [_, _, _, _, _, _]) rfl ?_
      show V yX12_copies cX12_copies none 0 61 (0, 0) 28 [none, none, none, none, none, none] [] (xof s0 [W_51 a51]) _
      cases h
      exact hk
    · replace h := xif_n c1 h
      refine x_aload_n dX12_copies_10 rfl ?_
      refine x_iload_n dX12_copies_11 rfl ?_
      refine x_iload dX12_copies_12 rfl ?_
      refine x_iadd dX12_copies_14 ?_
      refine x_aload_n dX12_copies_15 rfl ?_
      refine x_iload_n dX12_copies_16 rfl ?_
      refine x_iload dX12_copies_17 rfl ?_
      refine x_iadd dX12_copies_19 ?_
      obtain ⟨c2, h⟩ := xck h
      refine x_ialdK (jn := (Int32.toNatClampNeg (l1 + l5))) (v := (a51 (Int32.toNatClampNeg (l1 + l5)))) dX12_copies_20 (by decide) rfl (xin_ok c2) rfl rfl ?_
      obtain ⟨c3, h⟩ := xck h
      refine x_iastK (jn := (Int32.toNatClampNeg (l3 + l5))) (L' := [(51, _)]) dX12_copies_21 (by decide) rfl (xin_ok c3) rfl rfl ?_
      refine x_iinc (v := l5 + 1) (ls' := [_, _, _, _, _, _]) dX12_copies_22 rfl rfl rfl rfl ?_
      refine x_goto (tgt := 3) dX12_copies_25 (by decide) ?_
      show V yX12_copies cX12_copies none 0 61 (0, 0) 3 [some (.ref 51), some (.int l1), some (.ref 51), some (.int l3), some (.int l4), some (.int ((l5 + 1)))] [] (xof s0 [W_51 (upd a51 ((Int32.toNatClampNeg (l3 + l5))) ((a51 (Int32.toNatClampNeg (l1 + l5)))))]) _
      exact ih ((l5 + 1)) (upd a51 ((Int32.toNatClampNeg (l3 + l5))) ((a51 (Int32.toNatClampNeg (l1 + l5))))) _ h hk
def f_X12_copies_51_51 (n : Nat) (a51 : Nat → Int32) (p1 : Int32) (p3 : Int32) (p4 : Int32) : Option (Nat → Int32) := (Option.bind (l_X12_copies_51_51_3 n p1 p3 p4 n 0 a51) (fun u4 => (some u4.2)))
set_option maxRecDepth 100000 in
set_option maxHeartbeats 400000 in
theorem v_X12_copies_51_51 (s0 : XW) (n : Nat) (a51 : Nat → Int32) (p1 : Int32) (p3 : Int32) (p4 : Int32) (q : Nat → Int32) (h : f_X12_copies_51_51 n a51 p1 p3 p4 = some q) : C_X12_copies 0 61 [.ref 51, .int p1, .ref 51, .int p3, .int p4] (xof s0 [W_51 a51]) none (xof s0 [W_51 q]) := by
  unfold f_X12_copies_51_51 at h
  show V yX12_copies cX12_copies none 0 61 (0, 0) 0 [some (.ref 51), some (.int p1), some (.ref 51), some (.int p3), some (.int p4), none] [] (xof s0 [W_51 a51]) _
  refine x_iconst (v := 0) dX12_copies_0 (by decide) ?_
  refine x_istore (ls' := [_, _, _, _, _, _]) dX12_copies_1 rfl rfl ?_
  obtain ⟨u4, hu4, h⟩ := Option.bind_eq_some_iff.mp h
  show V yX12_copies cX12_copies none 0 61 (0, 0) 3 [some (.ref 51), some (.int p1), some (.ref 51), some (.int p3), some (.int p4), some (.int 0)] [] (xof s0 [W_51 a51]) _
  refine lv_X12_copies_51_51_3 s0 _ p1 p3 p4 _ n 0 a51 _ hu4 ?_
  cases h
  exact x_vret dX12_copies_28 ⟨rfl, rfl, rfl⟩
def l_X12_isLike_44_43 (n : Nat) (o44 : Nat → Int32) (a49 : Nat → Int32) (a51 : Nat → Int32) (l1 : Int32) (l2 : Int32) : Nat → (Int32) → (Int32) → Option (((Int32) × (Int32)))
  | 0, _, _ => none
  | k + 1, l3, l4 => (bif xin (l2 + 1) 3200 then (if (a49 (Int32.toNatClampNeg (l2 + 1))) ≤ l4 then (some (l3, l4)) else (if l3 = 0 then (some (l3, l4)) else (bif xin ((l1 + 4) + l4) 875 then (bif xin ((l2 + 2) + l4) 3200 then (if (a51 (Int32.toNatClampNeg ((l1 + 4) + l4))) = (a49 (Int32.toNatClampNeg ((l2 + 2) + l4))) then (l_X12_isLike_44_43 n o44 a49 a51 l1 l2 k 1 ((l4 + 1))) else (l_X12_isLike_44_43 n o44 a49 a51 l1 l2 k 0 ((l4 + 1)))) else none) else none))) else none)
set_option maxRecDepth 100000 in
set_option maxHeartbeats 400000 in
theorem lv_X12_isLike_44_43 (s0 : XW) (n : Nat) (o44 : Nat → Int32) (a49 : Nat → Int32) (a51 : Nat → Int32) (l1 : Int32) (l2 : Int32) (Q : Nat → Option Value → XW → Prop) : ∀ (k : Nat) (l3 : Int32) (l4 : Int32) (o : ((Int32) × (Int32))), l_X12_isLike_44_43 n o44 a49 a51 l1 l2 k l3 l4 = some o → (V yX12_isLike cX12_isLike (some .boolean) 0 61 (0, 0) 97 [none, none, none, some (.int o.1), none] [] (xof s0 [W_44 o44, W_49 a49, W_51 a51]) Q) → V yX12_isLike cX12_isLike (some .boolean) 0 61 (0, 0) 43 [some (.ref 44), some (.int l1), some (.int l2), some (.int l3), some (.int l4)] [] (xof s0 [W_44 o44, W_49 a49, W_51 a51]) Q := by
  intro k
  induction k with
  | zero =>
    intro _ _ _ h
    simp [l_X12_isLike_44_43] at h
  | succ k ih =>
    intro l3 l4 o h hk
    rw [l_X12_isLike_44_43] at h
    refine x_iload dX12_isLike_43 rfl ?_
    refine x_aload_n dX12_isLike_45 rfl ?_
    refine g_X12_26 rfl dX12_isLike_46 (by decide) rfl rfl ?_
    refine x_iload_n dX12_isLike_49 rfl ?_
    refine x_iconst (v := 1) dX12_isLike_50 (by decide) ?_
    refine x_iadd dX12_isLike_51 ?_
    obtain ⟨c4, h⟩ := xck h
    refine x_ialdK (jn := (Int32.toNatClampNeg (l2 + 1))) (v := (a49 (Int32.toNatClampNeg (l2 + 1)))) dX12_isLike_52 (by decide) rfl (xin_ok c4) rfl rfl ?_
    refine x_icmp_ge (tgt := 97) dX12_isLike_53 (by decide) (fun c5 => ?_) (fun c5 => ?_)
    · replace h := xif_p c5 h
      refine V.drop1 (i := 0) (ls' := [_, _, _, _, _]) rfl ?_
      refine V.drop1 (i := 1) (ls' := [_, _, _, _, _]) rfl ?_
      refine V.drop1 (i := 2) (ls' := [_, _, _, _, _]) rfl ?_
      refine V.drop1 (i := 4) (ls' := [_, _, _, _, _]) rfl ?_
      show V yX12_isLike cX12_isLike (some .boolean) 0 61 (0, 0) 97 [none, none, none, some (.int l3), none] [] (xof s0 [W_44 o44, W_49 a49, W_51 a51]) _
      cases h
      exact hk
    · replace h := xif_n c5 h
      refine x_iload_n dX12_isLike_56 rfl ?_
      refine x_if_eq (tgt := 97) dX12_isLike_57 (by decide) (fun c6 => ?_) (fun c6 => ?_)
      · replace h := xif_p c6 h
        refine V.drop1 (i := 0) (ls' := [_, _, _, _, _]) rfl ?_
        refine V.drop1 (i := 1) (ls' := [_, _, _, _, _]) rfl ?_
        refine V.drop1 (i := 2) (ls' := [_, _, _, _, _]) rfl ?_
        refine V.drop1 (i := 4) (ls' := [_, _, _, _, _]) rfl ?_
        show V yX12_isLike cX12_isLike (some .boolean) 0 61 (0, 0) 97 [none, none, none, some (.int l3), none] [] (xof s0 [W_44 o44, W_49 a49, W_51 a51]) _
        cases h
        exact hk
      · replace h := xif_n c6 h
        refine x_aload_n dX12_isLike_60 rfl ?_
        refine g_X12_32 rfl dX12_isLike_61 (by decide) rfl rfl ?_
        refine x_iload_n dX12_isLike_64 rfl ?_
        refine x_iconst (v := 4) dX12_isLike_65 (by decide) ?_
        refine x_iadd dX12_isLike_66 ?_
        refine x_iload dX12_isLike_67 rfl ?_
        refine x_iadd dX12_isLike_69 ?_
        obtain ⟨c7, h⟩ := xck h
        refine x_ialdK (jn := (Int32.toNatClampNeg ((l1 + 4) + l4))) (v := (a51 (Int32.toNatClampNeg ((l1 + 4) + l4)))) dX12_isLike_70 (by decide) rfl (xin_ok c7) rfl rfl ?_
        refine x_aload_n dX12_isLike_71 rfl ?_
        refine g_X12_26 rfl dX12_isLike_72 (by decide) rfl rfl ?_
        refine x_iload_n dX12_isLike_75 rfl ?_
        refine x_iconst (v := 2) dX12_isLike_76 (by decide) ?_
        refine x_iadd dX12_isLike_77 ?_
        refine x_iload dX12_isLike_78 rfl ?_
        refine x_iadd dX12_isLike_80 ?_
        obtain ⟨c8, h⟩ := xck h
        refine x_ialdK (jn := (Int32.toNatClampNeg ((l2 + 2) + l4))) (v := (a49 (Int32.toNatClampNeg ((l2 + 2) + l4)))) dX12_isLike_81 (by decide) rfl (xin_ok c8) rfl rfl ?_
        refine x_icmp_ne (tgt := 89) dX12_isLike_82 (by decide) (fun c9 => ?_) (fun c9 => ?_)
        · replace h := xif_n c9 h
          refine x_iconst (v := 0) dX12_isLike_89 (by decide) ?_
          refine x_istore_n (ls' := [_, _, _, _, _]) dX12_isLike_90 rfl rfl ?_
          refine x_iinc (v := l4 + 1) (ls' := [_, _, _, _, _]) dX12_isLike_91 rfl rfl rfl rfl ?_
          refine x_goto (tgt := 43) dX12_isLike_94 (by decide) ?_
          show V yX12_isLike cX12_isLike (some .boolean) 0 61 (0, 0) 43 [some (.ref 44), some (.int l1), some (.int l2), some (.int 0), some (.int ((l4 + 1)))] [] (xof s0 [W_44 o44, W_49 a49, W_51 a51]) _
          exact ih 0 ((l4 + 1)) _ h hk
        · replace h := xif_p c9 h
          refine x_iconst (v := 1) dX12_isLike_85 (by decide) ?_
          refine x_goto (tgt := 90) dX12_isLike_86 (by decide) ?_
          refine x_istore_n (ls' := [_, _, _, _, _]) dX12_isLike_90 rfl rfl ?_
          refine x_iinc (v := l4 + 1) (ls' := [_, _, _, _, _]) dX12_isLike_91 rfl rfl rfl rfl ?_
          refine x_goto (tgt := 43) dX12_isLike_94 (by decide) ?_
          show V yX12_isLike cX12_isLike (some .boolean) 0 61 (0, 0) 43 [some (.ref 44), some (.int l1), some (.int l2), some (.int 1), some (.int ((l4 + 1)))] [] (xof s0 [W_44 o44, W_49 a49, W_51 a51]) _
          exact ih 1 ((l4 + 1)) _ h hk
def b_X12_isLike_44_39 (n : Nat) (o44 : Nat → Int32) (a49 : Nat → Int32) (a51 : Nat → Int32) (l1 : Int32) (l2 : Int32) (t0 : Int32) : Option Int32 := (Option.bind (l_X12_isLike_44_43 n o44 a49 a51 l1 l2 n t0 0) (fun u10 => (bif xb u10.1 then (some u10.1) else none)))
set_option maxRecDepth 100000 in
set_option maxHeartbeats 400000 in
theorem vb_X12_isLike_44_39 (s0 : XW) (n : Nat) (o44 : Nat → Int32) (a49 : Nat → Int32) (a51 : Nat → Int32) (l1 : Int32) (l2 : Int32) (t0 : Int32) (q : Int32) (h : b_X12_isLike_44_39 n o44 a49 a51 l1 l2 t0 = some q) : V yX12_isLike cX12_isLike (some .boolean) 0 61 (0, 0) 39 [some (.ref 44), some (.int l1), some (.int l2), none, none] [.int t0] (xof s0 [W_44 o44, W_49 a49, W_51 a51]) (xq 61 (some (.int q)) (xof s0 [W_44 o44, W_49 a49, W_51 a51])) := by
  unfold b_X12_isLike_44_39 at h
  refine x_istore_n (ls' := [_, _, _, _, _]) dX12_isLike_39 rfl rfl ?_
  refine x_iconst (v := 0) dX12_isLike_40 (by decide) ?_
  refine x_istore (ls' := [_, _, _, _, _]) dX12_isLike_41 rfl rfl ?_
  obtain ⟨u10, hu10, h⟩ := Option.bind_eq_some_iff.mp h
  show V yX12_isLike cX12_isLike (some .boolean) 0 61 (0, 0) 43 [some (.ref 44), some (.int l1), some (.int l2), some (.int t0), some (.int 0)] [] (xof s0 [W_44 o44, W_49 a49, W_51 a51]) _
  refine lv_X12_isLike_44_43 s0 _ o44 a49 a51 l1 l2 _ n t0 0 _ hu10 ?_
  refine x_iload_n dX12_isLike_97 rfl ?_
  obtain ⟨c11, h⟩ := xck h
  cases h
  exact x_zret dX12_isLike_98 (xb_ok c11) ⟨rfl, rfl, rfl⟩
def b_X12_isLike_44_38 (n : Nat) (o44 : Nat → Int32) (a49 : Nat → Int32) (a51 : Nat → Int32) (l1 : Int32) (l2 : Int32) : Option Int32 := (b_X12_isLike_44_39 n o44 a49 a51 l1 l2 0)
set_option maxRecDepth 100000 in
set_option maxHeartbeats 400000 in
theorem vb_X12_isLike_44_38 (s0 : XW) (n : Nat) (o44 : Nat → Int32) (a49 : Nat → Int32) (a51 : Nat → Int32) (l1 : Int32) (l2 : Int32) (q : Int32) (h : b_X12_isLike_44_38 n o44 a49 a51 l1 l2 = some q) : V yX12_isLike cX12_isLike (some .boolean) 0 61 (0, 0) 38 [some (.ref 44), some (.int l1), some (.int l2), none, none] [] (xof s0 [W_44 o44, W_49 a49, W_51 a51]) (xq 61 (some (.int q)) (xof s0 [W_44 o44, W_49 a49, W_51 a51])) := by
  unfold b_X12_isLike_44_38 at h
  refine x_iconst (v := 0) dX12_isLike_38 (by decide) ?_
  show V yX12_isLike cX12_isLike (some .boolean) 0 61 (0, 0) 39 [some (.ref 44), some (.int l1), some (.int l2), none, none] [.int 0] (xof s0 [W_44 o44, W_49 a49, W_51 a51]) _
  exact vb_X12_isLike_44_39 s0 n o44 a49 a51 l1 l2 0 q h
def f_X12_isLike_44 (n : Nat) (o44 : Nat → Int32) (a49 : Nat → Int32) (a51 : Nat → Int32) (p1 : Int32) (p2 : Int32) : Option Int32 := (bif xin p1 875 then (bif xin p2 3200 then (if (a51 (Int32.toNatClampNeg p1)) = (a49 (Int32.toNatClampNeg p2)) then (bif xin (p1 + 3) 875 then (bif xin (p2 + 1) 3200 then (if (a51 (Int32.toNatClampNeg (p1 + 3))) = (a49 (Int32.toNatClampNeg (p2 + 1))) then (b_X12_isLike_44_39 n o44 a49 a51 p1 p2 1) else (b_X12_isLike_44_38 n o44 a49 a51 p1 p2)) else none) else none) else (b_X12_isLike_44_38 n o44 a49 a51 p1 p2)) else none) else none)
set_option maxRecDepth 100000 in
set_option maxHeartbeats 400000 in
theorem v_X12_isLike_44 (s0 : XW) (n : Nat) (o44 : Nat → Int32) (a49 : Nat → Int32) (a51 : Nat → Int32) (p1 : Int32) (p2 : Int32) (q : Int32) (h : f_X12_isLike_44 n o44 a49 a51 p1 p2 = some q) : C_X12_isLike 0 61 [.ref 44, .int p1, .int p2] (xof s0 [W_44 o44, W_49 a49, W_51 a51]) (some (.int q)) (xof s0 [W_44 o44, W_49 a49, W_51 a51]) := by
  unfold f_X12_isLike_44 at h
  show V yX12_isLike cX12_isLike (some .boolean) 0 61 (0, 0) 0 [some (.ref 44), some (.int p1), some (.int p2), none, none] [] (xof s0 [W_44 o44, W_49 a49, W_51 a51]) _
  refine x_aload_n dX12_isLike_0 rfl ?_
  refine g_X12_32 rfl dX12_isLike_1 (by decide) rfl rfl ?_
  refine x_iload_n dX12_isLike_4 rfl ?_
  obtain ⟨c1, h⟩ := xck h
  refine x_ialdK (jn := (Int32.toNatClampNeg p1)) (v := (a51 (Int32.toNatClampNeg p1))) dX12_isLike_5 (by decide) rfl (xin_ok c1) rfl rfl ?_
  refine x_aload_n dX12_isLike_6 rfl ?_
  refine g_X12_26 rfl dX12_isLike_7 (by decide) rfl rfl ?_
  refine x_iload_n dX12_isLike_10 rfl ?_
  obtain ⟨c2, h⟩ := xck h
  refine x_ialdK (jn := (Int32.toNatClampNeg p2)) (v := (a49 (Int32.toNatClampNeg p2))) dX12_isLike_11 (by decide) rfl (xin_ok c2) rfl rfl ?_
  refine x_icmp_ne (tgt := 38) dX12_isLike_12 (by decide) (fun c3 => ?_) (fun c3 => ?_)
  · replace h := xif_n c3 h
    show V yX12_isLike cX12_isLike (some .boolean) 0 61 (0, 0) 38 [some (.ref 44), some (.int p1), some (.int p2), none, none] [] (xof s0 [W_44 o44, W_49 a49, W_51 a51]) _
    exact vb_X12_isLike_44_38 s0 n o44 a49 a51 p1 p2 q h
  · replace h := xif_p c3 h
    refine x_aload_n dX12_isLike_15 rfl ?_
    refine g_X12_32 rfl dX12_isLike_16 (by decide) rfl rfl ?_
    refine x_iload_n dX12_isLike_19 rfl ?_
    refine x_iconst (v := 3) dX12_isLike_20 (by decide) ?_
    refine x_iadd dX12_isLike_21 ?_
    obtain ⟨c12, h⟩ := xck h
    refine x_ialdK (jn := (Int32.toNatClampNeg (p1 + 3))) (v := (a51 (Int32.toNatClampNeg (p1 + 3)))) dX12_isLike_22 (by decide) rfl (xin_ok c12) rfl rfl ?_
    refine x_aload_n dX12_isLike_23 rfl ?_
    refine g_X12_26 rfl dX12_isLike_24 (by decide) rfl rfl ?_
    refine x_iload_n dX12_isLike_27 rfl ?_
    refine x_iconst (v := 1) dX12_isLike_28 (by decide) ?_
    refine x_iadd dX12_isLike_29 ?_
    obtain ⟨c13, h⟩ := xck h
    refine x_ialdK (jn := (Int32.toNatClampNeg (p2 + 1))) (v := (a49 (Int32.toNatClampNeg (p2 + 1)))) dX12_isLike_30 (by decide) rfl (xin_ok c13) rfl rfl ?_
    refine x_icmp_ne (tgt := 38) dX12_isLike_31 (by decide) (fun c14 => ?_) (fun c14 => ?_)
    · replace h := xif_n c14 h
      show V yX12_isLike cX12_isLike (some .boolean) 0 61 (0, 0) 38 [some (.ref 44), some (.int p1), some (.int p2), none, none] [] (xof s0 [W_44 o44, W_49 a49, W_51 a51]) _
      exact vb_X12_isLike_44_38 s0 n o44 a49 a51 p1 p2 q h
    · replace h := xif_p c14 h
      refine x_iconst (v := 1) dX12_isLike_34 (by decide) ?_
      refine x_goto (tgt := 39) dX12_isLike_35 (by decide) ?_
      show V yX12_isLike cX12_isLike (some .boolean) 0 61 (0, 0) 39 [some (.ref 44), some (.int p1), some (.int p2), none, none] [.int 1] (xof s0 [W_44 o44, W_49 a49, W_51 a51]) _
      exact vb_X12_isLike_44_39 s0 n o44 a49 a51 p1 p2 1 q h
def l_X12_foundOf_44_2 (n : Nat) (o44 : Nat → Int32) (a49 : Nat → Int32) (a51 : Nat → Int32) (l1 : Int32) : Nat → (Int32) → Option (Int32 ⊕ Int32)
  | 0, _ => none
  | k + 1, l2 => (if (o44 7) ≤ l2 then (some (Sum.inr l2)) else (Option.bind (f_X12_isLike_44 n o44 a49 a51 l1 ((50 * l2))) (fun q2 => (if q2 = 0 then (l_X12_foundOf_44_2 n o44 a49 a51 l1 k ((l2 + 1))) else (some (Sum.inl l2))))))
set_option maxRecDepth 100000 in
set_option maxHeartbeats 400000 in
theorem lv_X12_foundOf_44_2 (s0 : XW) (n : Nat) (o44 : Nat → Int32) (a49 : Nat → Int32) (a51 : Nat → Int32) (l1 : Int32) (Q : Nat → Option Value → XW → Prop) : ∀ (k : Nat) (l2 : Int32) (o : Int32 ⊕ Int32), l_X12_foundOf_44_2 n o44 a49 a51 l1 k l2 = some o → ((∀ z, o = Sum.inl z → Q 61 (some (.int z)) (xof s0 [W_44 o44, W_49 a49, W_51 a51])) ∧ (∀ z, o = Sum.inr z → V yX12_foundOf cX12_foundOf (some .int) 1 61 (0, 0) 30 [none, none, none] [] (xof s0 [W_44 o44, W_49 a49, W_51 a51]) Q)) → V yX12_foundOf cX12_foundOf (some .int) 1 61 (0, 0) 2 [some (.ref 44), some (.int l1), some (.int l2)] [] (xof s0 [W_44 o44, W_49 a49, W_51 a51]) Q := by
  intro k
  induction k with
  | zero =>
    intro _ _ h
    simp [l_X12_foundOf_44_2] at h
  | succ k ih =>
    intro l2 o h hk
    rw [l_X12_foundOf_44_2] at h
    refine x_iload_n dX12_foundOf_2 rfl ?_
    refine x_aload_n dX12_foundOf_3 rfl ?_
    refine g_X12_109 rfl dX12_foundOf_4 (by decide) rfl rfl ?_
    refine x_icmp_ge (tgt := 30) dX12_foundOf_7 (by decide) (fun c1 => ?_) (fun c1 => ?_)
    · replace h := xif_p c1 h
      refine V.drop1 (i := 0) (ls' := [_, _, _]) rfl ?_
      refine V.drop1 (i := 1) (ls' := [_, _, _]) rfl ?_
      refine V.drop1 (i := 2) (ls' := [_, _, _]) rfl ?_
      show V yX12_foundOf cX12_foundOf (some .int) 1 61 (0, 0) 30 [none, none, none] [] (xof s0 [W_44 o44, W_49 a49, W_51 a51]) _
      cases h
      exact hk.2 l2 rfl
    · replace h := xif_n c1 h
      refine x_aload_n dX12_foundOf_10 rfl ?_
      refine x_iload_n dX12_foundOf_11 rfl ?_
      refine x_bipush (v := 50) dX12_foundOf_12 (by decide) ?_
      refine x_iload_n dX12_foundOf_14 rfl ?_
      refine x_imul dX12_foundOf_15 ?_
      obtain ⟨q2, hq2, h⟩ := Option.bind_eq_some_iff.mp h
      refine y_callVi (L' := [(44, _), (49, _), (51, _)]) mi_X12_isLike ml_X12_200 im_X12_isLike se_X12_isLike (rfl : vwCl[11]? = _) dX12_foundOf_16 (fun s1 => v_X12_isLike_44 s1 n _ _ _ _ _ q2 hq2) (by decide) rfl (Nat.le_of_ble_eq_true rfl) rfl (by decide) (Nat.le_of_ble_eq_true rfl) rfl rfl rfl rfl ?_
      refine x_if_eq (tgt := 24) dX12_foundOf_19 (by decide) (fun c3 => ?_) (fun c3 => ?_)
      · replace h := xif_p c3 h
        refine x_iinc (v := l2 + 1) (ls' := [_, _, _]) dX12_foundOf_24 rfl rfl rfl rfl ?_
        refine x_goto (tgt := 2) dX12_foundOf_27 (by decide) ?_
        show V yX12_foundOf cX12_foundOf (some .int) 1 61 (0, 0) 2 [some (.ref 44), some (.int l1), some (.int ((l2 + 1)))] [] (xof s0 [W_44 o44, W_49 a49, W_51 a51]) _
        exact ih ((l2 + 1)) _ h hk
      · replace h := xif_n c3 h
        refine x_iload_n dX12_foundOf_22 rfl ?_
        cases h
        exact x_iret dX12_foundOf_23 (hk.1 l2 rfl)
def f_X12_foundOf_44 (n : Nat) (o44 : Nat → Int32) (a49 : Nat → Int32) (a51 : Nat → Int32) (p1 : Int32) : Option Int32 := (Option.bind (l_X12_foundOf_44_2 n o44 a49 a51 p1 n 0) (fun u4 => Sum.elim (fun z5 => some z5) (fun z5 => (some ((-1)))) u4))
set_option maxRecDepth 100000 in
set_option maxHeartbeats 400000 in
theorem v_X12_foundOf_44 (s0 : XW) (n : Nat) (o44 : Nat → Int32) (a49 : Nat → Int32) (a51 : Nat → Int32) (p1 : Int32) (q : Int32) (h : f_X12_foundOf_44 n o44 a49 a51 p1 = some q) : C_X12_foundOf 1 61 [.ref 44, .int p1] (xof s0 [W_44 o44, W_49 a49, W_51 a51]) (some (.int q)) (xof s0 [W_44 o44, W_49 a49, W_51 a51]) := by
  unfold f_X12_foundOf_44 at h
  show V yX12_foundOf cX12_foundOf (some .int) 1 61 (0, 0) 0 [some (.ref 44), some (.int p1), none] [] (xof s0 [W_44 o44, W_49 a49, W_51 a51]) _
  refine x_iconst (v := 0) dX12_foundOf_0 (by decide) ?_
  refine x_istore_n (ls' := [_, _, _]) dX12_foundOf_1 rfl rfl ?_
  obtain ⟨u4, hu4, h⟩ := Option.bind_eq_some_iff.mp h
  show V yX12_foundOf cX12_foundOf (some .int) 1 61 (0, 0) 2 [some (.ref 44), some (.int p1), some (.int 0)] [] (xof s0 [W_44 o44, W_49 a49, W_51 a51]) _
  refine lv_X12_foundOf_44_2 s0 _ o44 a49 a51 p1 _ n 0 _ hu4 ⟨fun z5 hz => ?_, fun z5 hz => ?_⟩
  · subst hz
    replace h := xsl h
    cases h
    exact ⟨rfl, rfl, rfl⟩
  subst hz
  replace h := xsr h
  refine x_iconst (v := -1) dX12_foundOf_30 (by decide) ?_
  cases h
  exact x_iret dX12_foundOf_31 ⟨rfl, rfl, rfl⟩
def f_X12_delivers_44 (n : Nat) (o44 : Nat → Int32) (a45 : Nat → Int32) (a49 : Nat → Int32) (a51 : Nat → Int32)  : Option (Nat → Int32) := (bif xin (80 + (52 * ((a51 16) - (a51 16) / 12 * 12))) 875 then (bif xin ((80 + (52 * ((a51 16) - (a51 16) / 12 * 12))) + 1) 875 then (bif xin ((80 + (52 * ((a51 16) - (a51 16) / 12 * 12))) + 2) 875 then (bif xin ((80 + (52 * ((a51 16) - (a51 16) / 12 * 12))) + 3) 875 then (Option.bind (f_X12_copies_51_51 n (upd (upd (upd (upd a51 ((Int32.toNatClampNeg (80 + (52 * ((a51 16) - (a51 16) / 12 * 12))))) ((a51 11))) ((Int32.toNatClampNeg ((80 + (52 * ((a51 16) - (a51 16) / 12 * 12))) + 1))) (((upd a51 ((Int32.toNatClampNeg (80 + (52 * ((a51 16) - (a51 16) / 12 * 12))))) ((a51 11))) 10))) ((Int32.toNatClampNeg ((80 + (52 * ((a51 16) - (a51 16) / 12 * 12))) + 2))) (((upd (upd a51 ((Int32.toNatClampNeg (80 + (52 * ((a51 16) - (a51 16) / 12 * 12))))) ((a51 11))) ((Int32.toNatClampNeg ((80 + (52 * ((a51 16) - (a51 16) / 12 * 12))) + 1))) (((upd a51 ((Int32.toNatClampNeg (80 + (52 * ((a51 16) - (a51 16) / 12 * 12))))) ((a51 11))) 10))) 12))) ((Int32.toNatClampNeg ((80 + (52 * ((a51 16) - (a51 16) / 12 * 12))) + 3))) ((a45 0))) 32 (((80 + (52 * ((a51 16) - (a51 16) / 12 * 12))) + 4)) ((a45 0))) (fun q5 => (Option.bind (f_X12_counts_44 o44 q5 3) (fun q6 => (Option.bind (f_X12_foundOf_44 n o44 a49 q6 ((80 + (52 * ((a51 16) - (a51 16) / 12 * 12))))) (fun q7 => (if q7 = (-1) then (Option.bind (f_X12_counts_44 o44 q6 9) (fun q9 => (some q9))) else (some q6)))))))) else none) else none) else none) else none)
set_option maxRecDepth 100000 in
set_option maxHeartbeats 400000 in
theorem v_X12_delivers_44 (s0 : XW) (n : Nat) (o44 : Nat → Int32) (a45 : Nat → Int32) (a49 : Nat → Int32) (a51 : Nat → Int32)  (q : Nat → Int32) (h : f_X12_delivers_44 n o44 a45 a49 a51 = some q) : C_X12_delivers 2 61 [.ref 44] (xof s0 [W_44 o44, W_45 a45, W_49 a49, W_51 a51]) none (xof s0 [W_44 o44, W_45 a45, W_49 a49, W_51 q]) := by
  unfold f_X12_delivers_44 at h
  show V yX12_delivers cX12_delivers none 2 61 (0, 0) 0 [some (.ref 44), none] [] (xof s0 [W_44 o44, W_45 a45, W_49 a49, W_51 a51]) _
  refine x_bipush (v := 80) dX12_delivers_0 (by decide) ?_
  refine x_bipush (v := 52) dX12_delivers_2 (by decide) ?_
  refine x_aload_n dX12_delivers_4 rfl ?_
  refine g_X12_32 rfl dX12_delivers_5 (by decide) rfl rfl ?_
  refine x_bipush (v := 16) dX12_delivers_8 (by decide) ?_
  refine x_ialdK (jn := 16) (v := (a51 16)) dX12_delivers_10 (by decide) rfl (xin_ok (by decide)) (by decide) rfl ?_
  refine x_bipush (v := 12) dX12_delivers_11 (by decide) ?_
  refine x_irem dX12_delivers_13 (by decide) ?_
  refine x_imul dX12_delivers_14 ?_
  refine x_iadd dX12_delivers_15 ?_
  refine x_istore_n (ls' := [_, _]) dX12_delivers_16 rfl rfl ?_
  refine x_aload_n dX12_delivers_17 rfl ?_
  refine g_X12_32 rfl dX12_delivers_18 (by decide) rfl rfl ?_
  refine x_iload_n dX12_delivers_21 rfl ?_
  refine x_aload_n dX12_delivers_22 rfl ?_
  refine g_X12_32 rfl dX12_delivers_23 (by decide) rfl rfl ?_
  refine x_bipush (v := 11) dX12_delivers_26 (by decide) ?_
  refine x_ialdK (jn := 11) (v := (a51 11)) dX12_delivers_28 (by decide) rfl (xin_ok (by decide)) (by decide) rfl ?_
  obtain ⟨c1, h⟩ := xck h
  refine x_iastK (jn := (Int32.toNatClampNeg (80 + (52 * ((a51 16) - (a51 16) / 12 * 12))))) (L' := [(44, _), (45, _), (49, _), (51, _)]) dX12_delivers_29 (by decide) rfl (xin_ok c1) rfl rfl ?_
  refine x_aload_n dX12_delivers_30 rfl ?_
  refine g_X12_32 rfl dX12_delivers_31 (by decide) rfl rfl ?_
  refine x_iload_n dX12_delivers_34 rfl ?_
  refine x_iconst (v := 1) dX12_delivers_35 (by decide) ?_
  refine x_iadd dX12_delivers_36 ?_
  refine x_aload_n dX12_delivers_37 rfl ?_
  refine g_X12_32 rfl dX12_delivers_38 (by decide) rfl rfl ?_
  refine x_bipush (v := 10) dX12_delivers_41 (by decide) ?_
  refine x_ialdK (jn := 10) (v := ((upd a51 ((Int32.toNatClampNeg (80 + (52 * ((a51 16) - (a51 16) / 12 * 12))))) ((a51 11))) 10)) dX12_delivers_43 (by decide) rfl (xin_ok (by decide)) (by decide) rfl ?_
  obtain ⟨c2, h⟩ := xck h
  refine x_iastK (jn := (Int32.toNatClampNeg ((80 + (52 * ((a51 16) - (a51 16) / 12 * 12))) + 1))) (L' := [(44, _), (45, _), (49, _), (51, _)]) dX12_delivers_44 (by decide) rfl (xin_ok c2) rfl rfl ?_
  refine x_aload_n dX12_delivers_45 rfl ?_
  refine g_X12_32 rfl dX12_delivers_46 (by decide) rfl rfl ?_
  refine x_iload_n dX12_delivers_49 rfl ?_
  refine x_iconst (v := 2) dX12_delivers_50 (by decide) ?_
  refine x_iadd dX12_delivers_51 ?_
  refine x_aload_n dX12_delivers_52 rfl ?_
  refine g_X12_32 rfl dX12_delivers_53 (by decide) rfl rfl ?_
  refine x_bipush (v := 12) dX12_delivers_56 (by decide) ?_
  refine x_ialdK (jn := 12) (v := ((upd (upd a51 ((Int32.toNatClampNeg (80 + (52 * ((a51 16) - (a51 16) / 12 * 12))))) ((a51 11))) ((Int32.toNatClampNeg ((80 + (52 * ((a51 16) - (a51 16) / 12 * 12))) + 1))) (((upd a51 ((Int32.toNatClampNeg (80 + (52 * ((a51 16) - (a51 16) / 12 * 12))))) ((a51 11))) 10))) 12)) dX12_delivers_58 (by decide) rfl (xin_ok (by decide)) (by decide) rfl ?_
  obtain ⟨c3, h⟩ := xck h
  refine x_iastK (jn := (Int32.toNatClampNeg ((80 + (52 * ((a51 16) - (a51 16) / 12 * 12))) + 2))) (L' := [(44, _), (45, _), (49, _), (51, _)]) dX12_delivers_59 (by decide) rfl (xin_ok c3) rfl rfl ?_
  refine x_aload_n dX12_delivers_60 rfl ?_
  refine g_X12_32 rfl dX12_delivers_61 (by decide) rfl rfl ?_
  refine x_iload_n dX12_delivers_64 rfl ?_
  refine x_iconst (v := 3) dX12_delivers_65 (by decide) ?_
  refine x_iadd dX12_delivers_66 ?_
  refine x_aload_n dX12_delivers_67 rfl ?_
  refine g_X12_13 rfl dX12_delivers_68 (by decide) rfl rfl ?_
  refine x_iconst (v := 0) dX12_delivers_71 (by decide) ?_
  refine x_ialdK (jn := 0) (v := (a45 0)) dX12_delivers_72 (by decide) rfl (xin_ok (by decide)) (by decide) rfl ?_
  obtain ⟨c4, h⟩ := xck h
  refine x_iastK (jn := (Int32.toNatClampNeg ((80 + (52 * ((a51 16) - (a51 16) / 12 * 12))) + 3))) (L' := [(44, _), (45, _), (49, _), (51, _)]) dX12_delivers_73 (by decide) rfl (xin_ok c4) rfl rfl ?_
  refine x_aload_n dX12_delivers_74 rfl ?_
  refine g_X12_32 rfl dX12_delivers_75 (by decide) rfl rfl ?_
  refine x_bipush (v := 32) dX12_delivers_78 (by decide) ?_
  refine x_aload_n dX12_delivers_80 rfl ?_
  refine g_X12_32 rfl dX12_delivers_81 (by decide) rfl rfl ?_
  refine x_iload_n dX12_delivers_84 rfl ?_
  refine x_iconst (v := 4) dX12_delivers_85 (by decide) ?_
  refine x_iadd dX12_delivers_86 ?_
  refine x_aload_n dX12_delivers_87 rfl ?_
  refine g_X12_13 rfl dX12_delivers_88 (by decide) rfl rfl ?_
  refine x_iconst (v := 0) dX12_delivers_91 (by decide) ?_
  refine x_ialdK (jn := 0) (v := (a45 0)) dX12_delivers_92 (by decide) rfl (xin_ok (by decide)) (by decide) rfl ?_
  obtain ⟨q5, hq5, h⟩ := Option.bind_eq_some_iff.mp h
  refine y_callSv (L' := [(44, _), (45, _), (49, _), (51, _)]) mi_X12_copies ml_X12_166 st_X12_copies dX12_delivers_93 (fun s1 => v_X12_copies_51_51 s1 n _ _ _ _ q5 hq5) (Nat.le_of_ble_eq_true rfl) rfl (by decide) (Nat.le_of_ble_eq_true rfl) rfl rfl rfl rfl ?_
  refine x_aload_n dX12_delivers_96 rfl ?_
  refine x_iconst (v := 3) dX12_delivers_97 (by decide) ?_
  obtain ⟨q6, hq6, h⟩ := Option.bind_eq_some_iff.mp h
  refine y_callVv (L' := [(44, _), (45, _), (49, _), (51, _)]) mi_X12_counts ml_X12_142 im_X12_counts se_X12_counts (rfl : vwCl[11]? = _) dX12_delivers_98 (fun s1 => v_X12_counts_44 s1 _ _ _ q6 hq6) (by decide) rfl (Nat.le_of_ble_eq_true rfl) rfl (by decide) (Nat.le_of_ble_eq_true rfl) rfl rfl rfl rfl ?_
  refine x_aload_n dX12_delivers_101 rfl ?_
  refine x_iload_n dX12_delivers_102 rfl ?_
  obtain ⟨q7, hq7, h⟩ := Option.bind_eq_some_iff.mp h
  refine y_callVi (L' := [(44, _), (45, _), (49, _), (51, _)]) mi_X12_foundOf ml_X12_170 im_X12_foundOf se_X12_foundOf (rfl : vwCl[11]? = _) dX12_delivers_103 (fun s1 => v_X12_foundOf_44 s1 n _ _ _ _ q7 hq7) (by decide) rfl (Nat.le_of_ble_eq_true rfl) rfl (by decide) (Nat.le_of_ble_eq_true rfl) rfl rfl rfl rfl ?_
  refine x_iconst (v := -1) dX12_delivers_106 (by decide) ?_
  refine x_icmp_ne (tgt := 116) dX12_delivers_107 (by decide) (fun c8 => ?_) (fun c8 => ?_)
  · replace h := xif_n c8 h
    cases h
    exact x_vret dX12_delivers_116 ⟨rfl, rfl, rfl⟩
  · replace h := xif_p c8 h
    refine x_aload_n dX12_delivers_110 rfl ?_
    refine x_bipush (v := 9) dX12_delivers_111 (by decide) ?_
    obtain ⟨q9, hq9, h⟩ := Option.bind_eq_some_iff.mp h
    refine y_callVv (L' := [(44, _), (45, _), (49, _), (51, _)]) mi_X12_counts ml_X12_142 im_X12_counts se_X12_counts (rfl : vwCl[11]? = _) dX12_delivers_113 (fun s1 => v_X12_counts_44 s1 _ _ _ q9 hq9) (by decide) rfl (Nat.le_of_ble_eq_true rfl) rfl (by decide) (Nat.le_of_ble_eq_true rfl) rfl rfl rfl rfl ?_
    cases h
    exact x_vret dX12_delivers_116 ⟨rfl, rfl, rfl⟩
def b_X12_takesLoad_44_262 (n : Nat) (o44 : Nat → Int32) (a45 : Nat → Int32) (a49 : Nat → Int32) (a51 : Nat → Int32) (a53 : Nat → Int32) (a54 : Nat → Int32)  : Option (((Nat → Int32) × (Nat → Int32) × (Nat → Int32))) := (Option.bind (f_X12_delivers_44 n o44 a45 a49 a51) (fun q7 => (some (q7, a53, a54))))
set_option maxRecDepth 100000 in
set_option maxHeartbeats 400000 in
theorem vb_X12_takesLoad_44_262 (s0 : XW) (n : Nat) (o44 : Nat → Int32) (a45 : Nat → Int32) (a49 : Nat → Int32) (a51 : Nat → Int32) (a53 : Nat → Int32) (a54 : Nat → Int32)  (q : ((Nat → Int32) × (Nat → Int32) × (Nat → Int32))) (h : b_X12_takesLoad_44_262 n o44 a45 a49 a51 a53 a54 = some q) : V yX12_takesLoad cX12_takesLoad none 3 61 (0, 0) 262 [some (.ref 44), none, none] [] (xof s0 [W_44 o44, W_45 a45, W_49 a49, W_51 a51, W_53 a53, W_54 a54]) (xq 61 none (xof s0 [W_44 o44, W_45 a45, W_49 a49, W_51 q.1, W_53 q.2.1, W_54 q.2.2])) := by
  unfold b_X12_takesLoad_44_262 at h
  refine x_aload_n dX12_takesLoad_262 rfl ?_
  obtain ⟨q7, hq7, h⟩ := Option.bind_eq_some_iff.mp h
  refine y_callVv (L' := [(44, _), (45, _), (49, _), (51, _), (53, _), (54, _)]) mi_X12_delivers ml_X12_163 im_X12_delivers se_X12_delivers (rfl : vwCl[11]? = _) dX12_takesLoad_263 (fun s1 => v_X12_delivers_44 s1 n _ _ _ _ q7 hq7) (by decide) rfl (Nat.le_of_ble_eq_true rfl) rfl (by decide) (Nat.le_of_ble_eq_true rfl) rfl rfl rfl rfl ?_
  cases h
  exact x_vret dX12_takesLoad_266 ⟨rfl, rfl, rfl⟩
def b_X12_takesLoad_44_185 (n : Nat) (o44 : Nat → Int32) (a45 : Nat → Int32) (a49 : Nat → Int32) (a51 : Nat → Int32) (a53 : Nat → Int32) (a54 : Nat → Int32)  : Option (((Nat → Int32) × (Nat → Int32) × (Nat → Int32))) := (if (8 * (a45 0)) ≤ (a51 7) then (if (a51 9) = 0 then (some (upd (upd a51 7 0) 6 1, a53, a54)) else (if (a45 5) = 1 then (if (a51 11) = 1 then (Option.bind (f_X12_counts_44 o44 (upd (upd a51 7 0) 6 1) 10) (fun q9 => (some (q9, a53, a54)))) else (b_X12_takesLoad_44_262 n o44 a45 a49 (upd (upd a51 7 0) 6 1) a53 a54)) else (b_X12_takesLoad_44_262 n o44 a45 a49 (upd (upd a51 7 0) 6 1) a53 a54))) else (some (a51, a53, a54)))
set_option maxRecDepth 100000 in
set_option maxHeartbeats 400000 in
theorem vb_X12_takesLoad_44_185 (s0 : XW) (n : Nat) (o44 : Nat → Int32) (a45 : Nat → Int32) (a49 : Nat → Int32) (a51 : Nat → Int32) (a53 : Nat → Int32) (a54 : Nat → Int32)  (q : ((Nat → Int32) × (Nat → Int32) × (Nat → Int32))) (h : b_X12_takesLoad_44_185 n o44 a45 a49 a51 a53 a54 = some q) : V yX12_takesLoad cX12_takesLoad none 3 61 (0, 0) 185 [some (.ref 44), none, none] [] (xof s0 [W_44 o44, W_45 a45, W_49 a49, W_51 a51, W_53 a53, W_54 a54]) (xq 61 none (xof s0 [W_44 o44, W_45 a45, W_49 a49, W_51 q.1, W_53 q.2.1, W_54 q.2.2])) := by
  unfold b_X12_takesLoad_44_185 at h
  refine x_aload_n dX12_takesLoad_185 rfl ?_
  refine g_X12_32 rfl dX12_takesLoad_186 (by decide) rfl rfl ?_
  refine x_bipush (v := 7) dX12_takesLoad_189 (by decide) ?_
  refine x_ialdK (jn := 7) (v := (a51 7)) dX12_takesLoad_191 (by decide) rfl (xin_ok (by decide)) (by decide) rfl ?_
  refine x_bipush (v := 8) dX12_takesLoad_192 (by decide) ?_
  refine x_aload_n dX12_takesLoad_194 rfl ?_
  refine g_X12_13 rfl dX12_takesLoad_195 (by decide) rfl rfl ?_
  refine x_iconst (v := 0) dX12_takesLoad_198 (by decide) ?_
  refine x_ialdK (jn := 0) (v := (a45 0)) dX12_takesLoad_199 (by decide) rfl (xin_ok (by decide)) (by decide) rfl ?_
  refine x_imul dX12_takesLoad_200 ?_
  refine x_icmp_ge (tgt := 205) dX12_takesLoad_201 (by decide) (fun c4 => ?_) (fun c4 => ?_)
  · replace h := xif_p c4 h
    refine x_aload_n dX12_takesLoad_205 rfl ?_
    refine g_X12_32 rfl dX12_takesLoad_206 (by decide) rfl rfl ?_
    refine x_bipush (v := 7) dX12_takesLoad_209 (by decide) ?_
    refine x_iconst (v := 0) dX12_takesLoad_211 (by decide) ?_
    refine x_iastK (jn := 7) (L' := [(44, _), (45, _), (49, _), (51, _), (53, _), (54, _)]) dX12_takesLoad_212 (by decide) rfl (xin_ok (by decide)) (by decide) rfl ?_
    refine x_aload_n dX12_takesLoad_213 rfl ?_
    refine g_X12_32 rfl dX12_takesLoad_214 (by decide) rfl rfl ?_
    refine x_bipush (v := 6) dX12_takesLoad_217 (by decide) ?_
    refine x_iconst (v := 1) dX12_takesLoad_219 (by decide) ?_
    refine x_iastK (jn := 6) (L' := [(44, _), (45, _), (49, _), (51, _), (53, _), (54, _)]) dX12_takesLoad_220 (by decide) rfl (xin_ok (by decide)) (by decide) rfl ?_
    refine x_aload_n dX12_takesLoad_221 rfl ?_
    refine g_X12_32 rfl dX12_takesLoad_222 (by decide) rfl rfl ?_
    refine x_bipush (v := 9) dX12_takesLoad_225 (by decide) ?_
    refine x_ialdK (jn := 9) (v := (a51 9)) dX12_takesLoad_227 (by decide) rfl (xin_ok (by decide)) (by decide) rfl ?_
    refine x_if_ne (tgt := 232) dX12_takesLoad_228 (by decide) (fun c5 => ?_) (fun c5 => ?_)
    · replace h := xif_n c5 h
      refine x_aload_n dX12_takesLoad_232 rfl ?_
      refine g_X12_13 rfl dX12_takesLoad_233 (by decide) rfl rfl ?_
      refine x_iconst (v := 5) dX12_takesLoad_236 (by decide) ?_
      refine x_ialdK (jn := 5) (v := (a45 5)) dX12_takesLoad_237 (by decide) rfl (xin_ok (by decide)) (by decide) rfl ?_
      refine x_iconst (v := 1) dX12_takesLoad_238 (by decide) ?_
      refine x_icmp_ne (tgt := 262) dX12_takesLoad_239 (by decide) (fun c6 => ?_) (fun c6 => ?_)
      · replace h := xif_n c6 h
        show V yX12_takesLoad cX12_takesLoad none 3 61 (0, 0) 262 [some (.ref 44), none, none] [] (xof s0 [W_44 o44, W_45 a45, W_49 a49, W_51 (upd (upd a51 7 0) 6 1), W_53 a53, W_54 a54]) _
        exact vb_X12_takesLoad_44_262 s0 n o44 a45 a49 (upd (upd a51 7 0) 6 1) a53 a54 q h
      · replace h := xif_p c6 h
        refine x_aload_n dX12_takesLoad_242 rfl ?_
        refine g_X12_32 rfl dX12_takesLoad_243 (by decide) rfl rfl ?_
        refine x_bipush (v := 11) dX12_takesLoad_246 (by decide) ?_
        refine x_ialdK (jn := 11) (v := (a51 11)) dX12_takesLoad_248 (by decide) rfl (xin_ok (by decide)) (by decide) rfl ?_
        refine x_iconst (v := 1) dX12_takesLoad_249 (by decide) ?_
        refine x_icmp_ne (tgt := 262) dX12_takesLoad_250 (by decide) (fun c8 => ?_) (fun c8 => ?_)
        · replace h := xif_n c8 h
          show V yX12_takesLoad cX12_takesLoad none 3 61 (0, 0) 262 [some (.ref 44), none, none] [] (xof s0 [W_44 o44, W_45 a45, W_49 a49, W_51 (upd (upd a51 7 0) 6 1), W_53 a53, W_54 a54]) _
          exact vb_X12_takesLoad_44_262 s0 n o44 a45 a49 (upd (upd a51 7 0) 6 1) a53 a54 q h
        · replace h := xif_p c8 h
          refine x_aload_n dX12_takesLoad_253 rfl ?_
          refine x_bipush (v := 10) dX12_takesLoad_254 (by decide) ?_
          obtain ⟨q9, hq9, h⟩ := Option.bind_eq_some_iff.mp h
          refine y_callVv (L' := [(44, _), (45, _), (49, _), (51, _), (53, _), (54, _)]) mi_X12_counts ml_X12_142 im_X12_counts se_X12_counts (rfl : vwCl[11]? = _) dX12_takesLoad_256 (fun s1 => v_X12_counts_44 s1 _ _ _ q9 hq9) (by decide) rfl (Nat.le_of_ble_eq_true rfl) rfl (by decide) (Nat.le_of_ble_eq_true rfl) rfl rfl rfl rfl ?_
          refine x_goto (tgt := 266) dX12_takesLoad_259 (by decide) ?_
          cases h
          exact x_vret dX12_takesLoad_266 ⟨rfl, rfl, rfl⟩
    · replace h := xif_p c5 h
      cases h
      exact x_vret dX12_takesLoad_231 ⟨rfl, rfl, rfl⟩
  · replace h := xif_n c4 h
    cases h
    exact x_vret dX12_takesLoad_204 ⟨rfl, rfl, rfl⟩
def b_X12_takesLoad_44_63 (n : Nat) (o44 : Nat → Int32) (a45 : Nat → Int32) (a49 : Nat → Int32) (a51 : Nat → Int32) (a53 : Nat → Int32) (a54 : Nat → Int32) (l1 : Int32) (l2 : Int32) : Option (((Nat → Int32) × (Nat → Int32) × (Nat → Int32))) := (if (((a51 7) + 1) - ((a51 7) + 1) / 8 * 8) = 0 then (bif xin ((32 + (((a51 7) + 1) / 8)) - 1) 875 then (b_X12_takesLoad_44_185 n o44 a45 a49 (upd (upd (upd (upd (upd a51 29 (((((a51 29) <<< (1 &&& 31)) ||| (xus (a51 30) 31)) &&& 2047))) 30 ((((a51 30) <<< (1 &&& 31)) ||| l1))) 31 (((((a51 31) <<< (1 &&& 31)) ||| l2) &&& 255))) 7 (((a51 7) + 1))) ((Int32.toNatClampNeg ((32 + (((a51 7) + 1) / 8)) - 1))) (((((a51 31) <<< (1 &&& 31)) ||| l2) &&& 255))) a53 a54) else none) else (b_X12_takesLoad_44_185 n o44 a45 a49 (upd (upd (upd (upd a51 29 (((((a51 29) <<< (1 &&& 31)) ||| (xus (a51 30) 31)) &&& 2047))) 30 ((((a51 30) <<< (1 &&& 31)) ||| l1))) 31 (((((a51 31) <<< (1 &&& 31)) ||| l2) &&& 255))) 7 (((a51 7) + 1))) a53 a54))
set_option maxRecDepth 100000 in
set_option maxHeartbeats 400000 in
theorem vb_X12_takesLoad_44_63 (s0 : XW) (n : Nat) (o44 : Nat → Int32) (a45 : Nat → Int32) (a49 : Nat → Int32) (a51 : Nat → Int32) (a53 : Nat → Int32) (a54 : Nat → Int32) (l1 : Int32) (l2 : Int32) (q : ((Nat → Int32) × (Nat → Int32) × (Nat → Int32))) (h : b_X12_takesLoad_44_63 n o44 a45 a49 a51 a53 a54 l1 l2 = some q) : V yX12_takesLoad cX12_takesLoad none 3 61 (0, 0) 63 [some (.ref 44), some (.int l1), some (.int l2)] [] (xof s0 [W_44 o44, W_45 a45, W_49 a49, W_51 a51, W_53 a53, W_54 a54]) (xq 61 none (xof s0 [W_44 o44, W_45 a45, W_49 a49, W_51 q.1, W_53 q.2.1, W_54 q.2.2])) := by
  unfold b_X12_takesLoad_44_63 at h
  refine x_aload_n dX12_takesLoad_63 rfl ?_
  refine g_X12_32 rfl dX12_takesLoad_64 (by decide) rfl rfl ?_
  refine x_bipush (v := 29) dX12_takesLoad_67 (by decide) ?_
  refine x_aload_n dX12_takesLoad_69 rfl ?_
  refine g_X12_32 rfl dX12_takesLoad_70 (by decide) rfl rfl ?_
  refine x_bipush (v := 29) dX12_takesLoad_73 (by decide) ?_
  refine x_ialdK (jn := 29) (v := (a51 29)) dX12_takesLoad_75 (by decide) rfl (xin_ok (by decide)) (by decide) rfl ?_
  refine x_iconst (v := 1) dX12_takesLoad_76 (by decide) ?_
  refine x_ishl dX12_takesLoad_77 ?_
  refine x_aload_n dX12_takesLoad_78 rfl ?_
  refine g_X12_32 rfl dX12_takesLoad_79 (by decide) rfl rfl ?_
  refine x_bipush (v := 30) dX12_takesLoad_82 (by decide) ?_
  refine x_ialdK (jn := 30) (v := (a51 30)) dX12_takesLoad_84 (by decide) rfl (xin_ok (by decide)) (by decide) rfl ?_
  refine x_bipush (v := 31) dX12_takesLoad_85 (by decide) ?_
  refine x_iushr dX12_takesLoad_87 ?_
  refine x_ior dX12_takesLoad_88 ?_
  refine x_sipush (v := 2047) dX12_takesLoad_89 (by decide) ?_
  refine x_iand dX12_takesLoad_92 ?_
  refine x_iastK (jn := 29) (L' := [(44, _), (45, _), (49, _), (51, _), (53, _), (54, _)]) dX12_takesLoad_93 (by decide) rfl (xin_ok (by decide)) (by decide) rfl ?_
  refine x_aload_n dX12_takesLoad_94 rfl ?_
  refine g_X12_32 rfl dX12_takesLoad_95 (by decide) rfl rfl ?_
  refine x_bipush (v := 30) dX12_takesLoad_98 (by decide) ?_
  refine x_aload_n dX12_takesLoad_100 rfl ?_
  refine g_X12_32 rfl dX12_takesLoad_101 (by decide) rfl rfl ?_
  refine x_bipush (v := 30) dX12_takesLoad_104 (by decide) ?_
  refine x_ialdK (jn := 30) (v := (a51 30)) dX12_takesLoad_106 (by decide) rfl (xin_ok (by decide)) (by decide) rfl ?_
  refine x_iconst (v := 1) dX12_takesLoad_107 (by decide) ?_
  refine x_ishl dX12_takesLoad_108 ?_
  refine x_iload_n dX12_takesLoad_109 rfl ?_
  refine x_ior dX12_takesLoad_110 ?_
  refine x_iastK (jn := 30) (L' := [(44, _), (45, _), (49, _), (51, _), (53, _), (54, _)]) dX12_takesLoad_111 (by decide) rfl (xin_ok (by decide)) (by decide) rfl ?_
  refine x_aload_n dX12_takesLoad_112 rfl ?_
  refine g_X12_32 rfl dX12_takesLoad_113 (by decide) rfl rfl ?_
  refine x_bipush (v := 31) dX12_takesLoad_116 (by decide) ?_
  refine x_aload_n dX12_takesLoad_118 rfl ?_
  refine g_X12_32 rfl dX12_takesLoad_119 (by decide) rfl rfl ?_
  refine x_bipush (v := 31) dX12_takesLoad_122 (by decide) ?_
  refine x_ialdK (jn := 31) (v := (a51 31)) dX12_takesLoad_124 (by decide) rfl (xin_ok (by decide)) (by decide) rfl ?_
  refine x_iconst (v := 1) dX12_takesLoad_125 (by decide) ?_
  refine x_ishl dX12_takesLoad_126 ?_
  refine x_iload_n dX12_takesLoad_127 rfl ?_
  refine x_ior dX12_takesLoad_128 ?_
  refine x_sipush (v := 255) dX12_takesLoad_129 (by decide) ?_
  refine x_iand dX12_takesLoad_132 ?_
  refine x_iastK (jn := 31) (L' := [(44, _), (45, _), (49, _), (51, _), (53, _), (54, _)]) dX12_takesLoad_133 (by decide) rfl (xin_ok (by decide)) (by decide) rfl ?_
  refine x_aload_n dX12_takesLoad_134 rfl ?_
  refine g_X12_32 rfl dX12_takesLoad_135 (by decide) rfl rfl ?_
  refine x_bipush (v := 7) dX12_takesLoad_138 (by decide) ?_
  refine x_dup2 dX12_takesLoad_140 rfl rfl ?_
  refine x_ialdK (jn := 7) (v := (a51 7)) dX12_takesLoad_141 (by decide) rfl (xin_ok (by decide)) (by decide) rfl ?_
  refine x_iconst (v := 1) dX12_takesLoad_142 (by decide) ?_
  refine x_iadd dX12_takesLoad_143 ?_
  refine x_iastK (jn := 7) (L' := [(44, _), (45, _), (49, _), (51, _), (53, _), (54, _)]) dX12_takesLoad_144 (by decide) rfl (xin_ok (by decide)) (by decide) rfl ?_
  refine x_aload_n dX12_takesLoad_145 rfl ?_
  refine g_X12_32 rfl dX12_takesLoad_146 (by decide) rfl rfl ?_
  refine x_bipush (v := 7) dX12_takesLoad_149 (by decide) ?_
  refine x_ialdK (jn := 7) (v := ((a51 7) + 1)) dX12_takesLoad_151 (by decide) rfl (xin_ok (by decide)) (by decide) rfl ?_
  refine x_bipush (v := 8) dX12_takesLoad_152 (by decide) ?_
  refine x_irem dX12_takesLoad_154 (by decide) ?_
  refine x_if_ne (tgt := 185) dX12_takesLoad_155 (by decide) (fun c3 => ?_) (fun c3 => ?_)
  · replace h := xif_n c3 h
    refine V.drop1 (i := 1) (ls' := [_, _, _]) rfl ?_
    refine V.drop1 (i := 2) (ls' := [_, _, _]) rfl ?_
    show V yX12_takesLoad cX12_takesLoad none 3 61 (0, 0) 185 [some (.ref 44), none, none] [] (xof s0 [W_44 o44, W_45 a45, W_49 a49, W_51 (upd (upd (upd (upd a51 29 (((((a51 29) <<< (1 &&& 31)) ||| (xus (a51 30) 31)) &&& 2047))) 30 ((((a51 30) <<< (1 &&& 31)) ||| l1))) 31 (((((a51 31) <<< (1 &&& 31)) ||| l2) &&& 255))) 7 (((a51 7) + 1))), W_53 a53, W_54 a54]) _
    exact vb_X12_takesLoad_44_185 s0 n o44 a45 a49 (upd (upd (upd (upd a51 29 (((((a51 29) <<< (1 &&& 31)) ||| (xus (a51 30) 31)) &&& 2047))) 30 ((((a51 30) <<< (1 &&& 31)) ||| l1))) 31 (((((a51 31) <<< (1 &&& 31)) ||| l2) &&& 255))) 7 (((a51 7) + 1))) a53 a54 q h
  · replace h := xif_p c3 h
    refine x_aload_n dX12_takesLoad_158 rfl ?_
    refine g_X12_32 rfl dX12_takesLoad_159 (by decide) rfl rfl ?_
    refine x_bipush (v := 32) dX12_takesLoad_162 (by decide) ?_
    refine x_aload_n dX12_takesLoad_164 rfl ?_
    refine g_X12_32 rfl dX12_takesLoad_165 (by decide) rfl rfl ?_
    refine x_bipush (v := 7) dX12_takesLoad_168 (by decide) ?_
    refine x_ialdK (jn := 7) (v := ((a51 7) + 1)) dX12_takesLoad_170 (by decide) rfl (xin_ok (by decide)) (by decide) rfl ?_
    refine x_bipush (v := 8) dX12_takesLoad_171 (by decide) ?_
    refine x_idiv dX12_takesLoad_173 (by decide) ?_
    refine x_iadd dX12_takesLoad_174 ?_
    refine x_iconst (v := 1) dX12_takesLoad_175 (by decide) ?_
    refine x_isub dX12_takesLoad_176 ?_
    refine x_aload_n dX12_takesLoad_177 rfl ?_
    refine g_X12_32 rfl dX12_takesLoad_178 (by decide) rfl rfl ?_
    refine x_bipush (v := 31) dX12_takesLoad_181 (by decide) ?_
    refine x_ialdK (jn := 31) (v := ((((a51 31) <<< (1 &&& 31)) ||| l2) &&& 255)) dX12_takesLoad_183 (by decide) rfl (xin_ok (by decide)) (by decide) rfl ?_
    obtain ⟨c10, h⟩ := xck h
    refine x_iastK (jn := (Int32.toNatClampNeg ((32 + (((a51 7) + 1) / 8)) - 1))) (L' := [(44, _), (45, _), (49, _), (51, _), (53, _), (54, _)]) dX12_takesLoad_184 (by decide) rfl (xin_ok c10) rfl rfl ?_
    refine V.drop1 (i := 1) (ls' := [_, _, _]) rfl ?_
    refine V.drop1 (i := 2) (ls' := [_, _, _]) rfl ?_
    show V yX12_takesLoad cX12_takesLoad none 3 61 (0, 0) 185 [some (.ref 44), none, none] [] (xof s0 [W_44 o44, W_45 a45, W_49 a49, W_51 (upd (upd (upd (upd (upd a51 29 (((((a51 29) <<< (1 &&& 31)) ||| (xus (a51 30) 31)) &&& 2047))) 30 ((((a51 30) <<< (1 &&& 31)) ||| l1))) 31 (((((a51 31) <<< (1 &&& 31)) ||| l2) &&& 255))) 7 (((a51 7) + 1))) ((Int32.toNatClampNeg ((32 + (((a51 7) + 1) / 8)) - 1))) (((((a51 31) <<< (1 &&& 31)) ||| l2) &&& 255))), W_53 a53, W_54 a54]) _
    exact vb_X12_takesLoad_44_185 s0 n o44 a45 a49 (upd (upd (upd (upd (upd a51 29 (((((a51 29) <<< (1 &&& 31)) ||| (xus (a51 30) 31)) &&& 2047))) 30 ((((a51 30) <<< (1 &&& 31)) ||| l1))) 31 (((((a51 31) <<< (1 &&& 31)) ||| l2) &&& 255))) 7 (((a51 7) + 1))) ((Int32.toNatClampNeg ((32 + (((a51 7) + 1) / 8)) - 1))) (((((a51 31) <<< (1 &&& 31)) ||| l2) &&& 255))) a53 a54 q h
def b_X12_takesLoad_44_39 (n : Nat) (o44 : Nat → Int32) (a45 : Nat → Int32) (a49 : Nat → Int32) (a51 : Nat → Int32) (a53 : Nat → Int32) (a54 : Nat → Int32) (l1 : Int32) (l2 : Int32) : Option (((Nat → Int32) × (Nat → Int32) × (Nat → Int32))) := (if (o44 15) = 2 then (bif xin ((a51 0) - 1) 9600 then (b_X12_takesLoad_44_63 n o44 a45 a49 a51 a53 (upd a54 ((Int32.toNatClampNeg ((a51 0) - 1))) ((l2 + 1))) l1 l2) else none) else (b_X12_takesLoad_44_63 n o44 a45 a49 a51 a53 a54 l1 l2))
set_option maxRecDepth 100000 in
set_option maxHeartbeats 400000 in
theorem vb_X12_takesLoad_44_39 (s0 : XW) (n : Nat) (o44 : Nat → Int32) (a45 : Nat → Int32) (a49 : Nat → Int32) (a51 : Nat → Int32) (a53 : Nat → Int32) (a54 : Nat → Int32) (l1 : Int32) (l2 : Int32) (q : ((Nat → Int32) × (Nat → Int32) × (Nat → Int32))) (h : b_X12_takesLoad_44_39 n o44 a45 a49 a51 a53 a54 l1 l2 = some q) : V yX12_takesLoad cX12_takesLoad none 3 61 (0, 0) 39 [some (.ref 44), some (.int l1), some (.int l2)] [] (xof s0 [W_44 o44, W_45 a45, W_49 a49, W_51 a51, W_53 a53, W_54 a54]) (xq 61 none (xof s0 [W_44 o44, W_45 a45, W_49 a49, W_51 q.1, W_53 q.2.1, W_54 q.2.2])) := by
  unfold b_X12_takesLoad_44_39 at h
  refine x_aload_n dX12_takesLoad_39 rfl ?_
  refine g_X12_160 rfl dX12_takesLoad_40 (by decide) rfl rfl ?_
  refine x_iconst (v := 2) dX12_takesLoad_43 (by decide) ?_
  refine x_icmp_ne (tgt := 63) dX12_takesLoad_44 (by decide) (fun c2 => ?_) (fun c2 => ?_)
  · replace h := xif_n c2 h
    show V yX12_takesLoad cX12_takesLoad none 3 61 (0, 0) 63 [some (.ref 44), some (.int l1), some (.int l2)] [] (xof s0 [W_44 o44, W_45 a45, W_49 a49, W_51 a51, W_53 a53, W_54 a54]) _
    exact vb_X12_takesLoad_44_63 s0 n o44 a45 a49 a51 a53 a54 l1 l2 q h
  · replace h := xif_p c2 h
    refine x_aload_n dX12_takesLoad_47 rfl ?_
    refine g_X12_41 rfl dX12_takesLoad_48 (by decide) rfl rfl ?_
    refine x_aload_n dX12_takesLoad_51 rfl ?_
    refine g_X12_32 rfl dX12_takesLoad_52 (by decide) rfl rfl ?_
    refine x_iconst (v := 0) dX12_takesLoad_55 (by decide) ?_
    refine x_ialdK (jn := 0) (v := (a51 0)) dX12_takesLoad_56 (by decide) rfl (xin_ok (by decide)) (by decide) rfl ?_
    refine x_iconst (v := 1) dX12_takesLoad_57 (by decide) ?_
    refine x_isub dX12_takesLoad_58 ?_
    refine x_iload_n dX12_takesLoad_59 rfl ?_
    refine x_iconst (v := 1) dX12_takesLoad_60 (by decide) ?_
    refine x_iadd dX12_takesLoad_61 ?_
    obtain ⟨c11, h⟩ := xck h
    refine x_iastK (jn := (Int32.toNatClampNeg ((a51 0) - 1))) (L' := [(44, _), (45, _), (49, _), (51, _), (53, _), (54, _)]) dX12_takesLoad_62 (by decide) rfl (xin_ok c11) rfl rfl ?_
    show V yX12_takesLoad cX12_takesLoad none 3 61 (0, 0) 63 [some (.ref 44), some (.int l1), some (.int l2)] [] (xof s0 [W_44 o44, W_45 a45, W_49 a49, W_51 a51, W_53 a53, W_54 (upd a54 ((Int32.toNatClampNeg ((a51 0) - 1))) ((l2 + 1)))]) _
    exact vb_X12_takesLoad_44_63 s0 n o44 a45 a49 a51 a53 (upd a54 ((Int32.toNatClampNeg ((a51 0) - 1))) ((l2 + 1))) l1 l2 q h
def f_X12_takesLoad_44 (n : Nat) (o44 : Nat → Int32) (a45 : Nat → Int32) (a49 : Nat → Int32) (a51 : Nat → Int32) (a53 : Nat → Int32) (a54 : Nat → Int32) (p1 : Int32) : Option (((Nat → Int32) × (Nat → Int32) × (Nat → Int32))) := (if (o44 15) = 1 then (bif xin ((a51 0) - 1) 9600 then (b_X12_takesLoad_44_39 n o44 a45 a49 a51 (upd a53 ((Int32.toNatClampNeg ((a51 0) - 1))) (((p1 ^^^ (((a51 29) >>> (10 &&& 31)) &&& 1)) + 1))) a54 p1 ((p1 ^^^ (((a51 29) >>> (10 &&& 31)) &&& 1)))) else none) else (b_X12_takesLoad_44_39 n o44 a45 a49 a51 a53 a54 p1 ((p1 ^^^ (((a51 29) >>> (10 &&& 31)) &&& 1)))))
set_option maxRecDepth 100000 in
set_option maxHeartbeats 400000 in
theorem v_X12_takesLoad_44 (s0 : XW) (n : Nat) (o44 : Nat → Int32) (a45 : Nat → Int32) (a49 : Nat → Int32) (a51 : Nat → Int32) (a53 : Nat → Int32) (a54 : Nat → Int32) (p1 : Int32) (q : ((Nat → Int32) × (Nat → Int32) × (Nat → Int32))) (h : f_X12_takesLoad_44 n o44 a45 a49 a51 a53 a54 p1 = some q) : C_X12_takesLoad 3 61 [.ref 44, .int p1] (xof s0 [W_44 o44, W_45 a45, W_49 a49, W_51 a51, W_53 a53, W_54 a54]) none (xof s0 [W_44 o44, W_45 a45, W_49 a49, W_51 q.1, W_53 q.2.1, W_54 q.2.2]) := by
  unfold f_X12_takesLoad_44 at h
  show V yX12_takesLoad cX12_takesLoad none 3 61 (0, 0) 0 [some (.ref 44), some (.int p1), none] [] (xof s0 [W_44 o44, W_45 a45, W_49 a49, W_51 a51, W_53 a53, W_54 a54]) _
  refine x_iload_n dX12_takesLoad_0 rfl ?_
  refine x_aload_n dX12_takesLoad_1 rfl ?_
  refine g_X12_32 rfl dX12_takesLoad_2 (by decide) rfl rfl ?_
  refine x_bipush (v := 29) dX12_takesLoad_5 (by decide) ?_
  refine x_ialdK (jn := 29) (v := (a51 29)) dX12_takesLoad_7 (by decide) rfl (xin_ok (by decide)) (by decide) rfl ?_
  refine x_bipush (v := 10) dX12_takesLoad_8 (by decide) ?_
  refine x_ishr dX12_takesLoad_10 ?_
  refine x_iconst (v := 1) dX12_takesLoad_11 (by decide) ?_
  refine x_iand dX12_takesLoad_12 ?_
  refine x_ixor dX12_takesLoad_13 ?_
  refine x_istore_n (ls' := [_, _, _]) dX12_takesLoad_14 rfl rfl ?_
  refine x_aload_n dX12_takesLoad_15 rfl ?_
  refine g_X12_160 rfl dX12_takesLoad_16 (by decide) rfl rfl ?_
  refine x_iconst (v := 1) dX12_takesLoad_19 (by decide) ?_
  refine x_icmp_ne (tgt := 39) dX12_takesLoad_20 (by decide) (fun c1 => ?_) (fun c1 => ?_)
  · replace h := xif_n c1 h
    show V yX12_takesLoad cX12_takesLoad none 3 61 (0, 0) 39 [some (.ref 44), some (.int p1), some (.int ((p1 ^^^ (((a51 29) >>> (10 &&& 31)) &&& 1))))] [] (xof s0 [W_44 o44, W_45 a45, W_49 a49, W_51 a51, W_53 a53, W_54 a54]) _
    exact vb_X12_takesLoad_44_39 s0 n o44 a45 a49 a51 a53 a54 p1 ((p1 ^^^ (((a51 29) >>> (10 &&& 31)) &&& 1))) q h
  · replace h := xif_p c1 h
    refine x_aload_n dX12_takesLoad_23 rfl ?_
    refine g_X12_38 rfl dX12_takesLoad_24 (by decide) rfl rfl ?_
    refine x_aload_n dX12_takesLoad_27 rfl ?_
    refine g_X12_32 rfl dX12_takesLoad_28 (by decide) rfl rfl ?_
    refine x_iconst (v := 0) dX12_takesLoad_31 (by decide) ?_
    refine x_ialdK (jn := 0) (v := (a51 0)) dX12_takesLoad_32 (by decide) rfl (xin_ok (by decide)) (by decide) rfl ?_
    refine x_iconst (v := 1) dX12_takesLoad_33 (by decide) ?_
    refine x_isub dX12_takesLoad_34 ?_
    refine x_iload_n dX12_takesLoad_35 rfl ?_
    refine x_iconst (v := 1) dX12_takesLoad_36 (by decide) ?_
    refine x_iadd dX12_takesLoad_37 ?_
    obtain ⟨c12, h⟩ := xck h
    refine x_iastK (jn := (Int32.toNatClampNeg ((a51 0) - 1))) (L' := [(44, _), (45, _), (49, _), (51, _), (53, _), (54, _)]) dX12_takesLoad_38 (by decide) rfl (xin_ok c12) rfl rfl ?_
    show V yX12_takesLoad cX12_takesLoad none 3 61 (0, 0) 39 [some (.ref 44), some (.int p1), some (.int ((p1 ^^^ (((a51 29) >>> (10 &&& 31)) &&& 1))))] [] (xof s0 [W_44 o44, W_45 a45, W_49 a49, W_51 a51, W_53 (upd a53 ((Int32.toNatClampNeg ((a51 0) - 1))) (((p1 ^^^ (((a51 29) >>> (10 &&& 31)) &&& 1)) + 1))), W_54 a54]) _
    exact vb_X12_takesLoad_44_39 s0 n o44 a45 a49 a51 (upd a53 ((Int32.toNatClampNeg ((a51 0) - 1))) (((p1 ^^^ (((a51 29) >>> (10 &&& 31)) &&& 1)) + 1))) a54 p1 ((p1 ^^^ (((a51 29) >>> (10 &&& 31)) &&& 1))) q h
def b_X12_takesOne_44_254 (n : Nat) (o44 : Nat → Int32) (a45 : Nat → Int32) (a48 : Nat → Int32) (a49 : Nat → Int32) (a51 : Nat → Int32) (a53 : Nat → Int32) (a54 : Nat → Int32) (t1 : Int32) (t2 : Int32) : Option (((Nat → Int32) × (Nat → Int32) × (Nat → Int32))) := (bif xin t1 875 then (some (upd a51 ((Int32.toNatClampNeg t1)) t2, a53, a54)) else none)
set_option maxRecDepth 100000 in
set_option maxHeartbeats 400000 in
theorem vb_X12_takesOne_44_254 (s0 : XW) (n : Nat) (o44 : Nat → Int32) (a45 : Nat → Int32) (a48 : Nat → Int32) (a49 : Nat → Int32) (a51 : Nat → Int32) (a53 : Nat → Int32) (a54 : Nat → Int32) (t1 : Int32) (t2 : Int32) (q : ((Nat → Int32) × (Nat → Int32) × (Nat → Int32))) (h : b_X12_takesOne_44_254 n o44 a45 a48 a49 a51 a53 a54 t1 t2 = some q) : V yX12_takesOne cX12_takesOne none 5 61 (0, 0) 254 [none, none, none, none] [.int t2, .int t1, .ref 51] (xof s0 [W_44 o44, W_45 a45, W_48 a48, W_49 a49, W_51 a51, W_53 a53, W_54 a54]) (xq 61 none (xof s0 [W_44 o44, W_45 a45, W_48 a48, W_49 a49, W_51 q.1, W_53 q.2.1, W_54 q.2.2])) := by
  unfold b_X12_takesOne_44_254 at h
  obtain ⟨c15, h⟩ := xck h
  refine x_iastK (jn := (Int32.toNatClampNeg t1)) (L' := [(44, _), (45, _), (48, _), (49, _), (51, _), (53, _), (54, _)]) dX12_takesOne_254 (by decide) rfl (xin_ok c15) rfl rfl ?_
  cases h
  exact x_vret dX12_takesOne_255 ⟨rfl, rfl, rfl⟩
def b_X12_takesOne_44_238 (n : Nat) (o44 : Nat → Int32) (a45 : Nat → Int32) (a48 : Nat → Int32) (a49 : Nat → Int32) (a51 : Nat → Int32) (a53 : Nat → Int32) (a54 : Nat → Int32) (l3 : Int32) : Option (((Nat → Int32) × (Nat → Int32) × (Nat → Int32))) := (if l3 = 0 then (b_X12_takesOne_44_254 n o44 a45 a48 a49 a51 a53 a54 873 1) else (b_X12_takesOne_44_254 n o44 a45 a48 a49 a51 a53 a54 873 0))
set_option maxRecDepth 100000 in
set_option maxHeartbeats 400000 in
theorem vb_X12_takesOne_44_238 (s0 : XW) (n : Nat) (o44 : Nat → Int32) (a45 : Nat → Int32) (a48 : Nat → Int32) (a49 : Nat → Int32) (a51 : Nat → Int32) (a53 : Nat → Int32) (a54 : Nat → Int32) (l3 : Int32) (q : ((Nat → Int32) × (Nat → Int32) × (Nat → Int32))) (h : b_X12_takesOne_44_238 n o44 a45 a48 a49 a51 a53 a54 l3 = some q) : V yX12_takesOne cX12_takesOne none 5 61 (0, 0) 238 [some (.ref 44), none, none, some (.int l3)] [] (xof s0 [W_44 o44, W_45 a45, W_48 a48, W_49 a49, W_51 a51, W_53 a53, W_54 a54]) (xq 61 none (xof s0 [W_44 o44, W_45 a45, W_48 a48, W_49 a49, W_51 q.1, W_53 q.2.1, W_54 q.2.2])) := by
  unfold b_X12_takesOne_44_238 at h
  refine x_aload_n dX12_takesOne_238 rfl ?_
  refine g_X12_32 rfl dX12_takesOne_239 (by decide) rfl rfl ?_
  refine x_sipush (v := 873) dX12_takesOne_242 (by decide) ?_
  refine x_iload_n dX12_takesOne_245 rfl ?_
  refine x_if_eq (tgt := 253) dX12_takesOne_246 (by decide) (fun c14 => ?_) (fun c14 => ?_)
  · replace h := xif_p c14 h
    refine x_iconst (v := 1) dX12_takesOne_253 (by decide) ?_
    refine V.drop1 (i := 0) (ls' := [_, _, _, _]) rfl ?_
    refine V.drop1 (i := 3) (ls' := [_, _, _, _]) rfl ?_
    show V yX12_takesOne cX12_takesOne none 5 61 (0, 0) 254 [none, none, none, none] [.int 1, .int 873, .ref 51] (xof s0 [W_44 o44, W_45 a45, W_48 a48, W_49 a49, W_51 a51, W_53 a53, W_54 a54]) _
    exact vb_X12_takesOne_44_254 s0 n o44 a45 a48 a49 a51 a53 a54 873 1 q h
  · replace h := xif_n c14 h
    refine x_iconst (v := 0) dX12_takesOne_249 (by decide) ?_
    refine x_goto (tgt := 254) dX12_takesOne_250 (by decide) ?_
    refine V.drop1 (i := 0) (ls' := [_, _, _, _]) rfl ?_
    refine V.drop1 (i := 3) (ls' := [_, _, _, _]) rfl ?_
    show V yX12_takesOne cX12_takesOne none 5 61 (0, 0) 254 [none, none, none, none] [.int 0, .int 873, .ref 51] (xof s0 [W_44 o44, W_45 a45, W_48 a48, W_49 a49, W_51 a51, W_53 a53, W_54 a54]) _
    exact vb_X12_takesOne_44_254 s0 n o44 a45 a48 a49 a51 a53 a54 873 0 q h
def b_X12_takesOne_44_198 (n : Nat) (o44 : Nat → Int32) (a45 : Nat → Int32) (a48 : Nat → Int32) (a49 : Nat → Int32) (a51 : Nat → Int32) (a53 : Nat → Int32) (a54 : Nat → Int32) (l3 : Int32) (t1 : Int32) (t2 : Int32) : Option (((Nat → Int32) × (Nat → Int32) × (Nat → Int32))) := (bif xin t1 875 then (if (a45 4) ≤ ((upd a51 ((Int32.toNatClampNeg t1)) t2) 872) then (if l3 = 0 then (if ((upd a51 ((Int32.toNatClampNeg t1)) t2) 873) = 0 then (Option.bind (f_X12_counts_44 o44 (upd a51 ((Int32.toNatClampNeg t1)) t2) 11) (fun q17 => (b_X12_takesOne_44_238 n o44 a45 a48 a49 q17 a53 a54 l3))) else (b_X12_takesOne_44_238 n o44 a45 a48 a49 (upd a51 ((Int32.toNatClampNeg t1)) t2) a53 a54 l3)) else (b_X12_takesOne_44_238 n o44 a45 a48 a49 (upd a51 ((Int32.toNatClampNeg t1)) t2) a53 a54 l3)) else (some (upd a51 ((Int32.toNatClampNeg t1)) t2, a53, a54))) else none)
set_option maxRecDepth 100000 in
set_option maxHeartbeats 400000 in
theorem vb_X12_takesOne_44_198 (s0 : XW) (n : Nat) (o44 : Nat → Int32) (a45 : Nat → Int32) (a48 : Nat → Int32) (a49 : Nat → Int32) (a51 : Nat → Int32) (a53 : Nat → Int32) (a54 : Nat → Int32) (l3 : Int32) (t1 : Int32) (t2 : Int32) (q : ((Nat → Int32) × (Nat → Int32) × (Nat → Int32))) (h : b_X12_takesOne_44_198 n o44 a45 a48 a49 a51 a53 a54 l3 t1 t2 = some q) : V yX12_takesOne cX12_takesOne none 5 61 (0, 0) 198 [some (.ref 44), none, none, some (.int l3)] [.int t2, .int t1, .ref 51] (xof s0 [W_44 o44, W_45 a45, W_48 a48, W_49 a49, W_51 a51, W_53 a53, W_54 a54]) (xq 61 none (xof s0 [W_44 o44, W_45 a45, W_48 a48, W_49 a49, W_51 q.1, W_53 q.2.1, W_54 q.2.2])) := by
  unfold b_X12_takesOne_44_198 at h
  obtain ⟨c11, h⟩ := xck h
  refine x_iastK (jn := (Int32.toNatClampNeg t1)) (L' := [(44, _), (45, _), (48, _), (49, _), (51, _), (53, _), (54, _)]) dX12_takesOne_198 (by decide) rfl (xin_ok c11) rfl rfl ?_
  refine x_aload_n dX12_takesOne_199 rfl ?_
  refine g_X12_32 rfl dX12_takesOne_200 (by decide) rfl rfl ?_
  refine x_sipush (v := 872) dX12_takesOne_203 (by decide) ?_
  refine x_ialdK (jn := 872) (v := ((upd a51 ((Int32.toNatClampNeg t1)) t2) 872)) dX12_takesOne_206 (by decide) rfl (xin_ok (by decide)) (by decide) rfl ?_
  refine x_aload_n dX12_takesOne_207 rfl ?_
  refine g_X12_13 rfl dX12_takesOne_208 (by decide) rfl rfl ?_
  refine x_iconst (v := 4) dX12_takesOne_211 (by decide) ?_
  refine x_ialdK (jn := 4) (v := (a45 4)) dX12_takesOne_212 (by decide) rfl (xin_ok (by decide)) (by decide) rfl ?_
  refine x_icmp_ge (tgt := 217) dX12_takesOne_213 (by decide) (fun c12 => ?_) (fun c12 => ?_)
  · replace h := xif_p c12 h
    refine x_iload_n dX12_takesOne_217 rfl ?_
    refine x_if_ne (tgt := 238) dX12_takesOne_218 (by decide) (fun c13 => ?_) (fun c13 => ?_)
    · replace h := xif_n c13 h
      show V yX12_takesOne cX12_takesOne none 5 61 (0, 0) 238 [some (.ref 44), none, none, some (.int l3)] [] (xof s0 [W_44 o44, W_45 a45, W_48 a48, W_49 a49, W_51 (upd a51 ((Int32.toNatClampNeg t1)) t2), W_53 a53, W_54 a54]) _
      exact vb_X12_takesOne_44_238 s0 n o44 a45 a48 a49 (upd a51 ((Int32.toNatClampNeg t1)) t2) a53 a54 l3 q h
    · replace h := xif_p c13 h
      refine x_aload_n dX12_takesOne_221 rfl ?_
      refine g_X12_32 rfl dX12_takesOne_222 (by decide) rfl rfl ?_
      refine x_sipush (v := 873) dX12_takesOne_225 (by decide) ?_
      refine x_ialdK (jn := 873) (v := ((upd a51 ((Int32.toNatClampNeg t1)) t2) 873)) dX12_takesOne_228 (by decide) rfl (xin_ok (by decide)) (by decide) rfl ?_
      refine x_if_ne (tgt := 238) dX12_takesOne_229 (by decide) (fun c16 => ?_) (fun c16 => ?_)
      · replace h := xif_n c16 h
        show V yX12_takesOne cX12_takesOne none 5 61 (0, 0) 238 [some (.ref 44), none, none, some (.int l3)] [] (xof s0 [W_44 o44, W_45 a45, W_48 a48, W_49 a49, W_51 (upd a51 ((Int32.toNatClampNeg t1)) t2), W_53 a53, W_54 a54]) _
        exact vb_X12_takesOne_44_238 s0 n o44 a45 a48 a49 (upd a51 ((Int32.toNatClampNeg t1)) t2) a53 a54 l3 q h
      · replace h := xif_p c16 h
        refine x_aload_n dX12_takesOne_232 rfl ?_
        refine x_bipush (v := 11) dX12_takesOne_233 (by decide) ?_
        obtain ⟨q17, hq17, h⟩ := Option.bind_eq_some_iff.mp h
        refine y_callVv (L' := [(44, _), (45, _), (48, _), (49, _), (51, _), (53, _), (54, _)]) mi_X12_counts ml_X12_142 im_X12_counts se_X12_counts (rfl : vwCl[11]? = _) dX12_takesOne_235 (fun s1 => v_X12_counts_44 s1 _ _ _ q17 hq17) (by decide) rfl (Nat.le_of_ble_eq_true rfl) rfl (by decide) (Nat.le_of_ble_eq_true rfl) rfl rfl rfl rfl ?_
        show V yX12_takesOne cX12_takesOne none 5 61 (0, 0) 238 [some (.ref 44), none, none, some (.int l3)] [] (xof s0 [W_44 o44, W_45 a45, W_48 a48, W_49 a49, W_51 q17, W_53 a53, W_54 a54]) _
        exact vb_X12_takesOne_44_238 s0 n o44 a45 a48 a49 q17 a53 a54 l3 q h
  · replace h := xif_n c12 h
    cases h
    exact x_vret dX12_takesOne_216 ⟨rfl, rfl, rfl⟩
def b_X12_takesOne_44_181 (n : Nat) (o44 : Nat → Int32) (a45 : Nat → Int32) (a48 : Nat → Int32) (a49 : Nat → Int32) (a51 : Nat → Int32) (a53 : Nat → Int32) (a54 : Nat → Int32) (l3 : Int32) (t1 : Int32) (t2 : Int32) (t3 : Int32) : Option (((Nat → Int32) × (Nat → Int32) × (Nat → Int32))) := (if t2 = t3 then (b_X12_takesOne_44_198 n o44 a45 a48 a49 a51 a53 a54 l3 t1 (((a51 872) + 1))) else (b_X12_takesOne_44_198 n o44 a45 a48 a49 a51 a53 a54 l3 t1 1))
set_option maxRecDepth 100000 in
set_option maxHeartbeats 400000 in
theorem vb_X12_takesOne_44_181 (s0 : XW) (n : Nat) (o44 : Nat → Int32) (a45 : Nat → Int32) (a48 : Nat → Int32) (a49 : Nat → Int32) (a51 : Nat → Int32) (a53 : Nat → Int32) (a54 : Nat → Int32) (l3 : Int32) (t1 : Int32) (t2 : Int32) (t3 : Int32) (q : ((Nat → Int32) × (Nat → Int32) × (Nat → Int32))) (h : b_X12_takesOne_44_181 n o44 a45 a48 a49 a51 a53 a54 l3 t1 t2 t3 = some q) : V yX12_takesOne cX12_takesOne none 5 61 (0, 0) 181 [some (.ref 44), none, none, some (.int l3)] [.int t3, .int t2, .int t1, .ref 51] (xof s0 [W_44 o44, W_45 a45, W_48 a48, W_49 a49, W_51 a51, W_53 a53, W_54 a54]) (xq 61 none (xof s0 [W_44 o44, W_45 a45, W_48 a48, W_49 a49, W_51 q.1, W_53 q.2.1, W_54 q.2.2])) := by
  unfold b_X12_takesOne_44_181 at h
  refine x_icmp_ne (tgt := 197) dX12_takesOne_181 (by decide) (fun c10 => ?_) (fun c10 => ?_)
  · replace h := xif_n c10 h
    refine x_iconst (v := 1) dX12_takesOne_197 (by decide) ?_
    show V yX12_takesOne cX12_takesOne none 5 61 (0, 0) 198 [some (.ref 44), none, none, some (.int l3)] [.int 1, .int t1, .ref 51] (xof s0 [W_44 o44, W_45 a45, W_48 a48, W_49 a49, W_51 a51, W_53 a53, W_54 a54]) _
    exact vb_X12_takesOne_44_198 s0 n o44 a45 a48 a49 a51 a53 a54 l3 t1 1 q h
  · replace h := xif_p c10 h
    refine x_aload_n dX12_takesOne_184 rfl ?_
    refine g_X12_32 rfl dX12_takesOne_185 (by decide) rfl rfl ?_
    refine x_sipush (v := 872) dX12_takesOne_188 (by decide) ?_
    refine x_ialdK (jn := 872) (v := (a51 872)) dX12_takesOne_191 (by decide) rfl (xin_ok (by decide)) (by decide) rfl ?_
    refine x_iconst (v := 1) dX12_takesOne_192 (by decide) ?_
    refine x_iadd dX12_takesOne_193 ?_
    refine x_goto (tgt := 198) dX12_takesOne_194 (by decide) ?_
    show V yX12_takesOne cX12_takesOne none 5 61 (0, 0) 198 [some (.ref 44), none, none, some (.int l3)] [.int (((a51 872) + 1)), .int t1, .ref 51] (xof s0 [W_44 o44, W_45 a45, W_48 a48, W_49 a49, W_51 a51, W_53 a53, W_54 a54]) _
    exact vb_X12_takesOne_44_198 s0 n o44 a45 a48 a49 a51 a53 a54 l3 t1 (((a51 872) + 1)) q h
def b_X12_takesOne_44_162 (n : Nat) (o44 : Nat → Int32) (a45 : Nat → Int32) (a48 : Nat → Int32) (a49 : Nat → Int32) (a51 : Nat → Int32) (a53 : Nat → Int32) (a54 : Nat → Int32) (l2 : Int32) (t0 : Int32) : Option (((Nat → Int32) × (Nat → Int32) × (Nat → Int32))) := (if l2 = 2 then (b_X12_takesOne_44_181 n o44 a45 a48 a49 a51 a53 a54 t0 872 t0 1) else (b_X12_takesOne_44_181 n o44 a45 a48 a49 a51 a53 a54 t0 872 t0 0))
set_option maxRecDepth 100000 in
set_option maxHeartbeats 400000 in
theorem vb_X12_takesOne_44_162 (s0 : XW) (n : Nat) (o44 : Nat → Int32) (a45 : Nat → Int32) (a48 : Nat → Int32) (a49 : Nat → Int32) (a51 : Nat → Int32) (a53 : Nat → Int32) (a54 : Nat → Int32) (l2 : Int32) (t0 : Int32) (q : ((Nat → Int32) × (Nat → Int32) × (Nat → Int32))) (h : b_X12_takesOne_44_162 n o44 a45 a48 a49 a51 a53 a54 l2 t0 = some q) : V yX12_takesOne cX12_takesOne none 5 61 (0, 0) 162 [some (.ref 44), none, some (.int l2), none] [.int t0] (xof s0 [W_44 o44, W_45 a45, W_48 a48, W_49 a49, W_51 a51, W_53 a53, W_54 a54]) (xq 61 none (xof s0 [W_44 o44, W_45 a45, W_48 a48, W_49 a49, W_51 q.1, W_53 q.2.1, W_54 q.2.2])) := by
  unfold b_X12_takesOne_44_162 at h
  refine x_istore_n (ls' := [_, _, _, _]) dX12_takesOne_162 rfl rfl ?_
  refine x_aload_n dX12_takesOne_163 rfl ?_
  refine g_X12_32 rfl dX12_takesOne_164 (by decide) rfl rfl ?_
  refine x_sipush (v := 872) dX12_takesOne_167 (by decide) ?_
  refine x_iload_n dX12_takesOne_170 rfl ?_
  refine x_iload_n dX12_takesOne_171 rfl ?_
  refine x_iconst (v := 2) dX12_takesOne_172 (by decide) ?_
  refine x_icmp_ne (tgt := 180) dX12_takesOne_173 (by decide) (fun c9 => ?_) (fun c9 => ?_)
  · replace h := xif_n c9 h
    refine x_iconst (v := 0) dX12_takesOne_180 (by decide) ?_
    refine V.drop1 (i := 2) (ls' := [_, _, _, _]) rfl ?_
    show V yX12_takesOne cX12_takesOne none 5 61 (0, 0) 181 [some (.ref 44), none, none, some (.int t0)] [.int 0, .int t0, .int 872, .ref 51] (xof s0 [W_44 o44, W_45 a45, W_48 a48, W_49 a49, W_51 a51, W_53 a53, W_54 a54]) _
    exact vb_X12_takesOne_44_181 s0 n o44 a45 a48 a49 a51 a53 a54 t0 872 t0 0 q h
  · replace h := xif_p c9 h
    refine x_iconst (v := 1) dX12_takesOne_176 (by decide) ?_
    refine x_goto (tgt := 181) dX12_takesOne_177 (by decide) ?_
    refine V.drop1 (i := 2) (ls' := [_, _, _, _]) rfl ?_
    show V yX12_takesOne cX12_takesOne none 5 61 (0, 0) 181 [some (.ref 44), none, none, some (.int t0)] [.int 1, .int t0, .int 872, .ref 51] (xof s0 [W_44 o44, W_45 a45, W_48 a48, W_49 a49, W_51 a51, W_53 a53, W_54 a54]) _
    exact vb_X12_takesOne_44_181 s0 n o44 a45 a48 a49 a51 a53 a54 t0 872 t0 1 q h
def b_X12_takesOne_44_147 (n : Nat) (o44 : Nat → Int32) (a45 : Nat → Int32) (a48 : Nat → Int32) (a49 : Nat → Int32) (a51 : Nat → Int32) (a53 : Nat → Int32) (a54 : Nat → Int32) (l2 : Int32) : Option (((Nat → Int32) × (Nat → Int32) × (Nat → Int32))) := (if (a51 1) = 2 then (b_X12_takesOne_44_162 n o44 a45 a48 a49 a51 a53 a54 l2 1) else (b_X12_takesOne_44_162 n o44 a45 a48 a49 a51 a53 a54 l2 0))
set_option maxRecDepth 100000 in
set_option maxHeartbeats 400000 in
theorem vb_X12_takesOne_44_147 (s0 : XW) (n : Nat) (o44 : Nat → Int32) (a45 : Nat → Int32) (a48 : Nat → Int32) (a49 : Nat → Int32) (a51 : Nat → Int32) (a53 : Nat → Int32) (a54 : Nat → Int32) (l2 : Int32) (q : ((Nat → Int32) × (Nat → Int32) × (Nat → Int32))) (h : b_X12_takesOne_44_147 n o44 a45 a48 a49 a51 a53 a54 l2 = some q) : V yX12_takesOne cX12_takesOne none 5 61 (0, 0) 147 [some (.ref 44), none, some (.int l2), none] [] (xof s0 [W_44 o44, W_45 a45, W_48 a48, W_49 a49, W_51 a51, W_53 a53, W_54 a54]) (xq 61 none (xof s0 [W_44 o44, W_45 a45, W_48 a48, W_49 a49, W_51 q.1, W_53 q.2.1, W_54 q.2.2])) := by
  unfold b_X12_takesOne_44_147 at h
  refine x_aload_n dX12_takesOne_147 rfl ?_
  refine g_X12_32 rfl dX12_takesOne_148 (by decide) rfl rfl ?_
  refine x_iconst (v := 1) dX12_takesOne_151 (by decide) ?_
  refine x_ialdK (jn := 1) (v := (a51 1)) dX12_takesOne_152 (by decide) rfl (xin_ok (by decide)) (by decide) rfl ?_
  refine x_iconst (v := 2) dX12_takesOne_153 (by decide) ?_
  refine x_icmp_ne (tgt := 161) dX12_takesOne_154 (by decide) (fun c8 => ?_) (fun c8 => ?_)
  · replace h := xif_n c8 h
    refine x_iconst (v := 0) dX12_takesOne_161 (by decide) ?_
    show V yX12_takesOne cX12_takesOne none 5 61 (0, 0) 162 [some (.ref 44), none, some (.int l2), none] [.int 0] (xof s0 [W_44 o44, W_45 a45, W_48 a48, W_49 a49, W_51 a51, W_53 a53, W_54 a54]) _
    exact vb_X12_takesOne_44_162 s0 n o44 a45 a48 a49 a51 a53 a54 l2 0 q h
  · replace h := xif_p c8 h
    refine x_iconst (v := 1) dX12_takesOne_157 (by decide) ?_
    refine x_goto (tgt := 162) dX12_takesOne_158 (by decide) ?_
    show V yX12_takesOne cX12_takesOne none 5 61 (0, 0) 162 [some (.ref 44), none, some (.int l2), none] [.int 1] (xof s0 [W_44 o44, W_45 a45, W_48 a48, W_49 a49, W_51 a51, W_53 a53, W_54 a54]) _
    exact vb_X12_takesOne_44_162 s0 n o44 a45 a48 a49 a51 a53 a54 l2 1 q h
def b_X12_takesOne_44_110 (n : Nat) (o44 : Nat → Int32) (a45 : Nat → Int32) (a48 : Nat → Int32) (a49 : Nat → Int32) (a51 : Nat → Int32) (a53 : Nat → Int32) (a54 : Nat → Int32) (l1 : Int32) (l2 : Int32) (t1 : Int32) : Option (((Nat → Int32) × (Nat → Int32) × (Nat → Int32))) := (Option.bind (f_X12_counts_44 o44 a51 t1) (fun q4 => (if l2 = 0 then (Option.bind (f_X12_hunts_44 n o44 a45 q4) (fun q19 => (b_X12_takesOne_44_147 n o44 a45 a48 a49 q19 a53 a54 l2))) else (if (q4 6) = 1 then (Option.bind (f_X12_takesHead_44 n o44 a45 q4) (fun q18 => (b_X12_takesOne_44_147 n o44 a45 a48 a49 q18 a53 a54 l2))) else (Option.bind (f_X12_takesLoad_44 n o44 a45 a49 q4 a53 a54 l1) (fun q7 => (b_X12_takesOne_44_147 n o44 a45 a48 a49 q7.1 q7.2.1 q7.2.2 l2)))))))
set_option maxRecDepth 100000 in
set_option maxHeartbeats 400000 in
theorem vb_X12_takesOne_44_110 (s0 : XW) (n : Nat) (o44 : Nat → Int32) (a45 : Nat → Int32) (a48 : Nat → Int32) (a49 : Nat → Int32) (a51 : Nat → Int32) (a53 : Nat → Int32) (a54 : Nat → Int32) (l1 : Int32) (l2 : Int32) (t1 : Int32) (q : ((Nat → Int32) × (Nat → Int32) × (Nat → Int32))) (h : b_X12_takesOne_44_110 n o44 a45 a48 a49 a51 a53 a54 l1 l2 t1 = some q) : V yX12_takesOne cX12_takesOne none 5 61 (0, 0) 110 [some (.ref 44), some (.int l1), some (.int l2), none] [.int t1, .ref 44] (xof s0 [W_44 o44, W_45 a45, W_48 a48, W_49 a49, W_51 a51, W_53 a53, W_54 a54]) (xq 61 none (xof s0 [W_44 o44, W_45 a45, W_48 a48, W_49 a49, W_51 q.1, W_53 q.2.1, W_54 q.2.2])) := by
  unfold b_X12_takesOne_44_110 at h
  obtain ⟨q4, hq4, h⟩ := Option.bind_eq_some_iff.mp h
  refine y_callVv (L' := [(44, _), (45, _), (48, _), (49, _), (51, _), (53, _), (54, _)]) mi_X12_counts ml_X12_142 im_X12_counts se_X12_counts (rfl : vwCl[11]? = _) dX12_takesOne_110 (fun s1 => v_X12_counts_44 s1 _ _ _ q4 hq4) (by decide) rfl (Nat.le_of_ble_eq_true rfl) rfl (by decide) (Nat.le_of_ble_eq_true rfl) rfl rfl rfl rfl ?_
  refine x_iload_n dX12_takesOne_113 rfl ?_
  refine x_if_ne (tgt := 124) dX12_takesOne_114 (by decide) (fun c5 => ?_) (fun c5 => ?_)
  · replace h := xif_n c5 h
    refine x_aload_n dX12_takesOne_124 rfl ?_
    refine g_X12_32 rfl dX12_takesOne_125 (by decide) rfl rfl ?_
    refine x_bipush (v := 6) dX12_takesOne_128 (by decide) ?_
    refine x_ialdK (jn := 6) (v := (q4 6)) dX12_takesOne_130 (by decide) rfl (xin_ok (by decide)) (by decide) rfl ?_
    refine x_iconst (v := 1) dX12_takesOne_131 (by decide) ?_
    refine x_icmp_ne (tgt := 142) dX12_takesOne_132 (by decide) (fun c6 => ?_) (fun c6 => ?_)
    · replace h := xif_n c6 h
      refine x_aload_n dX12_takesOne_142 rfl ?_
      refine x_iload_n dX12_takesOne_143 rfl ?_
      obtain ⟨q7, hq7, h⟩ := Option.bind_eq_some_iff.mp h
      refine y_callVv (L' := [(44, _), (45, _), (48, _), (49, _), (51, _), (53, _), (54, _)]) mi_X12_takesLoad ml_X12_151 im_X12_takesLoad se_X12_takesLoad (rfl : vwCl[11]? = _) dX12_takesOne_144 (fun s1 => v_X12_takesLoad_44 s1 n _ _ _ _ _ _ _ q7 hq7) (by decide) rfl (Nat.le_of_ble_eq_true rfl) rfl (by decide) (Nat.le_of_ble_eq_true rfl) rfl rfl rfl rfl ?_
      refine V.drop1 (i := 1) (ls' := [_, _, _, _]) rfl ?_
      show V yX12_takesOne cX12_takesOne none 5 61 (0, 0) 147 [some (.ref 44), none, some (.int l2), none] [] (xof s0 [W_44 o44, W_45 a45, W_48 a48, W_49 a49, W_51 q7.1, W_53 q7.2.1, W_54 q7.2.2]) _
      exact vb_X12_takesOne_44_147 s0 n o44 a45 a48 a49 q7.1 q7.2.1 q7.2.2 l2 q h
    · replace h := xif_p c6 h
      refine x_aload_n dX12_takesOne_135 rfl ?_
      obtain ⟨q18, hq18, h⟩ := Option.bind_eq_some_iff.mp h
      refine y_callVv (L' := [(44, _), (45, _), (48, _), (49, _), (51, _), (53, _), (54, _)]) mi_X12_takesHead ml_X12_148 im_X12_takesHead se_X12_takesHead (rfl : vwCl[11]? = _) dX12_takesOne_136 (fun s1 => v_X12_takesHead_44 s1 n _ _ _ q18 hq18) (by decide) rfl (Nat.le_of_ble_eq_true rfl) rfl (by decide) (Nat.le_of_ble_eq_true rfl) rfl rfl rfl rfl ?_
      refine x_goto (tgt := 147) dX12_takesOne_139 (by decide) ?_
      refine V.drop1 (i := 1) (ls' := [_, _, _, _]) rfl ?_
      show V yX12_takesOne cX12_takesOne none 5 61 (0, 0) 147 [some (.ref 44), none, some (.int l2), none] [] (xof s0 [W_44 o44, W_45 a45, W_48 a48, W_49 a49, W_51 q18, W_53 a53, W_54 a54]) _
      exact vb_X12_takesOne_44_147 s0 n o44 a45 a48 a49 q18 a53 a54 l2 q h
  · replace h := xif_p c5 h
    refine x_aload_n dX12_takesOne_117 rfl ?_
    obtain ⟨q19, hq19, h⟩ := Option.bind_eq_some_iff.mp h
    refine y_callVv (L' := [(44, _), (45, _), (48, _), (49, _), (51, _), (53, _), (54, _)]) mi_X12_hunts ml_X12_145 im_X12_hunts se_X12_hunts (rfl : vwCl[11]? = _) dX12_takesOne_118 (fun s1 => v_X12_hunts_44 s1 n _ _ _ q19 hq19) (by decide) rfl (Nat.le_of_ble_eq_true rfl) rfl (by decide) (Nat.le_of_ble_eq_true rfl) rfl rfl rfl rfl ?_
    refine x_goto (tgt := 147) dX12_takesOne_121 (by decide) ?_
    refine V.drop1 (i := 1) (ls' := [_, _, _, _]) rfl ?_
    show V yX12_takesOne cX12_takesOne none 5 61 (0, 0) 147 [some (.ref 44), none, some (.int l2), none] [] (xof s0 [W_44 o44, W_45 a45, W_48 a48, W_49 a49, W_51 q19, W_53 a53, W_54 a54]) _
    exact vb_X12_takesOne_44_147 s0 n o44 a45 a48 a49 q19 a53 a54 l2 q h
def f_X12_takesOne_44 (n : Nat) (o44 : Nat → Int32) (a45 : Nat → Int32) (a48 : Nat → Int32) (a49 : Nat → Int32) (a51 : Nat → Int32) (a53 : Nat → Int32) (a54 : Nat → Int32)  : Option (((Nat → Int32) × (Nat → Int32) × (Nat → Int32))) := (bif xin (a51 0) 9600 then (if (a51 1) = 0 then (b_X12_takesOne_44_110 n o44 a45 a48 a49 (upd (upd (upd (upd a51 0 (((a51 0) + 1))) 27 ((((a51 27) <<< (1 &&& 31)) ||| ((a51 28) >>> (7 &&& 31))))) 28 (((((a51 28) <<< (1 &&& 31)) ||| (a48 (Int32.toNatClampNeg (a51 0)))) &&& 255))) 5 (((a51 5) + 1))) a53 a54 ((a48 (Int32.toNatClampNeg (a51 0)))) ((a51 1)) 6) else (if (a51 1) = 1 then (b_X12_takesOne_44_110 n o44 a45 a48 a49 (upd (upd (upd (upd a51 0 (((a51 0) + 1))) 27 ((((a51 27) <<< (1 &&& 31)) ||| ((a51 28) >>> (7 &&& 31))))) 28 (((((a51 28) <<< (1 &&& 31)) ||| (a48 (Int32.toNatClampNeg (a51 0)))) &&& 255))) 5 (((a51 5) + 1))) a53 a54 ((a48 (Int32.toNatClampNeg (a51 0)))) ((a51 1)) 12) else (b_X12_takesOne_44_110 n o44 a45 a48 a49 (upd (upd (upd (upd a51 0 (((a51 0) + 1))) 27 ((((a51 27) <<< (1 &&& 31)) ||| ((a51 28) >>> (7 &&& 31))))) 28 (((((a51 28) <<< (1 &&& 31)) ||| (a48 (Int32.toNatClampNeg (a51 0)))) &&& 255))) 5 (((a51 5) + 1))) a53 a54 ((a48 (Int32.toNatClampNeg (a51 0)))) ((a51 1)) 13))) else none)
set_option maxRecDepth 100000 in
set_option maxHeartbeats 400000 in
theorem v_X12_takesOne_44 (s0 : XW) (n : Nat) (o44 : Nat → Int32) (a45 : Nat → Int32) (a48 : Nat → Int32) (a49 : Nat → Int32) (a51 : Nat → Int32) (a53 : Nat → Int32) (a54 : Nat → Int32)  (q : ((Nat → Int32) × (Nat → Int32) × (Nat → Int32))) (h : f_X12_takesOne_44 n o44 a45 a48 a49 a51 a53 a54 = some q) : C_X12_takesOne 5 61 [.ref 44] (xof s0 [W_44 o44, W_45 a45, W_48 a48, W_49 a49, W_51 a51, W_53 a53, W_54 a54]) none (xof s0 [W_44 o44, W_45 a45, W_48 a48, W_49 a49, W_51 q.1, W_53 q.2.1, W_54 q.2.2]) := by
  unfold f_X12_takesOne_44 at h
  show V yX12_takesOne cX12_takesOne none 5 61 (0, 0) 0 [some (.ref 44), none, none, none] [] (xof s0 [W_44 o44, W_45 a45, W_48 a48, W_49 a49, W_51 a51, W_53 a53, W_54 a54]) _
  refine x_aload_n dX12_takesOne_0 rfl ?_
  refine g_X12_23 rfl dX12_takesOne_1 (by decide) rfl rfl ?_
  refine x_aload_n dX12_takesOne_4 rfl ?_
  refine g_X12_32 rfl dX12_takesOne_5 (by decide) rfl rfl ?_
  refine x_iconst (v := 0) dX12_takesOne_8 (by decide) ?_
  refine x_ialdK (jn := 0) (v := (a51 0)) dX12_takesOne_9 (by decide) rfl (xin_ok (by decide)) (by decide) rfl ?_
  obtain ⟨c1, h⟩ := xck h
  refine x_ialdK (jn := (Int32.toNatClampNeg (a51 0))) (v := (a48 (Int32.toNatClampNeg (a51 0)))) dX12_takesOne_10 (by decide) rfl (xin_ok c1) rfl rfl ?_
  refine x_istore_n (ls' := [_, _, _, _]) dX12_takesOne_11 rfl rfl ?_
  refine x_aload_n dX12_takesOne_12 rfl ?_
  refine g_X12_32 rfl dX12_takesOne_13 (by decide) rfl rfl ?_
  refine x_iconst (v := 0) dX12_takesOne_16 (by decide) ?_
  refine x_dup2 dX12_takesOne_17 rfl rfl ?_
  refine x_ialdK (jn := 0) (v := (a51 0)) dX12_takesOne_18 (by decide) rfl (xin_ok (by decide)) (by decide) rfl ?_
  refine x_iconst (v := 1) dX12_takesOne_19 (by decide) ?_
  refine x_iadd dX12_takesOne_20 ?_
  refine x_iastK (jn := 0) (L' := [(44, _), (45, _), (48, _), (49, _), (51, _), (53, _), (54, _)]) dX12_takesOne_21 (by decide) rfl (xin_ok (by decide)) (by decide) rfl ?_
  refine x_aload_n dX12_takesOne_22 rfl ?_
  refine g_X12_32 rfl dX12_takesOne_23 (by decide) rfl rfl ?_
  refine x_bipush (v := 27) dX12_takesOne_26 (by decide) ?_
  refine x_aload_n dX12_takesOne_28 rfl ?_
  refine g_X12_32 rfl dX12_takesOne_29 (by decide) rfl rfl ?_
  refine x_bipush (v := 27) dX12_takesOne_32 (by decide) ?_
  refine x_ialdK (jn := 27) (v := (a51 27)) dX12_takesOne_34 (by decide) rfl (xin_ok (by decide)) (by decide) rfl ?_
  refine x_iconst (v := 1) dX12_takesOne_35 (by decide) ?_
  refine x_ishl dX12_takesOne_36 ?_
  refine x_aload_n dX12_takesOne_37 rfl ?_
  refine g_X12_32 rfl dX12_takesOne_38 (by decide) rfl rfl ?_
  refine x_bipush (v := 28) dX12_takesOne_41 (by decide) ?_
  refine x_ialdK (jn := 28) (v := (a51 28)) dX12_takesOne_43 (by decide) rfl (xin_ok (by decide)) (by decide) rfl ?_
  refine x_bipush (v := 7) dX12_takesOne_44 (by decide) ?_
  refine x_ishr dX12_takesOne_46 ?_
  refine x_ior dX12_takesOne_47 ?_
  refine x_iastK (jn := 27) (L' := [(44, _), (45, _), (48, _), (49, _), (51, _), (53, _), (54, _)]) dX12_takesOne_48 (by decide) rfl (xin_ok (by decide)) (by decide) rfl ?_
  refine x_aload_n dX12_takesOne_49 rfl ?_
  refine g_X12_32 rfl dX12_takesOne_50 (by decide) rfl rfl ?_
  refine x_bipush (v := 28) dX12_takesOne_53 (by decide) ?_
  refine x_aload_n dX12_takesOne_55 rfl ?_
  refine g_X12_32 rfl dX12_takesOne_56 (by decide) rfl rfl ?_
  refine x_bipush (v := 28) dX12_takesOne_59 (by decide) ?_
  refine x_ialdK (jn := 28) (v := (a51 28)) dX12_takesOne_61 (by decide) rfl (xin_ok (by decide)) (by decide) rfl ?_
  refine x_iconst (v := 1) dX12_takesOne_62 (by decide) ?_
  refine x_ishl dX12_takesOne_63 ?_
  refine x_iload_n dX12_takesOne_64 rfl ?_
  refine x_ior dX12_takesOne_65 ?_
  refine x_sipush (v := 255) dX12_takesOne_66 (by decide) ?_
  refine x_iand dX12_takesOne_69 ?_
  refine x_iastK (jn := 28) (L' := [(44, _), (45, _), (48, _), (49, _), (51, _), (53, _), (54, _)]) dX12_takesOne_70 (by decide) rfl (xin_ok (by decide)) (by decide) rfl ?_
  refine x_aload_n dX12_takesOne_71 rfl ?_
  refine g_X12_32 rfl dX12_takesOne_72 (by decide) rfl rfl ?_
  refine x_iconst (v := 5) dX12_takesOne_75 (by decide) ?_
  refine x_dup2 dX12_takesOne_76 rfl rfl ?_
  refine x_ialdK (jn := 5) (v := (a51 5)) dX12_takesOne_77 (by decide) rfl (xin_ok (by decide)) (by decide) rfl ?_
  refine x_iconst (v := 1) dX12_takesOne_78 (by decide) ?_
  refine x_iadd dX12_takesOne_79 ?_
  refine x_iastK (jn := 5) (L' := [(44, _), (45, _), (48, _), (49, _), (51, _), (53, _), (54, _)]) dX12_takesOne_80 (by decide) rfl (xin_ok (by decide)) (by decide) rfl ?_
  refine x_aload_n dX12_takesOne_81 rfl ?_
  refine g_X12_32 rfl dX12_takesOne_82 (by decide) rfl rfl ?_
  refine x_iconst (v := 1) dX12_takesOne_85 (by decide) ?_
  refine x_ialdK (jn := 1) (v := (a51 1)) dX12_takesOne_86 (by decide) rfl (xin_ok (by decide)) (by decide) rfl ?_
  refine x_istore_n (ls' := [_, _, _, _]) dX12_takesOne_87 rfl rfl ?_
  refine x_aload_n dX12_takesOne_88 rfl ?_
  refine x_iload_n dX12_takesOne_89 rfl ?_
  refine x_if_ne (tgt := 98) dX12_takesOne_90 (by decide) (fun c2 => ?_) (fun c2 => ?_)
  · replace h := xif_n c2 h
    refine x_iload_n dX12_takesOne_98 rfl ?_
    refine x_iconst (v := 1) dX12_takesOne_99 (by decide) ?_
    refine x_icmp_ne (tgt := 108) dX12_takesOne_100 (by decide) (fun c3 => ?_) (fun c3 => ?_)
    · replace h := xif_n c3 h
      refine x_bipush (v := 13) dX12_takesOne_108 (by decide) ?_
      show V yX12_takesOne cX12_takesOne none 5 61 (0, 0) 110 [some (.ref 44), some (.int ((a48 (Int32.toNatClampNeg (a51 0))))), some (.int ((a51 1))), none] [.int 13, .ref 44] (xof s0 [W_44 o44, W_45 a45, W_48 a48, W_49 a49, W_51 (upd (upd (upd (upd a51 0 (((a51 0) + 1))) 27 ((((a51 27) <<< (1 &&& 31)) ||| ((a51 28) >>> (7 &&& 31))))) 28 (((((a51 28) <<< (1 &&& 31)) ||| (a48 (Int32.toNatClampNeg (a51 0)))) &&& 255))) 5 (((a51 5) + 1))), W_53 a53, W_54 a54]) _
      exact vb_X12_takesOne_44_110 s0 n o44 a45 a48 a49 (upd (upd (upd (upd a51 0 (((a51 0) + 1))) 27 ((((a51 27) <<< (1 &&& 31)) ||| ((a51 28) >>> (7 &&& 31))))) 28 (((((a51 28) <<< (1 &&& 31)) ||| (a48 (Int32.toNatClampNeg (a51 0)))) &&& 255))) 5 (((a51 5) + 1))) a53 a54 ((a48 (Int32.toNatClampNeg (a51 0)))) ((a51 1)) 13 q h
    · replace h := xif_p c3 h
      refine x_bipush (v := 12) dX12_takesOne_103 (by decide) ?_
      refine x_goto (tgt := 110) dX12_takesOne_105 (by decide) ?_
      show V yX12_takesOne cX12_takesOne none 5 61 (0, 0) 110 [some (.ref 44), some (.int ((a48 (Int32.toNatClampNeg (a51 0))))), some (.int ((a51 1))), none] [.int 12, .ref 44] (xof s0 [W_44 o44, W_45 a45, W_48 a48, W_49 a49, W_51 (upd (upd (upd (upd a51 0 (((a51 0) + 1))) 27 ((((a51 27) <<< (1 &&& 31)) ||| ((a51 28) >>> (7 &&& 31))))) 28 (((((a51 28) <<< (1 &&& 31)) ||| (a48 (Int32.toNatClampNeg (a51 0)))) &&& 255))) 5 (((a51 5) + 1))), W_53 a53, W_54 a54]) _
      exact vb_X12_takesOne_44_110 s0 n o44 a45 a48 a49 (upd (upd (upd (upd a51 0 (((a51 0) + 1))) 27 ((((a51 27) <<< (1 &&& 31)) ||| ((a51 28) >>> (7 &&& 31))))) 28 (((((a51 28) <<< (1 &&& 31)) ||| (a48 (Int32.toNatClampNeg (a51 0)))) &&& 255))) 5 (((a51 5) + 1))) a53 a54 ((a48 (Int32.toNatClampNeg (a51 0)))) ((a51 1)) 12 q h
  · replace h := xif_p c2 h
    refine x_bipush (v := 6) dX12_takesOne_93 (by decide) ?_
    refine x_goto (tgt := 110) dX12_takesOne_95 (by decide) ?_
    show V yX12_takesOne cX12_takesOne none 5 61 (0, 0) 110 [some (.ref 44), some (.int ((a48 (Int32.toNatClampNeg (a51 0))))), some (.int ((a51 1))), none] [.int 6, .ref 44] (xof s0 [W_44 o44, W_45 a45, W_48 a48, W_49 a49, W_51 (upd (upd (upd (upd a51 0 (((a51 0) + 1))) 27 ((((a51 27) <<< (1 &&& 31)) ||| ((a51 28) >>> (7 &&& 31))))) 28 (((((a51 28) <<< (1 &&& 31)) ||| (a48 (Int32.toNatClampNeg (a51 0)))) &&& 255))) 5 (((a51 5) + 1))), W_53 a53, W_54 a54]) _
    exact vb_X12_takesOne_44_110 s0 n o44 a45 a48 a49 (upd (upd (upd (upd a51 0 (((a51 0) + 1))) 27 ((((a51 27) <<< (1 &&& 31)) ||| ((a51 28) >>> (7 &&& 31))))) 28 (((((a51 28) <<< (1 &&& 31)) ||| (a48 (Int32.toNatClampNeg (a51 0)))) &&& 255))) 5 (((a51 5) + 1))) a53 a54 ((a48 (Int32.toNatClampNeg (a51 0)))) ((a51 1)) 6 q h
def l_X12_takes_44_2 (n : Nat) (o44 : Nat → Int32) (a45 : Nat → Int32) (a48 : Nat → Int32) (a49 : Nat → Int32) (l1 : Int32) : Nat → (Int32) → (Nat → Int32) → (Nat → Int32) → (Nat → Int32) → Option (((Int32) × (Nat → Int32) × (Nat → Int32) × (Nat → Int32)))
  | 0, _, _, _, _ => none
  | k + 1, l2, a51, a53, a54 => (if l1 ≤ l2 then (some (l2, a51, a53, a54)) else (if (o44 6) ≤ (a51 0) then (some (l2, a51, a53, a54)) else (Option.bind (f_X12_takesOne_44 n o44 a45 a48 a49 a51 a53 a54) (fun q3 => (l_X12_takes_44_2 n o44 a45 a48 a49 l1 k ((l2 + 1)) q3.1 q3.2.1 q3.2.2)))))
set_option maxRecDepth 100000 in
set_option maxHeartbeats 400000 in
theorem lv_X12_takes_44_2 (s0 : XW) (n : Nat) (o44 : Nat → Int32) (a45 : Nat → Int32) (a48 : Nat → Int32) (a49 : Nat → Int32) (l1 : Int32) (Q : Nat → Option Value → XW → Prop) : ∀ (k : Nat) (l2 : Int32) (a51 : Nat → Int32) (a53 : Nat → Int32) (a54 : Nat → Int32) (o : ((Int32) × (Nat → Int32) × (Nat → Int32) × (Nat → Int32))), l_X12_takes_44_2 n o44 a45 a48 a49 l1 k l2 a51 a53 a54 = some o → (V yX12_takes cX12_takes none 6 61 (0, 0) 30 [none, none, none] [] (xof s0 [W_44 o44, W_45 a45, W_48 a48, W_49 a49, W_51 o.2.1, W_53 o.2.2.1, W_54 o.2.2.2]) Q) → V yX12_takes cX12_takes none 6 61 (0, 0) 2 [some (.ref 44), some (.int l1), some (.int l2)] [] (xof s0 [W_44 o44, W_45 a45, W_48 a48, W_49 a49, W_51 a51, W_53 a53, W_54 a54]) Q := by
  intro k
  induction k with
  | zero =>
    intro _ _ _ _ _ h
    simp [l_X12_takes_44_2] at h
  | succ k ih =>
    intro l2 a51 a53 a54 o h hk
    rw [l_X12_takes_44_2] at h
    refine x_iload_n dX12_takes_2 rfl ?_
    refine x_iload_n dX12_takes_3 rfl ?_
    refine x_icmp_ge (tgt := 30) dX12_takes_4 (by decide) (fun c1 => ?_) (fun c1 => ?_)
    · replace h := xif_p c1 h
      refine V.drop1 (i := 0) (ls' := [_, _, _]) rfl ?_
      refine V.drop1 (i := 1) (ls' := [_, _, _]) rfl ?_
      refine V.drop1 (i := 2) (ls' := [_, _, _]) rfl ?_
      show V yX12_takes cX12_takes none 6 61 (0, 0) 30 [none, none, none] [] (xof s0 [W_44 o44, W_45 a45, W_48 a48, W_49 a49, W_51 a51, W_53 a53, W_54 a54]) _
      cases h
      exact hk
    · replace h := xif_n c1 h
      refine x_aload_n dX12_takes_7 rfl ?_
      refine g_X12_32 rfl dX12_takes_8 (by decide) rfl rfl ?_
      refine x_iconst (v := 0) dX12_takes_11 (by decide) ?_
      refine x_ialdK (jn := 0) (v := (a51 0)) dX12_takes_12 (by decide) rfl (xin_ok (by decide)) (by decide) rfl ?_
      refine x_aload_n dX12_takes_13 rfl ?_
      refine g_X12_64 rfl dX12_takes_14 (by decide) rfl rfl ?_
      refine x_icmp_ge (tgt := 30) dX12_takes_17 (by decide) (fun c2 => ?_) (fun c2 => ?_)
      · replace h := xif_p c2 h
        refine V.drop1 (i := 0) (ls' := [_, _, _]) rfl ?_
        refine V.drop1 (i := 1) (ls' := [_, _, _]) rfl ?_
        refine V.drop1 (i := 2) (ls' := [_, _, _]) rfl ?_
        show V yX12_takes cX12_takes none 6 61 (0, 0) 30 [none, none, none] [] (xof s0 [W_44 o44, W_45 a45, W_48 a48, W_49 a49, W_51 a51, W_53 a53, W_54 a54]) _
        cases h
        exact hk
      · replace h := xif_n c2 h
        refine x_aload_n dX12_takes_20 rfl ?_
        obtain ⟨q3, hq3, h⟩ := Option.bind_eq_some_iff.mp h
        refine y_callVv (L' := [(44, _), (45, _), (48, _), (49, _), (51, _), (53, _), (54, _)]) mi_X12_takesOne ml_X12_183 im_X12_takesOne se_X12_takesOne (rfl : vwCl[11]? = _) dX12_takes_21 (fun s1 => v_X12_takesOne_44 s1 n _ _ _ _ _ _ _ q3 hq3) (by decide) rfl (Nat.le_of_ble_eq_true rfl) rfl (by decide) (Nat.le_of_ble_eq_true rfl) rfl rfl rfl rfl ?_
        refine x_iinc (v := l2 + 1) (ls' := [_, _, _]) dX12_takes_24 rfl rfl rfl rfl ?_
        refine x_goto (tgt := 2) dX12_takes_27 (by decide) ?_
        show V yX12_takes cX12_takes none 6 61 (0, 0) 2 [some (.ref 44), some (.int l1), some (.int ((l2 + 1)))] [] (xof s0 [W_44 o44, W_45 a45, W_48 a48, W_49 a49, W_51 q3.1, W_53 q3.2.1, W_54 q3.2.2]) _
        exact ih ((l2 + 1)) q3.1 q3.2.1 q3.2.2 _ h hk
def f_X12_takes_44 (n : Nat) (o44 : Nat → Int32) (a45 : Nat → Int32) (a48 : Nat → Int32) (a49 : Nat → Int32) (a51 : Nat → Int32) (a53 : Nat → Int32) (a54 : Nat → Int32) (p1 : Int32) : Option (((Nat → Int32) × (Nat → Int32) × (Nat → Int32))) := (Option.bind (l_X12_takes_44_2 n o44 a45 a48 a49 p1 n 0 a51 a53 a54) (fun u4 => (some (u4.2.1, u4.2.2.1, u4.2.2.2))))
set_option maxRecDepth 100000 in
set_option maxHeartbeats 400000 in
theorem v_X12_takes_44 (s0 : XW) (n : Nat) (o44 : Nat → Int32) (a45 : Nat → Int32) (a48 : Nat → Int32) (a49 : Nat → Int32) (a51 : Nat → Int32) (a53 : Nat → Int32) (a54 : Nat → Int32) (p1 : Int32) (q : ((Nat → Int32) × (Nat → Int32) × (Nat → Int32))) (h : f_X12_takes_44 n o44 a45 a48 a49 a51 a53 a54 p1 = some q) : C_X12_takes 6 61 [.ref 44, .int p1] (xof s0 [W_44 o44, W_45 a45, W_48 a48, W_49 a49, W_51 a51, W_53 a53, W_54 a54]) none (xof s0 [W_44 o44, W_45 a45, W_48 a48, W_49 a49, W_51 q.1, W_53 q.2.1, W_54 q.2.2]) := by
  unfold f_X12_takes_44 at h
  show V yX12_takes cX12_takes none 6 61 (0, 0) 0 [some (.ref 44), some (.int p1), none] [] (xof s0 [W_44 o44, W_45 a45, W_48 a48, W_49 a49, W_51 a51, W_53 a53, W_54 a54]) _
  refine x_iconst (v := 0) dX12_takes_0 (by decide) ?_
  refine x_istore_n (ls' := [_, _, _]) dX12_takes_1 rfl rfl ?_
  obtain ⟨u4, hu4, h⟩ := Option.bind_eq_some_iff.mp h
  show V yX12_takes cX12_takes none 6 61 (0, 0) 2 [some (.ref 44), some (.int p1), some (.int 0)] [] (xof s0 [W_44 o44, W_45 a45, W_48 a48, W_49 a49, W_51 a51, W_53 a53, W_54 a54]) _
  refine lv_X12_takes_44_2 s0 _ o44 a45 a48 a49 p1 _ n 0 a51 a53 a54 _ hu4 ?_
  cases h
  exact x_vret dX12_takes_30 ⟨rfl, rfl, rfl⟩
def f_X12_take_44 (n : Nat) (o44 : Nat → Int32) (a45 : Nat → Int32) (a48 : Nat → Int32) (a49 : Nat → Int32) (a51 : Nat → Int32) (a53 : Nat → Int32) (a54 : Nat → Int32) (p1 : Int32) : Option (((Int32) × (Nat → Int32) × (Nat → Int32) × (Nat → Int32) × (Nat → Int32))) := (Option.bind (f_X12_isIn ((Int32.toInt64 p1)) 1 9600) (fun q1 => (if q1 = 0 then (some ((-3), upd o44 0 0, a51, a53, a54)) else (Option.bind (f_X12_takes_44 n (upd o44 0 0) a45 a48 a49 a51 a53 a54 p1) (fun q3 => (some ((q3.1 1), upd o44 0 0, q3.1, q3.2.1, q3.2.2)))))))
set_option maxRecDepth 100000 in
set_option maxHeartbeats 400000 in
theorem v_X12_take_44 (s0 : XW) (n : Nat) (o44 : Nat → Int32) (a45 : Nat → Int32) (a48 : Nat → Int32) (a49 : Nat → Int32) (a51 : Nat → Int32) (a53 : Nat → Int32) (a54 : Nat → Int32) (p1 : Int32) (q : ((Int32) × (Nat → Int32) × (Nat → Int32) × (Nat → Int32) × (Nat → Int32))) (h : f_X12_take_44 n o44 a45 a48 a49 a51 a53 a54 p1 = some q) : C_X12_take 7 61 [.ref 44, .int p1] (xof s0 [W_44 o44, W_45 a45, W_48 a48, W_49 a49, W_51 a51, W_53 a53, W_54 a54]) (some (.int q.1)) (xof s0 [W_44 q.2.1, W_45 a45, W_48 a48, W_49 a49, W_51 q.2.2.1, W_53 q.2.2.2.1, W_54 q.2.2.2.2]) := by
  unfold f_X12_take_44 at h
  show V yX12_take cX12_take (some .int) 7 61 (0, 0) 0 [some (.ref 44), some (.int p1)] [] (xof s0 [W_44 o44, W_45 a45, W_48 a48, W_49 a49, W_51 a51, W_53 a53, W_54 a54]) _
  refine x_aload_n dX12_take_0 rfl ?_
  refine x_iconst (v := 0) dX12_take_1 (by decide) ?_
  refine p_X12_1 (fs' := [_, _, _, _, _, _, _, _, _, _, _, _, _, _, _, _, _, _, _, _, _, _]) (L' := [(44, _), (45, _), (48, _), (49, _), (51, _), (53, _), (54, _)]) rfl dX12_take_2 (by decide) rfl (Nat.le_of_ble_eq_true rfl) rfl rfl ?_
  refine x_iload_n dX12_take_5 rfl ?_
  refine x_i2l dX12_take_6 ?_
  refine x_lconst (v := 1) dX12_take_7 (by decide) ?_
  refine x_ldc2 dX12_take_8 cn_X12_186 ?_
  obtain ⟨q1, hq1, h⟩ := Option.bind_eq_some_iff.mp h
  refine y_callSi (L' := [(44, _), (45, _), (48, _), (49, _), (51, _), (53, _), (54, _)]) mi_X12_isIn ml_X12_77 st_X12_isIn dX12_take_11 (fun s1 => v_X12_isIn 61 s1 _ _ _ q1 hq1) (Nat.le_of_ble_eq_true rfl) rfl (by decide) (Nat.le_of_ble_eq_true rfl) rfl rfl rfl rfl ?_
  refine x_if_ne (tgt := 20) dX12_take_14 (by decide) (fun c2 => ?_) (fun c2 => ?_)
  · replace h := xif_n c2 h
    refine x_aload_n dX12_take_20 rfl ?_
    refine x_iload_n dX12_take_21 rfl ?_
    obtain ⟨q3, hq3, h⟩ := Option.bind_eq_some_iff.mp h
    refine y_callVv (L' := [(44, _), (45, _), (48, _), (49, _), (51, _), (53, _), (54, _)]) mi_X12_takes ml_X12_188 im_X12_takes se_X12_takes (rfl : vwCl[11]? = _) dX12_take_22 (fun s1 => v_X12_takes_44 s1 n _ _ _ _ _ _ _ _ q3 hq3) (by decide) rfl (Nat.le_of_ble_eq_true rfl) rfl (by decide) (Nat.le_of_ble_eq_true rfl) rfl rfl rfl rfl ?_
    refine x_aload_n dX12_take_25 rfl ?_
    refine g_X12_32 rfl dX12_take_26 (by decide) rfl rfl ?_
    refine x_iconst (v := 1) dX12_take_29 (by decide) ?_
    refine x_ialdK (jn := 1) (v := (q3.1 1)) dX12_take_30 (by decide) rfl (xin_ok (by decide)) (by decide) rfl ?_
    cases h
    exact x_iret dX12_take_31 ⟨rfl, rfl, rfl⟩
  · replace h := xif_p c2 h
    refine x_bipush (v := -3) dX12_take_17 (by decide) ?_
    cases h
    exact x_iret dX12_take_19 ⟨rfl, rfl, rfl⟩
def l_X12_freshens_44_2 (n : Nat) (o44 : Nat → Int32) : Nat → (Int32) → (Nat → Int32) → Option (((Int32) × (Nat → Int32)))
  | 0, _, _ => none
  | k + 1, l1, a51 => (if 875 ≤ l1 then (some (l1, a51)) else (bif xin l1 875 then (l_X12_freshens_44_2 n o44 k ((l1 + 1)) (upd a51 ((Int32.toNatClampNeg l1)) 0)) else none))
set_option maxRecDepth 100000 in
set_option maxHeartbeats 400000 in
theorem lv_X12_freshens_44_2 (s0 : XW) (n : Nat) (o44 : Nat → Int32) (Q : Nat → Option Value → XW → Prop) : ∀ (k : Nat) (l1 : Int32) (a51 : Nat → Int32) (o : ((Int32) × (Nat → Int32))), l_X12_freshens_44_2 n o44 k l1 a51 = some o → (V yX12_freshens cX12_freshens none 0 61 (0, 0) 22 [none, none] [] (xof s0 [W_44 o44, W_51 o.2]) Q) → V yX12_freshens cX12_freshens none 0 61 (0, 0) 2 [some (.ref 44), some (.int l1)] [] (xof s0 [W_44 o44, W_51 a51]) Q := by
  intro k
  induction k with
  | zero =>
    intro _ _ _ h
    simp [l_X12_freshens_44_2] at h
  | succ k ih =>
    intro l1 a51 o h hk
    rw [l_X12_freshens_44_2] at h
    refine x_iload_n dX12_freshens_2 rfl ?_
    refine x_sipush (v := 875) dX12_freshens_3 (by decide) ?_
    refine x_icmp_ge (tgt := 22) dX12_freshens_6 (by decide) (fun c1 => ?_) (fun c1 => ?_)
    · replace h := xif_p c1 h
      refine V.drop1 (i := 0) (ls' := [_, _]) rfl ?_
      refine V.drop1 (i := 1) (ls' := [_, _]) rfl ?_
      show V yX12_freshens cX12_freshens none 0 61 (0, 0) 22 [none, none] [] (xof s0 [W_44 o44, W_51 a51]) _
      cases h
      exact hk
    · replace h := xif_n c1 h
      refine x_aload_n dX12_freshens_9 rfl ?_
      refine g_X12_32 rfl dX12_freshens_10 (by decide) rfl rfl ?_
      refine x_iload_n dX12_freshens_13 rfl ?_
      refine x_iconst (v := 0) dX12_freshens_14 (by decide) ?_
      obtain ⟨c2, h⟩ := xck h
      refine x_iastK (jn := (Int32.toNatClampNeg l1)) (L' := [(44, _), (51, _)]) dX12_freshens_15 (by decide) rfl (xin_ok c2) rfl rfl ?_
      refine x_iinc (v := l1 + 1) (ls' := [_, _]) dX12_freshens_16 rfl rfl rfl rfl ?_
      refine x_goto (tgt := 2) dX12_freshens_19 (by decide) ?_
      show V yX12_freshens cX12_freshens none 0 61 (0, 0) 2 [some (.ref 44), some (.int ((l1 + 1)))] [] (xof s0 [W_44 o44, W_51 (upd a51 ((Int32.toNatClampNeg l1)) 0)]) _
      exact ih ((l1 + 1)) (upd a51 ((Int32.toNatClampNeg l1)) 0) _ h hk
def f_X12_freshens_44 (n : Nat) (o44 : Nat → Int32) (a51 : Nat → Int32)  : Option (Nat → Int32) := (Option.bind (l_X12_freshens_44_2 n o44 n 1 a51) (fun u3 => (some u3.2)))
set_option maxRecDepth 100000 in
set_option maxHeartbeats 400000 in
theorem v_X12_freshens_44 (s0 : XW) (n : Nat) (o44 : Nat → Int32) (a51 : Nat → Int32)  (q : Nat → Int32) (h : f_X12_freshens_44 n o44 a51 = some q) : C_X12_freshens 0 61 [.ref 44] (xof s0 [W_44 o44, W_51 a51]) none (xof s0 [W_44 o44, W_51 q]) := by
  unfold f_X12_freshens_44 at h
  show V yX12_freshens cX12_freshens none 0 61 (0, 0) 0 [some (.ref 44), none] [] (xof s0 [W_44 o44, W_51 a51]) _
  refine x_iconst (v := 1) dX12_freshens_0 (by decide) ?_
  refine x_istore_n (ls' := [_, _]) dX12_freshens_1 rfl rfl ?_
  obtain ⟨u3, hu3, h⟩ := Option.bind_eq_some_iff.mp h
  show V yX12_freshens cX12_freshens none 0 61 (0, 0) 2 [some (.ref 44), some (.int 1)] [] (xof s0 [W_44 o44, W_51 a51]) _
  refine lv_X12_freshens_44_2 s0 _ o44 _ n 1 a51 _ hu3 ?_
  cases h
  exact x_vret dX12_freshens_22 ⟨rfl, rfl, rfl⟩
def f_X12_fresh_44 (n : Nat) (o44 : Nat → Int32) (a51 : Nat → Int32)  : Option (((Int32) × (Nat → Int32) × (Nat → Int32))) := (Option.bind (f_X12_freshens_44 n (upd o44 0 0) a51) (fun q1 => (some ((a51 16), upd o44 0 0, q1))))
set_option maxRecDepth 100000 in
set_option maxHeartbeats 400000 in
theorem v_X12_fresh_44 (s0 : XW) (n : Nat) (o44 : Nat → Int32) (a51 : Nat → Int32)  (q : ((Int32) × (Nat → Int32) × (Nat → Int32))) (h : f_X12_fresh_44 n o44 a51 = some q) : C_X12_fresh 1 61 [.ref 44] (xof s0 [W_44 o44, W_51 a51]) (some (.int q.1)) (xof s0 [W_44 q.2.1, W_51 q.2.2]) := by
  unfold f_X12_fresh_44 at h
  show V yX12_fresh cX12_fresh (some .int) 1 61 (0, 0) 0 [some (.ref 44), none] [] (xof s0 [W_44 o44, W_51 a51]) _
  refine x_aload_n dX12_fresh_0 rfl ?_
  refine x_iconst (v := 0) dX12_fresh_1 (by decide) ?_
  refine p_X12_1 (fs' := [_, _, _, _, _, _, _, _, _, _, _, _, _, _, _, _, _, _, _, _, _, _]) (L' := [(44, _), (51, _)]) rfl dX12_fresh_2 (by decide) rfl (Nat.le_of_ble_eq_true rfl) rfl rfl ?_
  refine x_aload_n dX12_fresh_5 rfl ?_
  refine g_X12_32 rfl dX12_fresh_6 (by decide) rfl rfl ?_
  refine x_bipush (v := 16) dX12_fresh_9 (by decide) ?_
  refine x_ialdK (jn := 16) (v := (a51 16)) dX12_fresh_11 (by decide) rfl (xin_ok (by decide)) (by decide) rfl ?_
  refine x_istore_n (ls' := [_, _]) dX12_fresh_12 rfl rfl ?_
  refine x_aload_n dX12_fresh_13 rfl ?_
  obtain ⟨q1, hq1, h⟩ := Option.bind_eq_some_iff.mp h
  refine y_callVv (L' := [(44, _), (51, _)]) mi_X12_freshens ml_X12_191 im_X12_freshens se_X12_freshens (rfl : vwCl[11]? = _) dX12_fresh_14 (fun s1 => v_X12_freshens_44 s1 n _ _ q1 hq1) (by decide) rfl (Nat.le_of_ble_eq_true rfl) rfl (by decide) (Nat.le_of_ble_eq_true rfl) rfl rfl rfl rfl ?_
  refine x_iload_n dX12_fresh_17 rfl ?_
  cases h
  exact x_iret dX12_fresh_18 ⟨rfl, rfl, rfl⟩
def b_X12_stage_44_67  (o44 : Nat → Int32) (a51 : Nat → Int32) (l2 : Int32) (l3 : Int32) (t0 : Int32) : Option (((Int32) × (Nat → Int32))) := (if 32 ≤ l2 then (some (((xus l3 (l2 - 32)) &&& 1), o44)) else (some (((xus t0 l2) &&& 1), o44)))
set_option maxRecDepth 100000 in
set_option maxHeartbeats 400000 in
theorem vb_X12_stage_44_67 (s0 : XW)  (o44 : Nat → Int32) (a51 : Nat → Int32) (l2 : Int32) (l3 : Int32) (t0 : Int32) (q : ((Int32) × (Nat → Int32))) (h : b_X12_stage_44_67 o44 a51 l2 l3 t0 = some q) : V yX12_stage cX12_stage (some .int) 1 61 (0, 0) 67 [none, none, some (.int l2), some (.int l3), none] [.int t0] (xof s0 [W_44 o44, W_51 a51]) (xq 61 (some (.int q.1)) (xof s0 [W_44 q.2, W_51 a51])) := by
  unfold b_X12_stage_44_67 at h
  refine x_istore (ls' := [_, _, _, _, _]) dX12_stage_67 rfl rfl ?_
  refine x_iload_n dX12_stage_69 rfl ?_
  refine x_bipush (v := 32) dX12_stage_70 (by decide) ?_
  refine x_icmp_ge (tgt := 84) dX12_stage_72 (by decide) (fun c7 => ?_) (fun c7 => ?_)
  · replace h := xif_p c7 h
    refine x_iload_n dX12_stage_84 rfl ?_
    refine x_iload_n dX12_stage_85 rfl ?_
    refine x_bipush (v := 32) dX12_stage_86 (by decide) ?_
    refine x_isub dX12_stage_88 ?_
    refine x_iushr dX12_stage_89 ?_
    refine x_iconst (v := 1) dX12_stage_90 (by decide) ?_
    refine x_iand dX12_stage_91 ?_
    cases h
    exact x_iret dX12_stage_92 ⟨rfl, rfl, rfl⟩
  · replace h := xif_n c7 h
    refine x_iload dX12_stage_75 rfl ?_
    refine x_iload_n dX12_stage_77 rfl ?_
    refine x_iushr dX12_stage_78 ?_
    refine x_iconst (v := 1) dX12_stage_79 (by decide) ?_
    refine x_iand dX12_stage_80 ?_
    refine x_goto (tgt := 92) dX12_stage_81 (by decide) ?_
    cases h
    exact x_iret dX12_stage_92 ⟨rfl, rfl, rfl⟩
def b_X12_stage_44_48  (o44 : Nat → Int32) (a51 : Nat → Int32) (l1 : Int32) (l2 : Int32) (t0 : Int32) : Option (((Int32) × (Nat → Int32))) := (if l1 = 0 then (b_X12_stage_44_67 o44 a51 l2 t0 ((o44 9))) else (b_X12_stage_44_67 o44 a51 l2 t0 ((a51 30))))
set_option maxRecDepth 100000 in
set_option maxHeartbeats 400000 in
theorem vb_X12_stage_44_48 (s0 : XW)  (o44 : Nat → Int32) (a51 : Nat → Int32) (l1 : Int32) (l2 : Int32) (t0 : Int32) (q : ((Int32) × (Nat → Int32))) (h : b_X12_stage_44_48 o44 a51 l1 l2 t0 = some q) : V yX12_stage cX12_stage (some .int) 1 61 (0, 0) 48 [some (.ref 44), some (.int l1), some (.int l2), none, none] [.int t0] (xof s0 [W_44 o44, W_51 a51]) (xq 61 (some (.int q.1)) (xof s0 [W_44 q.2, W_51 a51])) := by
  unfold b_X12_stage_44_48 at h
  refine x_istore_n (ls' := [_, _, _, _, _]) dX12_stage_48 rfl rfl ?_
  refine x_iload_n dX12_stage_49 rfl ?_
  refine x_if_ne (tgt := 60) dX12_stage_50 (by decide) (fun c6 => ?_) (fun c6 => ?_)
  · replace h := xif_n c6 h
    refine x_aload_n dX12_stage_60 rfl ?_
    refine g_X12_32 rfl dX12_stage_61 (by decide) rfl rfl ?_
    refine x_bipush (v := 30) dX12_stage_64 (by decide) ?_
    refine x_ialdK (jn := 30) (v := (a51 30)) dX12_stage_66 (by decide) rfl (xin_ok (by decide)) (by decide) rfl ?_
    refine V.drop1 (i := 0) (ls' := [_, _, _, _, _]) rfl ?_
    refine V.drop1 (i := 1) (ls' := [_, _, _, _, _]) rfl ?_
    show V yX12_stage cX12_stage (some .int) 1 61 (0, 0) 67 [none, none, some (.int l2), some (.int t0), none] [.int ((a51 30))] (xof s0 [W_44 o44, W_51 a51]) _
    exact vb_X12_stage_44_67 s0 o44 a51 l2 t0 ((a51 30)) q h
  · replace h := xif_p c6 h
    refine x_aload_n dX12_stage_53 rfl ?_
    refine g_X12_106 rfl dX12_stage_54 (by decide) rfl rfl ?_
    refine x_goto (tgt := 67) dX12_stage_57 (by decide) ?_
    refine V.drop1 (i := 0) (ls' := [_, _, _, _, _]) rfl ?_
    refine V.drop1 (i := 1) (ls' := [_, _, _, _, _]) rfl ?_
    show V yX12_stage cX12_stage (some .int) 1 61 (0, 0) 67 [none, none, some (.int l2), some (.int t0), none] [.int ((o44 9))] (xof s0 [W_44 o44, W_51 a51]) _
    exact vb_X12_stage_44_67 s0 o44 a51 l2 t0 ((o44 9)) q h
def f_X12_stage_44 (o44 : Nat → Int32) (a51 : Nat → Int32) (p1 : Int32) (p2 : Int32) : Option (((Int32) × (Nat → Int32))) := (Option.bind (f_X12_isIn ((Int32.toInt64 p1)) 0 1) (fun q1 => (if q1 = 0 then (some ((-2), upd o44 0 0)) else (Option.bind (f_X12_isIn ((Int32.toInt64 p2)) 0 42) (fun q3 => (if q3 = 0 then (some ((-2), upd o44 0 0)) else (if p1 = 0 then (b_X12_stage_44_48 (upd o44 0 0) a51 p1 p2 ((o44 8))) else (b_X12_stage_44_48 (upd o44 0 0) a51 p1 p2 ((a51 29))))))))))
set_option maxRecDepth 100000 in
set_option maxHeartbeats 400000 in
theorem v_X12_stage_44 (s0 : XW) (o44 : Nat → Int32) (a51 : Nat → Int32) (p1 : Int32) (p2 : Int32) (q : ((Int32) × (Nat → Int32))) (h : f_X12_stage_44 o44 a51 p1 p2 = some q) : C_X12_stage 1 61 [.ref 44, .int p1, .int p2] (xof s0 [W_44 o44, W_51 a51]) (some (.int q.1)) (xof s0 [W_44 q.2, W_51 a51]) := by
  unfold f_X12_stage_44 at h
  show V yX12_stage cX12_stage (some .int) 1 61 (0, 0) 0 [some (.ref 44), some (.int p1), some (.int p2), none, none] [] (xof s0 [W_44 o44, W_51 a51]) _
  refine x_aload_n dX12_stage_0 rfl ?_
  refine x_iconst (v := 0) dX12_stage_1 (by decide) ?_
  refine p_X12_1 (fs' := [_, _, _, _, _, _, _, _, _, _, _, _, _, _, _, _, _, _, _, _, _, _]) (L' := [(44, _), (51, _)]) rfl dX12_stage_2 (by decide) rfl (Nat.le_of_ble_eq_true rfl) rfl rfl ?_
  refine x_iload_n dX12_stage_5 rfl ?_
  refine x_i2l dX12_stage_6 ?_
  refine x_lconst (v := 0) dX12_stage_7 (by decide) ?_
  refine x_lconst (v := 1) dX12_stage_8 (by decide) ?_
  obtain ⟨q1, hq1, h⟩ := Option.bind_eq_some_iff.mp h
  refine y_callSi (L' := [(44, _), (51, _)]) mi_X12_isIn ml_X12_77 st_X12_isIn dX12_stage_9 (fun s1 => v_X12_isIn 61 s1 _ _ _ q1 hq1) (Nat.le_of_ble_eq_true rfl) rfl (by decide) (Nat.le_of_ble_eq_true rfl) rfl rfl rfl rfl ?_
  refine x_if_eq (tgt := 27) dX12_stage_12 (by decide) (fun c2 => ?_) (fun c2 => ?_)
  · replace h := xif_p c2 h
    refine x_bipush (v := -2) dX12_stage_27 (by decide) ?_
    cases h
    exact x_iret dX12_stage_29 ⟨rfl, rfl, rfl⟩
  · replace h := xif_n c2 h
    refine x_iload_n dX12_stage_15 rfl ?_
    refine x_i2l dX12_stage_16 ?_
    refine x_lconst (v := 0) dX12_stage_17 (by decide) ?_
    refine x_ldc2 dX12_stage_18 cn_X12_179 ?_
    obtain ⟨q3, hq3, h⟩ := Option.bind_eq_some_iff.mp h
    refine y_callSi (L' := [(44, _), (51, _)]) mi_X12_isIn ml_X12_77 st_X12_isIn dX12_stage_21 (fun s1 => v_X12_isIn 61 s1 _ _ _ q3 hq3) (Nat.le_of_ble_eq_true rfl) rfl (by decide) (Nat.le_of_ble_eq_true rfl) rfl rfl rfl rfl ?_
    refine x_if_ne (tgt := 30) dX12_stage_24 (by decide) (fun c4 => ?_) (fun c4 => ?_)
    · replace h := xif_n c4 h
      refine x_iload_n dX12_stage_30 rfl ?_
      refine x_if_ne (tgt := 41) dX12_stage_31 (by decide) (fun c5 => ?_) (fun c5 => ?_)
      · replace h := xif_n c5 h
        refine x_aload_n dX12_stage_41 rfl ?_
        refine g_X12_32 rfl dX12_stage_42 (by decide) rfl rfl ?_
        refine x_bipush (v := 29) dX12_stage_45 (by decide) ?_
        refine x_ialdK (jn := 29) (v := (a51 29)) dX12_stage_47 (by decide) rfl (xin_ok (by decide)) (by decide) rfl ?_
        show V yX12_stage cX12_stage (some .int) 1 61 (0, 0) 48 [some (.ref 44), some (.int p1), some (.int p2), none, none] [.int ((a51 29))] (xof s0 [W_44 (upd o44 0 0), W_51 a51]) _
        exact vb_X12_stage_44_48 s0 (upd o44 0 0) a51 p1 p2 ((a51 29)) q h
      · replace h := xif_p c5 h
        refine x_aload_n dX12_stage_34 rfl ?_
        refine g_X12_103 rfl dX12_stage_35 (by decide) rfl rfl ?_
        refine x_goto (tgt := 48) dX12_stage_38 (by decide) ?_
        show V yX12_stage cX12_stage (some .int) 1 61 (0, 0) 48 [some (.ref 44), some (.int p1), some (.int p2), none, none] [.int ((o44 8))] (xof s0 [W_44 (upd o44 0 0), W_51 a51]) _
        exact vb_X12_stage_44_48 s0 (upd o44 0 0) a51 p1 p2 ((o44 8)) q h
    · replace h := xif_p c4 h
      refine x_bipush (v := -2) dX12_stage_27 (by decide) ?_
      cases h
      exact x_iret dX12_stage_29 ⟨rfl, rfl, rfl⟩
def l_X12_stages_44_49 (n : Nat) (o44 : Nat → Int32) (a51 : Nat → Int32) (l1 : Int32) (l2 : Int32) : Nat → (Int32) → (Int32) → Option (((Int32) × (Int32)))
  | 0, _, _ => none
  | k + 1, l3, l4 => (if 32 ≤ l4 then (some (l3, l4)) else (l_X12_stages_44_49 n o44 a51 l1 l2 k ((l3 + (((xus l1 l4) &&& 1) + ((xus l2 l4) &&& 1)))) ((l4 + 1))))
set_option maxRecDepth 100000 in
set_option maxHeartbeats 400000 in
theorem lv_X12_stages_44_49 (s0 : XW) (n : Nat) (o44 : Nat → Int32) (a51 : Nat → Int32) (l1 : Int32) (l2 : Int32) (Q : Nat → Option Value → XW → Prop) : ∀ (k : Nat) (l3 : Int32) (l4 : Int32) (o : ((Int32) × (Int32))), l_X12_stages_44_49 n o44 a51 l1 l2 k l3 l4 = some o → (V yX12_stages cX12_stages (some .int) 1 61 (0, 0) 78 [none, none, none, some (.int o.1), none] [] (xof s0 [W_44 o44, W_51 a51]) Q) → V yX12_stages cX12_stages (some .int) 1 61 (0, 0) 49 [none, some (.int l1), some (.int l2), some (.int l3), some (.int l4)] [] (xof s0 [W_44 o44, W_51 a51]) Q := by
  intro k
  induction k with
  | zero =>
    intro _ _ _ h
    simp [l_X12_stages_44_49] at h
  | succ k ih =>
    intro l3 l4 o h hk
    rw [l_X12_stages_44_49] at h
    refine x_iload dX12_stages_49 rfl ?_
    refine x_bipush (v := 32) dX12_stages_51 (by decide) ?_
    refine x_icmp_ge (tgt := 78) dX12_stages_53 (by decide) (fun c3 => ?_) (fun c3 => ?_)
    · replace h := xif_p c3 h
      refine V.drop1 (i := 1) (ls' := [_, _, _, _, _]) rfl ?_
      refine V.drop1 (i := 2) (ls' := [_, _, _, _, _]) rfl ?_
      refine V.drop1 (i := 4) (ls' := [_, _, _, _, _]) rfl ?_
      show V yX12_stages cX12_stages (some .int) 1 61 (0, 0) 78 [none, none, none, some (.int l3), none] [] (xof s0 [W_44 o44, W_51 a51]) _
      cases h
      exact hk
    · replace h := xif_n c3 h
      refine x_iload_n dX12_stages_56 rfl ?_
      refine x_iload_n dX12_stages_57 rfl ?_
      refine x_iload dX12_stages_58 rfl ?_
      refine x_iushr dX12_stages_60 ?_
      refine x_iconst (v := 1) dX12_stages_61 (by decide) ?_
      refine x_iand dX12_stages_62 ?_
      refine x_iload_n dX12_stages_63 rfl ?_
      refine x_iload dX12_stages_64 rfl ?_
      refine x_iushr dX12_stages_66 ?_
      refine x_iconst (v := 1) dX12_stages_67 (by decide) ?_
      refine x_iand dX12_stages_68 ?_
      refine x_iadd dX12_stages_69 ?_
      refine x_iadd dX12_stages_70 ?_
      refine x_istore_n (ls' := [_, _, _, _, _]) dX12_stages_71 rfl rfl ?_
      refine x_iinc (v := l4 + 1) (ls' := [_, _, _, _, _]) dX12_stages_72 rfl rfl rfl rfl ?_
      refine x_goto (tgt := 49) dX12_stages_75 (by decide) ?_
      show V yX12_stages cX12_stages (some .int) 1 61 (0, 0) 49 [none, some (.int l1), some (.int l2), some (.int ((l3 + (((xus l1 l4) &&& 1) + ((xus l2 l4) &&& 1))))), some (.int ((l4 + 1)))] [] (xof s0 [W_44 o44, W_51 a51]) _
      exact ih ((l3 + (((xus l1 l4) &&& 1) + ((xus l2 l4) &&& 1)))) ((l4 + 1)) _ h hk
def f_X12_stages_44 (n : Nat) (o44 : Nat → Int32) (a51 : Nat → Int32) (p1 : Int32) (p2 : Int32) : Option (((Int32) × (Nat → Int32) × (Nat → Int32))) := (Option.bind (f_X12_isIn ((Int32.toInt64 p1)) 0 2047) (fun q1 => (if q1 = 0 then (some ((-3), upd o44 0 0, a51)) else (Option.bind (l_X12_stages_44_49 n (upd o44 0 0) (upd (upd a51 30 ((p1 ||| (p2 <<< (11 &&& 31))))) 29 ((xus p2 21))) p1 p2 n 0 0) (fun u4 => (some (u4.1, upd o44 0 0, upd (upd a51 30 ((p1 ||| (p2 <<< (11 &&& 31))))) 29 ((xus p2 21)))))))))
set_option maxRecDepth 100000 in
set_option maxHeartbeats 400000 in
theorem v_X12_stages_44 (s0 : XW) (n : Nat) (o44 : Nat → Int32) (a51 : Nat → Int32) (p1 : Int32) (p2 : Int32) (q : ((Int32) × (Nat → Int32) × (Nat → Int32))) (h : f_X12_stages_44 n o44 a51 p1 p2 = some q) : C_X12_stages 1 61 [.ref 44, .int p1, .int p2] (xof s0 [W_44 o44, W_51 a51]) (some (.int q.1)) (xof s0 [W_44 q.2.1, W_51 q.2.2]) := by
  unfold f_X12_stages_44 at h
  show V yX12_stages cX12_stages (some .int) 1 61 (0, 0) 0 [some (.ref 44), some (.int p1), some (.int p2), none, none] [] (xof s0 [W_44 o44, W_51 a51]) _
  refine x_aload_n dX12_stages_0 rfl ?_
  refine x_iconst (v := 0) dX12_stages_1 (by decide) ?_
  refine p_X12_1 (fs' := [_, _, _, _, _, _, _, _, _, _, _, _, _, _, _, _, _, _, _, _, _, _]) (L' := [(44, _), (51, _)]) rfl dX12_stages_2 (by decide) rfl (Nat.le_of_ble_eq_true rfl) rfl rfl ?_
  refine x_iload_n dX12_stages_5 rfl ?_
  refine x_i2l dX12_stages_6 ?_
  refine x_lconst (v := 0) dX12_stages_7 (by decide) ?_
  refine x_ldc2 dX12_stages_8 cn_X12_181 ?_
  obtain ⟨q1, hq1, h⟩ := Option.bind_eq_some_iff.mp h
  refine y_callSi (L' := [(44, _), (51, _)]) mi_X12_isIn ml_X12_77 st_X12_isIn dX12_stages_11 (fun s1 => v_X12_isIn 61 s1 _ _ _ q1 hq1) (Nat.le_of_ble_eq_true rfl) rfl (by decide) (Nat.le_of_ble_eq_true rfl) rfl rfl rfl rfl ?_
  refine x_if_ne (tgt := 20) dX12_stages_14 (by decide) (fun c2 => ?_) (fun c2 => ?_)
  · replace h := xif_n c2 h
    refine x_aload_n dX12_stages_20 rfl ?_
    refine g_X12_32 rfl dX12_stages_21 (by decide) rfl rfl ?_
    refine x_bipush (v := 30) dX12_stages_24 (by decide) ?_
    refine x_iload_n dX12_stages_26 rfl ?_
    refine x_iload_n dX12_stages_27 rfl ?_
    refine x_bipush (v := 11) dX12_stages_28 (by decide) ?_
    refine x_ishl dX12_stages_30 ?_
    refine x_ior dX12_stages_31 ?_
    refine x_iastK (jn := 30) (L' := [(44, _), (51, _)]) dX12_stages_32 (by decide) rfl (xin_ok (by decide)) (by decide) rfl ?_
    refine x_aload_n dX12_stages_33 rfl ?_
    refine g_X12_32 rfl dX12_stages_34 (by decide) rfl rfl ?_
    refine x_bipush (v := 29) dX12_stages_37 (by decide) ?_
    refine x_iload_n dX12_stages_39 rfl ?_
    refine x_bipush (v := 21) dX12_stages_40 (by decide) ?_
    refine x_iushr dX12_stages_42 ?_
    refine x_iastK (jn := 29) (L' := [(44, _), (51, _)]) dX12_stages_43 (by decide) rfl (xin_ok (by decide)) (by decide) rfl ?_
    refine x_iconst (v := 0) dX12_stages_44 (by decide) ?_
    refine x_istore_n (ls' := [_, _, _, _, _]) dX12_stages_45 rfl rfl ?_
    refine x_iconst (v := 0) dX12_stages_46 (by decide) ?_
    refine x_istore (ls' := [_, _, _, _, _]) dX12_stages_47 rfl rfl ?_
    refine V.drop1 (i := 0) (ls' := [_, _, _, _, _]) rfl ?_
    obtain ⟨u4, hu4, h⟩ := Option.bind_eq_some_iff.mp h
    show V yX12_stages cX12_stages (some .int) 1 61 (0, 0) 49 [none, some (.int p1), some (.int p2), some (.int 0), some (.int 0)] [] (xof s0 [W_44 (upd o44 0 0), W_51 (upd (upd a51 30 ((p1 ||| (p2 <<< (11 &&& 31))))) 29 ((xus p2 21)))]) _
    refine lv_X12_stages_44_49 s0 _ (upd o44 0 0) (upd (upd a51 30 ((p1 ||| (p2 <<< (11 &&& 31))))) 29 ((xus p2 21))) p1 p2 _ n 0 0 _ hu4 ?_
    refine x_iload_n dX12_stages_78 rfl ?_
    cases h
    exact x_iret dX12_stages_79 ⟨rfl, rfl, rfl⟩
  · replace h := xif_p c2 h
    refine x_bipush (v := -3) dX12_stages_17 (by decide) ?_
    cases h
    exact x_iret dX12_stages_19 ⟨rfl, rfl, rfl⟩
def f_X12_state_44 (n : Nat) (o44 : Nat → Int32) (a51 : Nat → Int32) (p1 : Int32) : Option (((Int32) × (Nat → Int32))) := (if p1 = 0 then (some ((a51 1), upd o44 0 0)) else (if p1 = 1 then (some ((a51 2), upd o44 0 0)) else (if p1 = 2 then (some ((a51 3), upd o44 0 0)) else (if p1 = 3 then (some ((a51 4), upd o44 0 0)) else (if p1 = 4 then (some ((a51 7), upd o44 0 0)) else (if p1 = 5 then (some ((a51 8), upd o44 0 0)) else (if p1 = 6 then (if (a51 6) = 0 then (some ((a51 9), upd o44 0 0)) else (some (0, upd o44 0 0))) else (if p1 = 7 then (if 40 ≤ (a51 5) then (Option.bind (f_X12_syndromeNow_44 n (upd o44 0 0) a51) (fun q11 => (some (q11, upd o44 0 0)))) else (some ((-1), upd o44 0 0))) else (if p1 = 8 then (some ((a51 5), upd o44 0 0)) else (if p1 = 9 then (some ((a51 873), upd o44 0 0)) else (if p1 = 10 then (some ((a51 872), upd o44 0 0)) else (some ((-2), upd o44 0 0)))))))))))))
set_option maxRecDepth 100000 in
set_option maxHeartbeats 400000 in
theorem v_X12_state_44 (s0 : XW) (n : Nat) (o44 : Nat → Int32) (a51 : Nat → Int32) (p1 : Int32) (q : ((Int32) × (Nat → Int32))) (h : f_X12_state_44 n o44 a51 p1 = some q) : C_X12_state 3 61 [.ref 44, .int p1] (xof s0 [W_44 o44, W_51 a51]) (some (.int q.1)) (xof s0 [W_44 q.2, W_51 a51]) := by
  unfold f_X12_state_44 at h
  show V yX12_state cX12_state (some .int) 3 61 (0, 0) 0 [some (.ref 44), some (.int p1)] [] (xof s0 [W_44 o44, W_51 a51]) _
  refine x_aload_n dX12_state_0 rfl ?_
  refine x_iconst (v := 0) dX12_state_1 (by decide) ?_
  refine p_X12_1 (fs' := [_, _, _, _, _, _, _, _, _, _, _, _, _, _, _, _, _, _, _, _, _, _]) (L' := [(44, _), (51, _)]) rfl dX12_state_2 (by decide) rfl (Nat.le_of_ble_eq_true rfl) rfl rfl ?_
  refine x_iload_n dX12_state_5 rfl ?_
  by_cases c1 : p1 = 0
  · replace h := xif_p c1 h
    refine x_tableIn (tgt := 64) dX12_state_6 (by rw [c1]; decide) (by rw [c1]; decide) (by rw [c1]; rfl) (by decide) ?_
    refine x_aload_n dX12_state_64 rfl ?_
    refine g_X12_32 rfl dX12_state_65 (by decide) rfl rfl ?_
    refine x_iconst (v := 1) dX12_state_68 (by decide) ?_
    refine x_ialdK (jn := 1) (v := (a51 1)) dX12_state_69 (by decide) rfl (xin_ok (by decide)) (by decide) rfl ?_
    cases h
    exact x_iret dX12_state_70 ⟨rfl, rfl, rfl⟩
  replace h := xif_n c1 h
  by_cases c2 : p1 = 1
  · replace h := xif_p c2 h
    refine x_tableIn (tgt := 71) dX12_state_6 (by rw [c2]; decide) (by rw [c2]; decide) (by rw [c2]; rfl) (by decide) ?_
    refine x_aload_n dX12_state_71 rfl ?_
    refine g_X12_32 rfl dX12_state_72 (by decide) rfl rfl ?_
    refine x_iconst (v := 2) dX12_state_75 (by decide) ?_
    refine x_ialdK (jn := 2) (v := (a51 2)) dX12_state_76 (by decide) rfl (xin_ok (by decide)) (by decide) rfl ?_
    cases h
    exact x_iret dX12_state_77 ⟨rfl, rfl, rfl⟩
  replace h := xif_n c2 h
  by_cases c3 : p1 = 2
  · replace h := xif_p c3 h
    refine x_tableIn (tgt := 78) dX12_state_6 (by rw [c3]; decide) (by rw [c3]; decide) (by rw [c3]; rfl) (by decide) ?_
    refine x_aload_n dX12_state_78 rfl ?_
    refine g_X12_32 rfl dX12_state_79 (by decide) rfl rfl ?_
    refine x_iconst (v := 3) dX12_state_82 (by decide) ?_
    refine x_ialdK (jn := 3) (v := (a51 3)) dX12_state_83 (by decide) rfl (xin_ok (by decide)) (by decide) rfl ?_
    cases h
    exact x_iret dX12_state_84 ⟨rfl, rfl, rfl⟩
  replace h := xif_n c3 h
  by_cases c4 : p1 = 3
  · replace h := xif_p c4 h
    refine x_tableIn (tgt := 85) dX12_state_6 (by rw [c4]; decide) (by rw [c4]; decide) (by rw [c4]; rfl) (by decide) ?_
    refine x_aload_n dX12_state_85 rfl ?_
    refine g_X12_32 rfl dX12_state_86 (by decide) rfl rfl ?_
    refine x_iconst (v := 4) dX12_state_89 (by decide) ?_
    refine x_ialdK (jn := 4) (v := (a51 4)) dX12_state_90 (by decide) rfl (xin_ok (by decide)) (by decide) rfl ?_
    cases h
    exact x_iret dX12_state_91 ⟨rfl, rfl, rfl⟩
  replace h := xif_n c4 h
  by_cases c5 : p1 = 4
  · replace h := xif_p c5 h
    refine x_tableIn (tgt := 92) dX12_state_6 (by rw [c5]; decide) (by rw [c5]; decide) (by rw [c5]; rfl) (by decide) ?_
    refine x_aload_n dX12_state_92 rfl ?_
    refine g_X12_32 rfl dX12_state_93 (by decide) rfl rfl ?_
    refine x_bipush (v := 7) dX12_state_96 (by decide) ?_
    refine x_ialdK (jn := 7) (v := (a51 7)) dX12_state_98 (by decide) rfl (xin_ok (by decide)) (by decide) rfl ?_
    cases h
    exact x_iret dX12_state_99 ⟨rfl, rfl, rfl⟩
  replace h := xif_n c5 h
  by_cases c6 : p1 = 5
  · replace h := xif_p c6 h
    refine x_tableIn (tgt := 100) dX12_state_6 (by rw [c6]; decide) (by rw [c6]; decide) (by rw [c6]; rfl) (by decide) ?_
    refine x_aload_n dX12_state_100 rfl ?_
    refine g_X12_32 rfl dX12_state_101 (by decide) rfl rfl ?_
    refine x_bipush (v := 8) dX12_state_104 (by decide) ?_
    refine x_ialdK (jn := 8) (v := (a51 8)) dX12_state_106 (by decide) rfl (xin_ok (by decide)) (by decide) rfl ?_
    cases h
    exact x_iret dX12_state_107 ⟨rfl, rfl, rfl⟩
  replace h := xif_n c6 h
  by_cases c7 : p1 = 6
  · replace h := xif_p c7 h
    refine x_tableIn (tgt := 108) dX12_state_6 (by rw [c7]; decide) (by rw [c7]; decide) (by rw [c7]; rfl) (by decide) ?_
    refine x_aload_n dX12_state_108 rfl ?_
    refine g_X12_32 rfl dX12_state_109 (by decide) rfl rfl ?_
    refine x_bipush (v := 6) dX12_state_112 (by decide) ?_
    refine x_ialdK (jn := 6) (v := (a51 6)) dX12_state_114 (by decide) rfl (xin_ok (by decide)) (by decide) rfl ?_
    refine x_if_ne (tgt := 128) dX12_state_115 (by decide) (fun c8 => ?_) (fun c8 => ?_)
    · replace h := xif_n c8 h
      refine x_iconst (v := 0) dX12_state_128 (by decide) ?_
      cases h
      exact x_iret dX12_state_129 ⟨rfl, rfl, rfl⟩
    · replace h := xif_p c8 h
      refine x_aload_n dX12_state_118 rfl ?_
      refine g_X12_32 rfl dX12_state_119 (by decide) rfl rfl ?_
      refine x_bipush (v := 9) dX12_state_122 (by decide) ?_
      refine x_ialdK (jn := 9) (v := (a51 9)) dX12_state_124 (by decide) rfl (xin_ok (by decide)) (by decide) rfl ?_
      refine x_goto (tgt := 129) dX12_state_125 (by decide) ?_
      cases h
      exact x_iret dX12_state_129 ⟨rfl, rfl, rfl⟩
  replace h := xif_n c7 h
  by_cases c9 : p1 = 7
  · replace h := xif_p c9 h
    refine x_tableIn (tgt := 130) dX12_state_6 (by rw [c9]; decide) (by rw [c9]; decide) (by rw [c9]; rfl) (by decide) ?_
    refine x_aload_n dX12_state_130 rfl ?_
    refine g_X12_32 rfl dX12_state_131 (by decide) rfl rfl ?_
    refine x_iconst (v := 5) dX12_state_134 (by decide) ?_
    refine x_ialdK (jn := 5) (v := (a51 5)) dX12_state_135 (by decide) rfl (xin_ok (by decide)) (by decide) rfl ?_
    refine x_bipush (v := 40) dX12_state_136 (by decide) ?_
    refine x_icmp_ge (tgt := 145) dX12_state_138 (by decide) (fun c10 => ?_) (fun c10 => ?_)
    · replace h := xif_p c10 h
      refine x_aload_n dX12_state_145 rfl ?_
      obtain ⟨q11, hq11, h⟩ := Option.bind_eq_some_iff.mp h
      refine y_callVi (L' := [(44, _), (51, _)]) mi_X12_syndromeNow ml_X12_154 im_X12_syndromeNow se_X12_syndromeNow (rfl : vwCl[11]? = _) dX12_state_146 (fun s1 => v_X12_syndromeNow_44 s1 n _ _ q11 hq11) (by decide) rfl (Nat.le_of_ble_eq_true rfl) rfl (by decide) (Nat.le_of_ble_eq_true rfl) rfl rfl rfl rfl ?_
      cases h
      exact x_iret dX12_state_149 ⟨rfl, rfl, rfl⟩
    · replace h := xif_n c10 h
      refine x_iconst (v := -1) dX12_state_141 (by decide) ?_
      refine x_goto (tgt := 149) dX12_state_142 (by decide) ?_
      cases h
      exact x_iret dX12_state_149 ⟨rfl, rfl, rfl⟩
  replace h := xif_n c9 h
  by_cases c12 : p1 = 8
  · replace h := xif_p c12 h
    refine x_tableIn (tgt := 150) dX12_state_6 (by rw [c12]; decide) (by rw [c12]; decide) (by rw [c12]; rfl) (by decide) ?_
    refine x_aload_n dX12_state_150 rfl ?_
    refine g_X12_32 rfl dX12_state_151 (by decide) rfl rfl ?_
    refine x_iconst (v := 5) dX12_state_154 (by decide) ?_
    refine x_ialdK (jn := 5) (v := (a51 5)) dX12_state_155 (by decide) rfl (xin_ok (by decide)) (by decide) rfl ?_
    cases h
    exact x_iret dX12_state_156 ⟨rfl, rfl, rfl⟩
  replace h := xif_n c12 h
  by_cases c13 : p1 = 9
  · replace h := xif_p c13 h
    refine x_tableIn (tgt := 157) dX12_state_6 (by rw [c13]; decide) (by rw [c13]; decide) (by rw [c13]; rfl) (by decide) ?_
    refine x_aload_n dX12_state_157 rfl ?_
    refine g_X12_32 rfl dX12_state_158 (by decide) rfl rfl ?_
    refine x_sipush (v := 873) dX12_state_161 (by decide) ?_
    refine x_ialdK (jn := 873) (v := (a51 873)) dX12_state_164 (by decide) rfl (xin_ok (by decide)) (by decide) rfl ?_
    cases h
    exact x_iret dX12_state_165 ⟨rfl, rfl, rfl⟩
  replace h := xif_n c13 h
  by_cases c14 : p1 = 10
  · replace h := xif_p c14 h
    refine x_tableIn (tgt := 166) dX12_state_6 (by rw [c14]; decide) (by rw [c14]; decide) (by rw [c14]; rfl) (by decide) ?_
    refine x_aload_n dX12_state_166 rfl ?_
    refine g_X12_32 rfl dX12_state_167 (by decide) rfl rfl ?_
    refine x_sipush (v := 872) dX12_state_170 (by decide) ?_
    refine x_ialdK (jn := 872) (v := (a51 872)) dX12_state_173 (by decide) rfl (xin_ok (by decide)) (by decide) rfl ?_
    cases h
    exact x_iret dX12_state_174 ⟨rfl, rfl, rfl⟩
  replace h := xif_n c14 h
  have c1t := lv_neT c1 (show Int32.toInt 0 = 0 from rfl)
  have c2t := lv_neT c2 (show Int32.toInt 1 = 1 from rfl)
  have c3t := lv_neT c3 (show Int32.toInt 2 = 2 from rfl)
  have c4t := lv_neT c4 (show Int32.toInt 3 = 3 from rfl)
  have c5t := lv_neT c5 (show Int32.toInt 4 = 4 from rfl)
  have c6t := lv_neT c6 (show Int32.toInt 5 = 5 from rfl)
  have c7t := lv_neT c7 (show Int32.toInt 6 = 6 from rfl)
  have c9t := lv_neT c9 (show Int32.toInt 7 = 7 from rfl)
  have c12t := lv_neT c12 (show Int32.toInt 8 = 8 from rfl)
  have c13t := lv_neT c13 (show Int32.toInt 9 = 9 from rfl)
  have c14t := lv_neT c14 (show Int32.toInt 10 = 10 from rfl)
  refine x_tableOut (tgt := 175) dX12_state_6 (by omega) (by decide) ?_
  refine x_bipush (v := -2) dX12_state_175 (by decide) ?_
  cases h
  exact x_iret dX12_state_177 ⟨rfl, rfl, rfl⟩
def f_X12_count_44 (o44 : Nat → Int32) (a51 : Nat → Int32) (p1 : Int32) : Option (((Int32) × (Nat → Int32))) := (Option.bind (f_X12_isIn ((Int32.toInt64 p1)) 0 13) (fun q1 => (if q1 = 0 then (some ((-2), upd o44 0 0)) else (bif xin (13 + p1) 875 then (some ((a51 (Int32.toNatClampNeg (13 + p1))), upd o44 0 0)) else none))))
set_option maxRecDepth 100000 in
set_option maxHeartbeats 400000 in
theorem v_X12_count_44 (s0 : XW) (o44 : Nat → Int32) (a51 : Nat → Int32) (p1 : Int32) (q : ((Int32) × (Nat → Int32))) (h : f_X12_count_44 o44 a51 p1 = some q) : C_X12_count 1 61 [.ref 44, .int p1] (xof s0 [W_44 o44, W_51 a51]) (some (.int q.1)) (xof s0 [W_44 q.2, W_51 a51]) := by
  unfold f_X12_count_44 at h
  show V yX12_count cX12_count (some .int) 1 61 (0, 0) 0 [some (.ref 44), some (.int p1)] [] (xof s0 [W_44 o44, W_51 a51]) _
  refine x_aload_n dX12_count_0 rfl ?_
  refine x_iconst (v := 0) dX12_count_1 (by decide) ?_
  refine p_X12_1 (fs' := [_, _, _, _, _, _, _, _, _, _, _, _, _, _, _, _, _, _, _, _, _, _]) (L' := [(44, _), (51, _)]) rfl dX12_count_2 (by decide) rfl (Nat.le_of_ble_eq_true rfl) rfl rfl ?_
  refine x_iload_n dX12_count_5 rfl ?_
  refine x_i2l dX12_count_6 ?_
  refine x_lconst (v := 0) dX12_count_7 (by decide) ?_
  refine x_ldc2 dX12_count_8 cn_X12_194 ?_
  obtain ⟨q1, hq1, h⟩ := Option.bind_eq_some_iff.mp h
  refine y_callSi (L' := [(44, _), (51, _)]) mi_X12_isIn ml_X12_77 st_X12_isIn dX12_count_11 (fun s1 => v_X12_isIn 61 s1 _ _ _ q1 hq1) (Nat.le_of_ble_eq_true rfl) rfl (by decide) (Nat.le_of_ble_eq_true rfl) rfl rfl rfl rfl ?_
  refine x_if_eq (tgt := 29) dX12_count_14 (by decide) (fun c2 => ?_) (fun c2 => ?_)
  · replace h := xif_p c2 h
    refine x_bipush (v := -2) dX12_count_29 (by decide) ?_
    cases h
    exact x_iret dX12_count_31 ⟨rfl, rfl, rfl⟩
  · replace h := xif_n c2 h
    refine x_aload_n dX12_count_17 rfl ?_
    refine g_X12_32 rfl dX12_count_18 (by decide) rfl rfl ?_
    refine x_bipush (v := 13) dX12_count_21 (by decide) ?_
    refine x_iload_n dX12_count_23 rfl ?_
    refine x_iadd dX12_count_24 ?_
    obtain ⟨c3, h⟩ := xck h
    refine x_ialdK (jn := (Int32.toNatClampNeg (13 + p1))) (v := (a51 (Int32.toNatClampNeg (13 + p1)))) dX12_count_25 (by decide) rfl (xin_ok c3) rfl rfl ?_
    refine x_goto (tgt := 31) dX12_count_26 (by decide) ?_
    cases h
    exact x_iret dX12_count_31 ⟨rfl, rfl, rfl⟩
def f_X12_isKept  (p0 : Int32) (p1 : Int32) (p2 : Int32) : Option Int32 := (if p0 < 0 then (some 0) else (if p1 ≤ p0 then (some 0) else (if p0 < (p1 - p2) then (some 0) else (some 1))))
set_option maxRecDepth 100000 in
set_option maxHeartbeats 400000 in
theorem v_X12_isKept (N : Nat) (s0 : XW)  (p0 : Int32) (p1 : Int32) (p2 : Int32) (q : Int32) (h : f_X12_isKept p0 p1 p2 = some q) : C_X12_isKept 0 N [.int p0, .int p1, .int p2] (xof s0 []) (some (.int q)) (xof s0 []) := by
  unfold f_X12_isKept at h
  show V yX12_isKept cX12_isKept (some .boolean) 0 N (0, 0) 0 [some (.int p0), some (.int p1), some (.int p2)] [] (xof s0 []) _
  refine x_iload_n dX12_isKept_0 rfl ?_
  refine x_if_lt (tgt := 20) dX12_isKept_1 (by decide) (fun c1 => ?_) (fun c1 => ?_)
  · replace h := xif_p c1 h
    refine x_iconst (v := 0) dX12_isKept_20 (by decide) ?_
    cases h
    exact x_zret dX12_isKept_21 (Or.inl rfl) ⟨rfl, rfl, rfl⟩
  · replace h := xif_n c1 h
    refine x_iload_n dX12_isKept_4 rfl ?_
    refine x_iload_n dX12_isKept_5 rfl ?_
    refine x_icmp_ge (tgt := 20) dX12_isKept_6 (by decide) (fun c2 => ?_) (fun c2 => ?_)
    · replace h := xif_p c2 h
      refine x_iconst (v := 0) dX12_isKept_20 (by decide) ?_
      cases h
      exact x_zret dX12_isKept_21 (Or.inl rfl) ⟨rfl, rfl, rfl⟩
    · replace h := xif_n c2 h
      refine x_iload_n dX12_isKept_9 rfl ?_
      refine x_iload_n dX12_isKept_10 rfl ?_
      refine x_iload_n dX12_isKept_11 rfl ?_
      refine x_isub dX12_isKept_12 ?_
      refine x_icmp_lt (tgt := 20) dX12_isKept_13 (by decide) (fun c3 => ?_) (fun c3 => ?_)
      · replace h := xif_p c3 h
        refine x_iconst (v := 0) dX12_isKept_20 (by decide) ?_
        cases h
        exact x_zret dX12_isKept_21 (Or.inl rfl) ⟨rfl, rfl, rfl⟩
      · replace h := xif_n c3 h
        refine x_iconst (v := 1) dX12_isKept_16 (by decide) ?_
        refine x_goto (tgt := 21) dX12_isKept_17 (by decide) ?_
        cases h
        exact x_zret dX12_isKept_21 (Or.inr rfl) ⟨rfl, rfl, rfl⟩
def f_X12_cellAt_44 (o44 : Nat → Int32) (a51 : Nat → Int32) (p1 : Int32) : Option Int32 := (Option.bind (f_X12_isKept p1 ((a51 16)) 12) (fun q1 => (if q1 = 0 then (some ((-1))) else (some ((80 + (52 * (p1 - p1 / 12 * 12))))))))
set_option maxRecDepth 100000 in
set_option maxHeartbeats 400000 in
theorem v_X12_cellAt_44 (s0 : XW) (o44 : Nat → Int32) (a51 : Nat → Int32) (p1 : Int32) (q : Int32) (h : f_X12_cellAt_44 o44 a51 p1 = some q) : C_X12_cellAt 1 61 [.ref 44, .int p1] (xof s0 [W_44 o44, W_51 a51]) (some (.int q)) (xof s0 [W_44 o44, W_51 a51]) := by
  unfold f_X12_cellAt_44 at h
  show V yX12_cellAt cX12_cellAt (some .int) 1 61 (0, 0) 0 [some (.ref 44), some (.int p1)] [] (xof s0 [W_44 o44, W_51 a51]) _
  refine x_iload_n dX12_cellAt_0 rfl ?_
  refine x_aload_n dX12_cellAt_1 rfl ?_
  refine g_X12_32 rfl dX12_cellAt_2 (by decide) rfl rfl ?_
  refine x_bipush (v := 16) dX12_cellAt_5 (by decide) ?_
  refine x_ialdK (jn := 16) (v := (a51 16)) dX12_cellAt_7 (by decide) rfl (xin_ok (by decide)) (by decide) rfl ?_
  refine x_bipush (v := 12) dX12_cellAt_8 (by decide) ?_
  obtain ⟨q1, hq1, h⟩ := Option.bind_eq_some_iff.mp h
  refine y_callSi (L' := [(44, _), (51, _)]) mi_X12_isKept ml_X12_196 st_X12_isKept dX12_cellAt_10 (fun s1 => v_X12_isKept 61 s1 _ _ _ q1 hq1) (Nat.le_of_ble_eq_true rfl) rfl (by decide) (Nat.le_of_ble_eq_true rfl) rfl rfl rfl rfl ?_
  refine x_if_eq (tgt := 29) dX12_cellAt_13 (by decide) (fun c2 => ?_) (fun c2 => ?_)
  · replace h := xif_p c2 h
    refine x_iconst (v := -1) dX12_cellAt_29 (by decide) ?_
    cases h
    exact x_iret dX12_cellAt_30 ⟨rfl, rfl, rfl⟩
  · replace h := xif_n c2 h
    refine x_bipush (v := 80) dX12_cellAt_16 (by decide) ?_
    refine x_bipush (v := 52) dX12_cellAt_18 (by decide) ?_
    refine x_iload_n dX12_cellAt_20 rfl ?_
    refine x_bipush (v := 12) dX12_cellAt_21 (by decide) ?_
    refine x_irem dX12_cellAt_23 (by decide) ?_
    refine x_imul dX12_cellAt_24 ?_
    refine x_iadd dX12_cellAt_25 ?_
    refine x_goto (tgt := 30) dX12_cellAt_26 (by decide) ?_
    cases h
    exact x_iret dX12_cellAt_30 ⟨rfl, rfl, rfl⟩
def f_X12_delivered_44 (n : Nat) (o44 : Nat → Int32) (a49 : Nat → Int32) (a51 : Nat → Int32) (p1 : Int32) (p2 : Int32) : Option (((Int32) × (Nat → Int32))) := (Option.bind (f_X12_cellAt_44 (upd o44 0 0) a51 p1) (fun q1 => (if q1 = (-1) then (some ((-2), upd o44 0 0)) else (Option.bind (f_X12_isIn ((Int32.toInt64 p2)) 0 3) (fun q3 => (if q3 = 0 then (some ((-2), upd o44 0 0)) else (if p2 = 3 then (Option.bind (f_X12_foundOf_44 n (upd o44 0 0) a49 a51 q1) (fun q7 => (some (q7, upd o44 0 0)))) else (bif xin (q1 + p2) 875 then (some ((a51 (Int32.toNatClampNeg (q1 + p2))), upd o44 0 0)) else none))))))))
set_option maxRecDepth 100000 in
set_option maxHeartbeats 400000 in
theorem v_X12_delivered_44 (s0 : XW) (n : Nat) (o44 : Nat → Int32) (a49 : Nat → Int32) (a51 : Nat → Int32) (p1 : Int32) (p2 : Int32) (q : ((Int32) × (Nat → Int32))) (h : f_X12_delivered_44 n o44 a49 a51 p1 p2 = some q) : C_X12_delivered 2 61 [.ref 44, .int p1, .int p2] (xof s0 [W_44 o44, W_49 a49, W_51 a51]) (some (.int q.1)) (xof s0 [W_44 q.2, W_49 a49, W_51 a51]) := by
  unfold f_X12_delivered_44 at h
  show V yX12_delivered cX12_delivered (some .int) 2 61 (0, 0) 0 [some (.ref 44), some (.int p1), some (.int p2), none] [] (xof s0 [W_44 o44, W_49 a49, W_51 a51]) _
  refine x_aload_n dX12_delivered_0 rfl ?_
  refine x_iconst (v := 0) dX12_delivered_1 (by decide) ?_
  refine p_X12_1 (fs' := [_, _, _, _, _, _, _, _, _, _, _, _, _, _, _, _, _, _, _, _, _, _]) (L' := [(44, _), (49, _), (51, _)]) rfl dX12_delivered_2 (by decide) rfl (Nat.le_of_ble_eq_true rfl) rfl rfl ?_
  refine x_aload_n dX12_delivered_5 rfl ?_
  refine x_iload_n dX12_delivered_6 rfl ?_
  obtain ⟨q1, hq1, h⟩ := Option.bind_eq_some_iff.mp h
  refine y_callVi (L' := [(44, _), (49, _), (51, _)]) mi_X12_cellAt ml_X12_204 im_X12_cellAt se_X12_cellAt (rfl : vwCl[11]? = _) dX12_delivered_7 (fun s1 => v_X12_cellAt_44 s1 _ _ _ q1 hq1) (by decide) rfl (Nat.le_of_ble_eq_true rfl) rfl (by decide) (Nat.le_of_ble_eq_true rfl) rfl rfl rfl rfl ?_
  refine x_istore_n (ls' := [_, _, _, _]) dX12_delivered_10 rfl rfl ?_
  refine x_iload_n dX12_delivered_11 rfl ?_
  refine x_iconst (v := -1) dX12_delivered_12 (by decide) ?_
  refine x_icmp_eq (tgt := 28) dX12_delivered_13 (by decide) (fun c2 => ?_) (fun c2 => ?_)
  · replace h := xif_p c2 h
    refine x_bipush (v := -2) dX12_delivered_28 (by decide) ?_
    cases h
    exact x_iret dX12_delivered_30 ⟨rfl, rfl, rfl⟩
  · replace h := xif_n c2 h
    refine x_iload_n dX12_delivered_16 rfl ?_
    refine x_i2l dX12_delivered_17 ?_
    refine x_lconst (v := 0) dX12_delivered_18 (by decide) ?_
    refine x_ldc2 dX12_delivered_19 cn_X12_207 ?_
    obtain ⟨q3, hq3, h⟩ := Option.bind_eq_some_iff.mp h
    refine y_callSi (L' := [(44, _), (49, _), (51, _)]) mi_X12_isIn ml_X12_77 st_X12_isIn dX12_delivered_22 (fun s1 => v_X12_isIn 61 s1 _ _ _ q3 hq3) (Nat.le_of_ble_eq_true rfl) rfl (by decide) (Nat.le_of_ble_eq_true rfl) rfl rfl rfl rfl ?_
    refine x_if_ne (tgt := 31) dX12_delivered_25 (by decide) (fun c4 => ?_) (fun c4 => ?_)
    · replace h := xif_n c4 h
      refine x_iload_n dX12_delivered_31 rfl ?_
      refine x_iconst (v := 3) dX12_delivered_32 (by decide) ?_
      refine x_icmp_ne (tgt := 44) dX12_delivered_33 (by decide) (fun c5 => ?_) (fun c5 => ?_)
      · replace h := xif_n c5 h
        refine x_aload_n dX12_delivered_44 rfl ?_
        refine g_X12_32 rfl dX12_delivered_45 (by decide) rfl rfl ?_
        refine x_iload_n dX12_delivered_48 rfl ?_
        refine x_iload_n dX12_delivered_49 rfl ?_
        refine x_iadd dX12_delivered_50 ?_
        obtain ⟨c6, h⟩ := xck h
        refine x_ialdK (jn := (Int32.toNatClampNeg (q1 + p2))) (v := (a51 (Int32.toNatClampNeg (q1 + p2)))) dX12_delivered_51 (by decide) rfl (xin_ok c6) rfl rfl ?_
        cases h
        exact x_iret dX12_delivered_52 ⟨rfl, rfl, rfl⟩
      · replace h := xif_p c5 h
        refine x_aload_n dX12_delivered_36 rfl ?_
        refine x_iload_n dX12_delivered_37 rfl ?_
        obtain ⟨q7, hq7, h⟩ := Option.bind_eq_some_iff.mp h
        refine y_callVi (L' := [(44, _), (49, _), (51, _)]) mi_X12_foundOf ml_X12_170 im_X12_foundOf se_X12_foundOf (rfl : vwCl[11]? = _) dX12_delivered_38 (fun s1 => v_X12_foundOf_44 s1 n _ _ _ _ q7 hq7) (by decide) rfl (Nat.le_of_ble_eq_true rfl) rfl (by decide) (Nat.le_of_ble_eq_true rfl) rfl rfl rfl rfl ?_
        refine x_goto (tgt := 52) dX12_delivered_41 (by decide) ?_
        cases h
        exact x_iret dX12_delivered_52 ⟨rfl, rfl, rfl⟩
    · replace h := xif_p c4 h
      refine x_bipush (v := -2) dX12_delivered_28 (by decide) ?_
      cases h
      exact x_iret dX12_delivered_30 ⟨rfl, rfl, rfl⟩
def f_X12_load_44 (o44 : Nat → Int32) (a51 : Nat → Int32) (p1 : Int32) (p2 : Int32) : Option (((Int32) × (Nat → Int32))) := (Option.bind (f_X12_cellAt_44 (upd o44 0 0) a51 p1) (fun q1 => (if q1 = (-1) then (some ((-2), upd o44 0 0)) else (bif xin (q1 + 3) 875 then (Option.bind (f_X12_isIn ((Int32.toInt64 p2)) 0 ((Int32.toInt64 ((a51 (Int32.toNatClampNeg (q1 + 3))) - 1)))) (fun q4 => (if q4 = 0 then (some ((-1), upd o44 0 0)) else (bif xin ((q1 + 4) + p2) 875 then (some ((a51 (Int32.toNatClampNeg ((q1 + 4) + p2))), upd o44 0 0)) else none)))) else none))))
set_option maxRecDepth 100000 in
set_option maxHeartbeats 400000 in
theorem v_X12_load_44 (s0 : XW) (o44 : Nat → Int32) (a51 : Nat → Int32) (p1 : Int32) (p2 : Int32) (q : ((Int32) × (Nat → Int32))) (h : f_X12_load_44 o44 a51 p1 p2 = some q) : C_X12_load 2 61 [.ref 44, .int p1, .int p2] (xof s0 [W_44 o44, W_51 a51]) (some (.int q.1)) (xof s0 [W_44 q.2, W_51 a51]) := by
  unfold f_X12_load_44 at h
  show V yX12_load cX12_load (some .int) 2 61 (0, 0) 0 [some (.ref 44), some (.int p1), some (.int p2), none] [] (xof s0 [W_44 o44, W_51 a51]) _
  refine x_aload_n dX12_load_0 rfl ?_
  refine x_iconst (v := 0) dX12_load_1 (by decide) ?_
  refine p_X12_1 (fs' := [_, _, _, _, _, _, _, _, _, _, _, _, _, _, _, _, _, _, _, _, _, _]) (L' := [(44, _), (51, _)]) rfl dX12_load_2 (by decide) rfl (Nat.le_of_ble_eq_true rfl) rfl rfl ?_
  refine x_aload_n dX12_load_5 rfl ?_
  refine x_iload_n dX12_load_6 rfl ?_
  obtain ⟨q1, hq1, h⟩ := Option.bind_eq_some_iff.mp h
  refine y_callVi (L' := [(44, _), (51, _)]) mi_X12_cellAt ml_X12_204 im_X12_cellAt se_X12_cellAt (rfl : vwCl[11]? = _) dX12_load_7 (fun s1 => v_X12_cellAt_44 s1 _ _ _ q1 hq1) (by decide) rfl (Nat.le_of_ble_eq_true rfl) rfl (by decide) (Nat.le_of_ble_eq_true rfl) rfl rfl rfl rfl ?_
  refine x_istore_n (ls' := [_, _, _, _]) dX12_load_10 rfl rfl ?_
  refine x_iload_n dX12_load_11 rfl ?_
  refine x_iconst (v := -1) dX12_load_12 (by decide) ?_
  refine x_icmp_ne (tgt := 19) dX12_load_13 (by decide) (fun c2 => ?_) (fun c2 => ?_)
  · replace h := xif_n c2 h
    refine x_iload_n dX12_load_19 rfl ?_
    refine x_i2l dX12_load_20 ?_
    refine x_lconst (v := 0) dX12_load_21 (by decide) ?_
    refine x_aload_n dX12_load_22 rfl ?_
    refine g_X12_32 rfl dX12_load_23 (by decide) rfl rfl ?_
    refine x_iload_n dX12_load_26 rfl ?_
    refine x_iconst (v := 3) dX12_load_27 (by decide) ?_
    refine x_iadd dX12_load_28 ?_
    obtain ⟨c3, h⟩ := xck h
    refine x_ialdK (jn := (Int32.toNatClampNeg (q1 + 3))) (v := (a51 (Int32.toNatClampNeg (q1 + 3)))) dX12_load_29 (by decide) rfl (xin_ok c3) rfl rfl ?_
    refine x_iconst (v := 1) dX12_load_30 (by decide) ?_
    refine x_isub dX12_load_31 ?_
    refine x_i2l dX12_load_32 ?_
    obtain ⟨q4, hq4, h⟩ := Option.bind_eq_some_iff.mp h
    refine y_callSi (L' := [(44, _), (51, _)]) mi_X12_isIn ml_X12_77 st_X12_isIn dX12_load_33 (fun s1 => v_X12_isIn 61 s1 _ _ _ q4 hq4) (Nat.le_of_ble_eq_true rfl) rfl (by decide) (Nat.le_of_ble_eq_true rfl) rfl rfl rfl rfl ?_
    refine x_if_eq (tgt := 52) dX12_load_36 (by decide) (fun c5 => ?_) (fun c5 => ?_)
    · replace h := xif_p c5 h
      refine x_iconst (v := -1) dX12_load_52 (by decide) ?_
      cases h
      exact x_iret dX12_load_53 ⟨rfl, rfl, rfl⟩
    · replace h := xif_n c5 h
      refine x_aload_n dX12_load_39 rfl ?_
      refine g_X12_32 rfl dX12_load_40 (by decide) rfl rfl ?_
      refine x_iload_n dX12_load_43 rfl ?_
      refine x_iconst (v := 4) dX12_load_44 (by decide) ?_
      refine x_iadd dX12_load_45 ?_
      refine x_iload_n dX12_load_46 rfl ?_
      refine x_iadd dX12_load_47 ?_
      obtain ⟨c6, h⟩ := xck h
      refine x_ialdK (jn := (Int32.toNatClampNeg ((q1 + 4) + p2))) (v := (a51 (Int32.toNatClampNeg ((q1 + 4) + p2)))) dX12_load_48 (by decide) rfl (xin_ok c6) rfl rfl ?_
      refine x_goto (tgt := 53) dX12_load_49 (by decide) ?_
      cases h
      exact x_iret dX12_load_53 ⟨rfl, rfl, rfl⟩
  · replace h := xif_p c2 h
    refine x_bipush (v := -2) dX12_load_16 (by decide) ?_
    cases h
    exact x_iret dX12_load_18 ⟨rfl, rfl, rfl⟩
