def f_X11_rights_0 (n : Nat) (o2 : Nat → Int32) (a3 : Nat → Int32) (o33 : Nat → Int32) (j33 : Int64) (p1 : Int32) (p2 : Int32) (p3 : Int32) : Option (((Int32) × (Nat → Int32) × (Int64))) := (Option.bind (f_X4_has_2 o2 a3 p1) (fun q1 => (if q1 = 0 then (some ((-2), o33, j33)) else (Option.bind (f_X11_isWithin p2 1 2000) (fun q3 => (if q3 = 0 then (some ((-3), o33, j33)) else (if (-1) ≤ p3 then (Option.bind (f_X10_clear_33 o33 j33) (fun q6 => (Option.bind (l_X11_rights_0_66 n o2 a3 p3 ((if (((p1 + p2) + 40) - 1) < (o2 1) then (((p1 + p2) + 40) - 1) else (o2 1))) n 0 p1 q6.1 q6.2) (fun u13 => Sum.elim (fun z14 => some z14) (fun z14 => (if p3 = (-1) then (some (z14.1, z14.2.2.1, z14.2.2.2)) else (some ((-1), z14.2.2.1, z14.2.2.2)))) u13)))) else (some ((-3), o33, j33)))))))))
set_option maxRecDepth 100000 in
set_option maxHeartbeats 400000 in
theorem v_X11_rights_0 (s0 : XW) (n : Nat) (o2 : Nat → Int32) (a3 : Nat → Int32) (o33 : Nat → Int32) (j33 : Int64) (p1 : Int32) (p2 : Int32) (p3 : Int32) (q : ((Int32) × (Nat → Int32) × (Int64))) (h : f_X11_rights_0 n o2 a3 o33 j33 p1 p2 p3 = some q) : C_X11_rights 2 61 [.ref 0, .int p1, .int p2, .int p3] (xof s0 [W_0, W_2 o2, W_3 a3, W_33 o33 j33]) (some (.int q.1)) (xof s0 [W_0, W_2 o2, W_3 a3, W_33 q.2.1 q.2.2]) := by
  unfold f_X11_rights_0 at h
  show V yX11_rights cX11_rights (some .int) 2 61 (0, 0) 0 [some (.ref 0), some (.int p1), some (.int p2), some (.int p3), none, none, none] [] (xof s0 [W_0, W_2 o2, W_3 a3, W_33 o33 j33]) _
  refine x_aload_n dX11_rights_0 rfl ?_
  refine g_X11_24 rfl dX11_rights_1 (by decide) rfl rfl ?_
  refine x_iload_n dX11_rights_4 rfl ?_
  obtain ⟨q1, hq1, h⟩ := Option.bind_eq_some_iff.mp h
  refine y_callVi (L' := [(0, _), (2, _), (3, _), (33, _)]) mi_X4_has ml_X11_122 im_X4_has se_X4_has (rfl : vwCl[3]? = _) dX11_rights_5 (fun s1 => v_X4_has_2 s1 _ _ _ q1 hq1) (by decide) rfl (Nat.le_of_ble_eq_true rfl) rfl (by decide) (Nat.le_of_ble_eq_true rfl) rfl rfl rfl rfl ?_
  refine x_if_ne (tgt := 14) dX11_rights_8 (by decide) (fun c2 => ?_) (fun c2 => ?_)
  · replace h := xif_n c2 h
    refine x_iload_n dX11_rights_14 rfl ?_
    refine x_iconst (v := 1) dX11_rights_15 (by decide) ?_
    refine x_sipush (v := 2000) dX11_rights_16 (by decide) ?_
    obtain ⟨q3, hq3, h⟩ := Option.bind_eq_some_iff.mp h
    refine y_callSi (L' := [(0, _), (2, _), (3, _), (33, _)]) mi_X11_isWithin ml_X11_100 st_X11_isWithin dX11_rights_19 (fun s1 => v_X11_isWithin 61 s1 _ _ _ q3 hq3) (Nat.le_of_ble_eq_true rfl) rfl (by decide) (Nat.le_of_ble_eq_true rfl) rfl rfl rfl rfl ?_
    refine x_if_eq (tgt := 30) dX11_rights_22 (by decide) (fun c4 => ?_) (fun c4 => ?_)
    · replace h := xif_p c4 h
      refine x_bipush (v := -3) dX11_rights_30 (by decide) ?_
      cases h
      exact x_iret dX11_rights_32 ⟨rfl, rfl, rfl⟩
    · replace h := xif_n c4 h
      refine x_iload_n dX11_rights_25 rfl ?_
      refine x_iconst (v := -1) dX11_rights_26 (by decide) ?_
      refine x_icmp_ge (tgt := 33) dX11_rights_27 (by decide) (fun c5 => ?_) (fun c5 => ?_)
      · replace h := xif_p c5 h
        refine x_aload_n dX11_rights_33 rfl ?_
        refine g_X11_24 rfl dX11_rights_34 (by decide) rfl rfl ?_
        refine g_X11_96 rfl dX11_rights_37 (by decide) rfl rfl ?_
        refine x_iload_n dX11_rights_40 rfl ?_
        refine x_iload_n dX11_rights_41 rfl ?_
        refine x_iadd dX11_rights_42 ?_
        refine x_bipush (v := 40) dX11_rights_43 (by decide) ?_
        refine x_iadd dX11_rights_45 ?_
        refine x_iconst (v := 1) dX11_rights_46 (by decide) ?_
        refine x_isub dX11_rights_47 ?_
        refine x_mmin dX11_rights_48 ml_X11_283 (by decide) (Nat.le_of_ble_eq_true rfl) ?_
        refine x_istore (ls' := [_, _, _, _, _, _, _]) dX11_rights_51 rfl rfl ?_
        refine x_iconst (v := 0) dX11_rights_53 (by decide) ?_
        refine x_istore (ls' := [_, _, _, _, _, _, _]) dX11_rights_54 rfl rfl ?_
        refine x_aload_n dX11_rights_56 rfl ?_
        refine g_X11_60 rfl dX11_rights_57 (by decide) rfl rfl ?_
        obtain ⟨q6, hq6, h⟩ := Option.bind_eq_some_iff.mp h
        refine y_callVv (L' := [(0, _), (2, _), (3, _), (33, _)]) mi_X10_clear ml_X11_288 im_X10_clear se_X10_clear (rfl : vwCl[9]? = _) dX11_rights_60 (fun s1 => v_X10_clear_33 s1 _ _ q6 hq6) (by decide) rfl (Nat.le_of_ble_eq_true rfl) rfl (by decide) (Nat.le_of_ble_eq_true rfl) rfl rfl rfl rfl ?_
        refine x_iload_n dX11_rights_63 rfl ?_
        refine x_istore (ls' := [_, _, _, _, _, _, _]) dX11_rights_64 rfl rfl ?_
        refine V.drop1 (i := 1) (ls' := [_, _, _, _, _, _, _]) rfl ?_
        refine V.drop1 (i := 2) (ls' := [_, _, _, _, _, _, _]) rfl ?_
        obtain ⟨u13, hu13, h⟩ := Option.bind_eq_some_iff.mp h
        show V yX11_rights cX11_rights (some .int) 2 61 (0, 0) 66 [some (.ref 0), none, none, some (.int p3), some (.int ((if (((p1 + p2) + 40) - 1) < (o2 1) then (((p1 + p2) + 40) - 1) else (o2 1)))), some (.int 0), some (.int p1)] [] (xof s0 [W_0, W_2 o2, W_3 a3, W_33 q6.1 q6.2]) _
        refine lv_X11_rights_0_66 s0 _ o2 a3 p3 ((if (((p1 + p2) + 40) - 1) < (o2 1) then (((p1 + p2) + 40) - 1) else (o2 1))) _ n 0 p1 q6.1 q6.2 _ hu13 ⟨fun z14 hz => ?_, fun z14 hz => ?_⟩
        · subst hz
          replace h := xsl h
          cases h
          exact ⟨rfl, rfl, rfl⟩
        subst hz
        replace h := xsr h
        refine x_iload_n dX11_rights_122 rfl ?_
        refine x_iconst (v := -1) dX11_rights_123 (by decide) ?_
        refine x_icmp_ne (tgt := 132) dX11_rights_124 (by decide) (fun c15 => ?_) (fun c15 => ?_)
        · replace h := xif_n c15 h
          refine x_iconst (v := -1) dX11_rights_132 (by decide) ?_
          cases h
          exact x_iret dX11_rights_133 ⟨rfl, rfl, rfl⟩
        · replace h := xif_p c15 h
          refine x_iload dX11_rights_127 rfl ?_
          refine x_goto (tgt := 133) dX11_rights_129 (by decide) ?_
          cases h
          exact x_iret dX11_rights_133 ⟨rfl, rfl, rfl⟩
      · replace h := xif_n c5 h
        refine x_bipush (v := -3) dX11_rights_30 (by decide) ?_
        cases h
        exact x_iret dX11_rights_32 ⟨rfl, rfl, rfl⟩
  · replace h := xif_p c2 h
    refine x_bipush (v := -2) dX11_rights_11 (by decide) ?_
    cases h
    exact x_iret dX11_rights_13 ⟨rfl, rfl, rfl⟩
def l_J7_fill_53178_34_5 (n : Nat) (l1 : Int32) (l3 : Int32) : Nat → (Int32) → (Nat → Int32) → Option (((Int32) × (Nat → Int32)))
  | 0, _, _ => none
  | k + 1, l2, a34 => (if l3 ≤ l2 then (some (l2, a34)) else (bif xin l2 424 then (l_J7_fill_53178_34_5 n l1 l3 k ((l2 + 1)) (upd a34 ((Int32.toNatClampNeg l2)) l1)) else none))
set_option maxRecDepth 100000 in
set_option maxHeartbeats 400000 in
theorem lv_J7_fill_53178_34_5 (s0 : XW) (n : Nat) (l1 : Int32) (l3 : Int32) (Q : Nat → Option Value → XW → Prop) : ∀ (k : Nat) (l2 : Int32) (a34 : Nat → Int32) (o : ((Int32) × (Nat → Int32))), l_J7_fill_53178_34_5 n l1 l3 k l2 a34 = some o → (V yJ7_fill_53178 cJ7_fill_53178 none 0 61 (0, 0) 20 [none, none, none, none] [] (xof s0 [W_34 o.2]) Q) → V yJ7_fill_53178 cJ7_fill_53178 none 0 61 (0, 0) 5 [some (.ref 34), some (.int l1), some (.int l2), some (.int l3)] [] (xof s0 [W_34 a34]) Q := by
  intro k
  induction k with
  | zero =>
    intro _ _ _ h
    simp [l_J7_fill_53178_34_5] at h
  | succ k ih =>
    intro l2 a34 o h hk
    rw [l_J7_fill_53178_34_5] at h
    refine x_iload_n dJ7_fill_53178_5 rfl ?_
    refine x_iload_n dJ7_fill_53178_6 rfl ?_
    refine x_icmp_ge (tgt := 20) dJ7_fill_53178_7 (by decide) (fun c1 => ?_) (fun c1 => ?_)
    · replace h := xif_p c1 h
      refine V.drop1 (i := 0) (ls' := [_, _, _, _]) rfl ?_
      refine V.drop1 (i := 1) (ls' := [_, _, _, _]) rfl ?_
      refine V.drop1 (i := 2) (ls' := [_, _, _, _]) rfl ?_
      refine V.drop1 (i := 3) (ls' := [_, _, _, _]) rfl ?_
      show V yJ7_fill_53178 cJ7_fill_53178 none 0 61 (0, 0) 20 [none, none, none, none] [] (xof s0 [W_34 a34]) _
      cases h
      exact hk
    · replace h := xif_n c1 h
      refine x_aload_n dJ7_fill_53178_10 rfl ?_
      refine x_iload_n dJ7_fill_53178_11 rfl ?_
      refine x_iload_n dJ7_fill_53178_12 rfl ?_
      obtain ⟨c2, h⟩ := xck h
      refine x_iastK (jn := (Int32.toNatClampNeg l2)) (L' := [(34, _)]) dJ7_fill_53178_13 (by decide) rfl (xin_ok c2) rfl rfl ?_
      refine x_iinc (v := l2 + 1) (ls' := [_, _, _, _]) dJ7_fill_53178_14 rfl rfl rfl rfl ?_
      refine x_goto (tgt := 5) dJ7_fill_53178_17 (by decide) ?_
      show V yJ7_fill_53178 cJ7_fill_53178 none 0 61 (0, 0) 5 [some (.ref 34), some (.int l1), some (.int ((l2 + 1))), some (.int l3)] [] (xof s0 [W_34 (upd a34 ((Int32.toNatClampNeg l2)) l1)]) _
      exact ih ((l2 + 1)) (upd a34 ((Int32.toNatClampNeg l2)) l1) _ h hk
def f_J7_fill_53178_34 (n : Nat) (a34 : Nat → Int32) (p1 : Int32) : Option (Nat → Int32) := (Option.bind (l_J7_fill_53178_34_5 n p1 424 n 0 a34) (fun u3 => (some u3.2)))
set_option maxRecDepth 100000 in
set_option maxHeartbeats 400000 in
theorem v_J7_fill_53178_34 (s0 : XW) (n : Nat) (a34 : Nat → Int32) (p1 : Int32) (q : Nat → Int32) (h : f_J7_fill_53178_34 n a34 p1 = some q) : C_J7_fill_53178 0 61 [.ref 34, .int p1] (xof s0 [W_34 a34]) none (xof s0 [W_34 q]) := by
  unfold f_J7_fill_53178_34 at h
  show V yJ7_fill_53178 cJ7_fill_53178 none 0 61 (0, 0) 0 [some (.ref 34), some (.int p1), none, none] [] (xof s0 [W_34 a34]) _
  refine x_iconst (v := 0) dJ7_fill_53178_0 (by decide) ?_
  refine x_istore_n (ls' := [_, _, _, _]) dJ7_fill_53178_1 rfl rfl ?_
  refine x_aload_n dJ7_fill_53178_2 rfl ?_
  refine x_alen (v := 424) dJ7_fill_53178_3 (by decide) rfl (by decide) rfl ?_
  refine x_istore_n (ls' := [_, _, _, _]) dJ7_fill_53178_4 rfl rfl ?_
  obtain ⟨u3, hu3, h⟩ := Option.bind_eq_some_iff.mp h
  show V yJ7_fill_53178 cJ7_fill_53178 none 0 61 (0, 0) 5 [some (.ref 34), some (.int p1), some (.int 0), some (.int 424)] [] (xof s0 [W_34 a34]) _
  refine lv_J7_fill_53178_34_5 s0 _ p1 424 _ n 0 a34 _ hu3 ?_
  cases h
  exact x_vret dJ7_fill_53178_20 ⟨rfl, rfl, rfl⟩
def f_X10_isFull_33 (o33 : Nat → Int32) (j33 : Int64)  : Option Int32 := (if (o33 2) < 40 then (some 0) else (some 1))
set_option maxRecDepth 100000 in
set_option maxHeartbeats 400000 in
theorem v_X10_isFull_33 (s0 : XW) (o33 : Nat → Int32) (j33 : Int64)  (q : Int32) (h : f_X10_isFull_33 o33 j33 = some q) : C_X10_isFull 0 61 [.ref 33] (xof s0 [W_33 o33 j33]) (some (.int q)) (xof s0 [W_33 o33 j33]) := by
  unfold f_X10_isFull_33 at h
  show V yX10_isFull cX10_isFull (some .boolean) 0 61 (0, 0) 0 [some (.ref 33)] [] (xof s0 [W_33 o33 j33]) _
  refine x_aload_n dX10_isFull_0 rfl ?_
  refine g_X10_19 rfl dX10_isFull_1 (by decide) rfl rfl ?_
  refine x_bipush (v := 40) dX10_isFull_4 (by decide) ?_
  refine x_icmp_lt (tgt := 13) dX10_isFull_6 (by decide) (fun c1 => ?_) (fun c1 => ?_)
  · replace h := xif_p c1 h
    refine x_iconst (v := 0) dX10_isFull_13 (by decide) ?_
    cases h
    exact x_zret dX10_isFull_14 (Or.inl rfl) ⟨rfl, rfl, rfl⟩
  · replace h := xif_n c1 h
    refine x_iconst (v := 1) dX10_isFull_9 (by decide) ?_
    refine x_goto (tgt := 14) dX10_isFull_10 (by decide) ?_
    cases h
    exact x_zret dX10_isFull_14 (Or.inr rfl) ⟨rfl, rfl, rfl⟩
def l_X11_tallyPhases_0_25 (n : Nat) (o2 : Nat → Int32) (a3 : Nat → Int32) (l1 : Int32) : Nat → (Int32) → (Int32) → (Nat → Int32) → (Int64) → (Nat → Int32) → Option (((Int32) × (Int32) × (Nat → Int32) × (Int64) × (Nat → Int32)))
  | 0, _, _, _, _, _ => none
  | k + 1, l2, l3, o33, j33, a34 => (if (o2 1) ≤ l3 then (some (l2, l3, o33, j33, a34)) else (Option.bind (f_X4_bitAt_2 o2 a3 l3) (fun q4 => (Option.bind (f_X10_push_33 o33 j33 q4) (fun q5 => (Option.bind (f_X10_isFull_33 q5.1 q5.2) (fun q6 => (if q6 = 0 then (l_X11_tallyPhases_0_25 n o2 a3 l1 k l2 ((l3 + 1)) q5.1 q5.2 a34) else (Option.bind (f_X10_looksRight_33 q5.1 q5.2) (fun q8 => (if q8 = 0 then (if l1 ≤ (l2 + 1) then (l_X11_tallyPhases_0_25 n o2 a3 l1 k 0 ((l3 + 1)) q5.1 q5.2 a34) else (l_X11_tallyPhases_0_25 n o2 a3 l1 k ((l2 + 1)) ((l3 + 1)) q5.1 q5.2 a34)) else (if 424 ≤ l2 then (if l1 ≤ (l2 + 1) then (l_X11_tallyPhases_0_25 n o2 a3 l1 k 0 ((l3 + 1)) q5.1 q5.2 a34) else (l_X11_tallyPhases_0_25 n o2 a3 l1 k ((l2 + 1)) ((l3 + 1)) q5.1 q5.2 a34)) else (bif xin l2 424 then (bif xin l2 424 then (if l1 ≤ (l2 + 1) then (l_X11_tallyPhases_0_25 n o2 a3 l1 k 0 ((l3 + 1)) q5.1 q5.2 (upd a34 ((Int32.toNatClampNeg l2)) (((a34 (Int32.toNatClampNeg l2)) + 1)))) else (l_X11_tallyPhases_0_25 n o2 a3 l1 k ((l2 + 1)) ((l3 + 1)) q5.1 q5.2 (upd a34 ((Int32.toNatClampNeg l2)) (((a34 (Int32.toNatClampNeg l2)) + 1))))) else none) else none)))))))))))))
set_option maxRecDepth 100000 in
set_option maxHeartbeats 400000 in
theorem lv_X11_tallyPhases_0_25 (s0 : XW) (n : Nat) (o2 : Nat → Int32) (a3 : Nat → Int32) (l1 : Int32) (Q : Nat → Option Value → XW → Prop) : ∀ (k : Nat) (l2 : Int32) (l3 : Int32) (o33 : Nat → Int32) (j33 : Int64) (a34 : Nat → Int32) (o : ((Int32) × (Int32) × (Nat → Int32) × (Int64) × (Nat → Int32))), l_X11_tallyPhases_0_25 n o2 a3 l1 k l2 l3 o33 j33 a34 = some o → (V yX11_tallyPhases cX11_tallyPhases none 2 61 (0, 0) 111 [none, none, none, none] [] (xof s0 [W_0, W_2 o2, W_3 a3, W_33 o.2.2.1 o.2.2.2.1, W_34 o.2.2.2.2]) Q) → V yX11_tallyPhases cX11_tallyPhases none 2 61 (0, 0) 25 [some (.ref 0), some (.int l1), some (.int l2), some (.int l3)] [] (xof s0 [W_0, W_2 o2, W_3 a3, W_33 o33 j33, W_34 a34]) Q := by
  intro k
  induction k with
  | zero =>
    intro _ _ _ _ _ _ h
    simp [l_X11_tallyPhases_0_25] at h
  | succ k ih =>
    intro l2 l3 o33 j33 a34 o h hk
    rw [l_X11_tallyPhases_0_25] at h
    refine x_iload_n dX11_tallyPhases_25 rfl ?_
    refine x_aload_n dX11_tallyPhases_26 rfl ?_
    refine g_X11_24 rfl dX11_tallyPhases_27 (by decide) rfl rfl ?_
    refine g_X11_96 rfl dX11_tallyPhases_30 (by decide) rfl rfl ?_
    refine x_icmp_ge (tgt := 111) dX11_tallyPhases_33 (by decide) (fun c3 => ?_) (fun c3 => ?_)
    · replace h := xif_p c3 h
      refine V.drop1 (i := 0) (ls' := [_, _, _, _]) rfl ?_
      refine V.drop1 (i := 1) (ls' := [_, _, _, _]) rfl ?_
      refine V.drop1 (i := 2) (ls' := [_, _, _, _]) rfl ?_
      refine V.drop1 (i := 3) (ls' := [_, _, _, _]) rfl ?_
      show V yX11_tallyPhases cX11_tallyPhases none 2 61 (0, 0) 111 [none, none, none, none] [] (xof s0 [W_0, W_2 o2, W_3 a3, W_33 o33 j33, W_34 a34]) _
      cases h
      exact hk
    · replace h := xif_n c3 h
      refine x_aload_n dX11_tallyPhases_36 rfl ?_
      refine g_X11_60 rfl dX11_tallyPhases_37 (by decide) rfl rfl ?_
      refine x_aload_n dX11_tallyPhases_40 rfl ?_
      refine g_X11_24 rfl dX11_tallyPhases_41 (by decide) rfl rfl ?_
      refine x_iload_n dX11_tallyPhases_44 rfl ?_
      obtain ⟨q4, hq4, h⟩ := Option.bind_eq_some_iff.mp h
      refine y_callVi (L' := [(0, _), (2, _), (3, _), (33, _), (34, _)]) mi_X4_bitAt ml_X11_131 im_X4_bitAt se_X4_bitAt (rfl : vwCl[3]? = _) dX11_tallyPhases_45 (fun s1 => v_X4_bitAt_2 s1 _ _ _ q4 hq4) (by decide) rfl (Nat.le_of_ble_eq_true rfl) rfl (by decide) (Nat.le_of_ble_eq_true rfl) rfl rfl rfl rfl ?_
      obtain ⟨q5, hq5, h⟩ := Option.bind_eq_some_iff.mp h
      refine y_callVv (L' := [(0, _), (2, _), (3, _), (33, _), (34, _)]) mi_X10_push ml_X11_289 im_X10_push se_X10_push (rfl : vwCl[9]? = _) dX11_tallyPhases_48 (fun s1 => v_X10_push_33 s1 _ _ _ q5 hq5) (by decide) rfl (Nat.le_of_ble_eq_true rfl) rfl (by decide) (Nat.le_of_ble_eq_true rfl) rfl rfl rfl rfl ?_
      refine x_aload_n dX11_tallyPhases_51 rfl ?_
      refine g_X11_60 rfl dX11_tallyPhases_52 (by decide) rfl rfl ?_
      obtain ⟨q6, hq6, h⟩ := Option.bind_eq_some_iff.mp h
      refine y_callVi (L' := [(0, _), (2, _), (3, _), (33, _), (34, _)]) mi_X10_isFull ml_X11_215 im_X10_isFull se_X10_isFull (rfl : vwCl[9]? = _) dX11_tallyPhases_55 (fun s1 => v_X10_isFull_33 s1 _ _ q6 hq6) (by decide) rfl (Nat.le_of_ble_eq_true rfl) rfl (by decide) (Nat.le_of_ble_eq_true rfl) rfl rfl rfl rfl ?_
      refine x_if_eq (tgt := 105) dX11_tallyPhases_58 (by decide) (fun c7 => ?_) (fun c7 => ?_)
      · replace h := xif_p c7 h
        refine x_iinc (v := l3 + 1) (ls' := [_, _, _, _]) dX11_tallyPhases_105 rfl rfl rfl rfl ?_
        refine x_goto (tgt := 25) dX11_tallyPhases_108 (by decide) ?_
        show V yX11_tallyPhases cX11_tallyPhases none 2 61 (0, 0) 25 [some (.ref 0), some (.int l1), some (.int l2), some (.int ((l3 + 1)))] [] (xof s0 [W_0, W_2 o2, W_3 a3, W_33 q5.1 q5.2, W_34 a34]) _
        exact ih l2 ((l3 + 1)) q5.1 q5.2 a34 _ h hk
      · replace h := xif_n c7 h
        refine x_aload_n dX11_tallyPhases_61 rfl ?_
        refine g_X11_60 rfl dX11_tallyPhases_62 (by decide) rfl rfl ?_
        obtain ⟨q8, hq8, h⟩ := Option.bind_eq_some_iff.mp h
        refine y_callVi (L' := [(0, _), (2, _), (3, _), (33, _), (34, _)]) mi_X10_looksRight ml_X11_292 im_X10_looksRight se_X10_looksRight (rfl : vwCl[9]? = _) dX11_tallyPhases_65 (fun s1 => v_X10_looksRight_33 s1 _ _ q8 hq8) (by decide) rfl (Nat.le_of_ble_eq_true rfl) rfl (by decide) (Nat.le_of_ble_eq_true rfl) rfl rfl rfl rfl ?_
        refine x_if_eq (tgt := 90) dX11_tallyPhases_68 (by decide) (fun c9 => ?_) (fun c9 => ?_)
        · replace h := xif_p c9 h
          refine x_iload_n dX11_tallyPhases_90 rfl ?_
          refine x_iconst (v := 1) dX11_tallyPhases_91 (by decide) ?_
          refine x_iadd dX11_tallyPhases_92 ?_
          refine x_iload_n dX11_tallyPhases_93 rfl ?_
          refine x_icmp_ge (tgt := 103) dX11_tallyPhases_94 (by decide) (fun c10 => ?_) (fun c10 => ?_)
          · replace h := xif_p c10 h
            refine x_iconst (v := 0) dX11_tallyPhases_103 (by decide) ?_
            refine x_istore_n (ls' := [_, _, _, _]) dX11_tallyPhases_104 rfl rfl ?_
            refine x_iinc (v := l3 + 1) (ls' := [_, _, _, _]) dX11_tallyPhases_105 rfl rfl rfl rfl ?_
            refine x_goto (tgt := 25) dX11_tallyPhases_108 (by decide) ?_
            show V yX11_tallyPhases cX11_tallyPhases none 2 61 (0, 0) 25 [some (.ref 0), some (.int l1), some (.int 0), some (.int ((l3 + 1)))] [] (xof s0 [W_0, W_2 o2, W_3 a3, W_33 q5.1 q5.2, W_34 a34]) _
            exact ih 0 ((l3 + 1)) q5.1 q5.2 a34 _ h hk
          · replace h := xif_n c10 h
            refine x_iload_n dX11_tallyPhases_97 rfl ?_
            refine x_iconst (v := 1) dX11_tallyPhases_98 (by decide) ?_
            refine x_iadd dX11_tallyPhases_99 ?_
            refine x_goto (tgt := 104) dX11_tallyPhases_100 (by decide) ?_
            refine x_istore_n (ls' := [_, _, _, _]) dX11_tallyPhases_104 rfl rfl ?_
            refine x_iinc (v := l3 + 1) (ls' := [_, _, _, _]) dX11_tallyPhases_105 rfl rfl rfl rfl ?_
            refine x_goto (tgt := 25) dX11_tallyPhases_108 (by decide) ?_
            show V yX11_tallyPhases cX11_tallyPhases none 2 61 (0, 0) 25 [some (.ref 0), some (.int l1), some (.int ((l2 + 1))), some (.int ((l3 + 1)))] [] (xof s0 [W_0, W_2 o2, W_3 a3, W_33 q5.1 q5.2, W_34 a34]) _
            exact ih ((l2 + 1)) ((l3 + 1)) q5.1 q5.2 a34 _ h hk
        · replace h := xif_n c9 h
          refine x_iload_n dX11_tallyPhases_71 rfl ?_
          refine x_aload_n dX11_tallyPhases_72 rfl ?_
          refine g_X11_64 rfl dX11_tallyPhases_73 (by decide) rfl rfl ?_
          refine x_alen (v := 424) dX11_tallyPhases_76 (by decide) rfl (by decide) rfl ?_
          refine x_icmp_ge (tgt := 90) dX11_tallyPhases_77 (by decide) (fun c11 => ?_) (fun c11 => ?_)
          · replace h := xif_p c11 h
            refine x_iload_n dX11_tallyPhases_90 rfl ?_
            refine x_iconst (v := 1) dX11_tallyPhases_91 (by decide) ?_
            refine x_iadd dX11_tallyPhases_92 ?_
            refine x_iload_n dX11_tallyPhases_93 rfl ?_
            refine x_icmp_ge (tgt := 103) dX11_tallyPhases_94 (by decide) (fun c12 => ?_) (fun c12 => ?_)
            · replace h := xif_p c12 h
              refine x_iconst (v := 0) dX11_tallyPhases_103 (by decide) ?_
              refine x_istore_n (ls' := [_, _, _, _]) dX11_tallyPhases_104 rfl rfl ?_
              refine x_iinc (v := l3 + 1) (ls' := [_, _, _, _]) dX11_tallyPhases_105 rfl rfl rfl rfl ?_
              refine x_goto (tgt := 25) dX11_tallyPhases_108 (by decide) ?_
              show V yX11_tallyPhases cX11_tallyPhases none 2 61 (0, 0) 25 [some (.ref 0), some (.int l1), some (.int 0), some (.int ((l3 + 1)))] [] (xof s0 [W_0, W_2 o2, W_3 a3, W_33 q5.1 q5.2, W_34 a34]) _
              exact ih 0 ((l3 + 1)) q5.1 q5.2 a34 _ h hk
            · replace h := xif_n c12 h
              refine x_iload_n dX11_tallyPhases_97 rfl ?_
              refine x_iconst (v := 1) dX11_tallyPhases_98 (by decide) ?_
              refine x_iadd dX11_tallyPhases_99 ?_
              refine x_goto (tgt := 104) dX11_tallyPhases_100 (by decide) ?_
              refine x_istore_n (ls' := [_, _, _, _]) dX11_tallyPhases_104 rfl rfl ?_
              refine x_iinc (v := l3 + 1) (ls' := [_, _, _, _]) dX11_tallyPhases_105 rfl rfl rfl rfl ?_
              refine x_goto (tgt := 25) dX11_tallyPhases_108 (by decide) ?_
              show V yX11_tallyPhases cX11_tallyPhases none 2 61 (0, 0) 25 [some (.ref 0), some (.int l1), some (.int ((l2 + 1))), some (.int ((l3 + 1)))] [] (xof s0 [W_0, W_2 o2, W_3 a3, W_33 q5.1 q5.2, W_34 a34]) _
              exact ih ((l2 + 1)) ((l3 + 1)) q5.1 q5.2 a34 _ h hk
          · replace h := xif_n c11 h
            refine x_aload_n dX11_tallyPhases_80 rfl ?_
            refine g_X11_64 rfl dX11_tallyPhases_81 (by decide) rfl rfl ?_
            refine x_iload_n dX11_tallyPhases_84 rfl ?_
            refine x_dup2 dX11_tallyPhases_85 rfl rfl ?_
            obtain ⟨c13, h⟩ := xck h
            refine x_ialdK (jn := (Int32.toNatClampNeg l2)) (v := (a34 (Int32.toNatClampNeg l2))) dX11_tallyPhases_86 (by decide) rfl (xin_ok c13) rfl rfl ?_
            refine x_iconst (v := 1) dX11_tallyPhases_87 (by decide) ?_
            refine x_iadd dX11_tallyPhases_88 ?_
            obtain ⟨c14, h⟩ := xck h
            refine x_iastK (jn := (Int32.toNatClampNeg l2)) (L' := [(0, _), (2, _), (3, _), (33, _), (34, _)]) dX11_tallyPhases_89 (by decide) rfl (xin_ok c14) rfl rfl ?_
            refine x_iload_n dX11_tallyPhases_90 rfl ?_
            refine x_iconst (v := 1) dX11_tallyPhases_91 (by decide) ?_
            refine x_iadd dX11_tallyPhases_92 ?_
            refine x_iload_n dX11_tallyPhases_93 rfl ?_
            refine x_icmp_ge (tgt := 103) dX11_tallyPhases_94 (by decide) (fun c15 => ?_) (fun c15 => ?_)
            · replace h := xif_p c15 h
              refine x_iconst (v := 0) dX11_tallyPhases_103 (by decide) ?_
              refine x_istore_n (ls' := [_, _, _, _]) dX11_tallyPhases_104 rfl rfl ?_
              refine x_iinc (v := l3 + 1) (ls' := [_, _, _, _]) dX11_tallyPhases_105 rfl rfl rfl rfl ?_
              refine x_goto (tgt := 25) dX11_tallyPhases_108 (by decide) ?_
              show V yX11_tallyPhases cX11_tallyPhases none 2 61 (0, 0) 25 [some (.ref 0), some (.int l1), some (.int 0), some (.int ((l3 + 1)))] [] (xof s0 [W_0, W_2 o2, W_3 a3, W_33 q5.1 q5.2, W_34 (upd a34 ((Int32.toNatClampNeg l2)) (((a34 (Int32.toNatClampNeg l2)) + 1)))]) _
              exact ih 0 ((l3 + 1)) q5.1 q5.2 (upd a34 ((Int32.toNatClampNeg l2)) (((a34 (Int32.toNatClampNeg l2)) + 1))) _ h hk
            · replace h := xif_n c15 h
              refine x_iload_n dX11_tallyPhases_97 rfl ?_
              refine x_iconst (v := 1) dX11_tallyPhases_98 (by decide) ?_
              refine x_iadd dX11_tallyPhases_99 ?_
              refine x_goto (tgt := 104) dX11_tallyPhases_100 (by decide) ?_
              refine x_istore_n (ls' := [_, _, _, _]) dX11_tallyPhases_104 rfl rfl ?_
              refine x_iinc (v := l3 + 1) (ls' := [_, _, _, _]) dX11_tallyPhases_105 rfl rfl rfl rfl ?_
              refine x_goto (tgt := 25) dX11_tallyPhases_108 (by decide) ?_
              show V yX11_tallyPhases cX11_tallyPhases none 2 61 (0, 0) 25 [some (.ref 0), some (.int l1), some (.int ((l2 + 1))), some (.int ((l3 + 1)))] [] (xof s0 [W_0, W_2 o2, W_3 a3, W_33 q5.1 q5.2, W_34 (upd a34 ((Int32.toNatClampNeg l2)) (((a34 (Int32.toNatClampNeg l2)) + 1)))]) _
              exact ih ((l2 + 1)) ((l3 + 1)) q5.1 q5.2 (upd a34 ((Int32.toNatClampNeg l2)) (((a34 (Int32.toNatClampNeg l2)) + 1))) _ h hk
def f_X11_tallyPhases_0 (n : Nat) (o2 : Nat → Int32) (a3 : Nat → Int32) (o33 : Nat → Int32) (j33 : Int64) (a34 : Nat → Int32) (p1 : Int32) : Option (((Nat → Int32) × (Int64) × (Nat → Int32))) := (Option.bind (f_J7_fill_53178_34 n a34 0) (fun q1 => (Option.bind (f_X10_clear_33 o33 j33) (fun q2 => (Option.bind (l_X11_tallyPhases_0_25 n o2 a3 p1 n 0 ((o2 2)) q2.1 q2.2 q1) (fun u16 => (some (u16.2.2.1, u16.2.2.2.1, u16.2.2.2.2))))))))
set_option maxRecDepth 100000 in
set_option maxHeartbeats 400000 in
theorem v_X11_tallyPhases_0 (s0 : XW) (n : Nat) (o2 : Nat → Int32) (a3 : Nat → Int32) (o33 : Nat → Int32) (j33 : Int64) (a34 : Nat → Int32) (p1 : Int32) (q : ((Nat → Int32) × (Int64) × (Nat → Int32))) (h : f_X11_tallyPhases_0 n o2 a3 o33 j33 a34 p1 = some q) : C_X11_tallyPhases 2 61 [.ref 0, .int p1] (xof s0 [W_0, W_2 o2, W_3 a3, W_33 o33 j33, W_34 a34]) none (xof s0 [W_0, W_2 o2, W_3 a3, W_33 q.1 q.2.1, W_34 q.2.2]) := by
  unfold f_X11_tallyPhases_0 at h
  show V yX11_tallyPhases cX11_tallyPhases none 2 61 (0, 0) 0 [some (.ref 0), some (.int p1), none, none] [] (xof s0 [W_0, W_2 o2, W_3 a3, W_33 o33 j33, W_34 a34]) _
  refine x_aload_n dX11_tallyPhases_0 rfl ?_
  refine g_X11_64 rfl dX11_tallyPhases_1 (by decide) rfl rfl ?_
  refine x_iconst (v := 0) dX11_tallyPhases_4 (by decide) ?_
  obtain ⟨q1, hq1, h⟩ := Option.bind_eq_some_iff.mp h
  refine y_callSv (L' := [(0, _), (2, _), (3, _), (33, _), (34, _)]) mi_J7_fill_53178 ml_X11_385 st_J7_fill_53178 dX11_tallyPhases_5 (fun s1 => v_J7_fill_53178_34 s1 n _ _ q1 hq1) (Nat.le_of_ble_eq_true rfl) rfl (by decide) (Nat.le_of_ble_eq_true rfl) rfl rfl rfl rfl ?_
  refine x_aload_n dX11_tallyPhases_8 rfl ?_
  refine g_X11_60 rfl dX11_tallyPhases_9 (by decide) rfl rfl ?_
  obtain ⟨q2, hq2, h⟩ := Option.bind_eq_some_iff.mp h
  refine y_callVv (L' := [(0, _), (2, _), (3, _), (33, _), (34, _)]) mi_X10_clear ml_X11_288 im_X10_clear se_X10_clear (rfl : vwCl[9]? = _) dX11_tallyPhases_12 (fun s1 => v_X10_clear_33 s1 _ _ q2 hq2) (by decide) rfl (Nat.le_of_ble_eq_true rfl) rfl (by decide) (Nat.le_of_ble_eq_true rfl) rfl rfl rfl rfl ?_
  refine x_iconst (v := 0) dX11_tallyPhases_15 (by decide) ?_
  refine x_istore_n (ls' := [_, _, _, _]) dX11_tallyPhases_16 rfl rfl ?_
  refine x_aload_n dX11_tallyPhases_17 rfl ?_
  refine g_X11_24 rfl dX11_tallyPhases_18 (by decide) rfl rfl ?_
  refine g_X11_125 rfl dX11_tallyPhases_21 (by decide) rfl rfl ?_
  refine x_istore_n (ls' := [_, _, _, _]) dX11_tallyPhases_24 rfl rfl ?_
  obtain ⟨u16, hu16, h⟩ := Option.bind_eq_some_iff.mp h
  show V yX11_tallyPhases cX11_tallyPhases none 2 61 (0, 0) 25 [some (.ref 0), some (.int p1), some (.int 0), some (.int ((o2 2)))] [] (xof s0 [W_0, W_2 o2, W_3 a3, W_33 q2.1 q2.2, W_34 q1]) _
  refine lv_X11_tallyPhases_0_25 s0 _ o2 a3 p1 _ n 0 ((o2 2)) q2.1 q2.2 q1 _ hu16 ?_
  cases h
  exact x_vret dX11_tallyPhases_111 ⟨rfl, rfl, rfl⟩
def l_X11_phase_0_35 (n : Nat) (a1 : Nat → Int32) (o2 : Nat → Int32) (a3 : Nat → Int32) (o33 : Nat → Int32) (j33 : Int64) (a34 : Nat → Int32) (l1 : Int32) (l2 : Int32) : Nat → (Int32) → (Int32) → Option (((Int32) × (Int32)))
  | 0, _, _ => none
  | k + 1, l3, l4 => (if l2 ≤ l4 then (some (l3, l4)) else (if 424 ≤ l4 then (some (l3, l4)) else (bif xin l4 424 then (bif xin l3 424 then (if (a34 (Int32.toNatClampNeg l4)) ≤ (a34 (Int32.toNatClampNeg l3)) then (l_X11_phase_0_35 n a1 o2 a3 o33 j33 a34 l1 l2 k l3 ((l4 + 1))) else (l_X11_phase_0_35 n a1 o2 a3 o33 j33 a34 l1 l2 k l4 ((l4 + 1)))) else none) else none)))
set_option maxRecDepth 100000 in
set_option maxHeartbeats 400000 in
theorem lv_X11_phase_0_35 (s0 : XW) (n : Nat) (a1 : Nat → Int32) (o2 : Nat → Int32) (a3 : Nat → Int32) (o33 : Nat → Int32) (j33 : Int64) (a34 : Nat → Int32) (l1 : Int32) (l2 : Int32) (Q : Nat → Option Value → XW → Prop) : ∀ (k : Nat) (l3 : Int32) (l4 : Int32) (o : ((Int32) × (Int32))), l_X11_phase_0_35 n a1 o2 a3 o33 j33 a34 l1 l2 k l3 l4 = some o → (V yX11_phase cX11_phase (some .int) 3 61 (0, 0) 76 [some (.ref 0), some (.int l1), none, some (.int o.1), none] [] (xof s0 [W_0, W_1 a1, W_2 o2, W_3 a3, W_33 o33 j33, W_34 a34]) Q) → V yX11_phase cX11_phase (some .int) 3 61 (0, 0) 35 [some (.ref 0), some (.int l1), some (.int l2), some (.int l3), some (.int l4)] [] (xof s0 [W_0, W_1 a1, W_2 o2, W_3 a3, W_33 o33 j33, W_34 a34]) Q := by
  intro k
  induction k with
  | zero =>
    intro _ _ _ h
    simp [l_X11_phase_0_35] at h
  | succ k ih =>
    intro l3 l4 o h hk
    rw [l_X11_phase_0_35] at h
    refine x_iload dX11_phase_35 rfl ?_
    refine x_iload_n dX11_phase_37 rfl ?_
    refine x_icmp_ge (tgt := 76) dX11_phase_38 (by decide) (fun c4 => ?_) (fun c4 => ?_)
    · replace h := xif_p c4 h
      refine V.drop1 (i := 2) (ls' := [_, _, _, _, _]) rfl ?_
      refine V.drop1 (i := 4) (ls' := [_, _, _, _, _]) rfl ?_
      show V yX11_phase cX11_phase (some .int) 3 61 (0, 0) 76 [some (.ref 0), some (.int l1), none, some (.int l3), none] [] (xof s0 [W_0, W_1 a1, W_2 o2, W_3 a3, W_33 o33 j33, W_34 a34]) _
      cases h
      exact hk
    · replace h := xif_n c4 h
      refine x_iload dX11_phase_41 rfl ?_
      refine x_aload_n dX11_phase_43 rfl ?_
      refine g_X11_64 rfl dX11_phase_44 (by decide) rfl rfl ?_
      refine x_alen (v := 424) dX11_phase_47 (by decide) rfl (by decide) rfl ?_
      refine x_icmp_ge (tgt := 76) dX11_phase_48 (by decide) (fun c5 => ?_) (fun c5 => ?_)
      · replace h := xif_p c5 h
        refine V.drop1 (i := 2) (ls' := [_, _, _, _, _]) rfl ?_
        refine V.drop1 (i := 4) (ls' := [_, _, _, _, _]) rfl ?_
        show V yX11_phase cX11_phase (some .int) 3 61 (0, 0) 76 [some (.ref 0), some (.int l1), none, some (.int l3), none] [] (xof s0 [W_0, W_1 a1, W_2 o2, W_3 a3, W_33 o33 j33, W_34 a34]) _
        cases h
        exact hk
      · replace h := xif_n c5 h
        refine x_aload_n dX11_phase_51 rfl ?_
        refine g_X11_64 rfl dX11_phase_52 (by decide) rfl rfl ?_
        refine x_iload dX11_phase_55 rfl ?_
        obtain ⟨c6, h⟩ := xck h
        refine x_ialdK (jn := (Int32.toNatClampNeg l4)) (v := (a34 (Int32.toNatClampNeg l4))) dX11_phase_57 (by decide) rfl (xin_ok c6) rfl rfl ?_
        refine x_aload_n dX11_phase_58 rfl ?_
        refine g_X11_64 rfl dX11_phase_59 (by decide) rfl rfl ?_
        refine x_iload_n dX11_phase_62 rfl ?_
        obtain ⟨c7, h⟩ := xck h
        refine x_ialdK (jn := (Int32.toNatClampNeg l3)) (v := (a34 (Int32.toNatClampNeg l3))) dX11_phase_63 (by decide) rfl (xin_ok c7) rfl rfl ?_
        refine x_icmp_le (tgt := 70) dX11_phase_64 (by decide) (fun c8 => ?_) (fun c8 => ?_)
        · replace h := xif_p c8 h
          refine x_iinc (v := l4 + 1) (ls' := [_, _, _, _, _]) dX11_phase_70 rfl rfl rfl rfl ?_
          refine x_goto (tgt := 35) dX11_phase_73 (by decide) ?_
          show V yX11_phase cX11_phase (some .int) 3 61 (0, 0) 35 [some (.ref 0), some (.int l1), some (.int l2), some (.int l3), some (.int ((l4 + 1)))] [] (xof s0 [W_0, W_1 a1, W_2 o2, W_3 a3, W_33 o33 j33, W_34 a34]) _
          exact ih l3 ((l4 + 1)) _ h hk
        · replace h := xif_n c8 h
          refine x_iload dX11_phase_67 rfl ?_
          refine x_istore_n (ls' := [_, _, _, _, _]) dX11_phase_69 rfl rfl ?_
          refine x_iinc (v := l4 + 1) (ls' := [_, _, _, _, _]) dX11_phase_70 rfl rfl rfl rfl ?_
          refine x_goto (tgt := 35) dX11_phase_73 (by decide) ?_
          show V yX11_phase cX11_phase (some .int) 3 61 (0, 0) 35 [some (.ref 0), some (.int l1), some (.int l2), some (.int l4), some (.int ((l4 + 1)))] [] (xof s0 [W_0, W_1 a1, W_2 o2, W_3 a3, W_33 o33 j33, W_34 a34]) _
          exact ih l4 ((l4 + 1)) _ h hk
def b_X11_phase_0_76 (n : Nat) (a1 : Nat → Int32) (o2 : Nat → Int32) (a3 : Nat → Int32) (o33 : Nat → Int32) (j33 : Int64) (a34 : Nat → Int32) (l1 : Int32) (l3 : Int32) : Option (((Int32) × (Nat → Int32) × (Int64) × (Nat → Int32))) := (bif xin l3 424 then (if (a34 (Int32.toNatClampNeg l3)) = 0 then (some ((-1), o33, j33, a34)) else (if l1 = 0 then (some (l3, o33, j33, a34)) else (bif xin l3 424 then (some ((a34 (Int32.toNatClampNeg l3)), o33, j33, a34)) else none))) else none)
set_option maxRecDepth 100000 in
set_option maxHeartbeats 400000 in
theorem vb_X11_phase_0_76 (s0 : XW) (n : Nat) (a1 : Nat → Int32) (o2 : Nat → Int32) (a3 : Nat → Int32) (o33 : Nat → Int32) (j33 : Int64) (a34 : Nat → Int32) (l1 : Int32) (l3 : Int32) (q : ((Int32) × (Nat → Int32) × (Int64) × (Nat → Int32))) (h : b_X11_phase_0_76 n a1 o2 a3 o33 j33 a34 l1 l3 = some q) : V yX11_phase cX11_phase (some .int) 3 61 (0, 0) 76 [some (.ref 0), some (.int l1), none, some (.int l3), none] [] (xof s0 [W_0, W_1 a1, W_2 o2, W_3 a3, W_33 o33 j33, W_34 a34]) (xq 61 (some (.int q.1)) (xof s0 [W_0, W_1 a1, W_2 o2, W_3 a3, W_33 q.2.1 q.2.2.1, W_34 q.2.2.2])) := by
  unfold b_X11_phase_0_76 at h
  refine x_aload_n dX11_phase_76 rfl ?_
  refine g_X11_64 rfl dX11_phase_77 (by decide) rfl rfl ?_
  refine x_iload_n dX11_phase_80 rfl ?_
  obtain ⟨c10, h⟩ := xck h
  refine x_ialdK (jn := (Int32.toNatClampNeg l3)) (v := (a34 (Int32.toNatClampNeg l3))) dX11_phase_81 (by decide) rfl (xin_ok c10) rfl rfl ?_
  refine x_if_ne (tgt := 87) dX11_phase_82 (by decide) (fun c11 => ?_) (fun c11 => ?_)
  · replace h := xif_n c11 h
    refine x_iload_n dX11_phase_87 rfl ?_
    refine x_if_ne (tgt := 95) dX11_phase_88 (by decide) (fun c12 => ?_) (fun c12 => ?_)
    · replace h := xif_n c12 h
      refine x_aload_n dX11_phase_95 rfl ?_
      refine g_X11_64 rfl dX11_phase_96 (by decide) rfl rfl ?_
      refine x_iload_n dX11_phase_99 rfl ?_
      obtain ⟨c13, h⟩ := xck h
      refine x_ialdK (jn := (Int32.toNatClampNeg l3)) (v := (a34 (Int32.toNatClampNeg l3))) dX11_phase_100 (by decide) rfl (xin_ok c13) rfl rfl ?_
      cases h
      exact x_iret dX11_phase_101 ⟨rfl, rfl, rfl⟩
    · replace h := xif_p c12 h
      refine x_iload_n dX11_phase_91 rfl ?_
      refine x_goto (tgt := 101) dX11_phase_92 (by decide) ?_
      cases h
      exact x_iret dX11_phase_101 ⟨rfl, rfl, rfl⟩
  · replace h := xif_p c11 h
    refine x_iconst (v := -1) dX11_phase_85 (by decide) ?_
    cases h
    exact x_iret dX11_phase_86 ⟨rfl, rfl, rfl⟩
def f_X11_phase_0 (n : Nat) (a1 : Nat → Int32) (o2 : Nat → Int32) (a3 : Nat → Int32) (o33 : Nat → Int32) (j33 : Int64) (a34 : Nat → Int32) (p1 : Int32) : Option (((Int32) × (Nat → Int32) × (Int64) × (Nat → Int32))) := (Option.bind (f_X11_isWithin p1 0 1) (fun q1 => (if q1 = 0 then (some ((-2), o33, j33, a34)) else (Option.bind (f_X11_tallyPhases_0 n o2 a3 o33 j33 a34 ((40 + (8 * (a1 0))))) (fun q3 => (Option.bind (l_X11_phase_0_35 n a1 o2 a3 q3.1 q3.2.1 q3.2.2 p1 ((40 + (8 * (a1 0)))) n 0 1) (fun u9 => (b_X11_phase_0_76 n a1 o2 a3 q3.1 q3.2.1 q3.2.2 p1 u9.1))))))))
set_option maxRecDepth 100000 in
set_option maxHeartbeats 400000 in
theorem v_X11_phase_0 (s0 : XW) (n : Nat) (a1 : Nat → Int32) (o2 : Nat → Int32) (a3 : Nat → Int32) (o33 : Nat → Int32) (j33 : Int64) (a34 : Nat → Int32) (p1 : Int32) (q : ((Int32) × (Nat → Int32) × (Int64) × (Nat → Int32))) (h : f_X11_phase_0 n a1 o2 a3 o33 j33 a34 p1 = some q) : C_X11_phase 3 61 [.ref 0, .int p1] (xof s0 [W_0, W_1 a1, W_2 o2, W_3 a3, W_33 o33 j33, W_34 a34]) (some (.int q.1)) (xof s0 [W_0, W_1 a1, W_2 o2, W_3 a3, W_33 q.2.1 q.2.2.1, W_34 q.2.2.2]) := by
  unfold f_X11_phase_0 at h
  show V yX11_phase cX11_phase (some .int) 3 61 (0, 0) 0 [some (.ref 0), some (.int p1), none, none, none] [] (xof s0 [W_0, W_1 a1, W_2 o2, W_3 a3, W_33 o33 j33, W_34 a34]) _
  refine x_iload_n dX11_phase_0 rfl ?_
  refine x_iconst (v := 0) dX11_phase_1 (by decide) ?_
  refine x_iconst (v := 1) dX11_phase_2 (by decide) ?_
  obtain ⟨q1, hq1, h⟩ := Option.bind_eq_some_iff.mp h
  refine y_callSi (L' := [(0, _), (1, _), (2, _), (3, _), (33, _), (34, _)]) mi_X11_isWithin ml_X11_100 st_X11_isWithin dX11_phase_3 (fun s1 => v_X11_isWithin 61 s1 _ _ _ q1 hq1) (Nat.le_of_ble_eq_true rfl) rfl (by decide) (Nat.le_of_ble_eq_true rfl) rfl rfl rfl rfl ?_
  refine x_if_ne (tgt := 12) dX11_phase_6 (by decide) (fun c2 => ?_) (fun c2 => ?_)
  · replace h := xif_n c2 h
    refine x_bipush (v := 40) dX11_phase_12 (by decide) ?_
    refine x_bipush (v := 8) dX11_phase_14 (by decide) ?_
    refine x_aload_n dX11_phase_16 rfl ?_
    refine g_X11_18 rfl dX11_phase_17 (by decide) rfl rfl ?_
    refine x_iconst (v := 0) dX11_phase_20 (by decide) ?_
    refine x_ialdK (jn := 0) (v := (a1 0)) dX11_phase_21 (by decide) rfl (xin_ok (by decide)) (by decide) rfl ?_
    refine x_imul dX11_phase_22 ?_
    refine x_iadd dX11_phase_23 ?_
    refine x_istore_n (ls' := [_, _, _, _, _]) dX11_phase_24 rfl rfl ?_
    refine x_aload_n dX11_phase_25 rfl ?_
    refine x_iload_n dX11_phase_26 rfl ?_
    obtain ⟨q3, hq3, h⟩ := Option.bind_eq_some_iff.mp h
    refine y_callVv (L' := [(0, _), (1, _), (2, _), (3, _), (33, _), (34, _)]) mi_X11_tallyPhases ml_X11_295 im_X11_tallyPhases se_X11_tallyPhases (rfl : vwCl[10]? = _) dX11_phase_27 (fun s1 => v_X11_tallyPhases_0 s1 n _ _ _ _ _ _ q3 hq3) (by decide) rfl (Nat.le_of_ble_eq_true rfl) rfl (by decide) (Nat.le_of_ble_eq_true rfl) rfl rfl rfl rfl ?_
    refine x_iconst (v := 0) dX11_phase_30 (by decide) ?_
    refine x_istore_n (ls' := [_, _, _, _, _]) dX11_phase_31 rfl rfl ?_
    refine x_iconst (v := 1) dX11_phase_32 (by decide) ?_
    refine x_istore (ls' := [_, _, _, _, _]) dX11_phase_33 rfl rfl ?_
    obtain ⟨u9, hu9, h⟩ := Option.bind_eq_some_iff.mp h
    show V yX11_phase cX11_phase (some .int) 3 61 (0, 0) 35 [some (.ref 0), some (.int p1), some (.int ((40 + (8 * (a1 0))))), some (.int 0), some (.int 1)] [] (xof s0 [W_0, W_1 a1, W_2 o2, W_3 a3, W_33 q3.1 q3.2.1, W_34 q3.2.2]) _
    refine lv_X11_phase_0_35 s0 _ a1 o2 a3 q3.1 q3.2.1 q3.2.2 p1 ((40 + (8 * (a1 0)))) _ n 0 1 _ hu9 ?_
    show V yX11_phase cX11_phase (some .int) 3 61 (0, 0) 76 [some (.ref 0), some (.int p1), none, some (.int u9.1), none] [] (xof s0 [W_0, W_1 a1, W_2 o2, W_3 a3, W_33 q3.1 q3.2.1, W_34 q3.2.2]) _
    exact vb_X11_phase_0_76 s0 n a1 o2 a3 q3.1 q3.2.1 q3.2.2 p1 u9.1 q h
  · replace h := xif_p c2 h
    refine x_bipush (v := -2) dX11_phase_9 (by decide) ?_
    cases h
    exact x_iret dX11_phase_11 ⟨rfl, rfl, rfl⟩
def l_X11_tuned_0_23 (n : Nat) (a1 : Nat → Int32) (o2 : Nat → Int32) (a3 : Nat → Int32) (o4 : Nat → Int32) (a6 : Nat → Int32) (a7 : Nat → Int32) (o16 : Nat → Int32) (a17 : Nat → Int32) (o18 : Nat → Int32) (j18 : Int64) (j19 : Int64) (a20 : Nat → Int32) (l1 : Int32) : Nat → (Int32) → (Int32) → (Int32) → (Nat → Int32) → (Nat → Int32) → (Nat → Int32) → (Nat → Int32) → (Int64) → (Int64) → (Nat → Int32) → Option (((Int32) × (Int32) × (Int32) × (Nat → Int32) × (Nat → Int32) × (Nat → Int32) × (Nat → Int32) × (Int64) × (Int64) × (Nat → Int32)))
  | 0, _, _, _, _, _, _, _, _, _, _ => none
  | k + 1, l2, l3, l4, o21, a22, a23, o24, j24, j25, a26 => (bif xin l1 7 then (if (xsf 1 (Int32.toNatClampNeg l1)) < l4 then (some (l2, l3, l4, o21, a22, a23, o24, j24, j25, a26)) else (Option.bind (f_X6_mirror_21_16 a1 o16 a17 o18 j18 j19 a20 o21 a22 a23 o24 j24 j25 a26) (fun q6 => (bif xin l1 7 then (Option.bind (f_X11_advance_0_21 n o2 a3 o4 a6 a7 q6.1 (upd q6.2.1 ((Int32.toNatClampNeg l1)) l4) q6.2.2.1 q6.2.2.2.1 q6.2.2.2.2.1 q6.2.2.2.2.2.1 q6.2.2.2.2.2.2 ((o2 1)) ((-1))) (fun q8 => (if l2 = (-1) then (l_X11_tuned_0_23 n a1 o2 a3 o4 a6 a7 o16 a17 o18 j18 j19 a20 l1 k l4 (((q8.2.1 3) - (2 * (q8.2.1 9)))) ((l4 + 1)) q8.1 (upd q6.2.1 ((Int32.toNatClampNeg l1)) l4) q8.2.1 q8.2.2.1 q8.2.2.2.1 q8.2.2.2.2.1 q8.2.2.2.2.2) else (if ((q8.2.1 3) - (2 * (q8.2.1 9))) ≤ l3 then (l_X11_tuned_0_23 n a1 o2 a3 o4 a6 a7 o16 a17 o18 j18 j19 a20 l1 k l2 l3 ((l4 + 1)) q8.1 (upd q6.2.1 ((Int32.toNatClampNeg l1)) l4) q8.2.1 q8.2.2.1 q8.2.2.2.1 q8.2.2.2.2.1 q8.2.2.2.2.2) else (l_X11_tuned_0_23 n a1 o2 a3 o4 a6 a7 o16 a17 o18 j18 j19 a20 l1 k l4 (((q8.2.1 3) - (2 * (q8.2.1 9)))) ((l4 + 1)) q8.1 (upd q6.2.1 ((Int32.toNatClampNeg l1)) l4) q8.2.1 q8.2.2.1 q8.2.2.2.1 q8.2.2.2.2.1 q8.2.2.2.2.2))))) else none)))) else none)
set_option maxRecDepth 100000 in
set_option maxHeartbeats 400000 in
theorem lv_X11_tuned_0_23 (s0 : XW) (n : Nat) (a1 : Nat → Int32) (o2 : Nat → Int32) (a3 : Nat → Int32) (o4 : Nat → Int32) (a6 : Nat → Int32) (a7 : Nat → Int32) (o16 : Nat → Int32) (a17 : Nat → Int32) (o18 : Nat → Int32) (j18 : Int64) (j19 : Int64) (a20 : Nat → Int32) (l1 : Int32) (Q : Nat → Option Value → XW → Prop) : ∀ (k : Nat) (l2 : Int32) (l3 : Int32) (l4 : Int32) (o21 : Nat → Int32) (a22 : Nat → Int32) (a23 : Nat → Int32) (o24 : Nat → Int32) (j24 : Int64) (j25 : Int64) (a26 : Nat → Int32) (o : ((Int32) × (Int32) × (Int32) × (Nat → Int32) × (Nat → Int32) × (Nat → Int32) × (Nat → Int32) × (Int64) × (Int64) × (Nat → Int32))), l_X11_tuned_0_23 n a1 o2 a3 o4 a6 a7 o16 a17 o18 j18 j19 a20 l1 k l2 l3 l4 o21 a22 a23 o24 j24 j25 a26 = some o → (V yX11_tuned cX11_tuned (some .int) 6 61 (0, 0) 118 [none, none, some (.int o.1), none, none, none] [] (xof s0 [W_0, W_1 a1, W_2 o2, W_3 a3, W_4 o4, W_6 a6, W_7 a7, W_16 o16, W_17 a17, W_18 o18 j18, W_19 j19, W_20 a20, W_21 o.2.2.2.1, W_22 o.2.2.2.2.1, W_23 o.2.2.2.2.2.1, W_24 o.2.2.2.2.2.2.1 o.2.2.2.2.2.2.2.1, W_25 o.2.2.2.2.2.2.2.2.1, W_26 o.2.2.2.2.2.2.2.2.2]) Q) → V yX11_tuned cX11_tuned (some .int) 6 61 (0, 0) 23 [some (.ref 0), some (.int l1), some (.int l2), some (.int l3), some (.int l4), none] [] (xof s0 [W_0, W_1 a1, W_2 o2, W_3 a3, W_4 o4, W_6 a6, W_7 a7, W_16 o16, W_17 a17, W_18 o18 j18, W_19 j19, W_20 a20, W_21 o21, W_22 a22, W_23 a23, W_24 o24 j24, W_25 j25, W_26 a26]) Q := by
  intro k
  induction k with
  | zero =>
    intro _ _ _ _ _ _ _ _ _ _ _ h
    simp [l_X11_tuned_0_23] at h
  | succ k ih =>
    intro l2 l3 l4 o21 a22 a23 o24 j24 j25 a26 o h hk
    rw [l_X11_tuned_0_23] at h
    refine x_iload dX11_tuned_23 rfl ?_
    refine x_gets 1 dX11_tuned_25 (by decide) fl_X11_154 ?_
    refine x_iload_n dX11_tuned_28 rfl ?_
    obtain ⟨c4, h⟩ := xck h
    refine x_sald 1 dX11_tuned_29 (by decide) (xin_ok c4) ?_
    refine x_icmp_gt (tgt := 118) dX11_tuned_30 (by decide) (fun c5 => ?_) (fun c5 => ?_)
    · replace h := xif_p c5 h
      refine V.drop1 (i := 0) (ls' := [_, _, _, _, _, _]) rfl ?_
      refine V.drop1 (i := 1) (ls' := [_, _, _, _, _, _]) rfl ?_
      refine V.drop1 (i := 3) (ls' := [_, _, _, _, _, _]) rfl ?_
      refine V.drop1 (i := 4) (ls' := [_, _, _, _, _, _]) rfl ?_
      show V yX11_tuned cX11_tuned (some .int) 6 61 (0, 0) 118 [none, none, some (.int l2), none, none, none] [] (xof s0 [W_0, W_1 a1, W_2 o2, W_3 a3, W_4 o4, W_6 a6, W_7 a7, W_16 o16, W_17 a17, W_18 o18 j18, W_19 j19, W_20 a20, W_21 o21, W_22 a22, W_23 a23, W_24 o24 j24, W_25 j25, W_26 a26]) _
      cases h
      exact hk
    · replace h := xif_n c5 h
      refine x_aload_n dX11_tuned_33 rfl ?_
      refine g_X11_51 rfl dX11_tuned_34 (by decide) rfl rfl ?_
      refine x_aload_n dX11_tuned_37 rfl ?_
      refine g_X11_47 rfl dX11_tuned_38 (by decide) rfl rfl ?_
      obtain ⟨q6, hq6, h⟩ := Option.bind_eq_some_iff.mp h
      refine y_callVv (L' := [(0, _), (1, _), (2, _), (3, _), (4, _), (6, _), (7, _), (16, _), (17, _), (18, _), (19, _), (20, _), (21, _), (22, _), (23, _), (24, _), (25, _), (26, _)]) mi_X6_mirror ml_X11_267 im_X6_mirror se_X6_mirror (rfl : vwCl[5]? = _) dX11_tuned_41 (fun s1 => v_X6_mirror_21_16 s1 _ _ _ _ _ _ _ _ _ _ _ _ _ _ q6 hq6) (by decide) rfl (Nat.le_of_ble_eq_true rfl) rfl (by decide) (Nat.le_of_ble_eq_true rfl) rfl rfl rfl rfl ?_
      refine x_aload_n dX11_tuned_44 rfl ?_
      refine g_X11_51 rfl dX11_tuned_45 (by decide) rfl rfl ?_
      refine g_X11_298 rfl dX11_tuned_48 (by decide) rfl rfl ?_
      refine x_iload_n dX11_tuned_51 rfl ?_
      refine x_iload dX11_tuned_52 rfl ?_
      obtain ⟨c7, h⟩ := xck h
      refine x_iastK (jn := (Int32.toNatClampNeg l1)) (L' := [(0, _), (1, _), (2, _), (3, _), (4, _), (6, _), (7, _), (16, _), (17, _), (18, _), (19, _), (20, _), (21, _), (22, _), (23, _), (24, _), (25, _), (26, _)]) dX11_tuned_54 (by decide) rfl (xin_ok c7) rfl rfl ?_
      refine x_aload_n dX11_tuned_55 rfl ?_
      refine x_aload_n dX11_tuned_56 rfl ?_
      refine g_X11_51 rfl dX11_tuned_57 (by decide) rfl rfl ?_
      refine x_aload_n dX11_tuned_60 rfl ?_
      refine g_X11_24 rfl dX11_tuned_61 (by decide) rfl rfl ?_
      refine g_X11_96 rfl dX11_tuned_64 (by decide) rfl rfl ?_
      refine x_iconst (v := -1) dX11_tuned_67 (by decide) ?_
      obtain ⟨q8, hq8, h⟩ := Option.bind_eq_some_iff.mp h
      refine y_callVv (L' := [(0, _), (1, _), (2, _), (3, _), (4, _), (6, _), (7, _), (16, _), (17, _), (18, _), (19, _), (20, _), (21, _), (22, _), (23, _), (24, _), (25, _), (26, _)]) mi_X11_advance ml_X11_164 im_X11_advance se_X11_advance (rfl : vwCl[10]? = _) dX11_tuned_68 (fun s1 => v_X11_advance_0_21 s1 n _ _ _ _ _ _ _ _ _ _ _ _ _ _ q8 hq8) (by decide) rfl (Nat.le_of_ble_eq_true rfl) rfl (by decide) (Nat.le_of_ble_eq_true rfl) rfl rfl rfl rfl ?_
      refine x_aload_n dX11_tuned_71 rfl ?_
      refine g_X11_51 rfl dX11_tuned_72 (by decide) rfl rfl ?_
      refine g_X11_171 rfl dX11_tuned_75 (by decide) rfl rfl ?_
      refine x_iconst (v := 3) dX11_tuned_78 (by decide) ?_
      refine x_ialdK (jn := 3) (v := (q8.2.1 3)) dX11_tuned_79 (by decide) rfl (xin_ok (by decide)) (by decide) rfl ?_
      refine x_iconst (v := 2) dX11_tuned_80 (by decide) ?_
      refine x_aload_n dX11_tuned_81 rfl ?_
      refine g_X11_51 rfl dX11_tuned_82 (by decide) rfl rfl ?_
      refine g_X11_171 rfl dX11_tuned_85 (by decide) rfl rfl ?_
      refine x_bipush (v := 9) dX11_tuned_88 (by decide) ?_
      refine x_ialdK (jn := 9) (v := (q8.2.1 9)) dX11_tuned_90 (by decide) rfl (xin_ok (by decide)) (by decide) rfl ?_
      refine x_imul dX11_tuned_91 ?_
      refine x_isub dX11_tuned_92 ?_
      refine x_istore (ls' := [_, _, _, _, _, _]) dX11_tuned_93 rfl rfl ?_
      refine x_iload_n dX11_tuned_95 rfl ?_
      refine x_iconst (v := -1) dX11_tuned_96 (by decide) ?_
      refine x_icmp_eq (tgt := 106) dX11_tuned_97 (by decide) (fun c9 => ?_) (fun c9 => ?_)
      · replace h := xif_p c9 h
        refine x_iload dX11_tuned_106 rfl ?_
        refine x_istore_n (ls' := [_, _, _, _, _, _]) dX11_tuned_108 rfl rfl ?_
        refine x_iload dX11_tuned_109 rfl ?_
        refine x_istore_n (ls' := [_, _, _, _, _, _]) dX11_tuned_111 rfl rfl ?_
        refine x_iinc (v := l4 + 1) (ls' := [_, _, _, _, _, _]) dX11_tuned_112 rfl rfl rfl rfl ?_
        refine x_goto (tgt := 23) dX11_tuned_115 (by decide) ?_
        refine V.drop1 (i := 5) (ls' := [_, _, _, _, _, _]) rfl ?_
        show V yX11_tuned cX11_tuned (some .int) 6 61 (0, 0) 23 [some (.ref 0), some (.int l1), some (.int l4), some (.int (((q8.2.1 3) - (2 * (q8.2.1 9))))), some (.int ((l4 + 1))), none] [] (xof s0 [W_0, W_1 a1, W_2 o2, W_3 a3, W_4 o4, W_6 a6, W_7 a7, W_16 o16, W_17 a17, W_18 o18 j18, W_19 j19, W_20 a20, W_21 q8.1, W_22 (upd q6.2.1 ((Int32.toNatClampNeg l1)) l4), W_23 q8.2.1, W_24 q8.2.2.1 q8.2.2.2.1, W_25 q8.2.2.2.2.1, W_26 q8.2.2.2.2.2]) _
        exact ih l4 (((q8.2.1 3) - (2 * (q8.2.1 9)))) ((l4 + 1)) q8.1 (upd q6.2.1 ((Int32.toNatClampNeg l1)) l4) q8.2.1 q8.2.2.1 q8.2.2.2.1 q8.2.2.2.2.1 q8.2.2.2.2.2 _ h hk
      · replace h := xif_n c9 h
        refine x_iload dX11_tuned_100 rfl ?_
        refine x_iload_n dX11_tuned_102 rfl ?_
        refine x_icmp_le (tgt := 112) dX11_tuned_103 (by decide) (fun c10 => ?_) (fun c10 => ?_)
        · replace h := xif_p c10 h
          refine x_iinc (v := l4 + 1) (ls' := [_, _, _, _, _, _]) dX11_tuned_112 rfl rfl rfl rfl ?_
          refine x_goto (tgt := 23) dX11_tuned_115 (by decide) ?_
          refine V.drop1 (i := 5) (ls' := [_, _, _, _, _, _]) rfl ?_
          show V yX11_tuned cX11_tuned (some .int) 6 61 (0, 0) 23 [some (.ref 0), some (.int l1), some (.int l2), some (.int l3), some (.int ((l4 + 1))), none] [] (xof s0 [W_0, W_1 a1, W_2 o2, W_3 a3, W_4 o4, W_6 a6, W_7 a7, W_16 o16, W_17 a17, W_18 o18 j18, W_19 j19, W_20 a20, W_21 q8.1, W_22 (upd q6.2.1 ((Int32.toNatClampNeg l1)) l4), W_23 q8.2.1, W_24 q8.2.2.1 q8.2.2.2.1, W_25 q8.2.2.2.2.1, W_26 q8.2.2.2.2.2]) _
          exact ih l2 l3 ((l4 + 1)) q8.1 (upd q6.2.1 ((Int32.toNatClampNeg l1)) l4) q8.2.1 q8.2.2.1 q8.2.2.2.1 q8.2.2.2.2.1 q8.2.2.2.2.2 _ h hk
        · replace h := xif_n c10 h
          refine x_iload dX11_tuned_106 rfl ?_
          refine x_istore_n (ls' := [_, _, _, _, _, _]) dX11_tuned_108 rfl rfl ?_
          refine x_iload dX11_tuned_109 rfl ?_
          refine x_istore_n (ls' := [_, _, _, _, _, _]) dX11_tuned_111 rfl rfl ?_
          refine x_iinc (v := l4 + 1) (ls' := [_, _, _, _, _, _]) dX11_tuned_112 rfl rfl rfl rfl ?_
          refine x_goto (tgt := 23) dX11_tuned_115 (by decide) ?_
          refine V.drop1 (i := 5) (ls' := [_, _, _, _, _, _]) rfl ?_
          show V yX11_tuned cX11_tuned (some .int) 6 61 (0, 0) 23 [some (.ref 0), some (.int l1), some (.int l4), some (.int (((q8.2.1 3) - (2 * (q8.2.1 9))))), some (.int ((l4 + 1))), none] [] (xof s0 [W_0, W_1 a1, W_2 o2, W_3 a3, W_4 o4, W_6 a6, W_7 a7, W_16 o16, W_17 a17, W_18 o18 j18, W_19 j19, W_20 a20, W_21 q8.1, W_22 (upd q6.2.1 ((Int32.toNatClampNeg l1)) l4), W_23 q8.2.1, W_24 q8.2.2.1 q8.2.2.2.1, W_25 q8.2.2.2.2.1, W_26 q8.2.2.2.2.2]) _
          exact ih l4 (((q8.2.1 3) - (2 * (q8.2.1 9)))) ((l4 + 1)) q8.1 (upd q6.2.1 ((Int32.toNatClampNeg l1)) l4) q8.2.1 q8.2.2.1 q8.2.2.2.1 q8.2.2.2.2.1 q8.2.2.2.2.2 _ h hk
def f_X11_tuned_0 (n : Nat) (a1 : Nat → Int32) (o2 : Nat → Int32) (a3 : Nat → Int32) (o4 : Nat → Int32) (a6 : Nat → Int32) (a7 : Nat → Int32) (o16 : Nat → Int32) (a17 : Nat → Int32) (o18 : Nat → Int32) (j18 : Int64) (j19 : Int64) (a20 : Nat → Int32) (o21 : Nat → Int32) (a22 : Nat → Int32) (a23 : Nat → Int32) (o24 : Nat → Int32) (j24 : Int64) (j25 : Int64) (a26 : Nat → Int32) (p1 : Int32) : Option (((Int32) × (Nat → Int32) × (Nat → Int32) × (Nat → Int32) × (Nat → Int32) × (Int64) × (Int64) × (Nat → Int32))) := (Option.bind (f_X11_isWithin p1 1 3) (fun q1 => (if q1 = 0 then (some ((-2), o21, a22, a23, o24, j24, j25, a26)) else (bif xin p1 7 then (Option.bind (l_X11_tuned_0_23 n a1 o2 a3 o4 a6 a7 o16 a17 o18 j18 j19 a20 p1 n ((-1)) 0 ((xsf 0 (Int32.toNatClampNeg p1))) o21 a22 a23 o24 j24 j25 a26) (fun u11 => (some (u11.1, u11.2.2.2.1, u11.2.2.2.2.1, u11.2.2.2.2.2.1, u11.2.2.2.2.2.2.1, u11.2.2.2.2.2.2.2.1, u11.2.2.2.2.2.2.2.2.1, u11.2.2.2.2.2.2.2.2.2)))) else none))))
set_option maxRecDepth 100000 in
set_option maxHeartbeats 400000 in
theorem v_X11_tuned_0 (s0 : XW) (n : Nat) (a1 : Nat → Int32) (o2 : Nat → Int32) (a3 : Nat → Int32) (o4 : Nat → Int32) (a6 : Nat → Int32) (a7 : Nat → Int32) (o16 : Nat → Int32) (a17 : Nat → Int32) (o18 : Nat → Int32) (j18 : Int64) (j19 : Int64) (a20 : Nat → Int32) (o21 : Nat → Int32) (a22 : Nat → Int32) (a23 : Nat → Int32) (o24 : Nat → Int32) (j24 : Int64) (j25 : Int64) (a26 : Nat → Int32) (p1 : Int32) (q : ((Int32) × (Nat → Int32) × (Nat → Int32) × (Nat → Int32) × (Nat → Int32) × (Int64) × (Int64) × (Nat → Int32))) (h : f_X11_tuned_0 n a1 o2 a3 o4 a6 a7 o16 a17 o18 j18 j19 a20 o21 a22 a23 o24 j24 j25 a26 p1 = some q) : C_X11_tuned 6 61 [.ref 0, .int p1] (xof s0 [W_0, W_1 a1, W_2 o2, W_3 a3, W_4 o4, W_6 a6, W_7 a7, W_16 o16, W_17 a17, W_18 o18 j18, W_19 j19, W_20 a20, W_21 o21, W_22 a22, W_23 a23, W_24 o24 j24, W_25 j25, W_26 a26]) (some (.int q.1)) (xof s0 [W_0, W_1 a1, W_2 o2, W_3 a3, W_4 o4, W_6 a6, W_7 a7, W_16 o16, W_17 a17, W_18 o18 j18, W_19 j19, W_20 a20, W_21 q.2.1, W_22 q.2.2.1, W_23 q.2.2.2.1, W_24 q.2.2.2.2.1 q.2.2.2.2.2.1, W_25 q.2.2.2.2.2.2.1, W_26 q.2.2.2.2.2.2.2]) := by
  unfold f_X11_tuned_0 at h
  show V yX11_tuned cX11_tuned (some .int) 6 61 (0, 0) 0 [some (.ref 0), some (.int p1), none, none, none, none] [] (xof s0 [W_0, W_1 a1, W_2 o2, W_3 a3, W_4 o4, W_6 a6, W_7 a7, W_16 o16, W_17 a17, W_18 o18 j18, W_19 j19, W_20 a20, W_21 o21, W_22 a22, W_23 a23, W_24 o24 j24, W_25 j25, W_26 a26]) _
  refine x_iload_n dX11_tuned_0 rfl ?_
  refine x_iconst (v := 1) dX11_tuned_1 (by decide) ?_
  refine x_iconst (v := 3) dX11_tuned_2 (by decide) ?_
  obtain ⟨q1, hq1, h⟩ := Option.bind_eq_some_iff.mp h
  refine y_callSi (L' := [(0, _), (1, _), (2, _), (3, _), (4, _), (6, _), (7, _), (16, _), (17, _), (18, _), (19, _), (20, _), (21, _), (22, _), (23, _), (24, _), (25, _), (26, _)]) mi_X11_isWithin ml_X11_100 st_X11_isWithin dX11_tuned_3 (fun s1 => v_X11_isWithin 61 s1 _ _ _ q1 hq1) (Nat.le_of_ble_eq_true rfl) rfl (by decide) (Nat.le_of_ble_eq_true rfl) rfl rfl rfl rfl ?_
  refine x_if_ne (tgt := 12) dX11_tuned_6 (by decide) (fun c2 => ?_) (fun c2 => ?_)
  · replace h := xif_n c2 h
    refine x_iconst (v := -1) dX11_tuned_12 (by decide) ?_
    refine x_istore_n (ls' := [_, _, _, _, _, _]) dX11_tuned_13 rfl rfl ?_
    refine x_iconst (v := 0) dX11_tuned_14 (by decide) ?_
    refine x_istore_n (ls' := [_, _, _, _, _, _]) dX11_tuned_15 rfl rfl ?_
    refine x_gets 0 dX11_tuned_16 (by decide) fl_X11_151 ?_
    refine x_iload_n dX11_tuned_19 rfl ?_
    obtain ⟨c3, h⟩ := xck h
    refine x_sald 0 dX11_tuned_20 (by decide) (xin_ok c3) ?_
    refine x_istore (ls' := [_, _, _, _, _, _]) dX11_tuned_21 rfl rfl ?_
    obtain ⟨u11, hu11, h⟩ := Option.bind_eq_some_iff.mp h
    show V yX11_tuned cX11_tuned (some .int) 6 61 (0, 0) 23 [some (.ref 0), some (.int p1), some (.int ((-1))), some (.int 0), some (.int ((xsf 0 (Int32.toNatClampNeg p1)))), none] [] (xof s0 [W_0, W_1 a1, W_2 o2, W_3 a3, W_4 o4, W_6 a6, W_7 a7, W_16 o16, W_17 a17, W_18 o18 j18, W_19 j19, W_20 a20, W_21 o21, W_22 a22, W_23 a23, W_24 o24 j24, W_25 j25, W_26 a26]) _
    refine lv_X11_tuned_0_23 s0 _ a1 o2 a3 o4 a6 a7 o16 a17 o18 j18 j19 a20 p1 _ n ((-1)) 0 ((xsf 0 (Int32.toNatClampNeg p1))) o21 a22 a23 o24 j24 j25 a26 _ hu11 ?_
    refine x_iload_n dX11_tuned_118 rfl ?_
    cases h
    exact x_iret dX11_tuned_119 ⟨rfl, rfl, rfl⟩
  · replace h := xif_p c2 h
    refine x_bipush (v := -2) dX11_tuned_9 (by decide) ?_
    cases h
    exact x_iret dX11_tuned_11 ⟨rfl, rfl, rfl⟩
def l_J7_fill_53178_23_5 (n : Nat) (l1 : Int32) (l3 : Int32) : Nat → (Int32) → (Nat → Int32) → Option (((Int32) × (Nat → Int32)))
  | 0, _, _ => none
  | k + 1, l2, a23 => (if l3 ≤ l2 then (some (l2, a23)) else (bif xin l2 14 then (l_J7_fill_53178_23_5 n l1 l3 k ((l2 + 1)) (upd a23 ((Int32.toNatClampNeg l2)) l1)) else none))
set_option maxRecDepth 100000 in
set_option maxHeartbeats 400000 in
theorem lv_J7_fill_53178_23_5 (s0 : XW) (n : Nat) (l1 : Int32) (l3 : Int32) (Q : Nat → Option Value → XW → Prop) : ∀ (k : Nat) (l2 : Int32) (a23 : Nat → Int32) (o : ((Int32) × (Nat → Int32))), l_J7_fill_53178_23_5 n l1 l3 k l2 a23 = some o → (V yJ7_fill_53178 cJ7_fill_53178 none 0 61 (0, 0) 20 [none, none, none, none] [] (xof s0 [W_23 o.2]) Q) → V yJ7_fill_53178 cJ7_fill_53178 none 0 61 (0, 0) 5 [some (.ref 23), some (.int l1), some (.int l2), some (.int l3)] [] (xof s0 [W_23 a23]) Q := by
  intro k
  induction k with
  | zero =>
    intro _ _ _ h
    simp [l_J7_fill_53178_23_5] at h
  | succ k ih =>
    intro l2 a23 o h hk
    rw [l_J7_fill_53178_23_5] at h
    refine x_iload_n dJ7_fill_53178_5 rfl ?_
    refine x_iload_n dJ7_fill_53178_6 rfl ?_
    refine x_icmp_ge (tgt := 20) dJ7_fill_53178_7 (by decide) (fun c1 => ?_) (fun c1 => ?_)
    · replace h := xif_p c1 h
      refine V.drop1 (i := 0) (ls' := [_, _, _, _]) rfl ?_
      refine V.drop1 (i := 1) (ls' := [_, _, _, _]) rfl ?_
      refine V.drop1 (i := 2) (ls' := [_, _, _, _]) rfl ?_
      refine V.drop1 (i := 3) (ls' := [_, _, _, _]) rfl ?_
      show V yJ7_fill_53178 cJ7_fill_53178 none 0 61 (0, 0) 20 [none, none, none, none] [] (xof s0 [W_23 a23]) _
      cases h
      exact hk
    · replace h := xif_n c1 h
      refine x_aload_n dJ7_fill_53178_10 rfl ?_
      refine x_iload_n dJ7_fill_53178_11 rfl ?_
      refine x_iload_n dJ7_fill_53178_12 rfl ?_
      obtain ⟨c2, h⟩ := xck h
      refine x_iastK (jn := (Int32.toNatClampNeg l2)) (L' := [(23, _)]) dJ7_fill_53178_13 (by decide) rfl (xin_ok c2) rfl rfl ?_
      refine x_iinc (v := l2 + 1) (ls' := [_, _, _, _]) dJ7_fill_53178_14 rfl rfl rfl rfl ?_
      refine x_goto (tgt := 5) dJ7_fill_53178_17 (by decide) ?_
      show V yJ7_fill_53178 cJ7_fill_53178 none 0 61 (0, 0) 5 [some (.ref 23), some (.int l1), some (.int ((l2 + 1))), some (.int l3)] [] (xof s0 [W_23 (upd a23 ((Int32.toNatClampNeg l2)) l1)]) _
      exact ih ((l2 + 1)) (upd a23 ((Int32.toNatClampNeg l2)) l1) _ h hk
def f_J7_fill_53178_23 (n : Nat) (a23 : Nat → Int32) (p1 : Int32) : Option (Nat → Int32) := (Option.bind (l_J7_fill_53178_23_5 n p1 14 n 0 a23) (fun u3 => (some u3.2)))
set_option maxRecDepth 100000 in
set_option maxHeartbeats 400000 in
theorem v_J7_fill_53178_23 (s0 : XW) (n : Nat) (a23 : Nat → Int32) (p1 : Int32) (q : Nat → Int32) (h : f_J7_fill_53178_23 n a23 p1 = some q) : C_J7_fill_53178 0 61 [.ref 23, .int p1] (xof s0 [W_23 a23]) none (xof s0 [W_23 q]) := by
  unfold f_J7_fill_53178_23 at h
  show V yJ7_fill_53178 cJ7_fill_53178 none 0 61 (0, 0) 0 [some (.ref 23), some (.int p1), none, none] [] (xof s0 [W_23 a23]) _
  refine x_iconst (v := 0) dJ7_fill_53178_0 (by decide) ?_
  refine x_istore_n (ls' := [_, _, _, _]) dJ7_fill_53178_1 rfl rfl ?_
  refine x_aload_n dJ7_fill_53178_2 rfl ?_
  refine x_alen (v := 14) dJ7_fill_53178_3 (by decide) rfl (by decide) rfl ?_
  refine x_istore_n (ls' := [_, _, _, _]) dJ7_fill_53178_4 rfl rfl ?_
  obtain ⟨u3, hu3, h⟩ := Option.bind_eq_some_iff.mp h
  show V yJ7_fill_53178 cJ7_fill_53178 none 0 61 (0, 0) 5 [some (.ref 23), some (.int p1), some (.int 0), some (.int 14)] [] (xof s0 [W_23 a23]) _
  refine lv_J7_fill_53178_23_5 s0 _ p1 14 _ n 0 a23 _ hu3 ?_
  cases h
  exact x_vret dJ7_fill_53178_20 ⟨rfl, rfl, rfl⟩
def f_X10_clear_24 (o24 : Nat → Int32) (j24 : Int64)  : Option (((Nat → Int32) × (Int64))) := (some (upd (upd o24 1 0) 2 0, 0))
set_option maxRecDepth 100000 in
set_option maxHeartbeats 400000 in
theorem v_X10_clear_24 (s0 : XW) (o24 : Nat → Int32) (j24 : Int64)  (q : ((Nat → Int32) × (Int64))) (h : f_X10_clear_24 o24 j24 = some q) : C_X10_clear 0 61 [.ref 24] (xof s0 [W_24 o24 j24]) none (xof s0 [W_24 q.1 q.2]) := by
  unfold f_X10_clear_24 at h
  show V yX10_clear cX10_clear none 0 61 (0, 0) 0 [some (.ref 24)] [] (xof s0 [W_24 o24 j24]) _
  refine x_aload_n dX10_clear_0 rfl ?_
  refine x_lconst (v := 0) dX10_clear_1 (by decide) ?_
  refine p_X10_9 (fs' := [_, _, _]) (L' := [(24, _)]) rfl dX10_clear_2 (by decide) rfl (Nat.le_of_ble_eq_true rfl) rfl rfl ?_
  refine x_aload_n dX10_clear_5 rfl ?_
  refine x_iconst (v := 0) dX10_clear_6 (by decide) ?_
  refine p_X10_15 (fs' := [_, _, _]) (L' := [(24, _)]) rfl dX10_clear_7 (by decide) rfl (Nat.le_of_ble_eq_true rfl) rfl rfl ?_
  refine x_aload_n dX10_clear_10 rfl ?_
  refine x_iconst (v := 0) dX10_clear_11 (by decide) ?_
  refine p_X10_19 (fs' := [_, _, _]) (L' := [(24, _)]) rfl dX10_clear_12 (by decide) rfl (Nat.le_of_ble_eq_true rfl) rfl rfl ?_
  cases h
  exact x_vret dX10_clear_15 ⟨rfl, rfl, rfl⟩
def f_X2_clear_25 (j25 : Int64)  : Option Int64 := (some 0)
set_option maxRecDepth 100000 in
set_option maxHeartbeats 400000 in
theorem v_X2_clear_25 (s0 : XW) (j25 : Int64)  (q : Int64) (h : f_X2_clear_25 j25 = some q) : C_X2_clear 0 61 [.ref 25] (xof s0 [W_25 j25]) none (xof s0 [W_25 q]) := by
  unfold f_X2_clear_25 at h
  show V yX2_clear cX2_clear none 0 61 (0, 0) 0 [some (.ref 25)] [] (xof s0 [W_25 j25]) _
  refine x_aload_n dX2_clear_0 rfl ?_
  refine x_lconst (v := 0) dX2_clear_1 (by decide) ?_
  refine p_X2_9 (fs' := [_]) (L' := [(25, _)]) rfl dX2_clear_2 (by decide) rfl (Nat.le_of_ble_eq_true rfl) rfl rfl ?_
  cases h
  exact x_vret dX2_clear_5 ⟨rfl, rfl, rfl⟩
def f_X6_restart_21 (n : Nat) (o21 : Nat → Int32) (a23 : Nat → Int32) (o24 : Nat → Int32) (j24 : Int64) (j25 : Int64)  : Option (((Nat → Int32) × (Nat → Int32) × (Nat → Int32) × (Int64) × (Int64))) := (Option.bind (f_J7_fill_53178_23 n a23 0) (fun q1 => (Option.bind (f_X10_clear_24 o24 j24) (fun q2 => (Option.bind (f_X2_clear_25 j25) (fun q3 => (some (upd (upd (upd (upd (upd (upd (upd (upd (upd o21 7 0) 8 0) 9 0) 10 0) 11 0) 12 0) 13 0) 14 0) 15 0, q1, q2.1, q2.2, q3))))))))
set_option maxRecDepth 100000 in
set_option maxHeartbeats 400000 in
theorem v_X6_restart_21 (s0 : XW) (n : Nat) (o21 : Nat → Int32) (a23 : Nat → Int32) (o24 : Nat → Int32) (j24 : Int64) (j25 : Int64)  (q : ((Nat → Int32) × (Nat → Int32) × (Nat → Int32) × (Int64) × (Int64))) (h : f_X6_restart_21 n o21 a23 o24 j24 j25 = some q) : C_X6_restart 1 61 [.ref 21] (xof s0 [W_21 o21, W_23 a23, W_24 o24 j24, W_25 j25]) none (xof s0 [W_21 q.1, W_23 q.2.1, W_24 q.2.2.1 q.2.2.2.1, W_25 q.2.2.2.2]) := by
  unfold f_X6_restart_21 at h
  show V yX6_restart cX6_restart none 1 61 (0, 0) 0 [some (.ref 21)] [] (xof s0 [W_21 o21, W_23 a23, W_24 o24 j24, W_25 j25]) _
  refine x_aload_n dX6_restart_0 rfl ?_
  refine g_X6_9 rfl dX6_restart_1 (by decide) rfl rfl ?_
  refine x_iconst (v := 0) dX6_restart_4 (by decide) ?_
  obtain ⟨q1, hq1, h⟩ := Option.bind_eq_some_iff.mp h
  refine y_callSv (L' := [(21, _), (23, _), (24, _), (25, _)]) mi_J7_fill_53178 ml_X6_44 st_J7_fill_53178 dX6_restart_5 (fun s1 => v_J7_fill_53178_23 s1 n _ _ q1 hq1) (Nat.le_of_ble_eq_true rfl) rfl (by decide) (Nat.le_of_ble_eq_true rfl) rfl rfl rfl rfl ?_
  refine x_aload_n dX6_restart_8 rfl ?_
  refine g_X6_18 rfl dX6_restart_9 (by decide) rfl rfl ?_
  obtain ⟨q2, hq2, h⟩ := Option.bind_eq_some_iff.mp h
  refine y_callVv (L' := [(21, _), (23, _), (24, _), (25, _)]) mi_X10_clear ml_X6_50 im_X10_clear se_X10_clear (rfl : vwCl[9]? = _) dX6_restart_12 (fun s1 => v_X10_clear_24 s1 _ _ q2 hq2) (by decide) rfl (Nat.le_of_ble_eq_true rfl) rfl (by decide) (Nat.le_of_ble_eq_true rfl) rfl rfl rfl rfl ?_
  refine x_aload_n dX6_restart_15 rfl ?_
  refine g_X6_25 rfl dX6_restart_16 (by decide) rfl rfl ?_
  obtain ⟨q3, hq3, h⟩ := Option.bind_eq_some_iff.mp h
  refine y_callVv (L' := [(21, _), (23, _), (24, _), (25, _)]) mi_X2_clear ml_X6_53 im_X2_clear se_X2_clear (rfl : vwCl[1]? = _) dX6_restart_19 (fun s1 => v_X2_clear_25 s1 _ q3 hq3) (by decide) rfl (Nat.le_of_ble_eq_true rfl) rfl (by decide) (Nat.le_of_ble_eq_true rfl) rfl rfl rfl rfl ?_
  refine x_aload_n dX6_restart_22 rfl ?_
  refine x_iconst (v := 0) dX6_restart_23 (by decide) ?_
  refine p_X6_54 (fs' := [_, _, _, _, _, _, _, _, _, _, _, _, _, _, _, _, _, _, _]) (L' := [(21, _), (23, _), (24, _), (25, _)]) rfl dX6_restart_24 (by decide) rfl (Nat.le_of_ble_eq_true rfl) rfl rfl ?_
  refine x_aload_n dX6_restart_27 rfl ?_
  refine x_iconst (v := 0) dX6_restart_28 (by decide) ?_
  refine p_X6_58 (fs' := [_, _, _, _, _, _, _, _, _, _, _, _, _, _, _, _, _, _, _]) (L' := [(21, _), (23, _), (24, _), (25, _)]) rfl dX6_restart_29 (by decide) rfl (Nat.le_of_ble_eq_true rfl) rfl rfl ?_
  refine x_aload_n dX6_restart_32 rfl ?_
  refine x_iconst (v := 0) dX6_restart_33 (by decide) ?_
  refine p_X6_61 (fs' := [_, _, _, _, _, _, _, _, _, _, _, _, _, _, _, _, _, _, _]) (L' := [(21, _), (23, _), (24, _), (25, _)]) rfl dX6_restart_34 (by decide) rfl (Nat.le_of_ble_eq_true rfl) rfl rfl ?_
  refine x_aload_n dX6_restart_37 rfl ?_
  refine x_iconst (v := 0) dX6_restart_38 (by decide) ?_
  refine p_X6_64 (fs' := [_, _, _, _, _, _, _, _, _, _, _, _, _, _, _, _, _, _, _]) (L' := [(21, _), (23, _), (24, _), (25, _)]) rfl dX6_restart_39 (by decide) rfl (Nat.le_of_ble_eq_true rfl) rfl rfl ?_
  refine x_aload_n dX6_restart_42 rfl ?_
  refine x_iconst (v := 0) dX6_restart_43 (by decide) ?_
  refine p_X6_67 (fs' := [_, _, _, _, _, _, _, _, _, _, _, _, _, _, _, _, _, _, _]) (L' := [(21, _), (23, _), (24, _), (25, _)]) rfl dX6_restart_44 (Or.inl rfl) (by decide) rfl (Nat.le_of_ble_eq_true rfl) rfl rfl ?_
  refine x_aload_n dX6_restart_47 rfl ?_
  refine x_iconst (v := 0) dX6_restart_48 (by decide) ?_
  refine p_X6_71 (fs' := [_, _, _, _, _, _, _, _, _, _, _, _, _, _, _, _, _, _, _]) (L' := [(21, _), (23, _), (24, _), (25, _)]) rfl dX6_restart_49 (Or.inl rfl) (by decide) rfl (Nat.le_of_ble_eq_true rfl) rfl rfl ?_
  refine x_aload_n dX6_restart_52 rfl ?_
  refine x_iconst (v := 0) dX6_restart_53 (by decide) ?_
  refine p_X6_74 (fs' := [_, _, _, _, _, _, _, _, _, _, _, _, _, _, _, _, _, _, _]) (L' := [(21, _), (23, _), (24, _), (25, _)]) rfl dX6_restart_54 (by decide) rfl (Nat.le_of_ble_eq_true rfl) rfl rfl ?_
  refine x_aload_n dX6_restart_57 rfl ?_
  refine x_iconst (v := 0) dX6_restart_58 (by decide) ?_
  refine p_X6_77 (fs' := [_, _, _, _, _, _, _, _, _, _, _, _, _, _, _, _, _, _, _]) (L' := [(21, _), (23, _), (24, _), (25, _)]) rfl dX6_restart_59 (by decide) rfl (Nat.le_of_ble_eq_true rfl) rfl rfl ?_
  refine x_aload_n dX6_restart_62 rfl ?_
  refine x_iconst (v := 0) dX6_restart_63 (by decide) ?_
  refine p_X6_80 (fs' := [_, _, _, _, _, _, _, _, _, _, _, _, _, _, _, _, _, _, _]) (L' := [(21, _), (23, _), (24, _), (25, _)]) rfl dX6_restart_64 (by decide) rfl (Nat.le_of_ble_eq_true rfl) rfl rfl ?_
  cases h
  exact x_vret dX6_restart_67 ⟨rfl, rfl, rfl⟩
def l_X11_starts_0_25 (n : Nat) (a1 : Nat → Int32) (o2 : Nat → Int32) (a3 : Nat → Int32) (o4 : Nat → Int32) (a6 : Nat → Int32) (a7 : Nat → Int32) (o16 : Nat → Int32) (a17 : Nat → Int32) (o18 : Nat → Int32) (j18 : Int64) (j19 : Int64) (a20 : Nat → Int32) (l1 : Int32) : Nat → (Int32) → (Int32) → (Int32) → (Int32) → (Int32) → (Nat → Int32) → (Nat → Int32) → (Nat → Int32) → (Nat → Int32) → (Int64) → (Int64) → (Nat → Int32) → Option (((Int32) × (Int32) × (Int32) × (Int32) × (Int32) × (Nat → Int32) × (Nat → Int32) × (Nat → Int32) × (Nat → Int32) × (Int64) × (Int64) × (Nat → Int32)))
  | 0, _, _, _, _, _, _, _, _, _, _, _, _ => none
  | k + 1, l2, l3, l4, l5, l6, o21, a22, a23, o24, j24, j25, a26 => (if 64 ≤ l6 then (some (l2, l3, l4, l5, l6, o21, a22, a23, o24, j24, j25, a26)) else (Option.bind (f_X6_mirror_21_16 a1 o16 a17 o18 j18 j19 a20 o21 a22 a23 o24 j24 j25 a26) (fun q4 => (Option.bind (f_X6_restart_21 n q4.1 q4.2.2.1 q4.2.2.2.1 q4.2.2.2.2.1 q4.2.2.2.2.2.1) (fun q5 => (Option.bind (f_X11_bitsTillSure_0 n o2 a3 o4 a6 a7 q5.1 q4.2.1 q5.2.1 q5.2.2.1 q5.2.2.2.1 q5.2.2.2.2 q4.2.2.2.2.2.2 (((o2 2) + l6))) (fun q6 => (if q6.1 = (-1) then (if (q6.2.2.1 8) ≤ (q6.2.2.1 0) then (l_X11_starts_0_25 n a1 o2 a3 o4 a6 a7 o16 a17 o18 j18 j19 a20 l1 k l2 l3 l4 l5 ((l6 + 1)) q6.2.1 q4.2.1 q6.2.2.1 q6.2.2.2.1 q6.2.2.2.2.1 q6.2.2.2.2.2.1 q6.2.2.2.2.2.2) else (l_X11_starts_0_25 n a1 o2 a3 o4 a6 a7 o16 a17 o18 j18 j19 a20 l1 k l2 l3 l4 ((l5 + 1)) ((l6 + 1)) q6.2.1 q4.2.1 q6.2.2.1 q6.2.2.2.1 q6.2.2.2.2.1 q6.2.2.2.2.2.1 q6.2.2.2.2.2.2)) else (if (q6.2.2.1 8) ≤ (q6.2.2.1 0) then (l_X11_starts_0_25 n a1 o2 a3 o4 a6 a7 o16 a17 o18 j18 j19 a20 l1 k ((l2 + 1)) ((l3 + q6.1)) ((if l4 < q6.1 then q6.1 else l4)) l5 ((l6 + 1)) q6.2.1 q4.2.1 q6.2.2.1 q6.2.2.2.1 q6.2.2.2.2.1 q6.2.2.2.2.2.1 q6.2.2.2.2.2.2) else (l_X11_starts_0_25 n a1 o2 a3 o4 a6 a7 o16 a17 o18 j18 j19 a20 l1 k ((l2 + 1)) ((l3 + q6.1)) ((if l4 < q6.1 then q6.1 else l4)) ((l5 + 1)) ((l6 + 1)) q6.2.1 q4.2.1 q6.2.2.1 q6.2.2.2.1 q6.2.2.2.2.1 q6.2.2.2.2.2.1 q6.2.2.2.2.2.2))))))))))
set_option maxRecDepth 100000 in
set_option maxHeartbeats 400000 in
theorem lv_X11_starts_0_25 (s0 : XW) (n : Nat) (a1 : Nat → Int32) (o2 : Nat → Int32) (a3 : Nat → Int32) (o4 : Nat → Int32) (a6 : Nat → Int32) (a7 : Nat → Int32) (o16 : Nat → Int32) (a17 : Nat → Int32) (o18 : Nat → Int32) (j18 : Int64) (j19 : Int64) (a20 : Nat → Int32) (l1 : Int32) (Q : Nat → Option Value → XW → Prop) : ∀ (k : Nat) (l2 : Int32) (l3 : Int32) (l4 : Int32) (l5 : Int32) (l6 : Int32) (o21 : Nat → Int32) (a22 : Nat → Int32) (a23 : Nat → Int32) (o24 : Nat → Int32) (j24 : Int64) (j25 : Int64) (a26 : Nat → Int32) (o : ((Int32) × (Int32) × (Int32) × (Int32) × (Int32) × (Nat → Int32) × (Nat → Int32) × (Nat → Int32) × (Nat → Int32) × (Int64) × (Int64) × (Nat → Int32))), l_X11_starts_0_25 n a1 o2 a3 o4 a6 a7 o16 a17 o18 j18 j19 a20 l1 k l2 l3 l4 l5 l6 o21 a22 a23 o24 j24 j25 a26 = some o → (V yX11_starts cX11_starts (some .int) 6 61 (0, 0) 120 [none, some (.int l1), some (.int o.1), some (.int o.2.1), some (.int o.2.2.1), some (.int o.2.2.2.1), none, none] [] (xof s0 [W_0, W_1 a1, W_2 o2, W_3 a3, W_4 o4, W_6 a6, W_7 a7, W_16 o16, W_17 a17, W_18 o18 j18, W_19 j19, W_20 a20, W_21 o.2.2.2.2.2.1, W_22 o.2.2.2.2.2.2.1, W_23 o.2.2.2.2.2.2.2.1, W_24 o.2.2.2.2.2.2.2.2.1 o.2.2.2.2.2.2.2.2.2.1, W_25 o.2.2.2.2.2.2.2.2.2.2.1, W_26 o.2.2.2.2.2.2.2.2.2.2.2]) Q) → V yX11_starts cX11_starts (some .int) 6 61 (0, 0) 25 [some (.ref 0), some (.int l1), some (.int l2), some (.int l3), some (.int l4), some (.int l5), some (.int l6), none] [] (xof s0 [W_0, W_1 a1, W_2 o2, W_3 a3, W_4 o4, W_6 a6, W_7 a7, W_16 o16, W_17 a17, W_18 o18 j18, W_19 j19, W_20 a20, W_21 o21, W_22 a22, W_23 a23, W_24 o24 j24, W_25 j25, W_26 a26]) Q := by
  intro k
  induction k with
  | zero =>
    intro _ _ _ _ _ _ _ _ _ _ _ _ _ h
    simp [l_X11_starts_0_25] at h
  | succ k ih =>
    intro l2 l3 l4 l5 l6 o21 a22 a23 o24 j24 j25 a26 o h hk
    rw [l_X11_starts_0_25] at h
    refine x_iload dX11_starts_25 rfl ?_
    refine x_bipush (v := 64) dX11_starts_27 (by decide) ?_
    refine x_icmp_ge (tgt := 120) dX11_starts_29 (by decide) (fun c3 => ?_) (fun c3 => ?_)
    · replace h := xif_p c3 h
      refine V.drop1 (i := 0) (ls' := [_, _, _, _, _, _, _, _]) rfl ?_
      refine V.drop1 (i := 6) (ls' := [_, _, _, _, _, _, _, _]) rfl ?_
      show V yX11_starts cX11_starts (some .int) 6 61 (0, 0) 120 [none, some (.int l1), some (.int l2), some (.int l3), some (.int l4), some (.int l5), none, none] [] (xof s0 [W_0, W_1 a1, W_2 o2, W_3 a3, W_4 o4, W_6 a6, W_7 a7, W_16 o16, W_17 a17, W_18 o18 j18, W_19 j19, W_20 a20, W_21 o21, W_22 a22, W_23 a23, W_24 o24 j24, W_25 j25, W_26 a26]) _
      cases h
      exact hk
    · replace h := xif_n c3 h
      refine x_aload_n dX11_starts_32 rfl ?_
      refine g_X11_51 rfl dX11_starts_33 (by decide) rfl rfl ?_
      refine x_aload_n dX11_starts_36 rfl ?_
      refine g_X11_47 rfl dX11_starts_37 (by decide) rfl rfl ?_
      obtain ⟨q4, hq4, h⟩ := Option.bind_eq_some_iff.mp h
      refine y_callVv (L' := [(0, _), (1, _), (2, _), (3, _), (4, _), (6, _), (7, _), (16, _), (17, _), (18, _), (19, _), (20, _), (21, _), (22, _), (23, _), (24, _), (25, _), (26, _)]) mi_X6_mirror ml_X11_267 im_X6_mirror se_X6_mirror (rfl : vwCl[5]? = _) dX11_starts_40 (fun s1 => v_X6_mirror_21_16 s1 _ _ _ _ _ _ _ _ _ _ _ _ _ _ q4 hq4) (by decide) rfl (Nat.le_of_ble_eq_true rfl) rfl (by decide) (Nat.le_of_ble_eq_true rfl) rfl rfl rfl rfl ?_
      refine x_aload_n dX11_starts_43 rfl ?_
      refine g_X11_51 rfl dX11_starts_44 (by decide) rfl rfl ?_
      obtain ⟨q5, hq5, h⟩ := Option.bind_eq_some_iff.mp h
      refine y_callVv (L' := [(0, _), (1, _), (2, _), (3, _), (4, _), (6, _), (7, _), (16, _), (17, _), (18, _), (19, _), (20, _), (21, _), (22, _), (23, _), (24, _), (25, _), (26, _)]) mi_X6_restart ml_X11_174 im_X6_restart se_X6_restart (rfl : vwCl[5]? = _) dX11_starts_47 (fun s1 => v_X6_restart_21 s1 n _ _ _ _ _ q5 hq5) (by decide) rfl (Nat.le_of_ble_eq_true rfl) rfl (by decide) (Nat.le_of_ble_eq_true rfl) rfl rfl rfl rfl ?_
      refine x_aload_n dX11_starts_50 rfl ?_
      refine x_aload_n dX11_starts_51 rfl ?_
      refine g_X11_24 rfl dX11_starts_52 (by decide) rfl rfl ?_
      refine g_X11_125 rfl dX11_starts_55 (by decide) rfl rfl ?_
      refine x_iload dX11_starts_58 rfl ?_
      refine x_iadd dX11_starts_60 ?_
      obtain ⟨q6, hq6, h⟩ := Option.bind_eq_some_iff.mp h
      refine y_callVi (L' := [(0, _), (1, _), (2, _), (3, _), (4, _), (6, _), (7, _), (16, _), (17, _), (18, _), (19, _), (20, _), (21, _), (22, _), (23, _), (24, _), (25, _), (26, _)]) mi_X11_bitsTillSure ml_X11_277 im_X11_bitsTillSure se_X11_bitsTillSure (rfl : vwCl[10]? = _) dX11_starts_61 (fun s1 => v_X11_bitsTillSure_0 s1 n _ _ _ _ _ _ _ _ _ _ _ _ _ q6 hq6) (by decide) rfl (Nat.le_of_ble_eq_true rfl) rfl (by decide) (Nat.le_of_ble_eq_true rfl) rfl rfl rfl rfl ?_
      refine x_istore (ls' := [_, _, _, _, _, _, _, _]) dX11_starts_64 rfl rfl ?_
      refine x_iload dX11_starts_66 rfl ?_
      refine x_iconst (v := -1) dX11_starts_68 (by decide) ?_
      refine x_icmp_eq (tgt := 89) dX11_starts_69 (by decide) (fun c7 => ?_) (fun c7 => ?_)
      · replace h := xif_p c7 h
        refine x_aload_n dX11_starts_89 rfl ?_
        refine g_X11_51 rfl dX11_starts_90 (by decide) rfl rfl ?_
        refine g_X11_171 rfl dX11_starts_93 (by decide) rfl rfl ?_
        refine x_bipush (v := 8) dX11_starts_96 (by decide) ?_
        refine x_ialdK (jn := 8) (v := (q6.2.2.1 8)) dX11_starts_98 (by decide) rfl (xin_ok (by decide)) (by decide) rfl ?_
        refine x_aload_n dX11_starts_99 rfl ?_
        refine g_X11_51 rfl dX11_starts_100 (by decide) rfl rfl ?_
        refine g_X11_171 rfl dX11_starts_103 (by decide) rfl rfl ?_
        refine x_iconst (v := 0) dX11_starts_106 (by decide) ?_
        refine x_ialdK (jn := 0) (v := (q6.2.2.1 0)) dX11_starts_107 (by decide) rfl (xin_ok (by decide)) (by decide) rfl ?_
        refine x_icmp_le (tgt := 114) dX11_starts_108 (by decide) (fun c8 => ?_) (fun c8 => ?_)
        · replace h := xif_p c8 h
          refine x_iinc (v := l6 + 1) (ls' := [_, _, _, _, _, _, _, _]) dX11_starts_114 rfl rfl rfl rfl ?_
          refine x_goto (tgt := 25) dX11_starts_117 (by decide) ?_
          refine V.drop1 (i := 7) (ls' := [_, _, _, _, _, _, _, _]) rfl ?_
          show V yX11_starts cX11_starts (some .int) 6 61 (0, 0) 25 [some (.ref 0), some (.int l1), some (.int l2), some (.int l3), some (.int l4), some (.int l5), some (.int ((l6 + 1))), none] [] (xof s0 [W_0, W_1 a1, W_2 o2, W_3 a3, W_4 o4, W_6 a6, W_7 a7, W_16 o16, W_17 a17, W_18 o18 j18, W_19 j19, W_20 a20, W_21 q6.2.1, W_22 q4.2.1, W_23 q6.2.2.1, W_24 q6.2.2.2.1 q6.2.2.2.2.1, W_25 q6.2.2.2.2.2.1, W_26 q6.2.2.2.2.2.2]) _
          exact ih l2 l3 l4 l5 ((l6 + 1)) q6.2.1 q4.2.1 q6.2.2.1 q6.2.2.2.1 q6.2.2.2.2.1 q6.2.2.2.2.2.1 q6.2.2.2.2.2.2 _ h hk
        · replace h := xif_n c8 h
          refine x_iinc (v := l5 + 1) (ls' := [_, _, _, _, _, _, _, _]) dX11_starts_111 rfl rfl rfl rfl ?_
          refine x_iinc (v := l6 + 1) (ls' := [_, _, _, _, _, _, _, _]) dX11_starts_114 rfl rfl rfl rfl ?_
          refine x_goto (tgt := 25) dX11_starts_117 (by decide) ?_
          refine V.drop1 (i := 7) (ls' := [_, _, _, _, _, _, _, _]) rfl ?_
          show V yX11_starts cX11_starts (some .int) 6 61 (0, 0) 25 [some (.ref 0), some (.int l1), some (.int l2), some (.int l3), some (.int l4), some (.int ((l5 + 1))), some (.int ((l6 + 1))), none] [] (xof s0 [W_0, W_1 a1, W_2 o2, W_3 a3, W_4 o4, W_6 a6, W_7 a7, W_16 o16, W_17 a17, W_18 o18 j18, W_19 j19, W_20 a20, W_21 q6.2.1, W_22 q4.2.1, W_23 q6.2.2.1, W_24 q6.2.2.2.1 q6.2.2.2.2.1, W_25 q6.2.2.2.2.2.1, W_26 q6.2.2.2.2.2.2]) _
          exact ih l2 l3 l4 ((l5 + 1)) ((l6 + 1)) q6.2.1 q4.2.1 q6.2.2.1 q6.2.2.2.1 q6.2.2.2.2.1 q6.2.2.2.2.2.1 q6.2.2.2.2.2.2 _ h hk
      · replace h := xif_n c7 h
        refine x_iinc (v := l2 + 1) (ls' := [_, _, _, _, _, _, _, _]) dX11_starts_72 rfl rfl rfl rfl ?_
        refine x_iload_n dX11_starts_75 rfl ?_
        refine x_iload dX11_starts_76 rfl ?_
        refine x_iadd dX11_starts_78 ?_
        refine x_istore_n (ls' := [_, _, _, _, _, _, _, _]) dX11_starts_79 rfl rfl ?_
        refine x_iload dX11_starts_80 rfl ?_
        refine x_iload dX11_starts_82 rfl ?_
        refine x_mmax dX11_starts_84 ml_X11_299 (by decide) (Nat.le_of_ble_eq_true rfl) ?_
        refine x_istore (ls' := [_, _, _, _, _, _, _, _]) dX11_starts_87 rfl rfl ?_
        refine x_aload_n dX11_starts_89 rfl ?_
        refine g_X11_51 rfl dX11_starts_90 (by decide) rfl rfl ?_
        refine g_X11_171 rfl dX11_starts_93 (by decide) rfl rfl ?_
        refine x_bipush (v := 8) dX11_starts_96 (by decide) ?_
        refine x_ialdK (jn := 8) (v := (q6.2.2.1 8)) dX11_starts_98 (by decide) rfl (xin_ok (by decide)) (by decide) rfl ?_
        refine x_aload_n dX11_starts_99 rfl ?_
        refine g_X11_51 rfl dX11_starts_100 (by decide) rfl rfl ?_
        refine g_X11_171 rfl dX11_starts_103 (by decide) rfl rfl ?_
        refine x_iconst (v := 0) dX11_starts_106 (by decide) ?_
        refine x_ialdK (jn := 0) (v := (q6.2.2.1 0)) dX11_starts_107 (by decide) rfl (xin_ok (by decide)) (by decide) rfl ?_
        refine x_icmp_le (tgt := 114) dX11_starts_108 (by decide) (fun c9 => ?_) (fun c9 => ?_)
        · replace h := xif_p c9 h
          refine x_iinc (v := l6 + 1) (ls' := [_, _, _, _, _, _, _, _]) dX11_starts_114 rfl rfl rfl rfl ?_
          refine x_goto (tgt := 25) dX11_starts_117 (by decide) ?_
          refine V.drop1 (i := 7) (ls' := [_, _, _, _, _, _, _, _]) rfl ?_
          show V yX11_starts cX11_starts (some .int) 6 61 (0, 0) 25 [some (.ref 0), some (.int l1), some (.int ((l2 + 1))), some (.int ((l3 + q6.1))), some (.int ((if l4 < q6.1 then q6.1 else l4))), some (.int l5), some (.int ((l6 + 1))), none] [] (xof s0 [W_0, W_1 a1, W_2 o2, W_3 a3, W_4 o4, W_6 a6, W_7 a7, W_16 o16, W_17 a17, W_18 o18 j18, W_19 j19, W_20 a20, W_21 q6.2.1, W_22 q4.2.1, W_23 q6.2.2.1, W_24 q6.2.2.2.1 q6.2.2.2.2.1, W_25 q6.2.2.2.2.2.1, W_26 q6.2.2.2.2.2.2]) _
          exact ih ((l2 + 1)) ((l3 + q6.1)) ((if l4 < q6.1 then q6.1 else l4)) l5 ((l6 + 1)) q6.2.1 q4.2.1 q6.2.2.1 q6.2.2.2.1 q6.2.2.2.2.1 q6.2.2.2.2.2.1 q6.2.2.2.2.2.2 _ h hk
        · replace h := xif_n c9 h
          refine x_iinc (v := l5 + 1) (ls' := [_, _, _, _, _, _, _, _]) dX11_starts_111 rfl rfl rfl rfl ?_
          refine x_iinc (v := l6 + 1) (ls' := [_, _, _, _, _, _, _, _]) dX11_starts_114 rfl rfl rfl rfl ?_
          refine x_goto (tgt := 25) dX11_starts_117 (by decide) ?_
          refine V.drop1 (i := 7) (ls' := [_, _, _, _, _, _, _, _]) rfl ?_
          show V yX11_starts cX11_starts (some .int) 6 61 (0, 0) 25 [some (.ref 0), some (.int l1), some (.int ((l2 + 1))), some (.int ((l3 + q6.1))), some (.int ((if l4 < q6.1 then q6.1 else l4))), some (.int ((l5 + 1))), some (.int ((l6 + 1))), none] [] (xof s0 [W_0, W_1 a1, W_2 o2, W_3 a3, W_4 o4, W_6 a6, W_7 a7, W_16 o16, W_17 a17, W_18 o18 j18, W_19 j19, W_20 a20, W_21 q6.2.1, W_22 q4.2.1, W_23 q6.2.2.1, W_24 q6.2.2.2.1 q6.2.2.2.2.1, W_25 q6.2.2.2.2.2.1, W_26 q6.2.2.2.2.2.2]) _
          exact ih ((l2 + 1)) ((l3 + q6.1)) ((if l4 < q6.1 then q6.1 else l4)) ((l5 + 1)) ((l6 + 1)) q6.2.1 q4.2.1 q6.2.2.1 q6.2.2.2.1 q6.2.2.2.2.1 q6.2.2.2.2.2.1 q6.2.2.2.2.2.2 _ h hk
def f_X11_starts_0 (n : Nat) (a1 : Nat → Int32) (o2 : Nat → Int32) (a3 : Nat → Int32) (o4 : Nat → Int32) (a6 : Nat → Int32) (a7 : Nat → Int32) (o16 : Nat → Int32) (a17 : Nat → Int32) (o18 : Nat → Int32) (j18 : Int64) (j19 : Int64) (a20 : Nat → Int32) (o21 : Nat → Int32) (a22 : Nat → Int32) (a23 : Nat → Int32) (o24 : Nat → Int32) (j24 : Int64) (j25 : Int64) (a26 : Nat → Int32) (p1 : Int32) : Option (((Int32) × (Nat → Int32) × (Nat → Int32) × (Nat → Int32) × (Nat → Int32) × (Int64) × (Int64) × (Nat → Int32))) := (Option.bind (f_X11_isWithin p1 0 3) (fun q1 => (if q1 = 0 then (some ((-2), o21, a22, a23, o24, j24, j25, a26)) else (Option.bind (l_X11_starts_0_25 n a1 o2 a3 o4 a6 a7 o16 a17 o18 j18 j19 a20 p1 n 0 0 0 0 0 o21 a22 a23 o24 j24 j25 a26) (fun u10 => (if p1 = 0 then (some (u10.1, u10.2.2.2.2.2.1, u10.2.2.2.2.2.2.1, u10.2.2.2.2.2.2.2.1, u10.2.2.2.2.2.2.2.2.1, u10.2.2.2.2.2.2.2.2.2.1, u10.2.2.2.2.2.2.2.2.2.2.1, u10.2.2.2.2.2.2.2.2.2.2.2)) else (if p1 = 1 then (some (u10.2.1, u10.2.2.2.2.2.1, u10.2.2.2.2.2.2.1, u10.2.2.2.2.2.2.2.1, u10.2.2.2.2.2.2.2.2.1, u10.2.2.2.2.2.2.2.2.2.1, u10.2.2.2.2.2.2.2.2.2.2.1, u10.2.2.2.2.2.2.2.2.2.2.2)) else (if p1 = 2 then (some (u10.2.2.1, u10.2.2.2.2.2.1, u10.2.2.2.2.2.2.1, u10.2.2.2.2.2.2.2.1, u10.2.2.2.2.2.2.2.2.1, u10.2.2.2.2.2.2.2.2.2.1, u10.2.2.2.2.2.2.2.2.2.2.1, u10.2.2.2.2.2.2.2.2.2.2.2)) else (some (u10.2.2.2.1, u10.2.2.2.2.2.1, u10.2.2.2.2.2.2.1, u10.2.2.2.2.2.2.2.1, u10.2.2.2.2.2.2.2.2.1, u10.2.2.2.2.2.2.2.2.2.1, u10.2.2.2.2.2.2.2.2.2.2.1, u10.2.2.2.2.2.2.2.2.2.2.2))))))))))
set_option maxRecDepth 100000 in
set_option maxHeartbeats 400000 in
theorem v_X11_starts_0 (s0 : XW) (n : Nat) (a1 : Nat → Int32) (o2 : Nat → Int32) (a3 : Nat → Int32) (o4 : Nat → Int32) (a6 : Nat → Int32) (a7 : Nat → Int32) (o16 : Nat → Int32) (a17 : Nat → Int32) (o18 : Nat → Int32) (j18 : Int64) (j19 : Int64) (a20 : Nat → Int32) (o21 : Nat → Int32) (a22 : Nat → Int32) (a23 : Nat → Int32) (o24 : Nat → Int32) (j24 : Int64) (j25 : Int64) (a26 : Nat → Int32) (p1 : Int32) (q : ((Int32) × (Nat → Int32) × (Nat → Int32) × (Nat → Int32) × (Nat → Int32) × (Int64) × (Int64) × (Nat → Int32))) (h : f_X11_starts_0 n a1 o2 a3 o4 a6 a7 o16 a17 o18 j18 j19 a20 o21 a22 a23 o24 j24 j25 a26 p1 = some q) : C_X11_starts 6 61 [.ref 0, .int p1] (xof s0 [W_0, W_1 a1, W_2 o2, W_3 a3, W_4 o4, W_6 a6, W_7 a7, W_16 o16, W_17 a17, W_18 o18 j18, W_19 j19, W_20 a20, W_21 o21, W_22 a22, W_23 a23, W_24 o24 j24, W_25 j25, W_26 a26]) (some (.int q.1)) (xof s0 [W_0, W_1 a1, W_2 o2, W_3 a3, W_4 o4, W_6 a6, W_7 a7, W_16 o16, W_17 a17, W_18 o18 j18, W_19 j19, W_20 a20, W_21 q.2.1, W_22 q.2.2.1, W_23 q.2.2.2.1, W_24 q.2.2.2.2.1 q.2.2.2.2.2.1, W_25 q.2.2.2.2.2.2.1, W_26 q.2.2.2.2.2.2.2]) := by
  unfold f_X11_starts_0 at h
  show V yX11_starts cX11_starts (some .int) 6 61 (0, 0) 0 [some (.ref 0), some (.int p1), none, none, none, none, none, none] [] (xof s0 [W_0, W_1 a1, W_2 o2, W_3 a3, W_4 o4, W_6 a6, W_7 a7, W_16 o16, W_17 a17, W_18 o18 j18, W_19 j19, W_20 a20, W_21 o21, W_22 a22, W_23 a23, W_24 o24 j24, W_25 j25, W_26 a26]) _
  refine x_iload_n dX11_starts_0 rfl ?_
  refine x_iconst (v := 0) dX11_starts_1 (by decide) ?_
  refine x_iconst (v := 3) dX11_starts_2 (by decide) ?_
  obtain ⟨q1, hq1, h⟩ := Option.bind_eq_some_iff.mp h
  refine y_callSi (L' := [(0, _), (1, _), (2, _), (3, _), (4, _), (6, _), (7, _), (16, _), (17, _), (18, _), (19, _), (20, _), (21, _), (22, _), (23, _), (24, _), (25, _), (26, _)]) mi_X11_isWithin ml_X11_100 st_X11_isWithin dX11_starts_3 (fun s1 => v_X11_isWithin 61 s1 _ _ _ q1 hq1) (Nat.le_of_ble_eq_true rfl) rfl (by decide) (Nat.le_of_ble_eq_true rfl) rfl rfl rfl rfl ?_
  refine x_if_ne (tgt := 12) dX11_starts_6 (by decide) (fun c2 => ?_) (fun c2 => ?_)
  · replace h := xif_n c2 h
    refine x_iconst (v := 0) dX11_starts_12 (by decide) ?_
    refine x_istore_n (ls' := [_, _, _, _, _, _, _, _]) dX11_starts_13 rfl rfl ?_
    refine x_iconst (v := 0) dX11_starts_14 (by decide) ?_
    refine x_istore_n (ls' := [_, _, _, _, _, _, _, _]) dX11_starts_15 rfl rfl ?_
    refine x_iconst (v := 0) dX11_starts_16 (by decide) ?_
    refine x_istore (ls' := [_, _, _, _, _, _, _, _]) dX11_starts_17 rfl rfl ?_
    refine x_iconst (v := 0) dX11_starts_19 (by decide) ?_
    refine x_istore (ls' := [_, _, _, _, _, _, _, _]) dX11_starts_20 rfl rfl ?_
    refine x_iconst (v := 0) dX11_starts_22 (by decide) ?_
    refine x_istore (ls' := [_, _, _, _, _, _, _, _]) dX11_starts_23 rfl rfl ?_
    obtain ⟨u10, hu10, h⟩ := Option.bind_eq_some_iff.mp h
    show V yX11_starts cX11_starts (some .int) 6 61 (0, 0) 25 [some (.ref 0), some (.int p1), some (.int 0), some (.int 0), some (.int 0), some (.int 0), some (.int 0), none] [] (xof s0 [W_0, W_1 a1, W_2 o2, W_3 a3, W_4 o4, W_6 a6, W_7 a7, W_16 o16, W_17 a17, W_18 o18 j18, W_19 j19, W_20 a20, W_21 o21, W_22 a22, W_23 a23, W_24 o24 j24, W_25 j25, W_26 a26]) _
    refine lv_X11_starts_0_25 s0 _ a1 o2 a3 o4 a6 a7 o16 a17 o18 j18 j19 a20 p1 _ n 0 0 0 0 0 o21 a22 a23 o24 j24 j25 a26 _ hu10 ?_
    refine x_iload_n dX11_starts_120 rfl ?_
    by_cases c11 : p1 = 0
    · replace h := xif_p c11 h
      refine x_tableIn (tgt := 148) dX11_starts_121 (by rw [c11]; decide) (by rw [c11]; decide) (by rw [c11]; rfl) (by decide) ?_
      refine x_iload_n dX11_starts_148 rfl ?_
      cases h
      exact x_iret dX11_starts_149 ⟨rfl, rfl, rfl⟩
    replace h := xif_n c11 h
    by_cases c12 : p1 = 1
    · replace h := xif_p c12 h
      refine x_tableIn (tgt := 150) dX11_starts_121 (by rw [c12]; decide) (by rw [c12]; decide) (by rw [c12]; rfl) (by decide) ?_
      refine x_iload_n dX11_starts_150 rfl ?_
      cases h
      exact x_iret dX11_starts_151 ⟨rfl, rfl, rfl⟩
    replace h := xif_n c12 h
    by_cases c13 : p1 = 2
    · replace h := xif_p c13 h
      refine x_tableIn (tgt := 152) dX11_starts_121 (by rw [c13]; decide) (by rw [c13]; decide) (by rw [c13]; rfl) (by decide) ?_
      refine x_iload dX11_starts_152 rfl ?_
      cases h
      exact x_iret dX11_starts_154 ⟨rfl, rfl, rfl⟩
    replace h := xif_n c13 h
    have c11t := lv_neT c11 (show Int32.toInt 0 = 0 from rfl)
    have c12t := lv_neT c12 (show Int32.toInt 1 = 1 from rfl)
    have c13t := lv_neT c13 (show Int32.toInt 2 = 2 from rfl)
    refine x_tableOut (tgt := 155) dX11_starts_121 (by omega) (by decide) ?_
    refine x_iload dX11_starts_155 rfl ?_
    cases h
    exact x_iret dX11_starts_157 ⟨rfl, rfl, rfl⟩
  · replace h := xif_p c2 h
    refine x_bipush (v := -2) dX11_starts_9 (by decide) ?_
    cases h
    exact x_iret dX11_starts_11 ⟨rfl, rfl, rfl⟩
def f_X11_check_0 (n : Nat)  (p1 : Int32) : Option Int32 := (Option.bind (f_X1_ofHeader n p1) (fun q1 => (some q1)))
set_option maxRecDepth 100000 in
set_option maxHeartbeats 400000 in
theorem v_X11_check_0 (N : Nat) (s0 : XW) (n : Nat)  (p1 : Int32) (q : Int32) (h : f_X11_check_0 n p1 = some q) : C_X11_check 2 N [.ref 0, .int p1] (xof s0 []) (some (.int q)) (xof s0 []) := by
  unfold f_X11_check_0 at h
  show V yX11_check cX11_check (some .int) 2 N (0, 0) 0 [some (.ref 0), some (.int p1)] [] (xof s0 []) _
  refine x_iload_n dX11_check_0 rfl ?_
  obtain ⟨q1, hq1, h⟩ := Option.bind_eq_some_iff.mp h
  refine y_callSi (L' := []) mi_X1_ofHeader ml_X11_302 st_X1_ofHeader dX11_check_1 (fun s1 => v_X1_ofHeader N s1 n _ q1 hq1) (Nat.le_of_ble_eq_true rfl) rfl (by decide) (Nat.le_of_ble_eq_true rfl) rfl rfl rfl rfl ?_
  cases h
  exact x_iret dX11_check_4 ⟨rfl, rfl, rfl⟩
def f_X11_isByte  (p0 : Int32) : Option Int32 := (if p0 < 0 then (some 0) else (if 255 < p0 then (some 0) else (some 1)))
set_option maxRecDepth 100000 in
set_option maxHeartbeats 400000 in
theorem v_X11_isByte (N : Nat) (s0 : XW)  (p0 : Int32) (q : Int32) (h : f_X11_isByte p0 = some q) : C_X11_isByte 0 N [.int p0] (xof s0 []) (some (.int q)) (xof s0 []) := by
  unfold f_X11_isByte at h
  show V yX11_isByte cX11_isByte (some .boolean) 0 N (0, 0) 0 [some (.int p0)] [] (xof s0 []) _
  refine x_iload_n dX11_isByte_0 rfl ?_
  refine x_if_lt (tgt := 15) dX11_isByte_1 (by decide) (fun c1 => ?_) (fun c1 => ?_)
  · replace h := xif_p c1 h
    refine x_iconst (v := 0) dX11_isByte_15 (by decide) ?_
    cases h
    exact x_zret dX11_isByte_16 (Or.inl rfl) ⟨rfl, rfl, rfl⟩
  · replace h := xif_n c1 h
    refine x_iload_n dX11_isByte_4 rfl ?_
    refine x_sipush (v := 255) dX11_isByte_5 (by decide) ?_
    refine x_icmp_gt (tgt := 15) dX11_isByte_8 (by decide) (fun c2 => ?_) (fun c2 => ?_)
    · replace h := xif_p c2 h
      refine x_iconst (v := 0) dX11_isByte_15 (by decide) ?_
      cases h
      exact x_zret dX11_isByte_16 (Or.inl rfl) ⟨rfl, rfl, rfl⟩
    · replace h := xif_n c2 h
      refine x_iconst (v := 1) dX11_isByte_11 (by decide) ?_
      refine x_goto (tgt := 16) dX11_isByte_12 (by decide) ?_
      cases h
      exact x_zret dX11_isByte_16 (Or.inr rfl) ⟨rfl, rfl, rfl⟩
def f_X11_syndrome_0 (n : Nat)  (p1 : Int32) (p2 : Int32) : Option Int32 := (Option.bind (f_X11_isByte p2) (fun q1 => (if q1 = 0 then (some ((-3))) else (Option.bind (f_X1_ofHeader n p1) (fun q3 => (some ((q3 ^^^ p2))))))))
set_option maxRecDepth 100000 in
set_option maxHeartbeats 400000 in
theorem v_X11_syndrome_0 (N : Nat) (s0 : XW) (n : Nat)  (p1 : Int32) (p2 : Int32) (q : Int32) (h : f_X11_syndrome_0 n p1 p2 = some q) : C_X11_syndrome 2 N [.ref 0, .int p1, .int p2] (xof s0 []) (some (.int q)) (xof s0 []) := by
  unfold f_X11_syndrome_0 at h
  show V yX11_syndrome cX11_syndrome (some .int) 2 N (0, 0) 0 [some (.ref 0), some (.int p1), some (.int p2)] [] (xof s0 []) _
  refine x_iload_n dX11_syndrome_0 rfl ?_
  obtain ⟨q1, hq1, h⟩ := Option.bind_eq_some_iff.mp h
  refine y_callSi (L' := []) mi_X11_isByte ml_X11_305 st_X11_isByte dX11_syndrome_1 (fun s1 => v_X11_isByte N s1 _ q1 hq1) (Nat.le_of_ble_eq_true rfl) rfl (by decide) (Nat.le_of_ble_eq_true rfl) rfl rfl rfl rfl ?_
  refine x_if_eq (tgt := 16) dX11_syndrome_4 (by decide) (fun c2 => ?_) (fun c2 => ?_)
  · replace h := xif_p c2 h
    refine x_bipush (v := -3) dX11_syndrome_16 (by decide) ?_
    cases h
    exact x_iret dX11_syndrome_18 ⟨rfl, rfl, rfl⟩
  · replace h := xif_n c2 h
    refine x_iload_n dX11_syndrome_7 rfl ?_
    obtain ⟨q3, hq3, h⟩ := Option.bind_eq_some_iff.mp h
    refine y_callSi (L' := []) mi_X1_ofHeader ml_X11_302 st_X1_ofHeader dX11_syndrome_8 (fun s1 => v_X1_ofHeader N s1 n _ q3 hq3) (Nat.le_of_ble_eq_true rfl) rfl (by decide) (Nat.le_of_ble_eq_true rfl) rfl rfl rfl rfl ?_
    refine x_iload_n dX11_syndrome_11 rfl ?_
    refine x_ixor dX11_syndrome_12 ?_
    refine x_goto (tgt := 18) dX11_syndrome_13 (by decide) ?_
    cases h
    exact x_iret dX11_syndrome_18 ⟨rfl, rfl, rfl⟩
def f_X11_single_0 (n : Nat)  (p1 : Int32) : Option Int32 := (Option.bind (f_X11_isByte p1) (fun q1 => (if q1 = 0 then (some ((-3))) else (Option.bind (f_X1_bitOf n p1) (fun q3 => (some q3))))))
set_option maxRecDepth 100000 in
set_option maxHeartbeats 400000 in
theorem v_X11_single_0 (N : Nat) (s0 : XW) (n : Nat)  (p1 : Int32) (q : Int32) (h : f_X11_single_0 n p1 = some q) : C_X11_single 2 N [.ref 0, .int p1] (xof s0 []) (some (.int q)) (xof s0 []) := by
  unfold f_X11_single_0 at h
  show V yX11_single cX11_single (some .int) 2 N (0, 0) 0 [some (.ref 0), some (.int p1)] [] (xof s0 []) _
  refine x_iload_n dX11_single_0 rfl ?_
  obtain ⟨q1, hq1, h⟩ := Option.bind_eq_some_iff.mp h
  refine y_callSi (L' := []) mi_X11_isByte ml_X11_305 st_X11_isByte dX11_single_1 (fun s1 => v_X11_isByte N s1 _ q1 hq1) (Nat.le_of_ble_eq_true rfl) rfl (by decide) (Nat.le_of_ble_eq_true rfl) rfl rfl rfl rfl ?_
  refine x_if_eq (tgt := 14) dX11_single_4 (by decide) (fun c2 => ?_) (fun c2 => ?_)
  · replace h := xif_p c2 h
    refine x_bipush (v := -3) dX11_single_14 (by decide) ?_
    cases h
    exact x_iret dX11_single_16 ⟨rfl, rfl, rfl⟩
  · replace h := xif_n c2 h
    refine x_iload_n dX11_single_7 rfl ?_
    obtain ⟨q3, hq3, h⟩ := Option.bind_eq_some_iff.mp h
    refine y_callSi (L' := []) mi_X1_bitOf ml_X11_308 st_X1_bitOf dX11_single_8 (fun s1 => v_X1_bitOf N s1 n _ q3 hq3) (Nat.le_of_ble_eq_true rfl) rfl (by decide) (Nat.le_of_ble_eq_true rfl) rfl rfl rfl rfl ?_
    refine x_goto (tgt := 16) dX11_single_11 (by decide) ?_
    cases h
    exact x_iret dX11_single_16 ⟨rfl, rfl, rfl⟩
def l_X11_latest_0_36 (n : Nat) (a1 : Nat → Int32) (o2 : Nat → Int32) (a3 : Nat → Int32) (o4 : Nat → Int32) (a6 : Nat → Int32) (a7 : Nat → Int32) (o16 : Nat → Int32) (a17 : Nat → Int32) (o18 : Nat → Int32) (j18 : Int64) (j19 : Int64) (a20 : Nat → Int32) (l1 : Int32) (l5 : Int32) : Nat → (Int32) → (Int32) → (Int32) → (Int32) → (Nat → Int32) → (Nat → Int32) → (Nat → Int32) → (Nat → Int32) → (Int64) → (Int64) → (Nat → Int32) → Option (((Int32) × (Int32) × (Int32) × (Int32) × (Nat → Int32) × (Nat → Int32) × (Nat → Int32) × (Nat → Int32) × (Int64) × (Int64) × (Nat → Int32)))
  | 0, _, _, _, _, _, _, _, _, _, _, _ => none
  | k + 1, l2, l3, l4, l6, o21, a22, a23, o24, j24, j25, a26 => (if l5 < l6 then (some (l2, l3, l4, l6, o21, a22, a23, o24, j24, j25, a26)) else (Option.bind (f_X6_mirror_21_16 a1 o16 a17 o18 j18 j19 a20 o21 a22 a23 o24 j24 j25 a26) (fun q5 => (Option.bind (f_X11_bitsTillSure_0 n o2 a3 o4 a6 a7 q5.1 q5.2.1 q5.2.2.1 q5.2.2.2.1 q5.2.2.2.2.1 q5.2.2.2.2.2.1 q5.2.2.2.2.2.2 (((o2 2) + l6))) (fun q6 => (if q6.1 = (-1) then (if q6.1 ≤ l2 then (l_X11_latest_0_36 n a1 o2 a3 o4 a6 a7 o16 a17 o18 j18 j19 a20 l1 l5 k l2 l3 l4 ((l6 + 1)) q6.2.1 q5.2.1 q6.2.2.1 q6.2.2.2.1 q6.2.2.2.2.1 q6.2.2.2.2.2.1 q6.2.2.2.2.2.2) else (l_X11_latest_0_36 n a1 o2 a3 o4 a6 a7 o16 a17 o18 j18 j19 a20 l1 l5 k q6.1 l6 l4 ((l6 + 1)) q6.2.1 q5.2.1 q6.2.2.1 q6.2.2.2.1 q6.2.2.2.2.1 q6.2.2.2.2.2.1 q6.2.2.2.2.2.2)) else (if q6.1 ≤ l2 then (l_X11_latest_0_36 n a1 o2 a3 o4 a6 a7 o16 a17 o18 j18 j19 a20 l1 l5 k l2 l3 ((l4 + 1)) ((l6 + 1)) q6.2.1 q5.2.1 q6.2.2.1 q6.2.2.2.1 q6.2.2.2.2.1 q6.2.2.2.2.2.1 q6.2.2.2.2.2.2) else (l_X11_latest_0_36 n a1 o2 a3 o4 a6 a7 o16 a17 o18 j18 j19 a20 l1 l5 k q6.1 l6 ((l4 + 1)) ((l6 + 1)) q6.2.1 q5.2.1 q6.2.2.1 q6.2.2.2.1 q6.2.2.2.2.1 q6.2.2.2.2.2.1 q6.2.2.2.2.2.2))))))))
set_option maxRecDepth 100000 in
set_option maxHeartbeats 400000 in
theorem lv_X11_latest_0_36 (s0 : XW) (n : Nat) (a1 : Nat → Int32) (o2 : Nat → Int32) (a3 : Nat → Int32) (o4 : Nat → Int32) (a6 : Nat → Int32) (a7 : Nat → Int32) (o16 : Nat → Int32) (a17 : Nat → Int32) (o18 : Nat → Int32) (j18 : Int64) (j19 : Int64) (a20 : Nat → Int32) (l1 : Int32) (l5 : Int32) (Q : Nat → Option Value → XW → Prop) : ∀ (k : Nat) (l2 : Int32) (l3 : Int32) (l4 : Int32) (l6 : Int32) (o21 : Nat → Int32) (a22 : Nat → Int32) (a23 : Nat → Int32) (o24 : Nat → Int32) (j24 : Int64) (j25 : Int64) (a26 : Nat → Int32) (o : ((Int32) × (Int32) × (Int32) × (Int32) × (Nat → Int32) × (Nat → Int32) × (Nat → Int32) × (Nat → Int32) × (Int64) × (Int64) × (Nat → Int32))), l_X11_latest_0_36 n a1 o2 a3 o4 a6 a7 o16 a17 o18 j18 j19 a20 l1 l5 k l2 l3 l4 l6 o21 a22 a23 o24 j24 j25 a26 = some o → (V yX11_latest cX11_latest (some .int) 6 61 (0, 0) 97 [none, some (.int l1), some (.int o.1), some (.int o.2.1), some (.int o.2.2.1), none, none, none] [] (xof s0 [W_0, W_1 a1, W_2 o2, W_3 a3, W_4 o4, W_6 a6, W_7 a7, W_16 o16, W_17 a17, W_18 o18 j18, W_19 j19, W_20 a20, W_21 o.2.2.2.2.1, W_22 o.2.2.2.2.2.1, W_23 o.2.2.2.2.2.2.1, W_24 o.2.2.2.2.2.2.2.1 o.2.2.2.2.2.2.2.2.1, W_25 o.2.2.2.2.2.2.2.2.2.1, W_26 o.2.2.2.2.2.2.2.2.2.2]) Q) → V yX11_latest cX11_latest (some .int) 6 61 (0, 0) 36 [some (.ref 0), some (.int l1), some (.int l2), some (.int l3), some (.int l4), some (.int l5), some (.int l6), none] [] (xof s0 [W_0, W_1 a1, W_2 o2, W_3 a3, W_4 o4, W_6 a6, W_7 a7, W_16 o16, W_17 a17, W_18 o18 j18, W_19 j19, W_20 a20, W_21 o21, W_22 a22, W_23 a23, W_24 o24 j24, W_25 j25, W_26 a26]) Q := by
  intro k
  induction k with
  | zero =>
    intro _ _ _ _ _ _ _ _ _ _ _ _ h
    simp [l_X11_latest_0_36] at h
  | succ k ih =>
    intro l2 l3 l4 l6 o21 a22 a23 o24 j24 j25 a26 o h hk
    rw [l_X11_latest_0_36] at h
    refine x_iload dX11_latest_36 rfl ?_
    refine x_iload dX11_latest_38 rfl ?_
    refine x_icmp_gt (tgt := 97) dX11_latest_40 (by decide) (fun c4 => ?_) (fun c4 => ?_)
    · replace h := xif_p c4 h
      refine V.drop1 (i := 0) (ls' := [_, _, _, _, _, _, _, _]) rfl ?_
      refine V.drop1 (i := 5) (ls' := [_, _, _, _, _, _, _, _]) rfl ?_
      refine V.drop1 (i := 6) (ls' := [_, _, _, _, _, _, _, _]) rfl ?_
      show V yX11_latest cX11_latest (some .int) 6 61 (0, 0) 97 [none, some (.int l1), some (.int l2), some (.int l3), some (.int l4), none, none, none] [] (xof s0 [W_0, W_1 a1, W_2 o2, W_3 a3, W_4 o4, W_6 a6, W_7 a7, W_16 o16, W_17 a17, W_18 o18 j18, W_19 j19, W_20 a20, W_21 o21, W_22 a22, W_23 a23, W_24 o24 j24, W_25 j25, W_26 a26]) _
      cases h
      exact hk
    · replace h := xif_n c4 h
      refine x_aload_n dX11_latest_43 rfl ?_
      refine g_X11_51 rfl dX11_latest_44 (by decide) rfl rfl ?_
      refine x_aload_n dX11_latest_47 rfl ?_
      refine g_X11_47 rfl dX11_latest_48 (by decide) rfl rfl ?_
      obtain ⟨q5, hq5, h⟩ := Option.bind_eq_some_iff.mp h
      refine y_callVv (L' := [(0, _), (1, _), (2, _), (3, _), (4, _), (6, _), (7, _), (16, _), (17, _), (18, _), (19, _), (20, _), (21, _), (22, _), (23, _), (24, _), (25, _), (26, _)]) mi_X6_mirror ml_X11_267 im_X6_mirror se_X6_mirror (rfl : vwCl[5]? = _) dX11_latest_51 (fun s1 => v_X6_mirror_21_16 s1 _ _ _ _ _ _ _ _ _ _ _ _ _ _ q5 hq5) (by decide) rfl (Nat.le_of_ble_eq_true rfl) rfl (by decide) (Nat.le_of_ble_eq_true rfl) rfl rfl rfl rfl ?_
      refine x_aload_n dX11_latest_54 rfl ?_
      refine x_aload_n dX11_latest_55 rfl ?_
      refine g_X11_24 rfl dX11_latest_56 (by decide) rfl rfl ?_
      refine g_X11_125 rfl dX11_latest_59 (by decide) rfl rfl ?_
      refine x_iload dX11_latest_62 rfl ?_
      refine x_iadd dX11_latest_64 ?_
      obtain ⟨q6, hq6, h⟩ := Option.bind_eq_some_iff.mp h
      refine y_callVi (L' := [(0, _), (1, _), (2, _), (3, _), (4, _), (6, _), (7, _), (16, _), (17, _), (18, _), (19, _), (20, _), (21, _), (22, _), (23, _), (24, _), (25, _), (26, _)]) mi_X11_bitsTillSure ml_X11_277 im_X11_bitsTillSure se_X11_bitsTillSure (rfl : vwCl[10]? = _) dX11_latest_65 (fun s1 => v_X11_bitsTillSure_0 s1 n _ _ _ _ _ _ _ _ _ _ _ _ _ q6 hq6) (by decide) rfl (Nat.le_of_ble_eq_true rfl) rfl (by decide) (Nat.le_of_ble_eq_true rfl) rfl rfl rfl rfl ?_
      refine x_istore (ls' := [_, _, _, _, _, _, _, _]) dX11_latest_68 rfl rfl ?_
      refine x_iload dX11_latest_70 rfl ?_
      refine x_iconst (v := -1) dX11_latest_72 (by decide) ?_
      refine x_icmp_eq (tgt := 79) dX11_latest_73 (by decide) (fun c7 => ?_) (fun c7 => ?_)
      · replace h := xif_p c7 h
        refine x_iload dX11_latest_79 rfl ?_
        refine x_iload_n dX11_latest_81 rfl ?_
        refine x_icmp_le (tgt := 91) dX11_latest_82 (by decide) (fun c8 => ?_) (fun c8 => ?_)
        · replace h := xif_p c8 h
          refine x_iinc (v := l6 + 1) (ls' := [_, _, _, _, _, _, _, _]) dX11_latest_91 rfl rfl rfl rfl ?_
          refine x_goto (tgt := 36) dX11_latest_94 (by decide) ?_
          refine V.drop1 (i := 7) (ls' := [_, _, _, _, _, _, _, _]) rfl ?_
          show V yX11_latest cX11_latest (some .int) 6 61 (0, 0) 36 [some (.ref 0), some (.int l1), some (.int l2), some (.int l3), some (.int l4), some (.int l5), some (.int ((l6 + 1))), none] [] (xof s0 [W_0, W_1 a1, W_2 o2, W_3 a3, W_4 o4, W_6 a6, W_7 a7, W_16 o16, W_17 a17, W_18 o18 j18, W_19 j19, W_20 a20, W_21 q6.2.1, W_22 q5.2.1, W_23 q6.2.2.1, W_24 q6.2.2.2.1 q6.2.2.2.2.1, W_25 q6.2.2.2.2.2.1, W_26 q6.2.2.2.2.2.2]) _
          exact ih l2 l3 l4 ((l6 + 1)) q6.2.1 q5.2.1 q6.2.2.1 q6.2.2.2.1 q6.2.2.2.2.1 q6.2.2.2.2.2.1 q6.2.2.2.2.2.2 _ h hk
        · replace h := xif_n c8 h
          refine x_iload dX11_latest_85 rfl ?_
          refine x_istore_n (ls' := [_, _, _, _, _, _, _, _]) dX11_latest_87 rfl rfl ?_
          refine x_iload dX11_latest_88 rfl ?_
          refine x_istore_n (ls' := [_, _, _, _, _, _, _, _]) dX11_latest_90 rfl rfl ?_
          refine x_iinc (v := l6 + 1) (ls' := [_, _, _, _, _, _, _, _]) dX11_latest_91 rfl rfl rfl rfl ?_
          refine x_goto (tgt := 36) dX11_latest_94 (by decide) ?_
          refine V.drop1 (i := 7) (ls' := [_, _, _, _, _, _, _, _]) rfl ?_
          show V yX11_latest cX11_latest (some .int) 6 61 (0, 0) 36 [some (.ref 0), some (.int l1), some (.int q6.1), some (.int l6), some (.int l4), some (.int l5), some (.int ((l6 + 1))), none] [] (xof s0 [W_0, W_1 a1, W_2 o2, W_3 a3, W_4 o4, W_6 a6, W_7 a7, W_16 o16, W_17 a17, W_18 o18 j18, W_19 j19, W_20 a20, W_21 q6.2.1, W_22 q5.2.1, W_23 q6.2.2.1, W_24 q6.2.2.2.1 q6.2.2.2.2.1, W_25 q6.2.2.2.2.2.1, W_26 q6.2.2.2.2.2.2]) _
          exact ih q6.1 l6 l4 ((l6 + 1)) q6.2.1 q5.2.1 q6.2.2.1 q6.2.2.2.1 q6.2.2.2.2.1 q6.2.2.2.2.2.1 q6.2.2.2.2.2.2 _ h hk
      · replace h := xif_n c7 h
        refine x_iinc (v := l4 + 1) (ls' := [_, _, _, _, _, _, _, _]) dX11_latest_76 rfl rfl rfl rfl ?_
        refine x_iload dX11_latest_79 rfl ?_
        refine x_iload_n dX11_latest_81 rfl ?_
        refine x_icmp_le (tgt := 91) dX11_latest_82 (by decide) (fun c9 => ?_) (fun c9 => ?_)
        · replace h := xif_p c9 h
          refine x_iinc (v := l6 + 1) (ls' := [_, _, _, _, _, _, _, _]) dX11_latest_91 rfl rfl rfl rfl ?_
          refine x_goto (tgt := 36) dX11_latest_94 (by decide) ?_
          refine V.drop1 (i := 7) (ls' := [_, _, _, _, _, _, _, _]) rfl ?_
          show V yX11_latest cX11_latest (some .int) 6 61 (0, 0) 36 [some (.ref 0), some (.int l1), some (.int l2), some (.int l3), some (.int ((l4 + 1))), some (.int l5), some (.int ((l6 + 1))), none] [] (xof s0 [W_0, W_1 a1, W_2 o2, W_3 a3, W_4 o4, W_6 a6, W_7 a7, W_16 o16, W_17 a17, W_18 o18 j18, W_19 j19, W_20 a20, W_21 q6.2.1, W_22 q5.2.1, W_23 q6.2.2.1, W_24 q6.2.2.2.1 q6.2.2.2.2.1, W_25 q6.2.2.2.2.2.1, W_26 q6.2.2.2.2.2.2]) _
          exact ih l2 l3 ((l4 + 1)) ((l6 + 1)) q6.2.1 q5.2.1 q6.2.2.1 q6.2.2.2.1 q6.2.2.2.2.1 q6.2.2.2.2.2.1 q6.2.2.2.2.2.2 _ h hk
        · replace h := xif_n c9 h
          refine x_iload dX11_latest_85 rfl ?_
          refine x_istore_n (ls' := [_, _, _, _, _, _, _, _]) dX11_latest_87 rfl rfl ?_
          refine x_iload dX11_latest_88 rfl ?_
          refine x_istore_n (ls' := [_, _, _, _, _, _, _, _]) dX11_latest_90 rfl rfl ?_
          refine x_iinc (v := l6 + 1) (ls' := [_, _, _, _, _, _, _, _]) dX11_latest_91 rfl rfl rfl rfl ?_
          refine x_goto (tgt := 36) dX11_latest_94 (by decide) ?_
          refine V.drop1 (i := 7) (ls' := [_, _, _, _, _, _, _, _]) rfl ?_
          show V yX11_latest cX11_latest (some .int) 6 61 (0, 0) 36 [some (.ref 0), some (.int l1), some (.int q6.1), some (.int l6), some (.int ((l4 + 1))), some (.int l5), some (.int ((l6 + 1))), none] [] (xof s0 [W_0, W_1 a1, W_2 o2, W_3 a3, W_4 o4, W_6 a6, W_7 a7, W_16 o16, W_17 a17, W_18 o18 j18, W_19 j19, W_20 a20, W_21 q6.2.1, W_22 q5.2.1, W_23 q6.2.2.1, W_24 q6.2.2.2.1 q6.2.2.2.2.1, W_25 q6.2.2.2.2.2.1, W_26 q6.2.2.2.2.2.2]) _
          exact ih q6.1 l6 ((l4 + 1)) ((l6 + 1)) q6.2.1 q5.2.1 q6.2.2.1 q6.2.2.2.1 q6.2.2.2.2.1 q6.2.2.2.2.2.1 q6.2.2.2.2.2.2 _ h hk
def f_X11_latest_0 (n : Nat) (a1 : Nat → Int32) (o2 : Nat → Int32) (a3 : Nat → Int32) (o4 : Nat → Int32) (a6 : Nat → Int32) (a7 : Nat → Int32) (o16 : Nat → Int32) (a17 : Nat → Int32) (o18 : Nat → Int32) (j18 : Int64) (j19 : Int64) (a20 : Nat → Int32) (o21 : Nat → Int32) (a22 : Nat → Int32) (a23 : Nat → Int32) (o24 : Nat → Int32) (j24 : Int64) (j25 : Int64) (a26 : Nat → Int32) (p1 : Int32) : Option (((Int32) × (Nat → Int32) × (Nat → Int32) × (Nat → Int32) × (Nat → Int32) × (Int64) × (Int64) × (Nat → Int32))) := (Option.bind (f_X11_isWithin p1 0 2) (fun q1 => (if q1 = 0 then (some ((-2), o21, a22, a23, o24, j24, j25, a26)) else (Option.bind (f_X4_left_2 o2) (fun q3 => (Option.bind (l_X11_latest_0_36 n a1 o2 a3 o4 a6 a7 o16 a17 o18 j18 j19 a20 p1 ((if q3 < 64 then q3 else 64)) n ((-1)) ((-1)) 0 1 o21 a22 a23 o24 j24 j25 a26) (fun u10 => (if p1 = 2 then (some (u10.2.2.1, u10.2.2.2.2.1, u10.2.2.2.2.2.1, u10.2.2.2.2.2.2.1, u10.2.2.2.2.2.2.2.1, u10.2.2.2.2.2.2.2.2.1, u10.2.2.2.2.2.2.2.2.2.1, u10.2.2.2.2.2.2.2.2.2.2)) else (if p1 = 0 then (some (u10.1, u10.2.2.2.2.1, u10.2.2.2.2.2.1, u10.2.2.2.2.2.2.1, u10.2.2.2.2.2.2.2.1, u10.2.2.2.2.2.2.2.2.1, u10.2.2.2.2.2.2.2.2.2.1, u10.2.2.2.2.2.2.2.2.2.2)) else (some (u10.2.1, u10.2.2.2.2.1, u10.2.2.2.2.2.1, u10.2.2.2.2.2.2.1, u10.2.2.2.2.2.2.2.1, u10.2.2.2.2.2.2.2.2.1, u10.2.2.2.2.2.2.2.2.2.1, u10.2.2.2.2.2.2.2.2.2.2)))))))))))
set_option maxRecDepth 100000 in
set_option maxHeartbeats 400000 in
theorem v_X11_latest_0 (s0 : XW) (n : Nat) (a1 : Nat → Int32) (o2 : Nat → Int32) (a3 : Nat → Int32) (o4 : Nat → Int32) (a6 : Nat → Int32) (a7 : Nat → Int32) (o16 : Nat → Int32) (a17 : Nat → Int32) (o18 : Nat → Int32) (j18 : Int64) (j19 : Int64) (a20 : Nat → Int32) (o21 : Nat → Int32) (a22 : Nat → Int32) (a23 : Nat → Int32) (o24 : Nat → Int32) (j24 : Int64) (j25 : Int64) (a26 : Nat → Int32) (p1 : Int32) (q : ((Int32) × (Nat → Int32) × (Nat → Int32) × (Nat → Int32) × (Nat → Int32) × (Int64) × (Int64) × (Nat → Int32))) (h : f_X11_latest_0 n a1 o2 a3 o4 a6 a7 o16 a17 o18 j18 j19 a20 o21 a22 a23 o24 j24 j25 a26 p1 = some q) : C_X11_latest 6 61 [.ref 0, .int p1] (xof s0 [W_0, W_1 a1, W_2 o2, W_3 a3, W_4 o4, W_6 a6, W_7 a7, W_16 o16, W_17 a17, W_18 o18 j18, W_19 j19, W_20 a20, W_21 o21, W_22 a22, W_23 a23, W_24 o24 j24, W_25 j25, W_26 a26]) (some (.int q.1)) (xof s0 [W_0, W_1 a1, W_2 o2, W_3 a3, W_4 o4, W_6 a6, W_7 a7, W_16 o16, W_17 a17, W_18 o18 j18, W_19 j19, W_20 a20, W_21 q.2.1, W_22 q.2.2.1, W_23 q.2.2.2.1, W_24 q.2.2.2.2.1 q.2.2.2.2.2.1, W_25 q.2.2.2.2.2.2.1, W_26 q.2.2.2.2.2.2.2]) := by
  unfold f_X11_latest_0 at h
  show V yX11_latest cX11_latest (some .int) 6 61 (0, 0) 0 [some (.ref 0), some (.int p1), none, none, none, none, none, none] [] (xof s0 [W_0, W_1 a1, W_2 o2, W_3 a3, W_4 o4, W_6 a6, W_7 a7, W_16 o16, W_17 a17, W_18 o18 j18, W_19 j19, W_20 a20, W_21 o21, W_22 a22, W_23 a23, W_24 o24 j24, W_25 j25, W_26 a26]) _
  refine x_iload_n dX11_latest_0 rfl ?_
  refine x_iconst (v := 0) dX11_latest_1 (by decide) ?_
  refine x_iconst (v := 2) dX11_latest_2 (by decide) ?_
  obtain ⟨q1, hq1, h⟩ := Option.bind_eq_some_iff.mp h
  refine y_callSi (L' := [(0, _), (1, _), (2, _), (3, _), (4, _), (6, _), (7, _), (16, _), (17, _), (18, _), (19, _), (20, _), (21, _), (22, _), (23, _), (24, _), (25, _), (26, _)]) mi_X11_isWithin ml_X11_100 st_X11_isWithin dX11_latest_3 (fun s1 => v_X11_isWithin 61 s1 _ _ _ q1 hq1) (Nat.le_of_ble_eq_true rfl) rfl (by decide) (Nat.le_of_ble_eq_true rfl) rfl rfl rfl rfl ?_
  refine x_if_ne (tgt := 12) dX11_latest_6 (by decide) (fun c2 => ?_) (fun c2 => ?_)
  · replace h := xif_n c2 h
    refine x_iconst (v := -1) dX11_latest_12 (by decide) ?_
    refine x_istore_n (ls' := [_, _, _, _, _, _, _, _]) dX11_latest_13 rfl rfl ?_
    refine x_iconst (v := -1) dX11_latest_14 (by decide) ?_
    refine x_istore_n (ls' := [_, _, _, _, _, _, _, _]) dX11_latest_15 rfl rfl ?_
    refine x_iconst (v := 0) dX11_latest_16 (by decide) ?_
    refine x_istore (ls' := [_, _, _, _, _, _, _, _]) dX11_latest_17 rfl rfl ?_
    refine x_bipush (v := 64) dX11_latest_19 (by decide) ?_
    refine x_aload_n dX11_latest_21 rfl ?_
    refine g_X11_24 rfl dX11_latest_22 (by decide) rfl rfl ?_
    obtain ⟨q3, hq3, h⟩ := Option.bind_eq_some_iff.mp h
    refine y_callVi (L' := [(0, _), (1, _), (2, _), (3, _), (4, _), (6, _), (7, _), (16, _), (17, _), (18, _), (19, _), (20, _), (21, _), (22, _), (23, _), (24, _), (25, _), (26, _)]) mi_X4_left ml_X11_274 im_X4_left se_X4_left (rfl : vwCl[3]? = _) dX11_latest_25 (fun s1 => v_X4_left_2 s1 _ q3 hq3) (by decide) rfl (Nat.le_of_ble_eq_true rfl) rfl (by decide) (Nat.le_of_ble_eq_true rfl) rfl rfl rfl rfl ?_
    refine x_mmin dX11_latest_28 ml_X11_283 (by decide) (Nat.le_of_ble_eq_true rfl) ?_
    refine x_istore (ls' := [_, _, _, _, _, _, _, _]) dX11_latest_31 rfl rfl ?_
    refine x_iconst (v := 1) dX11_latest_33 (by decide) ?_
    refine x_istore (ls' := [_, _, _, _, _, _, _, _]) dX11_latest_34 rfl rfl ?_
    obtain ⟨u10, hu10, h⟩ := Option.bind_eq_some_iff.mp h
    show V yX11_latest cX11_latest (some .int) 6 61 (0, 0) 36 [some (.ref 0), some (.int p1), some (.int ((-1))), some (.int ((-1))), some (.int 0), some (.int ((if q3 < 64 then q3 else 64))), some (.int 1), none] [] (xof s0 [W_0, W_1 a1, W_2 o2, W_3 a3, W_4 o4, W_6 a6, W_7 a7, W_16 o16, W_17 a17, W_18 o18 j18, W_19 j19, W_20 a20, W_21 o21, W_22 a22, W_23 a23, W_24 o24 j24, W_25 j25, W_26 a26]) _
    refine lv_X11_latest_0_36 s0 _ a1 o2 a3 o4 a6 a7 o16 a17 o18 j18 j19 a20 p1 ((if q3 < 64 then q3 else 64)) _ n ((-1)) ((-1)) 0 1 o21 a22 a23 o24 j24 j25 a26 _ hu10 ?_
    refine x_iload_n dX11_latest_97 rfl ?_
    refine x_iconst (v := 2) dX11_latest_98 (by decide) ?_
    refine x_icmp_ne (tgt := 105) dX11_latest_99 (by decide) (fun c11 => ?_) (fun c11 => ?_)
    · replace h := xif_n c11 h
      refine x_iload_n dX11_latest_105 rfl ?_
      refine x_if_ne (tgt := 113) dX11_latest_106 (by decide) (fun c12 => ?_) (fun c12 => ?_)
      · replace h := xif_n c12 h
        refine x_iload_n dX11_latest_113 rfl ?_
        cases h
        exact x_iret dX11_latest_114 ⟨rfl, rfl, rfl⟩
      · replace h := xif_p c12 h
        refine x_iload_n dX11_latest_109 rfl ?_
        refine x_goto (tgt := 114) dX11_latest_110 (by decide) ?_
        cases h
        exact x_iret dX11_latest_114 ⟨rfl, rfl, rfl⟩
    · replace h := xif_p c11 h
      refine x_iload dX11_latest_102 rfl ?_
      cases h
      exact x_iret dX11_latest_104 ⟨rfl, rfl, rfl⟩
  · replace h := xif_p c2 h
    refine x_bipush (v := -2) dX11_latest_9 (by decide) ?_
    cases h
    exact x_iret dX11_latest_11 ⟨rfl, rfl, rfl⟩
def f_X1_shareOf_35 (a36 : Nat → Int32) (p1 : Int32) : Option Int32 := (if p1 < 0 then (some 0) else (if 40 ≤ p1 then (some 0) else (bif xin p1 40 then (some ((a36 (Int32.toNatClampNeg p1)))) else none)))
set_option maxRecDepth 100000 in
set_option maxHeartbeats 400000 in
theorem v_X1_shareOf_35 (s0 : XW) (a36 : Nat → Int32) (p1 : Int32) (q : Int32) (h : f_X1_shareOf_35 a36 p1 = some q) : C_X1_shareOf 0 61 [.ref 35, .int p1] (xof s0 [W_35, W_36 a36]) (some (.int q)) (xof s0 [W_35, W_36 a36]) := by
  unfold f_X1_shareOf_35 at h
  show V yX1_shareOf cX1_shareOf (some .int) 0 61 (0, 0) 0 [some (.ref 35), some (.int p1)] [] (xof s0 [W_35, W_36 a36]) _
  refine x_iload_n dX1_shareOf_0 rfl ?_
  refine x_if_lt (tgt := 22) dX1_shareOf_1 (by decide) (fun c1 => ?_) (fun c1 => ?_)
  · replace h := xif_p c1 h
    refine x_iconst (v := 0) dX1_shareOf_22 (by decide) ?_
    cases h
    exact x_iret dX1_shareOf_23 ⟨rfl, rfl, rfl⟩
  · replace h := xif_n c1 h
    refine x_iload_n dX1_shareOf_4 rfl ?_
    refine x_aload_n dX1_shareOf_5 rfl ?_
    refine g_X1_9 rfl dX1_shareOf_6 (by decide) rfl rfl ?_
    refine x_alen (v := 40) dX1_shareOf_9 (by decide) rfl (by decide) rfl ?_
    refine x_icmp_ge (tgt := 22) dX1_shareOf_10 (by decide) (fun c2 => ?_) (fun c2 => ?_)
    · replace h := xif_p c2 h
      refine x_iconst (v := 0) dX1_shareOf_22 (by decide) ?_
      cases h
      exact x_iret dX1_shareOf_23 ⟨rfl, rfl, rfl⟩
    · replace h := xif_n c2 h
      refine x_aload_n dX1_shareOf_13 rfl ?_
      refine g_X1_9 rfl dX1_shareOf_14 (by decide) rfl rfl ?_
      refine x_iload_n dX1_shareOf_17 rfl ?_
      obtain ⟨c3, h⟩ := xck h
      refine x_ialdK (jn := (Int32.toNatClampNeg p1)) (v := (a36 (Int32.toNatClampNeg p1))) dX1_shareOf_18 (by decide) rfl (xin_ok c3) rfl rfl ?_
      refine x_goto (tgt := 23) dX1_shareOf_19 (by decide) ?_
      cases h
      exact x_iret dX1_shareOf_23 ⟨rfl, rfl, rfl⟩
def l_X1_pairOf_35_18 (n : Nat) (a36 : Nat → Int32) (l1 : Int32) (l2 : Int32) (l4 : Int32) : Nat → (Int32) → (Int32) → Option (Int32 ⊕ (((Int32) × (Int32))))
  | 0, _, _ => none
  | k + 1, l3, l5 => (if 40 ≤ l5 then (some (Sum.inr (l3, l5))) else (Option.bind (f_X1_shareOf_35 a36 l4) (fun q3 => (Option.bind (f_X1_shareOf_35 a36 l5) (fun q4 => (if (q3 ^^^ q4) = l1 then (if l3 = l2 then (some (Sum.inl (((100 * l4) + l5)))) else (l_X1_pairOf_35_18 n a36 l1 l2 l4 k ((l3 + 1)) ((l5 + 1)))) else (l_X1_pairOf_35_18 n a36 l1 l2 l4 k l3 ((l5 + 1)))))))))
set_option maxRecDepth 100000 in
set_option maxHeartbeats 400000 in
theorem lv_X1_pairOf_35_18 (s0 : XW) (n : Nat) (a36 : Nat → Int32) (l1 : Int32) (l2 : Int32) (l4 : Int32) (Q : Nat → Option Value → XW → Prop) : ∀ (k : Nat) (l3 : Int32) (l5 : Int32) (o : Int32 ⊕ (((Int32) × (Int32)))), l_X1_pairOf_35_18 n a36 l1 l2 l4 k l3 l5 = some o → ((∀ z, o = Sum.inl z → Q 61 (some (.int z)) (xof s0 [W_35, W_36 a36])) ∧ (∀ z, o = Sum.inr z → V yX1_pairOf cX1_pairOf (some .int) 1 61 (0, 0) 65 [some (.ref 35), some (.int l1), some (.int l2), some (.int z.1), some (.int l4), none] [] (xof s0 [W_35, W_36 a36]) Q)) → V yX1_pairOf cX1_pairOf (some .int) 1 61 (0, 0) 18 [some (.ref 35), some (.int l1), some (.int l2), some (.int l3), some (.int l4), some (.int l5)] [] (xof s0 [W_35, W_36 a36]) Q := by
  intro k
  induction k with
  | zero =>
    intro _ _ _ h
    simp [l_X1_pairOf_35_18] at h
  | succ k ih =>
    intro l3 l5 o h hk
    rw [l_X1_pairOf_35_18] at h
    refine x_iload dX1_pairOf_18 rfl ?_
    refine x_bipush (v := 40) dX1_pairOf_20 (by decide) ?_
    refine x_icmp_ge (tgt := 65) dX1_pairOf_22 (by decide) (fun c2 => ?_) (fun c2 => ?_)
    · replace h := xif_p c2 h
      refine V.drop1 (i := 5) (ls' := [_, _, _, _, _, _]) rfl ?_
      show V yX1_pairOf cX1_pairOf (some .int) 1 61 (0, 0) 65 [some (.ref 35), some (.int l1), some (.int l2), some (.int l3), some (.int l4), none] [] (xof s0 [W_35, W_36 a36]) _
      cases h
      exact hk.2 (l3, l5) rfl
    · replace h := xif_n c2 h
      refine x_aload_n dX1_pairOf_25 rfl ?_
      refine x_iload dX1_pairOf_26 rfl ?_
      obtain ⟨q3, hq3, h⟩ := Option.bind_eq_some_iff.mp h
      refine y_callVi (L' := [(35, _), (36, _)]) mi_X1_shareOf ml_X1_22 im_X1_shareOf se_X1_shareOf (rfl : vwCl[0]? = _) dX1_pairOf_28 (fun s1 => v_X1_shareOf_35 s1 _ _ q3 hq3) (by decide) rfl (Nat.le_of_ble_eq_true rfl) rfl (by decide) (Nat.le_of_ble_eq_true rfl) rfl rfl rfl rfl ?_
      refine x_aload_n dX1_pairOf_31 rfl ?_
      refine x_iload dX1_pairOf_32 rfl ?_
      obtain ⟨q4, hq4, h⟩ := Option.bind_eq_some_iff.mp h
      refine y_callVi (L' := [(35, _), (36, _)]) mi_X1_shareOf ml_X1_22 im_X1_shareOf se_X1_shareOf (rfl : vwCl[0]? = _) dX1_pairOf_34 (fun s1 => v_X1_shareOf_35 s1 _ _ q4 hq4) (by decide) rfl (Nat.le_of_ble_eq_true rfl) rfl (by decide) (Nat.le_of_ble_eq_true rfl) rfl rfl rfl rfl ?_
      refine x_ixor dX1_pairOf_37 ?_
      refine x_iload_n dX1_pairOf_38 rfl ?_
      refine x_icmp_ne (tgt := 59) dX1_pairOf_39 (by decide) (fun c5 => ?_) (fun c5 => ?_)
      · replace h := xif_n c5 h
        refine x_iinc (v := l5 + 1) (ls' := [_, _, _, _, _, _]) dX1_pairOf_59 rfl rfl rfl rfl ?_
        refine x_goto (tgt := 18) dX1_pairOf_62 (by decide) ?_
        show V yX1_pairOf cX1_pairOf (some .int) 1 61 (0, 0) 18 [some (.ref 35), some (.int l1), some (.int l2), some (.int l3), some (.int l4), some (.int ((l5 + 1)))] [] (xof s0 [W_35, W_36 a36]) _
        exact ih l3 ((l5 + 1)) _ h hk
      · replace h := xif_p c5 h
        refine x_iload_n dX1_pairOf_42 rfl ?_
        refine x_iload_n dX1_pairOf_43 rfl ?_
        refine x_icmp_ne (tgt := 56) dX1_pairOf_44 (by decide) (fun c6 => ?_) (fun c6 => ?_)
        · replace h := xif_n c6 h
          refine x_iinc (v := l3 + 1) (ls' := [_, _, _, _, _, _]) dX1_pairOf_56 rfl rfl rfl rfl ?_
          refine x_iinc (v := l5 + 1) (ls' := [_, _, _, _, _, _]) dX1_pairOf_59 rfl rfl rfl rfl ?_
          refine x_goto (tgt := 18) dX1_pairOf_62 (by decide) ?_
          show V yX1_pairOf cX1_pairOf (some .int) 1 61 (0, 0) 18 [some (.ref 35), some (.int l1), some (.int l2), some (.int ((l3 + 1))), some (.int l4), some (.int ((l5 + 1)))] [] (xof s0 [W_35, W_36 a36]) _
          exact ih ((l3 + 1)) ((l5 + 1)) _ h hk
        · replace h := xif_p c6 h
          refine x_bipush (v := 100) dX1_pairOf_47 (by decide) ?_
          refine x_iload dX1_pairOf_49 rfl ?_
          refine x_imul dX1_pairOf_51 ?_
          refine x_iload dX1_pairOf_52 rfl ?_
          refine x_iadd dX1_pairOf_54 ?_
          cases h
          exact x_iret dX1_pairOf_55 (hk.1 (((100 * l4) + l5)) rfl)
def l_X1_pairOf_35_5 (n : Nat) (a36 : Nat → Int32) (l1 : Int32) (l2 : Int32) : Nat → (Int32) → (Int32) → Option (Int32 ⊕ (((Int32) × (Int32))))
  | 0, _, _ => none
  | k + 1, l3, l4 => (if 40 ≤ l4 then (some (Sum.inr (l3, l4))) else (Option.bind (l_X1_pairOf_35_18 n a36 l1 l2 l4 n l3 ((l4 + 1))) (fun u7 => Sum.elim (fun z8 => some (Sum.inl z8)) (fun z8 => (l_X1_pairOf_35_5 n a36 l1 l2 k z8.1 ((l4 + 1)))) u7)))
set_option maxRecDepth 100000 in
set_option maxHeartbeats 400000 in
theorem lv_X1_pairOf_35_5 (s0 : XW) (n : Nat) (a36 : Nat → Int32) (l1 : Int32) (l2 : Int32) (Q : Nat → Option Value → XW → Prop) : ∀ (k : Nat) (l3 : Int32) (l4 : Int32) (o : Int32 ⊕ (((Int32) × (Int32)))), l_X1_pairOf_35_5 n a36 l1 l2 k l3 l4 = some o → ((∀ z, o = Sum.inl z → Q 61 (some (.int z)) (xof s0 [W_35, W_36 a36])) ∧ (∀ z, o = Sum.inr z → V yX1_pairOf cX1_pairOf (some .int) 1 61 (0, 0) 71 [none, none, some (.int l2), some (.int z.1), none, none] [] (xof s0 [W_35, W_36 a36]) Q)) → V yX1_pairOf cX1_pairOf (some .int) 1 61 (0, 0) 5 [some (.ref 35), some (.int l1), some (.int l2), some (.int l3), some (.int l4), none] [] (xof s0 [W_35, W_36 a36]) Q := by
  intro k
  induction k with
  | zero =>
    intro _ _ _ h
    simp [l_X1_pairOf_35_5] at h
  | succ k ih =>
    intro l3 l4 o h hk
    rw [l_X1_pairOf_35_5] at h
    refine x_iload dX1_pairOf_5 rfl ?_
    refine x_bipush (v := 40) dX1_pairOf_7 (by decide) ?_
    refine x_icmp_ge (tgt := 71) dX1_pairOf_9 (by decide) (fun c1 => ?_) (fun c1 => ?_)
    · replace h := xif_p c1 h
      refine V.drop1 (i := 0) (ls' := [_, _, _, _, _, _]) rfl ?_
      refine V.drop1 (i := 1) (ls' := [_, _, _, _, _, _]) rfl ?_
      refine V.drop1 (i := 4) (ls' := [_, _, _, _, _, _]) rfl ?_
      show V yX1_pairOf cX1_pairOf (some .int) 1 61 (0, 0) 71 [none, none, some (.int l2), some (.int l3), none, none] [] (xof s0 [W_35, W_36 a36]) _
      cases h
      exact hk.2 (l3, l4) rfl
    · replace h := xif_n c1 h
      refine x_iload dX1_pairOf_12 rfl ?_
      refine x_iconst (v := 1) dX1_pairOf_14 (by decide) ?_
      refine x_iadd dX1_pairOf_15 ?_
      refine x_istore (ls' := [_, _, _, _, _, _]) dX1_pairOf_16 rfl rfl ?_
      obtain ⟨u7, hu7, h⟩ := Option.bind_eq_some_iff.mp h
      show V yX1_pairOf cX1_pairOf (some .int) 1 61 (0, 0) 18 [some (.ref 35), some (.int l1), some (.int l2), some (.int l3), some (.int l4), some (.int ((l4 + 1)))] [] (xof s0 [W_35, W_36 a36]) _
      refine lv_X1_pairOf_35_18 s0 _ a36 l1 l2 l4 _ n l3 ((l4 + 1)) _ hu7 ⟨fun z8 hz => ?_, fun z8 hz => ?_⟩
      · subst hz
        replace h := xsl h
        cases h
        exact hk.1 z8 rfl
      subst hz
      replace h := xsr h
      refine x_iinc (v := l4 + 1) (ls' := [_, _, _, _, _, _]) dX1_pairOf_65 rfl rfl rfl rfl ?_
      refine x_goto (tgt := 5) dX1_pairOf_68 (by decide) ?_
      show V yX1_pairOf cX1_pairOf (some .int) 1 61 (0, 0) 5 [some (.ref 35), some (.int l1), some (.int l2), some (.int z8.1), some (.int ((l4 + 1))), none] [] (xof s0 [W_35, W_36 a36]) _
      exact ih z8.1 ((l4 + 1)) _ h hk
def f_X1_pairOf_35 (n : Nat) (a36 : Nat → Int32) (p1 : Int32) (p2 : Int32) : Option Int32 := (Option.bind (l_X1_pairOf_35_5 n a36 p1 p2 n 0 0) (fun u9 => Sum.elim (fun z10 => some z10) (fun z10 => (if p2 = (-1) then (some z10.1) else (some ((-1))))) u9))
set_option maxRecDepth 100000 in
set_option maxHeartbeats 400000 in
theorem v_X1_pairOf_35 (s0 : XW) (n : Nat) (a36 : Nat → Int32) (p1 : Int32) (p2 : Int32) (q : Int32) (h : f_X1_pairOf_35 n a36 p1 p2 = some q) : C_X1_pairOf 1 61 [.ref 35, .int p1, .int p2] (xof s0 [W_35, W_36 a36]) (some (.int q)) (xof s0 [W_35, W_36 a36]) := by
  unfold f_X1_pairOf_35 at h
  show V yX1_pairOf cX1_pairOf (some .int) 1 61 (0, 0) 0 [some (.ref 35), some (.int p1), some (.int p2), none, none, none] [] (xof s0 [W_35, W_36 a36]) _
  refine x_iconst (v := 0) dX1_pairOf_0 (by decide) ?_
  refine x_istore_n (ls' := [_, _, _, _, _, _]) dX1_pairOf_1 rfl rfl ?_
  refine x_iconst (v := 0) dX1_pairOf_2 (by decide) ?_
  refine x_istore (ls' := [_, _, _, _, _, _]) dX1_pairOf_3 rfl rfl ?_
  obtain ⟨u9, hu9, h⟩ := Option.bind_eq_some_iff.mp h
  show V yX1_pairOf cX1_pairOf (some .int) 1 61 (0, 0) 5 [some (.ref 35), some (.int p1), some (.int p2), some (.int 0), some (.int 0), none] [] (xof s0 [W_35, W_36 a36]) _
  refine lv_X1_pairOf_35_5 s0 _ a36 p1 p2 _ n 0 0 _ hu9 ⟨fun z10 hz => ?_, fun z10 hz => ?_⟩
  · subst hz
    replace h := xsl h
    cases h
    exact ⟨rfl, rfl, rfl⟩
  subst hz
  replace h := xsr h
  refine x_iload_n dX1_pairOf_71 rfl ?_
  refine x_iconst (v := -1) dX1_pairOf_72 (by decide) ?_
  refine x_icmp_ne (tgt := 80) dX1_pairOf_73 (by decide) (fun c11 => ?_) (fun c11 => ?_)
  · replace h := xif_n c11 h
    refine x_iconst (v := -1) dX1_pairOf_80 (by decide) ?_
    cases h
    exact x_iret dX1_pairOf_81 ⟨rfl, rfl, rfl⟩
  · replace h := xif_p c11 h
    refine x_iload_n dX1_pairOf_76 rfl ?_
    refine x_goto (tgt := 81) dX1_pairOf_77 (by decide) ?_
    cases h
    exact x_iret dX1_pairOf_81 ⟨rfl, rfl, rfl⟩
def f_X11_pairs_0 (n : Nat) (a36 : Nat → Int32) (p1 : Int32) (p2 : Int32) : Option Int32 := (Option.bind (f_X11_isByte p1) (fun q1 => (if q1 = 0 then (some ((-3))) else (if (-1) ≤ p2 then (Option.bind (f_X1_pairOf_35 n a36 p1 p2) (fun q4 => (some q4))) else (some ((-3)))))))
set_option maxRecDepth 100000 in
set_option maxHeartbeats 400000 in
theorem v_X11_pairs_0 (s0 : XW) (n : Nat) (a36 : Nat → Int32) (p1 : Int32) (p2 : Int32) (q : Int32) (h : f_X11_pairs_0 n a36 p1 p2 = some q) : C_X11_pairs 2 61 [.ref 0, .int p1, .int p2] (xof s0 [W_0, W_35, W_36 a36]) (some (.int q)) (xof s0 [W_0, W_35, W_36 a36]) := by
  unfold f_X11_pairs_0 at h
  show V yX11_pairs cX11_pairs (some .int) 2 61 (0, 0) 0 [some (.ref 0), some (.int p1), some (.int p2)] [] (xof s0 [W_0, W_35, W_36 a36]) _
  refine x_iload_n dX11_pairs_0 rfl ?_
  obtain ⟨q1, hq1, h⟩ := Option.bind_eq_some_iff.mp h
  refine y_callSi (L' := [(0, _), (35, _), (36, _)]) mi_X11_isByte ml_X11_305 st_X11_isByte dX11_pairs_1 (fun s1 => v_X11_isByte 61 s1 _ q1 hq1) (Nat.le_of_ble_eq_true rfl) rfl (by decide) (Nat.le_of_ble_eq_true rfl) rfl rfl rfl rfl ?_
  refine x_if_eq (tgt := 12) dX11_pairs_4 (by decide) (fun c2 => ?_) (fun c2 => ?_)
  · replace h := xif_p c2 h
    refine x_bipush (v := -3) dX11_pairs_12 (by decide) ?_
    cases h
    exact x_iret dX11_pairs_14 ⟨rfl, rfl, rfl⟩
  · replace h := xif_n c2 h
    refine x_iload_n dX11_pairs_7 rfl ?_
    refine x_iconst (v := -1) dX11_pairs_8 (by decide) ?_
    refine x_icmp_ge (tgt := 15) dX11_pairs_9 (by decide) (fun c3 => ?_) (fun c3 => ?_)
    · replace h := xif_p c3 h
      refine x_aload_n dX11_pairs_15 rfl ?_
      refine g_X11_70 rfl dX11_pairs_16 (by decide) rfl rfl ?_
      refine x_iload_n dX11_pairs_19 rfl ?_
      refine x_iload_n dX11_pairs_20 rfl ?_
      obtain ⟨q4, hq4, h⟩ := Option.bind_eq_some_iff.mp h
      refine y_callVi (L' := [(0, _), (35, _), (36, _)]) mi_X1_pairOf ml_X11_311 im_X1_pairOf se_X1_pairOf (rfl : vwCl[0]? = _) dX11_pairs_21 (fun s1 => v_X1_pairOf_35 s1 n _ _ _ q4 hq4) (by decide) rfl (Nat.le_of_ble_eq_true rfl) rfl (by decide) (Nat.le_of_ble_eq_true rfl) rfl rfl rfl rfl ?_
      cases h
      exact x_iret dX11_pairs_24 ⟨rfl, rfl, rfl⟩
    · replace h := xif_n c3 h
      refine x_bipush (v := -3) dX11_pairs_12 (by decide) ?_
      cases h
      exact x_iret dX11_pairs_14 ⟨rfl, rfl, rfl⟩
def b_X1_canChoose_36_37_19 (n : Nat) (F : ((Nat → Int32) → (Nat → Int32) → Int32 → Int32 → Int32 → Int32 → Option (((Int32) × (Nat → Int32))))) (a36 : Nat → Int32) (a37 : Nat → Int32) (l2 : Int32) : Option (((Int32) × (Nat → Int32))) := (if l2 = 0 then (some (1, a37)) else (some (0, a37)))
set_option maxRecDepth 100000 in
set_option maxHeartbeats 400000 in
theorem vb_X1_canChoose_36_37_19 (s0 : XW) (n : Nat) (F : ((Nat → Int32) → (Nat → Int32) → Int32 → Int32 → Int32 → Int32 → Option (((Int32) × (Nat → Int32))))) (kk : Nat) (hF : ∀ (s0 : XW) (a36 : Nat → Int32) (a37 : Nat → Int32) (p2 : Int32) (p3 : Int32) (p4 : Int32) (p5 : Int32) (q : ((Int32) × (Nat → Int32))), F a36 a37 p2 p3 p4 p5 = some q → C_X1_canChoose kk 61 [.ref 36, .ref 37, .int p2, .int p3, .int p4, .int p5] (xof s0 [W_36 a36, W_37 a37]) (some (.int q.1)) (xof s0 [W_36 a36, W_37 q.2])) (a36 : Nat → Int32) (a37 : Nat → Int32) (l2 : Int32) (q : ((Int32) × (Nat → Int32))) (h : b_X1_canChoose_36_37_19 n F a36 a37 l2 = some q) : V yX1_canChoose cX1_canChoose (some .boolean) (kk + 1) 61 (0, 0) 19 [none, none, some (.int l2), none, none, none, none] [] (xof s0 [W_36 a36, W_37 a37]) (xq 61 (some (.int q.1)) (xof s0 [W_36 a36, W_37 q.2])) := by
  unfold b_X1_canChoose_36_37_19 at h
  refine x_iload_n dX1_canChoose_19 rfl ?_
  refine x_if_ne (tgt := 27) dX1_canChoose_20 (by decide) (fun c2 => ?_) (fun c2 => ?_)
  · replace h := xif_n c2 h
    refine x_iconst (v := 0) dX1_canChoose_27 (by decide) ?_
    cases h
    exact x_zret dX1_canChoose_28 (Or.inl rfl) ⟨rfl, rfl, rfl⟩
  · replace h := xif_p c2 h
    refine x_iconst (v := 1) dX1_canChoose_23 (by decide) ?_
    refine x_goto (tgt := 28) dX1_canChoose_24 (by decide) ?_
    cases h
    exact x_zret dX1_canChoose_28 (Or.inr rfl) ⟨rfl, rfl, rfl⟩
def l_X1_canChoose_36_37_36 (n : Nat) (F : ((Nat → Int32) → (Nat → Int32) → Int32 → Int32 → Int32 → Int32 → Option (((Int32) × (Nat → Int32))))) (a36 : Nat → Int32) (l2 : Int32) (l4 : Int32) (l5 : Int32) : Nat → (Int32) → (Nat → Int32) → Option ((((Int32) × (Nat → Int32))) ⊕ (((Int32) × (Nat → Int32))))
  | 0, _, _ => none
  | k + 1, l6, a37 => (if 40 ≤ l6 then (some (Sum.inr (l6, a37))) else (bif xin l5 8 then (bif xin l6 40 then (Option.bind (F a36 (upd a37 ((Int32.toNatClampNeg l5)) l6) ((l2 ^^^ (a36 (Int32.toNatClampNeg l6)))) ((l6 + 1)) l4 ((l5 + 1))) (fun q8 => (if q8.1 = 0 then (l_X1_canChoose_36_37_36 n F a36 l2 l4 l5 k ((l6 + 1)) q8.2) else (some (Sum.inl (1, q8.2)))))) else none) else none))
set_option maxRecDepth 100000 in
set_option maxHeartbeats 400000 in
theorem lv_X1_canChoose_36_37_36 (s0 : XW) (n : Nat) (F : ((Nat → Int32) → (Nat → Int32) → Int32 → Int32 → Int32 → Int32 → Option (((Int32) × (Nat → Int32))))) (kk : Nat) (hF : ∀ (s0 : XW) (a36 : Nat → Int32) (a37 : Nat → Int32) (p2 : Int32) (p3 : Int32) (p4 : Int32) (p5 : Int32) (q : ((Int32) × (Nat → Int32))), F a36 a37 p2 p3 p4 p5 = some q → C_X1_canChoose kk 61 [.ref 36, .ref 37, .int p2, .int p3, .int p4, .int p5] (xof s0 [W_36 a36, W_37 a37]) (some (.int q.1)) (xof s0 [W_36 a36, W_37 q.2])) (a36 : Nat → Int32) (l2 : Int32) (l4 : Int32) (l5 : Int32) (Q : Nat → Option Value → XW → Prop) : ∀ (k : Nat) (l6 : Int32) (a37 : Nat → Int32) (o : (((Int32) × (Nat → Int32))) ⊕ (((Int32) × (Nat → Int32)))), l_X1_canChoose_36_37_36 n F a36 l2 l4 l5 k l6 a37 = some o → ((∀ z, o = Sum.inl z → Q 61 (some (.int z.1)) (xof s0 [W_36 a36, W_37 z.2])) ∧ (∀ z, o = Sum.inr z → V yX1_canChoose cX1_canChoose (some .boolean) (kk + 1) 61 (0, 0) 81 [none, none, none, none, none, none, none] [] (xof s0 [W_36 a36, W_37 z.2]) Q)) → V yX1_canChoose cX1_canChoose (some .boolean) (kk + 1) 61 (0, 0) 36 [some (.ref 36), some (.ref 37), some (.int l2), none, some (.int l4), some (.int l5), some (.int l6)] [] (xof s0 [W_36 a36, W_37 a37]) Q := by
  intro k
  induction k with
  | zero =>
    intro _ _ _ h
    simp [l_X1_canChoose_36_37_36] at h
  | succ k ih =>
    intro l6 a37 o h hk
    rw [l_X1_canChoose_36_37_36] at h
    refine x_iload dX1_canChoose_36 rfl ?_
    refine x_aload_n dX1_canChoose_38 rfl ?_
    refine x_alen (v := 40) dX1_canChoose_39 (by decide) rfl (by decide) rfl ?_
    refine x_icmp_ge (tgt := 81) dX1_canChoose_40 (by decide) (fun c5 => ?_) (fun c5 => ?_)
    · replace h := xif_p c5 h
      refine V.drop1 (i := 0) (ls' := [_, _, _, _, _, _, _]) rfl ?_
      refine V.drop1 (i := 1) (ls' := [_, _, _, _, _, _, _]) rfl ?_
      refine V.drop1 (i := 2) (ls' := [_, _, _, _, _, _, _]) rfl ?_
      refine V.drop1 (i := 4) (ls' := [_, _, _, _, _, _, _]) rfl ?_
      refine V.drop1 (i := 5) (ls' := [_, _, _, _, _, _, _]) rfl ?_
      refine V.drop1 (i := 6) (ls' := [_, _, _, _, _, _, _]) rfl ?_
      show V yX1_canChoose cX1_canChoose (some .boolean) (kk + 1) 61 (0, 0) 81 [none, none, none, none, none, none, none] [] (xof s0 [W_36 a36, W_37 a37]) _
      cases h
      exact hk.2 (l6, a37) rfl
    · replace h := xif_n c5 h
      refine x_aload_n dX1_canChoose_43 rfl ?_
      refine x_iload dX1_canChoose_44 rfl ?_
      refine x_iload dX1_canChoose_46 rfl ?_
      obtain ⟨c6, h⟩ := xck h
      refine x_iastK (jn := (Int32.toNatClampNeg l5)) (L' := [(36, _), (37, _)]) dX1_canChoose_48 (by decide) rfl (xin_ok c6) rfl rfl ?_
      refine x_aload_n dX1_canChoose_49 rfl ?_
      refine x_aload_n dX1_canChoose_50 rfl ?_
      refine x_iload_n dX1_canChoose_51 rfl ?_
      refine x_aload_n dX1_canChoose_52 rfl ?_
      refine x_iload dX1_canChoose_53 rfl ?_
      obtain ⟨c7, h⟩ := xck h
      refine x_ialdK (jn := (Int32.toNatClampNeg l6)) (v := (a36 (Int32.toNatClampNeg l6))) dX1_canChoose_55 (by decide) rfl (xin_ok c7) rfl rfl ?_
      refine x_ixor dX1_canChoose_56 ?_
      refine x_iload dX1_canChoose_57 rfl ?_
      refine x_iconst (v := 1) dX1_canChoose_59 (by decide) ?_
      refine x_iadd dX1_canChoose_60 ?_
      refine x_iload dX1_canChoose_61 rfl ?_
      refine x_iload dX1_canChoose_63 rfl ?_
      refine x_iconst (v := 1) dX1_canChoose_65 (by decide) ?_
      refine x_iadd dX1_canChoose_66 ?_
      obtain ⟨q8, hq8, h⟩ := Option.bind_eq_some_iff.mp h
      refine y_callSi (L' := [(36, _), (37, _)]) mi_X1_canChoose ml_X1_25 st_X1_canChoose dX1_canChoose_67 (fun s1 => hF s1 _ _ _ _ _ _ q8 hq8) (Nat.le_of_ble_eq_true rfl) rfl (by omega) (Nat.le_of_ble_eq_true rfl) rfl rfl rfl rfl ?_
      refine x_if_eq (tgt := 75) dX1_canChoose_70 (by decide) (fun c9 => ?_) (fun c9 => ?_)
      · replace h := xif_p c9 h
        refine x_iinc (v := l6 + 1) (ls' := [_, _, _, _, _, _, _]) dX1_canChoose_75 rfl rfl rfl rfl ?_
        refine x_goto (tgt := 36) dX1_canChoose_78 (by decide) ?_
        show V yX1_canChoose cX1_canChoose (some .boolean) (kk + 1) 61 (0, 0) 36 [some (.ref 36), some (.ref 37), some (.int l2), none, some (.int l4), some (.int l5), some (.int ((l6 + 1)))] [] (xof s0 [W_36 a36, W_37 q8.2]) _
        exact ih ((l6 + 1)) q8.2 _ h hk
      · replace h := xif_n c9 h
        refine x_iconst (v := 1) dX1_canChoose_73 (by decide) ?_
        cases h
        exact x_zret dX1_canChoose_74 (Or.inr rfl) (hk.1 (1, q8.2) rfl)
def f_X1_canChoose_36_37 (n : Nat) : Nat → (Nat → Int32) → (Nat → Int32) → Int32 → Int32 → Int32 → Int32 → Option (((Int32) × (Nat → Int32)))
  | 0, _, _, _, _, _, _ => none
  | kk + 1, a36, a37, p2, p3, p4, p5 => (if p5 < 0 then (b_X1_canChoose_36_37_19 n (f_X1_canChoose_36_37 n kk) a36 a37 p2) else (if p4 ≤ p5 then (b_X1_canChoose_36_37_19 n (f_X1_canChoose_36_37 n kk) a36 a37 p2) else (if p5 < 8 then (Option.bind (l_X1_canChoose_36_37_36 n (f_X1_canChoose_36_37 n kk) a36 p2 p4 p5 n ((if 0 < p3 then p3 else 0)) a37) (fun u10 => Sum.elim (fun z11 => some z11) (fun z11 => (some (0, z11.2))) u10)) else (b_X1_canChoose_36_37_19 n (f_X1_canChoose_36_37 n kk) a36 a37 p2))))
set_option maxRecDepth 100000 in
set_option maxHeartbeats 400000 in
theorem v_X1_canChoose_36_37 (n : Nat) : ∀ (kk : Nat) (s0 : XW) (a36 : Nat → Int32) (a37 : Nat → Int32) (p2 : Int32) (p3 : Int32) (p4 : Int32) (p5 : Int32) (q : ((Int32) × (Nat → Int32))), f_X1_canChoose_36_37 n kk a36 a37 p2 p3 p4 p5 = some q → C_X1_canChoose kk 61 [.ref 36, .ref 37, .int p2, .int p3, .int p4, .int p5] (xof s0 [W_36 a36, W_37 a37]) (some (.int q.1)) (xof s0 [W_36 a36, W_37 q.2]) := by
  intro kk
  induction kk with
  | zero =>
    intro _ _ _ _ _ _ _ _ h
    simp [f_X1_canChoose_36_37] at h
  | succ kk hF =>
    intro s0 a36 a37 p2 p3 p4 p5 q h
    rw [f_X1_canChoose_36_37] at h
    show V yX1_canChoose cX1_canChoose (some .boolean) (kk + 1) 61 (0, 0) 0 [some (.ref 36), some (.ref 37), some (.int p2), some (.int p3), some (.int p4), some (.int p5), none] [] (xof s0 [W_36 a36, W_37 a37]) _
    refine x_iload dX1_canChoose_0 rfl ?_
    refine x_if_lt (tgt := 19) dX1_canChoose_2 (by decide) (fun c1 => ?_) (fun c1 => ?_)
    · replace h := xif_p c1 h
      refine V.drop1 (i := 0) (ls' := [_, _, _, _, _, _, _]) rfl ?_
      refine V.drop1 (i := 1) (ls' := [_, _, _, _, _, _, _]) rfl ?_
      refine V.drop1 (i := 3) (ls' := [_, _, _, _, _, _, _]) rfl ?_
      refine V.drop1 (i := 4) (ls' := [_, _, _, _, _, _, _]) rfl ?_
      refine V.drop1 (i := 5) (ls' := [_, _, _, _, _, _, _]) rfl ?_
      show V yX1_canChoose cX1_canChoose (some .boolean) (kk + 1) 61 (0, 0) 19 [none, none, some (.int p2), none, none, none, none] [] (xof s0 [W_36 a36, W_37 a37]) _
      exact vb_X1_canChoose_36_37_19 s0 n _ _ hF a36 a37 p2 q h
    · replace h := xif_n c1 h
      refine x_iload dX1_canChoose_5 rfl ?_
      refine x_iload dX1_canChoose_7 rfl ?_
      refine x_icmp_ge (tgt := 19) dX1_canChoose_9 (by decide) (fun c3 => ?_) (fun c3 => ?_)
      · replace h := xif_p c3 h
        refine V.drop1 (i := 0) (ls' := [_, _, _, _, _, _, _]) rfl ?_
        refine V.drop1 (i := 1) (ls' := [_, _, _, _, _, _, _]) rfl ?_
        refine V.drop1 (i := 3) (ls' := [_, _, _, _, _, _, _]) rfl ?_
        refine V.drop1 (i := 4) (ls' := [_, _, _, _, _, _, _]) rfl ?_
        refine V.drop1 (i := 5) (ls' := [_, _, _, _, _, _, _]) rfl ?_
        show V yX1_canChoose cX1_canChoose (some .boolean) (kk + 1) 61 (0, 0) 19 [none, none, some (.int p2), none, none, none, none] [] (xof s0 [W_36 a36, W_37 a37]) _
        exact vb_X1_canChoose_36_37_19 s0 n _ _ hF a36 a37 p2 q h
      · replace h := xif_n c3 h
        refine x_iload dX1_canChoose_12 rfl ?_
        refine x_aload_n dX1_canChoose_14 rfl ?_
        refine x_alen (v := 8) dX1_canChoose_15 (by decide) rfl (by decide) rfl ?_
        refine x_icmp_lt (tgt := 29) dX1_canChoose_16 (by decide) (fun c4 => ?_) (fun c4 => ?_)
        · replace h := xif_p c4 h
          refine x_iconst (v := 0) dX1_canChoose_29 (by decide) ?_
          refine x_iload_n dX1_canChoose_30 rfl ?_
          refine x_mmax dX1_canChoose_31 ml_X1_29 (by omega) (Nat.le_of_ble_eq_true rfl) ?_
          refine x_istore (ls' := [_, _, _, _, _, _, _]) dX1_canChoose_34 rfl rfl ?_
          refine V.drop1 (i := 3) (ls' := [_, _, _, _, _, _, _]) rfl ?_
          obtain ⟨u10, hu10, h⟩ := Option.bind_eq_some_iff.mp h
          show V yX1_canChoose cX1_canChoose (some .boolean) (kk + 1) 61 (0, 0) 36 [some (.ref 36), some (.ref 37), some (.int p2), none, some (.int p4), some (.int p5), some (.int ((if 0 < p3 then p3 else 0)))] [] (xof s0 [W_36 a36, W_37 a37]) _
          refine lv_X1_canChoose_36_37_36 s0 _ _ _ hF a36 p2 p4 p5 _ n ((if 0 < p3 then p3 else 0)) a37 _ hu10 ⟨fun z11 hz => ?_, fun z11 hz => ?_⟩
          · subst hz
            replace h := xsl h
            cases h
            exact ⟨rfl, rfl, rfl⟩
          subst hz
          replace h := xsr h
          refine x_iconst (v := 0) dX1_canChoose_81 (by decide) ?_
          cases h
          exact x_zret dX1_canChoose_82 (Or.inl rfl) ⟨rfl, rfl, rfl⟩
        · replace h := xif_n c4 h
          refine V.drop1 (i := 0) (ls' := [_, _, _, _, _, _, _]) rfl ?_
          refine V.drop1 (i := 1) (ls' := [_, _, _, _, _, _, _]) rfl ?_
          refine V.drop1 (i := 3) (ls' := [_, _, _, _, _, _, _]) rfl ?_
          refine V.drop1 (i := 4) (ls' := [_, _, _, _, _, _, _]) rfl ?_
          refine V.drop1 (i := 5) (ls' := [_, _, _, _, _, _, _]) rfl ?_
          show V yX1_canChoose cX1_canChoose (some .boolean) (kk + 1) 61 (0, 0) 19 [none, none, some (.int p2), none, none, none, none] [] (xof s0 [W_36 a36, W_37 a37]) _
          exact vb_X1_canChoose_36_37_19 s0 n _ _ hF a36 a37 p2 q h
def l_X1_fewestFor_35_2 (n : Nat) (a36 : Nat → Int32) (l1 : Int32) : Nat → (Int32) → (Nat → Int32) → Option (((Int32) × (Nat → Int32)))
  | 0, _, _ => none
  | k + 1, l2, a37 => (if 8 ≤ l2 then (some (l2, a37)) else (Option.bind (f_X1_canChoose_36_37 n 12 a36 a37 l1 0 l2 0) (fun q2 => (if q2.1 = 0 then (l_X1_fewestFor_35_2 n a36 l1 k ((l2 + 1)) q2.2) else (some (l2, q2.2))))))
set_option maxRecDepth 100000 in
set_option maxHeartbeats 400000 in
theorem lv_X1_fewestFor_35_2 (s0 : XW) (n : Nat) (a36 : Nat → Int32) (l1 : Int32) (Q : Nat → Option Value → XW → Prop) : ∀ (k : Nat) (l2 : Int32) (a37 : Nat → Int32) (o : ((Int32) × (Nat → Int32))), l_X1_fewestFor_35_2 n a36 l1 k l2 a37 = some o → (V yX1_fewestFor cX1_fewestFor (some .int) 13 61 (0, 0) 32 [none, none, some (.int o.1)] [] (xof s0 [W_35, W_36 a36, W_37 o.2]) Q) → V yX1_fewestFor cX1_fewestFor (some .int) 13 61 (0, 0) 2 [some (.ref 35), some (.int l1), some (.int l2)] [] (xof s0 [W_35, W_36 a36, W_37 a37]) Q := by
  intro k
  induction k with
  | zero =>
    intro _ _ _ h
    simp [l_X1_fewestFor_35_2] at h
  | succ k ih =>
    intro l2 a37 o h hk
    rw [l_X1_fewestFor_35_2] at h
    refine x_iload_n dX1_fewestFor_2 rfl ?_
    refine x_bipush (v := 8) dX1_fewestFor_3 (by decide) ?_
    refine x_icmp_ge (tgt := 32) dX1_fewestFor_5 (by decide) (fun c1 => ?_) (fun c1 => ?_)
    · replace h := xif_p c1 h
      refine V.drop1 (i := 0) (ls' := [_, _, _]) rfl ?_
      refine V.drop1 (i := 1) (ls' := [_, _, _]) rfl ?_
      show V yX1_fewestFor cX1_fewestFor (some .int) 13 61 (0, 0) 32 [none, none, some (.int l2)] [] (xof s0 [W_35, W_36 a36, W_37 a37]) _
      cases h
      exact hk
    · replace h := xif_n c1 h
      refine x_aload_n dX1_fewestFor_8 rfl ?_
      refine g_X1_9 rfl dX1_fewestFor_9 (by decide) rfl rfl ?_
      refine x_aload_n dX1_fewestFor_12 rfl ?_
      refine g_X1_15 rfl dX1_fewestFor_13 (by decide) rfl rfl ?_
      refine x_iload_n dX1_fewestFor_16 rfl ?_
      refine x_iconst (v := 0) dX1_fewestFor_17 (by decide) ?_
      refine x_iload_n dX1_fewestFor_18 rfl ?_
      refine x_iconst (v := 0) dX1_fewestFor_19 (by decide) ?_
      obtain ⟨q2, hq2, h⟩ := Option.bind_eq_some_iff.mp h
      refine y_callSi (L' := [(35, _), (36, _), (37, _)]) mi_X1_canChoose ml_X1_25 st_X1_canChoose dX1_fewestFor_20 (fun s1 => v_X1_canChoose_36_37 n 12 s1 _ _ _ _ _ _ q2 hq2) (Nat.le_of_ble_eq_true rfl) rfl (by decide) (Nat.le_of_ble_eq_true rfl) rfl rfl rfl rfl ?_
      refine x_if_ne (tgt := 32) dX1_fewestFor_23 (by decide) (fun c3 => ?_) (fun c3 => ?_)
      · replace h := xif_n c3 h
        refine V.drop1 (i := 0) (ls' := [_, _, _]) rfl ?_
        refine V.drop1 (i := 1) (ls' := [_, _, _]) rfl ?_
        show V yX1_fewestFor cX1_fewestFor (some .int) 13 61 (0, 0) 32 [none, none, some (.int l2)] [] (xof s0 [W_35, W_36 a36, W_37 q2.2]) _
        cases h
        exact hk
      · replace h := xif_p c3 h
        refine x_iinc (v := l2 + 1) (ls' := [_, _, _]) dX1_fewestFor_26 rfl rfl rfl rfl ?_
        refine x_goto (tgt := 2) dX1_fewestFor_29 (by decide) ?_
        show V yX1_fewestFor cX1_fewestFor (some .int) 13 61 (0, 0) 2 [some (.ref 35), some (.int l1), some (.int ((l2 + 1)))] [] (xof s0 [W_35, W_36 a36, W_37 q2.2]) _
        exact ih ((l2 + 1)) q2.2 _ h hk
def f_X1_fewestFor_35 (n : Nat) (a36 : Nat → Int32) (a37 : Nat → Int32) (p1 : Int32) : Option (((Int32) × (Nat → Int32))) := (Option.bind (l_X1_fewestFor_35_2 n a36 p1 n 0 a37) (fun u4 => (some (u4.1, u4.2))))
set_option maxRecDepth 100000 in
set_option maxHeartbeats 400000 in
theorem v_X1_fewestFor_35 (s0 : XW) (n : Nat) (a36 : Nat → Int32) (a37 : Nat → Int32) (p1 : Int32) (q : ((Int32) × (Nat → Int32))) (h : f_X1_fewestFor_35 n a36 a37 p1 = some q) : C_X1_fewestFor 13 61 [.ref 35, .int p1] (xof s0 [W_35, W_36 a36, W_37 a37]) (some (.int q.1)) (xof s0 [W_35, W_36 a36, W_37 q.2]) := by
  unfold f_X1_fewestFor_35 at h
  show V yX1_fewestFor cX1_fewestFor (some .int) 13 61 (0, 0) 0 [some (.ref 35), some (.int p1), none] [] (xof s0 [W_35, W_36 a36, W_37 a37]) _
  refine x_iconst (v := 0) dX1_fewestFor_0 (by decide) ?_
  refine x_istore_n (ls' := [_, _, _]) dX1_fewestFor_1 rfl rfl ?_
  obtain ⟨u4, hu4, h⟩ := Option.bind_eq_some_iff.mp h
  show V yX1_fewestFor cX1_fewestFor (some .int) 13 61 (0, 0) 2 [some (.ref 35), some (.int p1), some (.int 0)] [] (xof s0 [W_35, W_36 a36, W_37 a37]) _
  refine lv_X1_fewestFor_35_2 s0 _ a36 p1 _ n 0 a37 _ hu4 ?_
  refine x_iload_n dX1_fewestFor_32 rfl ?_
  cases h
  exact x_iret dX1_fewestFor_33 ⟨rfl, rfl, rfl⟩
def f_X1_chosen_35 (a37 : Nat → Int32) (p1 : Int32) : Option Int32 := (if p1 < 0 then (some ((-1))) else (if 8 ≤ p1 then (some ((-1))) else (bif xin p1 8 then (some ((a37 (Int32.toNatClampNeg p1)))) else none)))
set_option maxRecDepth 100000 in
set_option maxHeartbeats 400000 in
theorem v_X1_chosen_35 (s0 : XW) (a37 : Nat → Int32) (p1 : Int32) (q : Int32) (h : f_X1_chosen_35 a37 p1 = some q) : C_X1_chosen 0 61 [.ref 35, .int p1] (xof s0 [W_35, W_37 a37]) (some (.int q)) (xof s0 [W_35, W_37 a37]) := by
  unfold f_X1_chosen_35 at h
  show V yX1_chosen cX1_chosen (some .int) 0 61 (0, 0) 0 [some (.ref 35), some (.int p1)] [] (xof s0 [W_35, W_37 a37]) _
  refine x_iload_n dX1_chosen_0 rfl ?_
  refine x_if_lt (tgt := 22) dX1_chosen_1 (by decide) (fun c1 => ?_) (fun c1 => ?_)
  · replace h := xif_p c1 h
    refine x_iconst (v := -1) dX1_chosen_22 (by decide) ?_
    cases h
    exact x_iret dX1_chosen_23 ⟨rfl, rfl, rfl⟩
  · replace h := xif_n c1 h
    refine x_iload_n dX1_chosen_4 rfl ?_
    refine x_aload_n dX1_chosen_5 rfl ?_
    refine g_X1_15 rfl dX1_chosen_6 (by decide) rfl rfl ?_
    refine x_alen (v := 8) dX1_chosen_9 (by decide) rfl (by decide) rfl ?_
    refine x_icmp_ge (tgt := 22) dX1_chosen_10 (by decide) (fun c2 => ?_) (fun c2 => ?_)
    · replace h := xif_p c2 h
      refine x_iconst (v := -1) dX1_chosen_22 (by decide) ?_
      cases h
      exact x_iret dX1_chosen_23 ⟨rfl, rfl, rfl⟩
    · replace h := xif_n c2 h
      refine x_aload_n dX1_chosen_13 rfl ?_
      refine g_X1_15 rfl dX1_chosen_14 (by decide) rfl rfl ?_
      refine x_iload_n dX1_chosen_17 rfl ?_
      obtain ⟨c3, h⟩ := xck h
      refine x_ialdK (jn := (Int32.toNatClampNeg p1)) (v := (a37 (Int32.toNatClampNeg p1))) dX1_chosen_18 (by decide) rfl (xin_ok c3) rfl rfl ?_
      refine x_goto (tgt := 23) dX1_chosen_19 (by decide) ?_
      cases h
      exact x_iret dX1_chosen_23 ⟨rfl, rfl, rfl⟩
def f_X11_nearest_0 (n : Nat) (a36 : Nat → Int32) (a37 : Nat → Int32) (p1 : Int32) (p2 : Int32) : Option (((Int32) × (Nat → Int32))) := (Option.bind (f_X11_isByte p1) (fun q1 => (if q1 = 0 then (some ((-3), a37)) else (if (-1) ≤ p2 then (Option.bind (f_X1_fewestFor_35 n a36 a37 p1) (fun q4 => (if p2 = (-1) then (some (q4.1, q4.2)) else (if q4.1 ≤ p2 then (some ((-1), q4.2)) else (Option.bind (f_X1_chosen_35 q4.2 p2) (fun q7 => (some (q7, q4.2)))))))) else (some ((-3), a37))))))
set_option maxRecDepth 100000 in
set_option maxHeartbeats 400000 in
theorem v_X11_nearest_0 (s0 : XW) (n : Nat) (a36 : Nat → Int32) (a37 : Nat → Int32) (p1 : Int32) (p2 : Int32) (q : ((Int32) × (Nat → Int32))) (h : f_X11_nearest_0 n a36 a37 p1 p2 = some q) : C_X11_nearest 14 61 [.ref 0, .int p1, .int p2] (xof s0 [W_0, W_35, W_36 a36, W_37 a37]) (some (.int q.1)) (xof s0 [W_0, W_35, W_36 a36, W_37 q.2]) := by
  unfold f_X11_nearest_0 at h
  show V yX11_nearest cX11_nearest (some .int) 14 61 (0, 0) 0 [some (.ref 0), some (.int p1), some (.int p2), none] [] (xof s0 [W_0, W_35, W_36 a36, W_37 a37]) _
  refine x_iload_n dX11_nearest_0 rfl ?_
  obtain ⟨q1, hq1, h⟩ := Option.bind_eq_some_iff.mp h
  refine y_callSi (L' := [(0, _), (35, _), (36, _), (37, _)]) mi_X11_isByte ml_X11_305 st_X11_isByte dX11_nearest_1 (fun s1 => v_X11_isByte 61 s1 _ q1 hq1) (Nat.le_of_ble_eq_true rfl) rfl (by decide) (Nat.le_of_ble_eq_true rfl) rfl rfl rfl rfl ?_
  refine x_if_eq (tgt := 12) dX11_nearest_4 (by decide) (fun c2 => ?_) (fun c2 => ?_)
  · replace h := xif_p c2 h
    refine x_bipush (v := -3) dX11_nearest_12 (by decide) ?_
    cases h
    exact x_iret dX11_nearest_14 ⟨rfl, rfl, rfl⟩
  · replace h := xif_n c2 h
    refine x_iload_n dX11_nearest_7 rfl ?_
    refine x_iconst (v := -1) dX11_nearest_8 (by decide) ?_
    refine x_icmp_ge (tgt := 15) dX11_nearest_9 (by decide) (fun c3 => ?_) (fun c3 => ?_)
    · replace h := xif_p c3 h
      refine x_aload_n dX11_nearest_15 rfl ?_
      refine g_X11_70 rfl dX11_nearest_16 (by decide) rfl rfl ?_
      refine x_iload_n dX11_nearest_19 rfl ?_
      obtain ⟨q4, hq4, h⟩ := Option.bind_eq_some_iff.mp h
      refine y_callVi (L' := [(0, _), (35, _), (36, _), (37, _)]) mi_X1_fewestFor ml_X11_314 im_X1_fewestFor se_X1_fewestFor (rfl : vwCl[0]? = _) dX11_nearest_20 (fun s1 => v_X1_fewestFor_35 s1 n _ _ _ q4 hq4) (by decide) rfl (Nat.le_of_ble_eq_true rfl) rfl (by decide) (Nat.le_of_ble_eq_true rfl) rfl rfl rfl rfl ?_
      refine x_istore_n (ls' := [_, _, _, _]) dX11_nearest_23 rfl rfl ?_
      refine x_iload_n dX11_nearest_24 rfl ?_
      refine x_iconst (v := -1) dX11_nearest_25 (by decide) ?_
      refine x_icmp_ne (tgt := 31) dX11_nearest_26 (by decide) (fun c5 => ?_) (fun c5 => ?_)
      · replace h := xif_n c5 h
        refine x_iload_n dX11_nearest_31 rfl ?_
        refine x_iload_n dX11_nearest_32 rfl ?_
        refine x_icmp_ge (tgt := 47) dX11_nearest_33 (by decide) (fun c6 => ?_) (fun c6 => ?_)
        · replace h := xif_p c6 h
          refine x_iconst (v := -1) dX11_nearest_47 (by decide) ?_
          cases h
          exact x_iret dX11_nearest_48 ⟨rfl, rfl, rfl⟩
        · replace h := xif_n c6 h
          refine x_aload_n dX11_nearest_36 rfl ?_
          refine g_X11_70 rfl dX11_nearest_37 (by decide) rfl rfl ?_
          refine x_iload_n dX11_nearest_40 rfl ?_
          obtain ⟨q7, hq7, h⟩ := Option.bind_eq_some_iff.mp h
          refine y_callVi (L' := [(0, _), (35, _), (36, _), (37, _)]) mi_X1_chosen ml_X11_317 im_X1_chosen se_X1_chosen (rfl : vwCl[0]? = _) dX11_nearest_41 (fun s1 => v_X1_chosen_35 s1 _ _ q7 hq7) (by decide) rfl (Nat.le_of_ble_eq_true rfl) rfl (by decide) (Nat.le_of_ble_eq_true rfl) rfl rfl rfl rfl ?_
          refine x_goto (tgt := 48) dX11_nearest_44 (by decide) ?_
          cases h
          exact x_iret dX11_nearest_48 ⟨rfl, rfl, rfl⟩
      · replace h := xif_p c5 h
        refine x_iload_n dX11_nearest_29 rfl ?_
        cases h
        exact x_iret dX11_nearest_30 ⟨rfl, rfl, rfl⟩
    · replace h := xif_n c3 h
      refine x_bipush (v := -3) dX11_nearest_12 (by decide) ?_
      cases h
      exact x_iret dX11_nearest_14 ⟨rfl, rfl, rfl⟩
def f_X1_mendedCheck  (p0 : Int32) (p1 : Int32) : Option Int32 := (if p1 < 32 then (some p0) else (if 40 ≤ p1 then (some p0) else (some ((p0 ^^^ (1 <<< ((39 - p1) &&& 31)))))))
set_option maxRecDepth 100000 in
set_option maxHeartbeats 400000 in
theorem v_X1_mendedCheck (N : Nat) (s0 : XW)  (p0 : Int32) (p1 : Int32) (q : Int32) (h : f_X1_mendedCheck p0 p1 = some q) : C_X1_mendedCheck 0 N [.int p0, .int p1] (xof s0 []) (some (.int q)) (xof s0 []) := by
  unfold f_X1_mendedCheck at h
  show V yX1_mendedCheck cX1_mendedCheck (some .int) 0 N (0, 0) 0 [some (.int p0), some (.int p1)] [] (xof s0 []) _
  refine x_iload_n dX1_mendedCheck_0 rfl ?_
  refine x_bipush (v := 32) dX1_mendedCheck_1 (by decide) ?_
  refine x_icmp_lt (tgt := 23) dX1_mendedCheck_3 (by decide) (fun c1 => ?_) (fun c1 => ?_)
  · replace h := xif_p c1 h
    refine x_iload_n dX1_mendedCheck_23 rfl ?_
    cases h
    exact x_iret dX1_mendedCheck_24 ⟨rfl, rfl, rfl⟩
  · replace h := xif_n c1 h
    refine x_iload_n dX1_mendedCheck_6 rfl ?_
    refine x_bipush (v := 40) dX1_mendedCheck_7 (by decide) ?_
    refine x_icmp_ge (tgt := 23) dX1_mendedCheck_9 (by decide) (fun c2 => ?_) (fun c2 => ?_)
    · replace h := xif_p c2 h
      refine x_iload_n dX1_mendedCheck_23 rfl ?_
      cases h
      exact x_iret dX1_mendedCheck_24 ⟨rfl, rfl, rfl⟩
    · replace h := xif_n c2 h
      refine x_iload_n dX1_mendedCheck_12 rfl ?_
      refine x_iconst (v := 1) dX1_mendedCheck_13 (by decide) ?_
      refine x_bipush (v := 39) dX1_mendedCheck_14 (by decide) ?_
      refine x_iload_n dX1_mendedCheck_16 rfl ?_
      refine x_isub dX1_mendedCheck_17 ?_
      refine x_ishl dX1_mendedCheck_18 ?_
      refine x_ixor dX1_mendedCheck_19 ?_
      refine x_goto (tgt := 24) dX1_mendedCheck_20 (by decide) ?_
      cases h
      exact x_iret dX1_mendedCheck_24 ⟨rfl, rfl, rfl⟩
def f_X11_mending_0 (n : Nat)  (p1 : Int32) (p2 : Int32) (p3 : Int32) : Option Int32 := (Option.bind (f_X11_isWithin p3 0 2) (fun q1 => (if q1 = 0 then (some ((-2))) else (Option.bind (f_X11_isByte p2) (fun q3 => (if q3 = 0 then (some ((-3))) else (Option.bind (f_X1_ofHeader n p1) (fun q5 => (Option.bind (f_X1_bitOf n ((q5 ^^^ p2))) (fun q6 => (if p3 = 1 then (Option.bind (f_X1_mendedHeader p1 q6) (fun q12 => (some q12))) else (if p3 = 2 then (Option.bind (f_X1_mendedCheck p2 q6) (fun q11 => (some q11))) else (if (q5 ^^^ p2) = 0 then (some 0) else (if q6 = (-1) then (some 2) else (some 1)))))))))))))))
set_option maxRecDepth 100000 in
set_option maxHeartbeats 400000 in
theorem v_X11_mending_0 (N : Nat) (s0 : XW) (n : Nat)  (p1 : Int32) (p2 : Int32) (p3 : Int32) (q : Int32) (h : f_X11_mending_0 n p1 p2 p3 = some q) : C_X11_mending 2 N [.ref 0, .int p1, .int p2, .int p3] (xof s0 []) (some (.int q)) (xof s0 []) := by
  unfold f_X11_mending_0 at h
  show V yX11_mending cX11_mending (some .int) 2 N (0, 0) 0 [some (.ref 0), some (.int p1), some (.int p2), some (.int p3), none, none] [] (xof s0 []) _
  refine x_iload_n dX11_mending_0 rfl ?_
  refine x_iconst (v := 0) dX11_mending_1 (by decide) ?_
  refine x_iconst (v := 2) dX11_mending_2 (by decide) ?_
  obtain ⟨q1, hq1, h⟩ := Option.bind_eq_some_iff.mp h
  refine y_callSi (L' := []) mi_X11_isWithin ml_X11_100 st_X11_isWithin dX11_mending_3 (fun s1 => v_X11_isWithin N s1 _ _ _ q1 hq1) (Nat.le_of_ble_eq_true rfl) rfl (by decide) (Nat.le_of_ble_eq_true rfl) rfl rfl rfl rfl ?_
  refine x_if_ne (tgt := 12) dX11_mending_6 (by decide) (fun c2 => ?_) (fun c2 => ?_)
  · replace h := xif_n c2 h
    refine x_iload_n dX11_mending_12 rfl ?_
    obtain ⟨q3, hq3, h⟩ := Option.bind_eq_some_iff.mp h
    refine y_callSi (L' := []) mi_X11_isByte ml_X11_305 st_X11_isByte dX11_mending_13 (fun s1 => v_X11_isByte N s1 _ q3 hq3) (Nat.le_of_ble_eq_true rfl) rfl (by decide) (Nat.le_of_ble_eq_true rfl) rfl rfl rfl rfl ?_
    refine x_if_ne (tgt := 22) dX11_mending_16 (by decide) (fun c4 => ?_) (fun c4 => ?_)
    · replace h := xif_n c4 h
      refine x_iload_n dX11_mending_22 rfl ?_
      obtain ⟨q5, hq5, h⟩ := Option.bind_eq_some_iff.mp h
      refine y_callSi (L' := []) mi_X1_ofHeader ml_X11_302 st_X1_ofHeader dX11_mending_23 (fun s1 => v_X1_ofHeader N s1 n _ q5 hq5) (Nat.le_of_ble_eq_true rfl) rfl (by decide) (Nat.le_of_ble_eq_true rfl) rfl rfl rfl rfl ?_
      refine x_iload_n dX11_mending_26 rfl ?_
      refine x_ixor dX11_mending_27 ?_
      refine x_istore (ls' := [_, _, _, _, _, _]) dX11_mending_28 rfl rfl ?_
      refine x_iload dX11_mending_30 rfl ?_
      obtain ⟨q6, hq6, h⟩ := Option.bind_eq_some_iff.mp h
      refine y_callSi (L' := []) mi_X1_bitOf ml_X11_308 st_X1_bitOf dX11_mending_32 (fun s1 => v_X1_bitOf N s1 n _ q6 hq6) (Nat.le_of_ble_eq_true rfl) rfl (by decide) (Nat.le_of_ble_eq_true rfl) rfl rfl rfl rfl ?_
      refine x_istore (ls' := [_, _, _, _, _, _]) dX11_mending_35 rfl rfl ?_
      refine x_iload_n dX11_mending_37 rfl ?_
      refine x_iconst (v := 1) dX11_mending_38 (by decide) ?_
      refine x_icmp_ne (tgt := 49) dX11_mending_39 (by decide) (fun c7 => ?_) (fun c7 => ?_)
      · replace h := xif_n c7 h
        refine x_iload_n dX11_mending_49 rfl ?_
        refine x_iconst (v := 2) dX11_mending_50 (by decide) ?_
        refine x_icmp_ne (tgt := 61) dX11_mending_51 (by decide) (fun c8 => ?_) (fun c8 => ?_)
        · replace h := xif_n c8 h
          refine x_iload dX11_mending_61 rfl ?_
          refine x_if_ne (tgt := 68) dX11_mending_63 (by decide) (fun c9 => ?_) (fun c9 => ?_)
          · replace h := xif_n c9 h
            refine x_iload dX11_mending_68 rfl ?_
            refine x_iconst (v := -1) dX11_mending_70 (by decide) ?_
            refine x_icmp_ne (tgt := 78) dX11_mending_71 (by decide) (fun c10 => ?_) (fun c10 => ?_)
            · replace h := xif_n c10 h
              refine x_iconst (v := 1) dX11_mending_78 (by decide) ?_
              cases h
              exact x_iret dX11_mending_79 ⟨rfl, rfl, rfl⟩
            · replace h := xif_p c10 h
              refine x_iconst (v := 2) dX11_mending_74 (by decide) ?_
              refine x_goto (tgt := 79) dX11_mending_75 (by decide) ?_
              cases h
              exact x_iret dX11_mending_79 ⟨rfl, rfl, rfl⟩
          · replace h := xif_p c9 h
            refine x_iconst (v := 0) dX11_mending_66 (by decide) ?_
            cases h
            exact x_iret dX11_mending_67 ⟨rfl, rfl, rfl⟩
        · replace h := xif_p c8 h
          refine x_iload_n dX11_mending_54 rfl ?_
          refine x_iload dX11_mending_55 rfl ?_
          obtain ⟨q11, hq11, h⟩ := Option.bind_eq_some_iff.mp h
          refine y_callSi (L' := []) mi_X1_mendedCheck ml_X11_323 st_X1_mendedCheck dX11_mending_57 (fun s1 => v_X1_mendedCheck N s1 _ _ q11 hq11) (Nat.le_of_ble_eq_true rfl) rfl (by decide) (Nat.le_of_ble_eq_true rfl) rfl rfl rfl rfl ?_
          cases h
          exact x_iret dX11_mending_60 ⟨rfl, rfl, rfl⟩
      · replace h := xif_p c7 h
        refine x_iload_n dX11_mending_42 rfl ?_
        refine x_iload dX11_mending_43 rfl ?_
        obtain ⟨q12, hq12, h⟩ := Option.bind_eq_some_iff.mp h
        refine y_callSi (L' := []) mi_X1_mendedHeader ml_X11_320 st_X1_mendedHeader dX11_mending_45 (fun s1 => v_X1_mendedHeader N s1 _ _ q12 hq12) (Nat.le_of_ble_eq_true rfl) rfl (by decide) (Nat.le_of_ble_eq_true rfl) rfl rfl rfl rfl ?_
        cases h
        exact x_iret dX11_mending_48 ⟨rfl, rfl, rfl⟩
    · replace h := xif_p c4 h
      refine x_bipush (v := -3) dX11_mending_19 (by decide) ?_
      cases h
      exact x_iret dX11_mending_21 ⟨rfl, rfl, rfl⟩
  · replace h := xif_p c2 h
    refine x_bipush (v := -2) dX11_mending_9 (by decide) ?_
    cases h
    exact x_iret dX11_mending_11 ⟨rfl, rfl, rfl⟩
def f_J6_bitCount_0f7a4  (p0 : Int32) : Option Int32 := (some (((((((((p0 - ((xus p0 1) &&& 1431655765)) &&& 858993459) + ((xus (p0 - ((xus p0 1) &&& 1431655765)) 2) &&& 858993459)) + (xus (((p0 - ((xus p0 1) &&& 1431655765)) &&& 858993459) + ((xus (p0 - ((xus p0 1) &&& 1431655765)) 2) &&& 858993459)) 4)) &&& 252645135) + (xus (((((p0 - ((xus p0 1) &&& 1431655765)) &&& 858993459) + ((xus (p0 - ((xus p0 1) &&& 1431655765)) 2) &&& 858993459)) + (xus (((p0 - ((xus p0 1) &&& 1431655765)) &&& 858993459) + ((xus (p0 - ((xus p0 1) &&& 1431655765)) 2) &&& 858993459)) 4)) &&& 252645135) 8)) + (xus ((((((p0 - ((xus p0 1) &&& 1431655765)) &&& 858993459) + ((xus (p0 - ((xus p0 1) &&& 1431655765)) 2) &&& 858993459)) + (xus (((p0 - ((xus p0 1) &&& 1431655765)) &&& 858993459) + ((xus (p0 - ((xus p0 1) &&& 1431655765)) 2) &&& 858993459)) 4)) &&& 252645135) + (xus (((((p0 - ((xus p0 1) &&& 1431655765)) &&& 858993459) + ((xus (p0 - ((xus p0 1) &&& 1431655765)) 2) &&& 858993459)) + (xus (((p0 - ((xus p0 1) &&& 1431655765)) &&& 858993459) + ((xus (p0 - ((xus p0 1) &&& 1431655765)) 2) &&& 858993459)) 4)) &&& 252645135) 8)) 16)) &&& 63)))
set_option maxRecDepth 100000 in
set_option maxHeartbeats 400000 in
theorem v_J6_bitCount_0f7a4 (N : Nat) (s0 : XW)  (p0 : Int32) (q : Int32) (h : f_J6_bitCount_0f7a4 p0 = some q) : C_J6_bitCount_0f7a4 0 N [.int p0] (xof s0 []) (some (.int q)) (xof s0 []) := by
  unfold f_J6_bitCount_0f7a4 at h
  show V yJ6_bitCount_0f7a4 cJ6_bitCount_0f7a4 (some .int) 0 N (0, 0) 0 [some (.int p0)] [] (xof s0 []) _
  refine x_iload_n dJ6_bitCount_0f7a4_0 rfl ?_
  refine x_iload_n dJ6_bitCount_0f7a4_1 rfl ?_
  refine x_iconst (v := 1) dJ6_bitCount_0f7a4_2 (by decide) ?_
  refine x_iushr dJ6_bitCount_0f7a4_3 ?_
  refine x_ldcw dJ6_bitCount_0f7a4_4 cn_J6_265 ?_
  refine x_iand dJ6_bitCount_0f7a4_7 ?_
  refine x_isub dJ6_bitCount_0f7a4_8 ?_
  refine x_istore_n (ls' := [_]) dJ6_bitCount_0f7a4_9 rfl rfl ?_
  refine x_iload_n dJ6_bitCount_0f7a4_10 rfl ?_
  refine x_ldcw dJ6_bitCount_0f7a4_11 cn_J6_266 ?_
  refine x_iand dJ6_bitCount_0f7a4_14 ?_
  refine x_iload_n dJ6_bitCount_0f7a4_15 rfl ?_
  refine x_iconst (v := 2) dJ6_bitCount_0f7a4_16 (by decide) ?_
  refine x_iushr dJ6_bitCount_0f7a4_17 ?_
  refine x_ldcw dJ6_bitCount_0f7a4_18 cn_J6_266 ?_
  refine x_iand dJ6_bitCount_0f7a4_21 ?_
  refine x_iadd dJ6_bitCount_0f7a4_22 ?_
  refine x_istore_n (ls' := [_]) dJ6_bitCount_0f7a4_23 rfl rfl ?_
  refine x_iload_n dJ6_bitCount_0f7a4_24 rfl ?_
  refine x_iload_n dJ6_bitCount_0f7a4_25 rfl ?_
  refine x_iconst (v := 4) dJ6_bitCount_0f7a4_26 (by decide) ?_
  refine x_iushr dJ6_bitCount_0f7a4_27 ?_
  refine x_iadd dJ6_bitCount_0f7a4_28 ?_
  refine x_ldcw dJ6_bitCount_0f7a4_29 cn_J6_267 ?_
  refine x_iand dJ6_bitCount_0f7a4_32 ?_
  refine x_istore_n (ls' := [_]) dJ6_bitCount_0f7a4_33 rfl rfl ?_
  refine x_iload_n dJ6_bitCount_0f7a4_34 rfl ?_
  refine x_iload_n dJ6_bitCount_0f7a4_35 rfl ?_
  refine x_bipush (v := 8) dJ6_bitCount_0f7a4_36 (by decide) ?_
  refine x_iushr dJ6_bitCount_0f7a4_38 ?_
  refine x_iadd dJ6_bitCount_0f7a4_39 ?_
  refine x_istore_n (ls' := [_]) dJ6_bitCount_0f7a4_40 rfl rfl ?_
  refine x_iload_n dJ6_bitCount_0f7a4_41 rfl ?_
  refine x_iload_n dJ6_bitCount_0f7a4_42 rfl ?_
  refine x_bipush (v := 16) dJ6_bitCount_0f7a4_43 (by decide) ?_
  refine x_iushr dJ6_bitCount_0f7a4_45 ?_
  refine x_iadd dJ6_bitCount_0f7a4_46 ?_
  refine x_istore_n (ls' := [_]) dJ6_bitCount_0f7a4_47 rfl rfl ?_
  refine x_iload_n dJ6_bitCount_0f7a4_48 rfl ?_
  refine x_bipush (v := 63) dJ6_bitCount_0f7a4_49 (by decide) ?_
  refine x_iand dJ6_bitCount_0f7a4_51 ?_
  cases h
  exact x_iret dJ6_bitCount_0f7a4_52 ⟨rfl, rfl, rfl⟩
