def f_X12_lays_44 (o44 : Nat → Int32) (a48 : Nat → Int32) (p1 : Int32) : Option (((Nat → Int32) × (Nat → Int32))) := (bif xin (o44 6) 9600 then (some (upd o44 6 (((o44 6) + 1)), upd a48 ((Int32.toNatClampNeg (o44 6))) p1)) else none)
set_option maxRecDepth 100000 in
set_option maxHeartbeats 400000 in
theorem v_X12_lays_44 (s0 : XW) (o44 : Nat → Int32) (a48 : Nat → Int32) (p1 : Int32) (q : ((Nat → Int32) × (Nat → Int32))) (h : f_X12_lays_44 o44 a48 p1 = some q) : C_X12_lays 0 61 [.ref 44, .int p1] (xof s0 [W_44 o44, W_48 a48]) none (xof s0 [W_44 q.1, W_48 q.2]) := by
  unfold f_X12_lays_44 at h
  show V yX12_lays cX12_lays none 0 61 (0, 0) 0 [some (.ref 44), some (.int p1)] [] (xof s0 [W_44 o44, W_48 a48]) _
  refine x_aload_n dX12_lays_0 rfl ?_
  refine g_X12_23 rfl dX12_lays_1 (by decide) rfl rfl ?_
  refine x_aload_n dX12_lays_4 rfl ?_
  refine g_X12_64 rfl dX12_lays_5 (by decide) rfl rfl ?_
  refine x_iload_n dX12_lays_8 rfl ?_
  obtain ⟨c1, h⟩ := xck h
  refine x_iastK (jn := (Int32.toNatClampNeg (o44 6))) (L' := [(44, _), (48, _)]) dX12_lays_9 (by decide) rfl (xin_ok c1) rfl rfl ?_
  refine x_aload_n dX12_lays_10 rfl ?_
  refine x_dup dX12_lays_11 rfl ?_
  refine g_X12_64 rfl dX12_lays_12 (by decide) rfl rfl ?_
  refine x_iconst (v := 1) dX12_lays_15 (by decide) ?_
  refine x_iadd dX12_lays_16 ?_
  refine p_X12_64 (fs' := [_, _, _, _, _, _, _, _, _, _, _, _, _, _, _, _, _, _, _, _, _, _]) (L' := [(44, _), (48, _)]) rfl dX12_lays_17 (by decide) rfl (Nat.le_of_ble_eq_true rfl) rfl rfl ?_
  cases h
  exact x_vret dX12_lays_20 ⟨rfl, rfl, rfl⟩
def l_X12_laysBits_44_4 (n : Nat) (l2 : Int32) : Nat → (Int32) → (Nat → Int32) → (Nat → Int32) → Option (((Int32) × (Nat → Int32) × (Nat → Int32)))
  | 0, _, _, _ => none
  | k + 1, l3, o44, a48 => (if l3 < 0 then (some (l3, o44, a48)) else (Option.bind (f_X12_lays_44 o44 a48 (((xus l2 l3) &&& 1))) (fun q2 => (l_X12_laysBits_44_4 n l2 k ((l3 + (-1))) q2.1 q2.2))))
set_option maxRecDepth 100000 in
set_option maxHeartbeats 400000 in
theorem lv_X12_laysBits_44_4 (s0 : XW) (n : Nat) (l2 : Int32) (Q : Nat → Option Value → XW → Prop) : ∀ (k : Nat) (l3 : Int32) (o44 : Nat → Int32) (a48 : Nat → Int32) (o : ((Int32) × (Nat → Int32) × (Nat → Int32))), l_X12_laysBits_44_4 n l2 k l3 o44 a48 = some o → (V yX12_laysBits cX12_laysBits none 1 61 (0, 0) 23 [none, none, none, none] [] (xof s0 [W_44 o.2.1, W_48 o.2.2]) Q) → V yX12_laysBits cX12_laysBits none 1 61 (0, 0) 4 [some (.ref 44), none, some (.int l2), some (.int l3)] [] (xof s0 [W_44 o44, W_48 a48]) Q := by
  intro k
  induction k with
  | zero =>
    intro _ _ _ _ h
    simp [l_X12_laysBits_44_4] at h
  | succ k ih =>
    intro l3 o44 a48 o h hk
    rw [l_X12_laysBits_44_4] at h
    refine x_iload_n dX12_laysBits_4 rfl ?_
    refine x_if_lt (tgt := 23) dX12_laysBits_5 (by decide) (fun c1 => ?_) (fun c1 => ?_)
    · replace h := xif_p c1 h
      refine V.drop1 (i := 0) (ls' := [_, _, _, _]) rfl ?_
      refine V.drop1 (i := 2) (ls' := [_, _, _, _]) rfl ?_
      refine V.drop1 (i := 3) (ls' := [_, _, _, _]) rfl ?_
      show V yX12_laysBits cX12_laysBits none 1 61 (0, 0) 23 [none, none, none, none] [] (xof s0 [W_44 o44, W_48 a48]) _
      cases h
      exact hk
    · replace h := xif_n c1 h
      refine x_aload_n dX12_laysBits_8 rfl ?_
      refine x_iload_n dX12_laysBits_9 rfl ?_
      refine x_iload_n dX12_laysBits_10 rfl ?_
      refine x_iushr dX12_laysBits_11 ?_
      refine x_iconst (v := 1) dX12_laysBits_12 (by decide) ?_
      refine x_iand dX12_laysBits_13 ?_
      obtain ⟨q2, hq2, h⟩ := Option.bind_eq_some_iff.mp h
      refine y_callVv (L' := [(44, _), (48, _)]) mi_X12_lays ml_X12_67 im_X12_lays se_X12_lays (rfl : vwCl[11]? = _) dX12_laysBits_14 (fun s1 => v_X12_lays_44 s1 _ _ _ q2 hq2) (by decide) rfl (Nat.le_of_ble_eq_true rfl) rfl (by decide) (Nat.le_of_ble_eq_true rfl) rfl rfl rfl rfl ?_
      refine x_iinc (v := l3 + (-1)) (ls' := [_, _, _, _]) dX12_laysBits_17 rfl rfl rfl rfl ?_
      refine x_goto (tgt := 4) dX12_laysBits_20 (by decide) ?_
      show V yX12_laysBits cX12_laysBits none 1 61 (0, 0) 4 [some (.ref 44), none, some (.int l2), some (.int ((l3 + (-1))))] [] (xof s0 [W_44 q2.1, W_48 q2.2]) _
      exact ih ((l3 + (-1))) q2.1 q2.2 _ h hk
def f_X12_laysBits_44 (n : Nat) (o44 : Nat → Int32) (a48 : Nat → Int32) (p1 : Int32) (p2 : Int32) : Option (((Nat → Int32) × (Nat → Int32))) := (Option.bind (l_X12_laysBits_44_4 n p2 n ((p1 - 1)) o44 a48) (fun u3 => (some (u3.2.1, u3.2.2))))
set_option maxRecDepth 100000 in
set_option maxHeartbeats 400000 in
theorem v_X12_laysBits_44 (s0 : XW) (n : Nat) (o44 : Nat → Int32) (a48 : Nat → Int32) (p1 : Int32) (p2 : Int32) (q : ((Nat → Int32) × (Nat → Int32))) (h : f_X12_laysBits_44 n o44 a48 p1 p2 = some q) : C_X12_laysBits 1 61 [.ref 44, .int p1, .int p2] (xof s0 [W_44 o44, W_48 a48]) none (xof s0 [W_44 q.1, W_48 q.2]) := by
  unfold f_X12_laysBits_44 at h
  show V yX12_laysBits cX12_laysBits none 1 61 (0, 0) 0 [some (.ref 44), some (.int p1), some (.int p2), none] [] (xof s0 [W_44 o44, W_48 a48]) _
  refine x_iload_n dX12_laysBits_0 rfl ?_
  refine x_iconst (v := 1) dX12_laysBits_1 (by decide) ?_
  refine x_isub dX12_laysBits_2 ?_
  refine x_istore_n (ls' := [_, _, _, _]) dX12_laysBits_3 rfl rfl ?_
  refine V.drop1 (i := 1) (ls' := [_, _, _, _]) rfl ?_
  obtain ⟨u3, hu3, h⟩ := Option.bind_eq_some_iff.mp h
  show V yX12_laysBits cX12_laysBits none 1 61 (0, 0) 4 [some (.ref 44), none, some (.int p2), some (.int ((p1 - 1)))] [] (xof s0 [W_44 o44, W_48 a48]) _
  refine lv_X12_laysBits_44_4 s0 _ p2 _ n ((p1 - 1)) o44 a48 _ hu3 ?_
  cases h
  exact x_vret dX12_laysBits_23 ⟨rfl, rfl, rfl⟩
def f_X12_feed_44 (n : Nat) (o44 : Nat → Int32) (a48 : Nat → Int32) (p1 : Int32) (p2 : Int32) (p3 : Int32) (p4 : Int32) (p5 : Int32) : Option (((Int32) × (Nat → Int32) × (Nat → Int32))) := (if ((o44 6) + 160) ≤ 9600 then (Option.bind (f_X12_laysBits_44 n (upd o44 0 0) a48 32 p1) (fun q2 => (Option.bind (f_X12_laysBits_44 n q2.1 q2.2 32 p2) (fun q3 => (Option.bind (f_X12_laysBits_44 n q3.1 q3.2 32 p3) (fun q4 => (Option.bind (f_X12_laysBits_44 n q4.1 q4.2 32 p4) (fun q5 => (Option.bind (f_X12_laysBits_44 n q5.1 q5.2 32 p5) (fun q6 => (some ((q6.1 6), q6.1, q6.2)))))))))))) else (some ((-4), upd o44 0 0, a48)))
set_option maxRecDepth 100000 in
set_option maxHeartbeats 400000 in
theorem v_X12_feed_44 (s0 : XW) (n : Nat) (o44 : Nat → Int32) (a48 : Nat → Int32) (p1 : Int32) (p2 : Int32) (p3 : Int32) (p4 : Int32) (p5 : Int32) (q : ((Int32) × (Nat → Int32) × (Nat → Int32))) (h : f_X12_feed_44 n o44 a48 p1 p2 p3 p4 p5 = some q) : C_X12_feed 2 61 [.ref 44, .int p1, .int p2, .int p3, .int p4, .int p5] (xof s0 [W_44 o44, W_48 a48]) (some (.int q.1)) (xof s0 [W_44 q.2.1, W_48 q.2.2]) := by
  unfold f_X12_feed_44 at h
  show V yX12_feed cX12_feed (some .int) 2 61 (0, 0) 0 [some (.ref 44), some (.int p1), some (.int p2), some (.int p3), some (.int p4), some (.int p5)] [] (xof s0 [W_44 o44, W_48 a48]) _
  refine x_aload_n dX12_feed_0 rfl ?_
  refine x_iconst (v := 0) dX12_feed_1 (by decide) ?_
  refine p_X12_1 (fs' := [_, _, _, _, _, _, _, _, _, _, _, _, _, _, _, _, _, _, _, _, _, _]) (L' := [(44, _), (48, _)]) rfl dX12_feed_2 (by decide) rfl (Nat.le_of_ble_eq_true rfl) rfl rfl ?_
  refine x_aload_n dX12_feed_5 rfl ?_
  refine g_X12_64 rfl dX12_feed_6 (by decide) rfl rfl ?_
  refine x_sipush (v := 160) dX12_feed_9 (by decide) ?_
  refine x_iadd dX12_feed_12 ?_
  refine x_sipush (v := 9600) dX12_feed_13 (by decide) ?_
  refine x_icmp_le (tgt := 22) dX12_feed_16 (by decide) (fun c1 => ?_) (fun c1 => ?_)
  · replace h := xif_p c1 h
    refine x_aload_n dX12_feed_22 rfl ?_
    refine x_bipush (v := 32) dX12_feed_23 (by decide) ?_
    refine x_iload_n dX12_feed_25 rfl ?_
    obtain ⟨q2, hq2, h⟩ := Option.bind_eq_some_iff.mp h
    refine y_callVv (L' := [(44, _), (48, _)]) mi_X12_laysBits ml_X12_71 im_X12_laysBits se_X12_laysBits (rfl : vwCl[11]? = _) dX12_feed_26 (fun s1 => v_X12_laysBits_44 s1 n _ _ _ _ q2 hq2) (by decide) rfl (Nat.le_of_ble_eq_true rfl) rfl (by decide) (Nat.le_of_ble_eq_true rfl) rfl rfl rfl rfl ?_
    refine x_aload_n dX12_feed_29 rfl ?_
    refine x_bipush (v := 32) dX12_feed_30 (by decide) ?_
    refine x_iload_n dX12_feed_32 rfl ?_
    obtain ⟨q3, hq3, h⟩ := Option.bind_eq_some_iff.mp h
    refine y_callVv (L' := [(44, _), (48, _)]) mi_X12_laysBits ml_X12_71 im_X12_laysBits se_X12_laysBits (rfl : vwCl[11]? = _) dX12_feed_33 (fun s1 => v_X12_laysBits_44 s1 n _ _ _ _ q3 hq3) (by decide) rfl (Nat.le_of_ble_eq_true rfl) rfl (by decide) (Nat.le_of_ble_eq_true rfl) rfl rfl rfl rfl ?_
    refine x_aload_n dX12_feed_36 rfl ?_
    refine x_bipush (v := 32) dX12_feed_37 (by decide) ?_
    refine x_iload_n dX12_feed_39 rfl ?_
    obtain ⟨q4, hq4, h⟩ := Option.bind_eq_some_iff.mp h
    refine y_callVv (L' := [(44, _), (48, _)]) mi_X12_laysBits ml_X12_71 im_X12_laysBits se_X12_laysBits (rfl : vwCl[11]? = _) dX12_feed_40 (fun s1 => v_X12_laysBits_44 s1 n _ _ _ _ q4 hq4) (by decide) rfl (Nat.le_of_ble_eq_true rfl) rfl (by decide) (Nat.le_of_ble_eq_true rfl) rfl rfl rfl rfl ?_
    refine x_aload_n dX12_feed_43 rfl ?_
    refine x_bipush (v := 32) dX12_feed_44 (by decide) ?_
    refine x_iload dX12_feed_46 rfl ?_
    obtain ⟨q5, hq5, h⟩ := Option.bind_eq_some_iff.mp h
    refine y_callVv (L' := [(44, _), (48, _)]) mi_X12_laysBits ml_X12_71 im_X12_laysBits se_X12_laysBits (rfl : vwCl[11]? = _) dX12_feed_48 (fun s1 => v_X12_laysBits_44 s1 n _ _ _ _ q5 hq5) (by decide) rfl (Nat.le_of_ble_eq_true rfl) rfl (by decide) (Nat.le_of_ble_eq_true rfl) rfl rfl rfl rfl ?_
    refine x_aload_n dX12_feed_51 rfl ?_
    refine x_bipush (v := 32) dX12_feed_52 (by decide) ?_
    refine x_iload dX12_feed_54 rfl ?_
    obtain ⟨q6, hq6, h⟩ := Option.bind_eq_some_iff.mp h
    refine y_callVv (L' := [(44, _), (48, _)]) mi_X12_laysBits ml_X12_71 im_X12_laysBits se_X12_laysBits (rfl : vwCl[11]? = _) dX12_feed_56 (fun s1 => v_X12_laysBits_44 s1 n _ _ _ _ q6 hq6) (by decide) rfl (Nat.le_of_ble_eq_true rfl) rfl (by decide) (Nat.le_of_ble_eq_true rfl) rfl rfl rfl rfl ?_
    refine x_aload_n dX12_feed_59 rfl ?_
    refine g_X12_64 rfl dX12_feed_60 (by decide) rfl rfl ?_
    cases h
    exact x_iret dX12_feed_63 ⟨rfl, rfl, rfl⟩
  · replace h := xif_n c1 h
    refine x_bipush (v := -4) dX12_feed_19 (by decide) ?_
    cases h
    exact x_iret dX12_feed_21 ⟨rfl, rfl, rfl⟩
def f_X12_isIn  (p0 : Int64) (p1 : Int64) (p2 : Int64) : Option Int32 := (if (lg_cmp p0 p1) < 0 then (some 0) else (if 0 < (lg_cmp p0 p2) then (some 0) else (some 1)))
set_option maxRecDepth 100000 in
set_option maxHeartbeats 400000 in
theorem v_X12_isIn (N : Nat) (s0 : XW)  (p0 : Int64) (p1 : Int64) (p2 : Int64) (q : Int32) (h : f_X12_isIn p0 p1 p2 = some q) : C_X12_isIn 0 N [.long p0, .long p1, .long p2] (xof s0 []) (some (.int q)) (xof s0 []) := by
  unfold f_X12_isIn at h
  show V yX12_isIn cX12_isIn (some .boolean) 0 N (0, 0) 0 [some (.long p0), none, some (.long p1), none, some (.long p2), none] [] (xof s0 []) _
  refine x_lload_n dX12_isIn_0 rfl ?_
  refine x_lload_n dX12_isIn_1 rfl ?_
  refine x_lcmp dX12_isIn_2 ?_
  refine x_if_lt (tgt := 17) dX12_isIn_3 (by decide) (fun c1 => ?_) (fun c1 => ?_)
  · replace h := xif_p c1 h
    refine x_iconst (v := 0) dX12_isIn_17 (by decide) ?_
    cases h
    exact x_zret dX12_isIn_18 (Or.inl rfl) ⟨rfl, rfl, rfl⟩
  · replace h := xif_n c1 h
    refine x_lload_n dX12_isIn_6 rfl ?_
    refine x_lload dX12_isIn_7 rfl ?_
    refine x_lcmp dX12_isIn_9 ?_
    refine x_if_gt (tgt := 17) dX12_isIn_10 (by decide) (fun c2 => ?_) (fun c2 => ?_)
    · replace h := xif_p c2 h
      refine x_iconst (v := 0) dX12_isIn_17 (by decide) ?_
      cases h
      exact x_zret dX12_isIn_18 (Or.inl rfl) ⟨rfl, rfl, rfl⟩
    · replace h := xif_n c2 h
      refine x_iconst (v := 1) dX12_isIn_13 (by decide) ?_
      refine x_goto (tgt := 18) dX12_isIn_14 (by decide) ?_
      cases h
      exact x_zret dX12_isIn_18 (Or.inr rfl) ⟨rfl, rfl, rfl⟩
def f_X12_bits_44 (n : Nat) (o44 : Nat → Int32) (a48 : Nat → Int32) (p1 : Int32) (p2 : Int32) : Option (((Int32) × (Nat → Int32) × (Nat → Int32))) := (Option.bind (f_X12_isIn ((Int32.toInt64 p1)) 1 32) (fun q1 => (if q1 = 0 then (some ((-3), upd o44 0 0, a48)) else (if ((o44 6) + p1) ≤ 9600 then (Option.bind (f_X12_laysBits_44 n (upd o44 0 0) a48 p1 p2) (fun q4 => (some ((q4.1 6), q4.1, q4.2)))) else (some ((-4), upd o44 0 0, a48))))))
set_option maxRecDepth 100000 in
set_option maxHeartbeats 400000 in
theorem v_X12_bits_44 (s0 : XW) (n : Nat) (o44 : Nat → Int32) (a48 : Nat → Int32) (p1 : Int32) (p2 : Int32) (q : ((Int32) × (Nat → Int32) × (Nat → Int32))) (h : f_X12_bits_44 n o44 a48 p1 p2 = some q) : C_X12_bits 2 61 [.ref 44, .int p1, .int p2] (xof s0 [W_44 o44, W_48 a48]) (some (.int q.1)) (xof s0 [W_44 q.2.1, W_48 q.2.2]) := by
  unfold f_X12_bits_44 at h
  show V yX12_bits cX12_bits (some .int) 2 61 (0, 0) 0 [some (.ref 44), some (.int p1), some (.int p2)] [] (xof s0 [W_44 o44, W_48 a48]) _
  refine x_aload_n dX12_bits_0 rfl ?_
  refine x_iconst (v := 0) dX12_bits_1 (by decide) ?_
  refine p_X12_1 (fs' := [_, _, _, _, _, _, _, _, _, _, _, _, _, _, _, _, _, _, _, _, _, _]) (L' := [(44, _), (48, _)]) rfl dX12_bits_2 (by decide) rfl (Nat.le_of_ble_eq_true rfl) rfl rfl ?_
  refine x_iload_n dX12_bits_5 rfl ?_
  refine x_i2l dX12_bits_6 ?_
  refine x_lconst (v := 1) dX12_bits_7 (by decide) ?_
  refine x_ldc2 dX12_bits_8 cn_X12_75 ?_
  obtain ⟨q1, hq1, h⟩ := Option.bind_eq_some_iff.mp h
  refine y_callSi (L' := [(44, _), (48, _)]) mi_X12_isIn ml_X12_77 st_X12_isIn dX12_bits_11 (fun s1 => v_X12_isIn 61 s1 _ _ _ q1 hq1) (Nat.le_of_ble_eq_true rfl) rfl (by decide) (Nat.le_of_ble_eq_true rfl) rfl rfl rfl rfl ?_
  refine x_if_ne (tgt := 20) dX12_bits_14 (by decide) (fun c2 => ?_) (fun c2 => ?_)
  · replace h := xif_n c2 h
    refine x_aload_n dX12_bits_20 rfl ?_
    refine g_X12_64 rfl dX12_bits_21 (by decide) rfl rfl ?_
    refine x_iload_n dX12_bits_24 rfl ?_
    refine x_iadd dX12_bits_25 ?_
    refine x_sipush (v := 9600) dX12_bits_26 (by decide) ?_
    refine x_icmp_le (tgt := 35) dX12_bits_29 (by decide) (fun c3 => ?_) (fun c3 => ?_)
    · replace h := xif_p c3 h
      refine x_aload_n dX12_bits_35 rfl ?_
      refine x_iload_n dX12_bits_36 rfl ?_
      refine x_iload_n dX12_bits_37 rfl ?_
      obtain ⟨q4, hq4, h⟩ := Option.bind_eq_some_iff.mp h
      refine y_callVv (L' := [(44, _), (48, _)]) mi_X12_laysBits ml_X12_71 im_X12_laysBits se_X12_laysBits (rfl : vwCl[11]? = _) dX12_bits_38 (fun s1 => v_X12_laysBits_44 s1 n _ _ _ _ q4 hq4) (by decide) rfl (Nat.le_of_ble_eq_true rfl) rfl (by decide) (Nat.le_of_ble_eq_true rfl) rfl rfl rfl rfl ?_
      refine x_aload_n dX12_bits_41 rfl ?_
      refine g_X12_64 rfl dX12_bits_42 (by decide) rfl rfl ?_
      cases h
      exact x_iret dX12_bits_45 ⟨rfl, rfl, rfl⟩
    · replace h := xif_n c3 h
      refine x_bipush (v := -4) dX12_bits_32 (by decide) ?_
      cases h
      exact x_iret dX12_bits_34 ⟨rfl, rfl, rfl⟩
  · replace h := xif_p c2 h
    refine x_bipush (v := -3) dX12_bits_17 (by decide) ?_
    cases h
    exact x_iret dX12_bits_19 ⟨rfl, rfl, rfl⟩
def f_X12_cellLong_44 (o44 : Nat → Int32) (a45 : Nat → Int32)  : Option Int32 := (some ((40 + (8 * (a45 0)))))
set_option maxRecDepth 100000 in
set_option maxHeartbeats 400000 in
theorem v_X12_cellLong_44 (s0 : XW) (o44 : Nat → Int32) (a45 : Nat → Int32)  (q : Int32) (h : f_X12_cellLong_44 o44 a45 = some q) : C_X12_cellLong 0 61 [.ref 44] (xof s0 [W_44 o44, W_45 a45]) (some (.int q)) (xof s0 [W_44 o44, W_45 a45]) := by
  unfold f_X12_cellLong_44 at h
  show V yX12_cellLong cX12_cellLong (some .int) 0 61 (0, 0) 0 [some (.ref 44)] [] (xof s0 [W_44 o44, W_45 a45]) _
  refine x_bipush (v := 40) dX12_cellLong_0 (by decide) ?_
  refine x_bipush (v := 8) dX12_cellLong_2 (by decide) ?_
  refine x_aload_n dX12_cellLong_4 rfl ?_
  refine g_X12_13 rfl dX12_cellLong_5 (by decide) rfl rfl ?_
  refine x_iconst (v := 0) dX12_cellLong_8 (by decide) ?_
  refine x_ialdK (jn := 0) (v := (a45 0)) dX12_cellLong_9 (by decide) rfl (xin_ok (by decide)) (by decide) rfl ?_
  refine x_imul dX12_cellLong_10 ?_
  refine x_iadd dX12_cellLong_11 ?_
  cases h
  exact x_iret dX12_cellLong_12 ⟨rfl, rfl, rfl⟩
def f_X12_hasRoom_44 (o44 : Nat → Int32) (a45 : Nat → Int32) (p1 : Int32) : Option Int32 := (if 64 < ((o44 7) + p1) then (some 0) else (Option.bind (f_X12_cellLong_44 o44 a45) (fun q2 => (if 9600 < ((o44 6) + (p1 * q2)) then (some 0) else (some 1)))))
set_option maxRecDepth 100000 in
set_option maxHeartbeats 400000 in
theorem v_X12_hasRoom_44 (s0 : XW) (o44 : Nat → Int32) (a45 : Nat → Int32) (p1 : Int32) (q : Int32) (h : f_X12_hasRoom_44 o44 a45 p1 = some q) : C_X12_hasRoom 1 61 [.ref 44, .int p1] (xof s0 [W_44 o44, W_45 a45]) (some (.int q)) (xof s0 [W_44 o44, W_45 a45]) := by
  unfold f_X12_hasRoom_44 at h
  show V yX12_hasRoom cX12_hasRoom (some .boolean) 1 61 (0, 0) 0 [some (.ref 44), some (.int p1)] [] (xof s0 [W_44 o44, W_45 a45]) _
  refine x_aload_n dX12_hasRoom_0 rfl ?_
  refine g_X12_109 rfl dX12_hasRoom_1 (by decide) rfl rfl ?_
  refine x_iload_n dX12_hasRoom_4 rfl ?_
  refine x_iadd dX12_hasRoom_5 ?_
  refine x_bipush (v := 64) dX12_hasRoom_6 (by decide) ?_
  refine x_icmp_gt (tgt := 32) dX12_hasRoom_8 (by decide) (fun c1 => ?_) (fun c1 => ?_)
  · replace h := xif_p c1 h
    refine x_iconst (v := 0) dX12_hasRoom_32 (by decide) ?_
    cases h
    exact x_zret dX12_hasRoom_33 (Or.inl rfl) ⟨rfl, rfl, rfl⟩
  · replace h := xif_n c1 h
    refine x_aload_n dX12_hasRoom_11 rfl ?_
    refine g_X12_64 rfl dX12_hasRoom_12 (by decide) rfl rfl ?_
    refine x_iload_n dX12_hasRoom_15 rfl ?_
    refine x_aload_n dX12_hasRoom_16 rfl ?_
    obtain ⟨q2, hq2, h⟩ := Option.bind_eq_some_iff.mp h
    refine y_callVi (L' := [(44, _), (45, _)]) mi_X12_cellLong ml_X12_115 im_X12_cellLong se_X12_cellLong (rfl : vwCl[11]? = _) dX12_hasRoom_17 (fun s1 => v_X12_cellLong_44 s1 _ _ q2 hq2) (by decide) rfl (Nat.le_of_ble_eq_true rfl) rfl (by decide) (Nat.le_of_ble_eq_true rfl) rfl rfl rfl rfl ?_
    refine x_imul dX12_hasRoom_20 ?_
    refine x_iadd dX12_hasRoom_21 ?_
    refine x_sipush (v := 9600) dX12_hasRoom_22 (by decide) ?_
    refine x_icmp_gt (tgt := 32) dX12_hasRoom_25 (by decide) (fun c3 => ?_) (fun c3 => ?_)
    · replace h := xif_p c3 h
      refine x_iconst (v := 0) dX12_hasRoom_32 (by decide) ?_
      cases h
      exact x_zret dX12_hasRoom_33 (Or.inl rfl) ⟨rfl, rfl, rfl⟩
    · replace h := xif_n c3 h
      refine x_iconst (v := 1) dX12_hasRoom_28 (by decide) ?_
      refine x_goto (tgt := 33) dX12_hasRoom_29 (by decide) ?_
      cases h
      exact x_zret dX12_hasRoom_33 (Or.inr rfl) ⟨rfl, rfl, rfl⟩
def l_X12_restOf_5 (n : Nat) (l0 : Int32) : Nat → (Int32) → (Int32) → Option (((Int32) × (Int32)))
  | 0, _, _ => none
  | k + 1, l1, l2 => (if l2 < 0 then (some (l1, l2)) else (if (((l1 >>> (7 &&& 31)) ^^^ ((xus l0 l2) &&& 1)) &&& 1) = 1 then (l_X12_restOf_5 n l0 k ((((l1 <<< (1 &&& 31)) &&& 255) ^^^ 7)) ((l2 + (-1)))) else (l_X12_restOf_5 n l0 k (((l1 <<< (1 &&& 31)) &&& 255)) ((l2 + (-1))))))
set_option maxRecDepth 100000 in
set_option maxHeartbeats 400000 in
theorem lv_X12_restOf_5 (N : Nat) (s0 : XW) (n : Nat) (l0 : Int32) (Q : Nat → Option Value → XW → Prop) : ∀ (k : Nat) (l1 : Int32) (l2 : Int32) (o : ((Int32) × (Int32))), l_X12_restOf_5 n l0 k l1 l2 = some o → (V yX12_restOf cX12_restOf (some .int) 0 N (0, 0) 46 [none, some (.int o.1), none, none] [] (xof s0 []) Q) → V yX12_restOf cX12_restOf (some .int) 0 N (0, 0) 5 [some (.int l0), some (.int l1), some (.int l2), none] [] (xof s0 []) Q := by
  intro k
  induction k with
  | zero =>
    intro _ _ _ h
    simp [l_X12_restOf_5] at h
  | succ k ih =>
    intro l1 l2 o h hk
    rw [l_X12_restOf_5] at h
    refine x_iload_n dX12_restOf_5 rfl ?_
    refine x_if_lt (tgt := 46) dX12_restOf_6 (by decide) (fun c1 => ?_) (fun c1 => ?_)
    · replace h := xif_p c1 h
      refine V.drop1 (i := 0) (ls' := [_, _, _, _]) rfl ?_
      refine V.drop1 (i := 2) (ls' := [_, _, _, _]) rfl ?_
      show V yX12_restOf cX12_restOf (some .int) 0 N (0, 0) 46 [none, some (.int l1), none, none] [] (xof s0 []) _
      cases h
      exact hk
    · replace h := xif_n c1 h
      refine x_iload_n dX12_restOf_9 rfl ?_
      refine x_bipush (v := 7) dX12_restOf_10 (by decide) ?_
      refine x_ishr dX12_restOf_12 ?_
      refine x_iload_n dX12_restOf_13 rfl ?_
      refine x_iload_n dX12_restOf_14 rfl ?_
      refine x_iushr dX12_restOf_15 ?_
      refine x_iconst (v := 1) dX12_restOf_16 (by decide) ?_
      refine x_iand dX12_restOf_17 ?_
      refine x_ixor dX12_restOf_18 ?_
      refine x_istore_n (ls' := [_, _, _, _]) dX12_restOf_19 rfl rfl ?_
      refine x_iload_n dX12_restOf_20 rfl ?_
      refine x_iconst (v := 1) dX12_restOf_21 (by decide) ?_
      refine x_ishl dX12_restOf_22 ?_
      refine x_sipush (v := 255) dX12_restOf_23 (by decide) ?_
      refine x_iand dX12_restOf_26 ?_
      refine x_istore_n (ls' := [_, _, _, _]) dX12_restOf_27 rfl rfl ?_
      refine x_iload_n dX12_restOf_28 rfl ?_
      refine x_iconst (v := 1) dX12_restOf_29 (by decide) ?_
      refine x_iand dX12_restOf_30 ?_
      refine x_iconst (v := 1) dX12_restOf_31 (by decide) ?_
      refine x_icmp_ne (tgt := 40) dX12_restOf_32 (by decide) (fun c2 => ?_) (fun c2 => ?_)
      · replace h := xif_n c2 h
        refine x_iinc (v := l2 + (-1)) (ls' := [_, _, _, _]) dX12_restOf_40 rfl rfl rfl rfl ?_
        refine x_goto (tgt := 5) dX12_restOf_43 (by decide) ?_
        refine V.drop1 (i := 3) (ls' := [_, _, _, _]) rfl ?_
        show V yX12_restOf cX12_restOf (some .int) 0 N (0, 0) 5 [some (.int l0), some (.int (((l1 <<< (1 &&& 31)) &&& 255))), some (.int ((l2 + (-1)))), none] [] (xof s0 []) _
        exact ih (((l1 <<< (1 &&& 31)) &&& 255)) ((l2 + (-1))) _ h hk
      · replace h := xif_p c2 h
        refine x_iload_n dX12_restOf_35 rfl ?_
        refine x_bipush (v := 7) dX12_restOf_36 (by decide) ?_
        refine x_ixor dX12_restOf_38 ?_
        refine x_istore_n (ls' := [_, _, _, _]) dX12_restOf_39 rfl rfl ?_
        refine x_iinc (v := l2 + (-1)) (ls' := [_, _, _, _]) dX12_restOf_40 rfl rfl rfl rfl ?_
        refine x_goto (tgt := 5) dX12_restOf_43 (by decide) ?_
        refine V.drop1 (i := 3) (ls' := [_, _, _, _]) rfl ?_
        show V yX12_restOf cX12_restOf (some .int) 0 N (0, 0) 5 [some (.int l0), some (.int ((((l1 <<< (1 &&& 31)) &&& 255) ^^^ 7))), some (.int ((l2 + (-1)))), none] [] (xof s0 []) _
        exact ih ((((l1 <<< (1 &&& 31)) &&& 255) ^^^ 7)) ((l2 + (-1))) _ h hk
def f_X12_restOf (n : Nat)  (p0 : Int32) : Option Int32 := (Option.bind (l_X12_restOf_5 n p0 n 0 31) (fun u3 => (some u3.1)))
set_option maxRecDepth 100000 in
set_option maxHeartbeats 400000 in
theorem v_X12_restOf (N : Nat) (s0 : XW) (n : Nat)  (p0 : Int32) (q : Int32) (h : f_X12_restOf n p0 = some q) : C_X12_restOf 0 N [.int p0] (xof s0 []) (some (.int q)) (xof s0 []) := by
  unfold f_X12_restOf at h
  show V yX12_restOf cX12_restOf (some .int) 0 N (0, 0) 0 [some (.int p0), none, none, none] [] (xof s0 []) _
  refine x_iconst (v := 0) dX12_restOf_0 (by decide) ?_
  refine x_istore_n (ls' := [_, _, _, _]) dX12_restOf_1 rfl rfl ?_
  refine x_bipush (v := 31) dX12_restOf_2 (by decide) ?_
  refine x_istore_n (ls' := [_, _, _, _]) dX12_restOf_4 rfl rfl ?_
  obtain ⟨u3, hu3, h⟩ := Option.bind_eq_some_iff.mp h
  show V yX12_restOf cX12_restOf (some .int) 0 N (0, 0) 5 [some (.int p0), some (.int 0), some (.int 31), none] [] (xof s0 []) _
  refine lv_X12_restOf_5 N s0 _ p0 _ n 0 31 _ hu3 ?_
  refine x_iload_n dX12_restOf_46 rfl ?_
  cases h
  exact x_iret dX12_restOf_47 ⟨rfl, rfl, rfl⟩
def f_X12_checkOf (n : Nat)  (p0 : Int32) : Option Int32 := (Option.bind (f_X12_restOf n p0) (fun q1 => (some ((q1 ^^^ 85)))))
set_option maxRecDepth 100000 in
set_option maxHeartbeats 400000 in
theorem v_X12_checkOf (N : Nat) (s0 : XW) (n : Nat)  (p0 : Int32) (q : Int32) (h : f_X12_checkOf n p0 = some q) : C_X12_checkOf 1 N [.int p0] (xof s0 []) (some (.int q)) (xof s0 []) := by
  unfold f_X12_checkOf at h
  show V yX12_checkOf cX12_checkOf (some .int) 1 N (0, 0) 0 [some (.int p0)] [] (xof s0 []) _
  refine x_iload_n dX12_checkOf_0 rfl ?_
  obtain ⟨q1, hq1, h⟩ := Option.bind_eq_some_iff.mp h
  refine y_callSi (L' := []) mi_X12_restOf ml_X12_81 st_X12_restOf dX12_checkOf_1 (fun s1 => v_X12_restOf N s1 n _ q1 hq1) (Nat.le_of_ble_eq_true rfl) rfl (by decide) (Nat.le_of_ble_eq_true rfl) rfl rfl rfl rfl ?_
  refine x_bipush (v := 85) dX12_checkOf_4 (by decide) ?_
  refine x_ixor dX12_checkOf_6 ?_
  cases h
  exact x_iret dX12_checkOf_7 ⟨rfl, rfl, rfl⟩
def f_X12_scrambles_44 (o44 : Nat → Int32) (a48 : Nat → Int32) (p1 : Int32) : Option (((Nat → Int32) × (Nat → Int32))) := (Option.bind (f_X12_lays_44 (upd (upd o44 8 (((((o44 8) <<< (1 &&& 31)) ||| (xus (o44 9) 31)) &&& 2047))) 9 ((((o44 9) <<< (1 &&& 31)) ||| (p1 ^^^ (((o44 8) >>> (10 &&& 31)) &&& 1))))) a48 ((p1 ^^^ (((o44 8) >>> (10 &&& 31)) &&& 1)))) (fun q1 => (some (q1.1, q1.2))))
set_option maxRecDepth 100000 in
set_option maxHeartbeats 400000 in
theorem v_X12_scrambles_44 (s0 : XW) (o44 : Nat → Int32) (a48 : Nat → Int32) (p1 : Int32) (q : ((Nat → Int32) × (Nat → Int32))) (h : f_X12_scrambles_44 o44 a48 p1 = some q) : C_X12_scrambles 1 61 [.ref 44, .int p1] (xof s0 [W_44 o44, W_48 a48]) none (xof s0 [W_44 q.1, W_48 q.2]) := by
  unfold f_X12_scrambles_44 at h
  show V yX12_scrambles cX12_scrambles none 1 61 (0, 0) 0 [some (.ref 44), some (.int p1), none] [] (xof s0 [W_44 o44, W_48 a48]) _
  refine x_iload_n dX12_scrambles_0 rfl ?_
  refine x_aload_n dX12_scrambles_1 rfl ?_
  refine g_X12_103 rfl dX12_scrambles_2 (by decide) rfl rfl ?_
  refine x_bipush (v := 10) dX12_scrambles_5 (by decide) ?_
  refine x_ishr dX12_scrambles_7 ?_
  refine x_iconst (v := 1) dX12_scrambles_8 (by decide) ?_
  refine x_iand dX12_scrambles_9 ?_
  refine x_ixor dX12_scrambles_10 ?_
  refine x_istore_n (ls' := [_, _, _]) dX12_scrambles_11 rfl rfl ?_
  refine x_aload_n dX12_scrambles_12 rfl ?_
  refine x_aload_n dX12_scrambles_13 rfl ?_
  refine g_X12_103 rfl dX12_scrambles_14 (by decide) rfl rfl ?_
  refine x_iconst (v := 1) dX12_scrambles_17 (by decide) ?_
  refine x_ishl dX12_scrambles_18 ?_
  refine x_aload_n dX12_scrambles_19 rfl ?_
  refine g_X12_106 rfl dX12_scrambles_20 (by decide) rfl rfl ?_
  refine x_bipush (v := 31) dX12_scrambles_23 (by decide) ?_
  refine x_iushr dX12_scrambles_25 ?_
  refine x_ior dX12_scrambles_26 ?_
  refine x_sipush (v := 2047) dX12_scrambles_27 (by decide) ?_
  refine x_iand dX12_scrambles_30 ?_
  refine p_X12_103 (fs' := [_, _, _, _, _, _, _, _, _, _, _, _, _, _, _, _, _, _, _, _, _, _]) (L' := [(44, _), (48, _)]) rfl dX12_scrambles_31 (by decide) rfl (Nat.le_of_ble_eq_true rfl) rfl rfl ?_
  refine x_aload_n dX12_scrambles_34 rfl ?_
  refine x_aload_n dX12_scrambles_35 rfl ?_
  refine g_X12_106 rfl dX12_scrambles_36 (by decide) rfl rfl ?_
  refine x_iconst (v := 1) dX12_scrambles_39 (by decide) ?_
  refine x_ishl dX12_scrambles_40 ?_
  refine x_iload_n dX12_scrambles_41 rfl ?_
  refine x_ior dX12_scrambles_42 ?_
  refine p_X12_106 (fs' := [_, _, _, _, _, _, _, _, _, _, _, _, _, _, _, _, _, _, _, _, _, _]) (L' := [(44, _), (48, _)]) rfl dX12_scrambles_43 (by decide) rfl (Nat.le_of_ble_eq_true rfl) rfl rfl ?_
  refine x_aload_n dX12_scrambles_46 rfl ?_
  refine x_iload_n dX12_scrambles_47 rfl ?_
  obtain ⟨q1, hq1, h⟩ := Option.bind_eq_some_iff.mp h
  refine y_callVv (L' := [(44, _), (48, _)]) mi_X12_lays ml_X12_67 im_X12_lays se_X12_lays (rfl : vwCl[11]? = _) dX12_scrambles_48 (fun s1 => v_X12_lays_44 s1 _ _ _ q1 hq1) (by decide) rfl (Nat.le_of_ble_eq_true rfl) rfl (by decide) (Nat.le_of_ble_eq_true rfl) rfl rfl rfl rfl ?_
  cases h
  exact x_vret dX12_scrambles_51 ⟨rfl, rfl, rfl⟩
def l_X12_sends_44_62 (n : Nat) (a45 : Nat → Int32) (a49 : Nat → Int32) (l2 : Int32) (l3 : Int32) : Nat → (Int32) → (Nat → Int32) → (Nat → Int32) → Option (((Int32) × (Nat → Int32) × (Nat → Int32)))
  | 0, _, _, _ => none
  | k + 1, l4, o44, a48 => (if l4 < 0 then (some (l4, o44, a48)) else (bif xin ((l2 + 2) + l3) 3200 then (Option.bind (f_X12_scrambles_44 o44 a48 ((((a49 (Int32.toNatClampNeg ((l2 + 2) + l3))) >>> (l4 &&& 31)) &&& 1))) (fun q9 => (l_X12_sends_44_62 n a45 a49 l2 l3 k ((l4 + (-1))) q9.1 q9.2))) else none))
set_option maxRecDepth 100000 in
set_option maxHeartbeats 400000 in
theorem lv_X12_sends_44_62 (s0 : XW) (n : Nat) (a45 : Nat → Int32) (a49 : Nat → Int32) (l2 : Int32) (l3 : Int32) (Q : Nat → Option Value → XW → Prop) : ∀ (k : Nat) (l4 : Int32) (o44 : Nat → Int32) (a48 : Nat → Int32) (o : ((Int32) × (Nat → Int32) × (Nat → Int32))), l_X12_sends_44_62 n a45 a49 l2 l3 k l4 o44 a48 = some o → (V yX12_sends cX12_sends none 2 61 (0, 0) 92 [some (.ref 44), none, some (.int l2), some (.int l3), none] [] (xof s0 [W_44 o.2.1, W_45 a45, W_48 o.2.2, W_49 a49]) Q) → V yX12_sends cX12_sends none 2 61 (0, 0) 62 [some (.ref 44), none, some (.int l2), some (.int l3), some (.int l4)] [] (xof s0 [W_44 o44, W_45 a45, W_48 a48, W_49 a49]) Q := by
  intro k
  induction k with
  | zero =>
    intro _ _ _ _ h
    simp [l_X12_sends_44_62] at h
  | succ k ih =>
    intro l4 o44 a48 o h hk
    rw [l_X12_sends_44_62] at h
    refine x_iload dX12_sends_62 rfl ?_
    refine x_if_lt (tgt := 92) dX12_sends_64 (by decide) (fun c7 => ?_) (fun c7 => ?_)
    · replace h := xif_p c7 h
      refine V.drop1 (i := 4) (ls' := [_, _, _, _, _]) rfl ?_
      show V yX12_sends cX12_sends none 2 61 (0, 0) 92 [some (.ref 44), none, some (.int l2), some (.int l3), none] [] (xof s0 [W_44 o44, W_45 a45, W_48 a48, W_49 a49]) _
      cases h
      exact hk
    · replace h := xif_n c7 h
      refine x_aload_n dX12_sends_67 rfl ?_
      refine x_aload_n dX12_sends_68 rfl ?_
      refine g_X12_26 rfl dX12_sends_69 (by decide) rfl rfl ?_
      refine x_iload_n dX12_sends_72 rfl ?_
      refine x_iconst (v := 2) dX12_sends_73 (by decide) ?_
      refine x_iadd dX12_sends_74 ?_
      refine x_iload_n dX12_sends_75 rfl ?_
      refine x_iadd dX12_sends_76 ?_
      obtain ⟨c8, h⟩ := xck h
      refine x_ialdK (jn := (Int32.toNatClampNeg ((l2 + 2) + l3))) (v := (a49 (Int32.toNatClampNeg ((l2 + 2) + l3)))) dX12_sends_77 (by decide) rfl (xin_ok c8) rfl rfl ?_
      refine x_iload dX12_sends_78 rfl ?_
      refine x_ishr dX12_sends_80 ?_
      refine x_iconst (v := 1) dX12_sends_81 (by decide) ?_
      refine x_iand dX12_sends_82 ?_
      obtain ⟨q9, hq9, h⟩ := Option.bind_eq_some_iff.mp h
      refine y_callVv (L' := [(44, _), (45, _), (48, _), (49, _)]) mi_X12_scrambles ml_X12_112 im_X12_scrambles se_X12_scrambles (rfl : vwCl[11]? = _) dX12_sends_83 (fun s1 => v_X12_scrambles_44 s1 _ _ _ q9 hq9) (by decide) rfl (Nat.le_of_ble_eq_true rfl) rfl (by decide) (Nat.le_of_ble_eq_true rfl) rfl rfl rfl rfl ?_
      refine x_iinc (v := l4 + (-1)) (ls' := [_, _, _, _, _]) dX12_sends_86 rfl rfl rfl rfl ?_
      refine x_goto (tgt := 62) dX12_sends_89 (by decide) ?_
      show V yX12_sends cX12_sends none 2 61 (0, 0) 62 [some (.ref 44), none, some (.int l2), some (.int l3), some (.int ((l4 + (-1))))] [] (xof s0 [W_44 q9.1, W_45 a45, W_48 q9.2, W_49 a49]) _
      exact ih ((l4 + (-1))) q9.1 q9.2 _ h hk
def l_X12_sends_44_48 (n : Nat) (a45 : Nat → Int32) (a49 : Nat → Int32) (l2 : Int32) : Nat → (Int32) → (Nat → Int32) → (Nat → Int32) → Option (((Int32) × (Nat → Int32) × (Nat → Int32)))
  | 0, _, _, _ => none
  | k + 1, l3, o44, a48 => (if (a45 0) ≤ l3 then (some (l3, o44, a48)) else (Option.bind (l_X12_sends_44_62 n a45 a49 l2 l3 n 7 o44 a48) (fun u10 => (l_X12_sends_44_48 n a45 a49 l2 k ((l3 + 1)) u10.2.1 u10.2.2))))
set_option maxRecDepth 100000 in
set_option maxHeartbeats 400000 in
theorem lv_X12_sends_44_48 (s0 : XW) (n : Nat) (a45 : Nat → Int32) (a49 : Nat → Int32) (l2 : Int32) (Q : Nat → Option Value → XW → Prop) : ∀ (k : Nat) (l3 : Int32) (o44 : Nat → Int32) (a48 : Nat → Int32) (o : ((Int32) × (Nat → Int32) × (Nat → Int32))), l_X12_sends_44_48 n a45 a49 l2 k l3 o44 a48 = some o → (V yX12_sends cX12_sends none 2 61 (0, 0) 98 [some (.ref 44), none, none, none, none] [] (xof s0 [W_44 o.2.1, W_45 a45, W_48 o.2.2, W_49 a49]) Q) → V yX12_sends cX12_sends none 2 61 (0, 0) 48 [some (.ref 44), none, some (.int l2), some (.int l3), none] [] (xof s0 [W_44 o44, W_45 a45, W_48 a48, W_49 a49]) Q := by
  intro k
  induction k with
  | zero =>
    intro _ _ _ _ h
    simp [l_X12_sends_44_48] at h
  | succ k ih =>
    intro l3 o44 a48 o h hk
    rw [l_X12_sends_44_48] at h
    refine x_iload_n dX12_sends_48 rfl ?_
    refine x_aload_n dX12_sends_49 rfl ?_
    refine g_X12_13 rfl dX12_sends_50 (by decide) rfl rfl ?_
    refine x_iconst (v := 0) dX12_sends_53 (by decide) ?_
    refine x_ialdK (jn := 0) (v := (a45 0)) dX12_sends_54 (by decide) rfl (xin_ok (by decide)) (by decide) rfl ?_
    refine x_icmp_ge (tgt := 98) dX12_sends_55 (by decide) (fun c6 => ?_) (fun c6 => ?_)
    · replace h := xif_p c6 h
      refine V.drop1 (i := 2) (ls' := [_, _, _, _, _]) rfl ?_
      refine V.drop1 (i := 3) (ls' := [_, _, _, _, _]) rfl ?_
      show V yX12_sends cX12_sends none 2 61 (0, 0) 98 [some (.ref 44), none, none, none, none] [] (xof s0 [W_44 o44, W_45 a45, W_48 a48, W_49 a49]) _
      cases h
      exact hk
    · replace h := xif_n c6 h
      refine x_bipush (v := 7) dX12_sends_58 (by decide) ?_
      refine x_istore (ls' := [_, _, _, _, _]) dX12_sends_60 rfl rfl ?_
      obtain ⟨u10, hu10, h⟩ := Option.bind_eq_some_iff.mp h
      show V yX12_sends cX12_sends none 2 61 (0, 0) 62 [some (.ref 44), none, some (.int l2), some (.int l3), some (.int 7)] [] (xof s0 [W_44 o44, W_45 a45, W_48 a48, W_49 a49]) _
      refine lv_X12_sends_44_62 s0 _ a45 a49 l2 l3 _ n 7 o44 a48 _ hu10 ?_
      refine x_iinc (v := l3 + 1) (ls' := [_, _, _, _, _]) dX12_sends_92 rfl rfl rfl rfl ?_
      refine x_goto (tgt := 48) dX12_sends_95 (by decide) ?_
      show V yX12_sends cX12_sends none 2 61 (0, 0) 48 [some (.ref 44), none, some (.int l2), some (.int ((l3 + 1))), none] [] (xof s0 [W_44 u10.2.1, W_45 a45, W_48 u10.2.2, W_49 a49]) _
      exact ih ((l3 + 1)) u10.2.1 u10.2.2 _ h hk
def f_X12_sends_44 (n : Nat) (o44 : Nat → Int32) (a45 : Nat → Int32) (a48 : Nat → Int32) (a49 : Nat → Int32) (p1 : Int32) : Option (((Nat → Int32) × (Nat → Int32) × (Nat → Int32))) := (bif xin (50 * (o44 7)) 3200 then (bif xin ((50 * (o44 7)) + 1) 3200 then (Option.bind (f_X12_laysBits_44 n o44 a48 32 p1) (fun q3 => (Option.bind (f_X12_checkOf n p1) (fun q4 => (Option.bind (f_X12_laysBits_44 n q3.1 q3.2 8 q4) (fun q5 => (Option.bind (l_X12_sends_44_48 n a45 (upd (upd a49 ((Int32.toNatClampNeg (50 * (o44 7)))) p1) ((Int32.toNatClampNeg ((50 * (o44 7)) + 1))) ((a45 0))) ((50 * (o44 7))) n 0 q5.1 q5.2) (fun u11 => (some (upd u11.2.1 7 (((u11.2.1 7) + 1)), u11.2.2, upd (upd a49 ((Int32.toNatClampNeg (50 * (o44 7)))) p1) ((Int32.toNatClampNeg ((50 * (o44 7)) + 1))) ((a45 0)))))))))))) else none) else none)
set_option maxRecDepth 100000 in
set_option maxHeartbeats 400000 in
theorem v_X12_sends_44 (s0 : XW) (n : Nat) (o44 : Nat → Int32) (a45 : Nat → Int32) (a48 : Nat → Int32) (a49 : Nat → Int32) (p1 : Int32) (q : ((Nat → Int32) × (Nat → Int32) × (Nat → Int32))) (h : f_X12_sends_44 n o44 a45 a48 a49 p1 = some q) : C_X12_sends 2 61 [.ref 44, .int p1] (xof s0 [W_44 o44, W_45 a45, W_48 a48, W_49 a49]) none (xof s0 [W_44 q.1, W_45 a45, W_48 q.2.1, W_49 q.2.2]) := by
  unfold f_X12_sends_44 at h
  show V yX12_sends cX12_sends none 2 61 (0, 0) 0 [some (.ref 44), some (.int p1), none, none, none] [] (xof s0 [W_44 o44, W_45 a45, W_48 a48, W_49 a49]) _
  refine x_bipush (v := 50) dX12_sends_0 (by decide) ?_
  refine x_aload_n dX12_sends_2 rfl ?_
  refine g_X12_109 rfl dX12_sends_3 (by decide) rfl rfl ?_
  refine x_imul dX12_sends_6 ?_
  refine x_istore_n (ls' := [_, _, _, _, _]) dX12_sends_7 rfl rfl ?_
  refine x_aload_n dX12_sends_8 rfl ?_
  refine g_X12_26 rfl dX12_sends_9 (by decide) rfl rfl ?_
  refine x_iload_n dX12_sends_12 rfl ?_
  refine x_iload_n dX12_sends_13 rfl ?_
  obtain ⟨c1, h⟩ := xck h
  refine x_iastK (jn := (Int32.toNatClampNeg (50 * (o44 7)))) (L' := [(44, _), (45, _), (48, _), (49, _)]) dX12_sends_14 (by decide) rfl (xin_ok c1) rfl rfl ?_
  refine x_aload_n dX12_sends_15 rfl ?_
  refine g_X12_26 rfl dX12_sends_16 (by decide) rfl rfl ?_
  refine x_iload_n dX12_sends_19 rfl ?_
  refine x_iconst (v := 1) dX12_sends_20 (by decide) ?_
  refine x_iadd dX12_sends_21 ?_
  refine x_aload_n dX12_sends_22 rfl ?_
  refine g_X12_13 rfl dX12_sends_23 (by decide) rfl rfl ?_
  refine x_iconst (v := 0) dX12_sends_26 (by decide) ?_
  refine x_ialdK (jn := 0) (v := (a45 0)) dX12_sends_27 (by decide) rfl (xin_ok (by decide)) (by decide) rfl ?_
  obtain ⟨c2, h⟩ := xck h
  refine x_iastK (jn := (Int32.toNatClampNeg ((50 * (o44 7)) + 1))) (L' := [(44, _), (45, _), (48, _), (49, _)]) dX12_sends_28 (by decide) rfl (xin_ok c2) rfl rfl ?_
  refine x_aload_n dX12_sends_29 rfl ?_
  refine x_bipush (v := 32) dX12_sends_30 (by decide) ?_
  refine x_iload_n dX12_sends_32 rfl ?_
  obtain ⟨q3, hq3, h⟩ := Option.bind_eq_some_iff.mp h
  refine y_callVv (L' := [(44, _), (45, _), (48, _), (49, _)]) mi_X12_laysBits ml_X12_71 im_X12_laysBits se_X12_laysBits (rfl : vwCl[11]? = _) dX12_sends_33 (fun s1 => v_X12_laysBits_44 s1 n _ _ _ _ q3 hq3) (by decide) rfl (Nat.le_of_ble_eq_true rfl) rfl (by decide) (Nat.le_of_ble_eq_true rfl) rfl rfl rfl rfl ?_
  refine x_aload_n dX12_sends_36 rfl ?_
  refine x_bipush (v := 8) dX12_sends_37 (by decide) ?_
  refine x_iload_n dX12_sends_39 rfl ?_
  obtain ⟨q4, hq4, h⟩ := Option.bind_eq_some_iff.mp h
  refine y_callSi (L' := [(44, _), (45, _), (48, _), (49, _)]) mi_X12_checkOf ml_X12_88 st_X12_checkOf dX12_sends_40 (fun s1 => v_X12_checkOf 61 s1 n _ q4 hq4) (Nat.le_of_ble_eq_true rfl) rfl (by decide) (Nat.le_of_ble_eq_true rfl) rfl rfl rfl rfl ?_
  obtain ⟨q5, hq5, h⟩ := Option.bind_eq_some_iff.mp h
  refine y_callVv (L' := [(44, _), (45, _), (48, _), (49, _)]) mi_X12_laysBits ml_X12_71 im_X12_laysBits se_X12_laysBits (rfl : vwCl[11]? = _) dX12_sends_43 (fun s1 => v_X12_laysBits_44 s1 n _ _ _ _ q5 hq5) (by decide) rfl (Nat.le_of_ble_eq_true rfl) rfl (by decide) (Nat.le_of_ble_eq_true rfl) rfl rfl rfl rfl ?_
  refine x_iconst (v := 0) dX12_sends_46 (by decide) ?_
  refine x_istore_n (ls' := [_, _, _, _, _]) dX12_sends_47 rfl rfl ?_
  refine V.drop1 (i := 1) (ls' := [_, _, _, _, _]) rfl ?_
  obtain ⟨u11, hu11, h⟩ := Option.bind_eq_some_iff.mp h
  show V yX12_sends cX12_sends none 2 61 (0, 0) 48 [some (.ref 44), none, some (.int ((50 * (o44 7)))), some (.int 0), none] [] (xof s0 [W_44 q5.1, W_45 a45, W_48 q5.2, W_49 (upd (upd a49 ((Int32.toNatClampNeg (50 * (o44 7)))) p1) ((Int32.toNatClampNeg ((50 * (o44 7)) + 1))) ((a45 0)))]) _
  refine lv_X12_sends_44_48 s0 _ a45 (upd (upd a49 ((Int32.toNatClampNeg (50 * (o44 7)))) p1) ((Int32.toNatClampNeg ((50 * (o44 7)) + 1))) ((a45 0))) ((50 * (o44 7))) _ n 0 q5.1 q5.2 _ hu11 ?_
  refine x_aload_n dX12_sends_98 rfl ?_
  refine x_dup dX12_sends_99 rfl ?_
  refine g_X12_109 rfl dX12_sends_100 (by decide) rfl rfl ?_
  refine x_iconst (v := 1) dX12_sends_103 (by decide) ?_
  refine x_iadd dX12_sends_104 ?_
  refine p_X12_109 (fs' := [_, _, _, _, _, _, _, _, _, _, _, _, _, _, _, _, _, _, _, _, _, _]) (L' := [(44, _), (45, _), (48, _), (49, _)]) rfl dX12_sends_105 (by decide) rfl (Nat.le_of_ble_eq_true rfl) rfl rfl ?_
  cases h
  exact x_vret dX12_sends_108 ⟨rfl, rfl, rfl⟩
def l_X12_send_44_36 (n : Nat) (o44 : Nat → Int32) (a45 : Nat → Int32) (a48 : Nat → Int32) (l1 : Int32) : Nat → (Int32) → (Int32) → (Nat → Int32) → Option (((Int32) × (Int32) × (Nat → Int32)))
  | 0, _, _, _ => none
  | k + 1, l3, l4, a49 => (if (a45 0) ≤ l4 then (some (l3, l4, a49)) else (bif xin (((50 * (o44 7)) + 2) + l4) 3200 then (l_X12_send_44_36 n o44 a45 a48 l1 k ((((l3 * 1103) + 12345) - ((l3 * 1103) + 12345) / 1000003 * 1000003)) ((l4 + 1)) (upd a49 ((Int32.toNatClampNeg (((50 * (o44 7)) + 2) + l4))) (((((l3 * 1103) + 12345) - ((l3 * 1103) + 12345) / 1000003 * 1000003) - (((l3 * 1103) + 12345) - ((l3 * 1103) + 12345) / 1000003 * 1000003) / 256 * 256)))) else none))
set_option maxRecDepth 100000 in
set_option maxHeartbeats 400000 in
theorem lv_X12_send_44_36 (s0 : XW) (n : Nat) (o44 : Nat → Int32) (a45 : Nat → Int32) (a48 : Nat → Int32) (l1 : Int32) (Q : Nat → Option Value → XW → Prop) : ∀ (k : Nat) (l3 : Int32) (l4 : Int32) (a49 : Nat → Int32) (o : ((Int32) × (Int32) × (Nat → Int32))), l_X12_send_44_36 n o44 a45 a48 l1 k l3 l4 a49 = some o → (V yX12_send cX12_send (some .int) 3 61 (0, 0) 88 [some (.ref 44), some (.int l1), none, none, none] [] (xof s0 [W_44 o44, W_45 a45, W_48 a48, W_49 o.2.2]) Q) → V yX12_send cX12_send (some .int) 3 61 (0, 0) 36 [some (.ref 44), some (.int l1), none, some (.int l3), some (.int l4)] [] (xof s0 [W_44 o44, W_45 a45, W_48 a48, W_49 a49]) Q := by
  intro k
  induction k with
  | zero =>
    intro _ _ _ _ h
    simp [l_X12_send_44_36] at h
  | succ k ih =>
    intro l3 l4 a49 o h hk
    rw [l_X12_send_44_36] at h
    refine x_iload dX12_send_36 rfl ?_
    refine x_aload_n dX12_send_38 rfl ?_
    refine g_X12_13 rfl dX12_send_39 (by decide) rfl rfl ?_
    refine x_iconst (v := 0) dX12_send_42 (by decide) ?_
    refine x_ialdK (jn := 0) (v := (a45 0)) dX12_send_43 (by decide) rfl (xin_ok (by decide)) (by decide) rfl ?_
    refine x_icmp_ge (tgt := 88) dX12_send_44 (by decide) (fun c5 => ?_) (fun c5 => ?_)
    · replace h := xif_p c5 h
      refine V.drop1 (i := 3) (ls' := [_, _, _, _, _]) rfl ?_
      refine V.drop1 (i := 4) (ls' := [_, _, _, _, _]) rfl ?_
      show V yX12_send cX12_send (some .int) 3 61 (0, 0) 88 [some (.ref 44), some (.int l1), none, none, none] [] (xof s0 [W_44 o44, W_45 a45, W_48 a48, W_49 a49]) _
      cases h
      exact hk
    · replace h := xif_n c5 h
      refine x_iload_n dX12_send_47 rfl ?_
      refine x_sipush (v := 1103) dX12_send_48 (by decide) ?_
      refine x_imul dX12_send_51 ?_
      refine x_sipush (v := 12345) dX12_send_52 (by decide) ?_
      refine x_iadd dX12_send_55 ?_
      refine x_ldc dX12_send_56 cn_X12_125 ?_
      refine x_irem dX12_send_58 (by decide) ?_
      refine x_istore_n (ls' := [_, _, _, _, _]) dX12_send_59 rfl rfl ?_
      refine x_aload_n dX12_send_60 rfl ?_
      refine g_X12_26 rfl dX12_send_61 (by decide) rfl rfl ?_
      refine x_bipush (v := 50) dX12_send_64 (by decide) ?_
      refine x_aload_n dX12_send_66 rfl ?_
      refine g_X12_109 rfl dX12_send_67 (by decide) rfl rfl ?_
      refine x_imul dX12_send_70 ?_
      refine x_iconst (v := 2) dX12_send_71 (by decide) ?_
      refine x_iadd dX12_send_72 ?_
      refine x_iload dX12_send_73 rfl ?_
      refine x_iadd dX12_send_75 ?_
      refine x_iload_n dX12_send_76 rfl ?_
      refine x_sipush (v := 256) dX12_send_77 (by decide) ?_
      refine x_irem dX12_send_80 (by decide) ?_
      obtain ⟨c6, h⟩ := xck h
      refine x_iastK (jn := (Int32.toNatClampNeg (((50 * (o44 7)) + 2) + l4))) (L' := [(44, _), (45, _), (48, _), (49, _)]) dX12_send_81 (by decide) rfl (xin_ok c6) rfl rfl ?_
      refine x_iinc (v := l4 + 1) (ls' := [_, _, _, _, _]) dX12_send_82 rfl rfl rfl rfl ?_
      refine x_goto (tgt := 36) dX12_send_85 (by decide) ?_
      show V yX12_send cX12_send (some .int) 3 61 (0, 0) 36 [some (.ref 44), some (.int l1), none, some (.int ((((l3 * 1103) + 12345) - ((l3 * 1103) + 12345) / 1000003 * 1000003))), some (.int ((l4 + 1)))] [] (xof s0 [W_44 o44, W_45 a45, W_48 a48, W_49 (upd a49 ((Int32.toNatClampNeg (((50 * (o44 7)) + 2) + l4))) (((((l3 * 1103) + 12345) - ((l3 * 1103) + 12345) / 1000003 * 1000003) - (((l3 * 1103) + 12345) - ((l3 * 1103) + 12345) / 1000003 * 1000003) / 256 * 256)))]) _
      exact ih ((((l3 * 1103) + 12345) - ((l3 * 1103) + 12345) / 1000003 * 1000003)) ((l4 + 1)) (upd a49 ((Int32.toNatClampNeg (((50 * (o44 7)) + 2) + l4))) (((((l3 * 1103) + 12345) - ((l3 * 1103) + 12345) / 1000003 * 1000003) - (((l3 * 1103) + 12345) - ((l3 * 1103) + 12345) / 1000003 * 1000003) / 256 * 256))) _ h hk
def f_X12_send_44 (n : Nat) (o44 : Nat → Int32) (a45 : Nat → Int32) (a48 : Nat → Int32) (a49 : Nat → Int32) (p1 : Int32) (p2 : Int32) : Option (((Int32) × (Nat → Int32) × (Nat → Int32) × (Nat → Int32))) := (Option.bind (f_X12_isIn ((Int32.toInt64 p2)) 0 1000003) (fun q1 => (if q1 = 0 then (some ((-3), upd o44 0 0, a48, a49)) else (Option.bind (f_X12_hasRoom_44 (upd o44 0 0) a45 1) (fun q3 => (if q3 = 0 then (some ((-4), upd o44 0 0, a48, a49)) else (Option.bind (l_X12_send_44_36 n (upd o44 0 0) a45 a48 p1 n p2 0 a49) (fun u7 => (Option.bind (f_X12_sends_44 n (upd o44 0 0) a45 a48 u7.2.2 p1) (fun q8 => (some (((q8.1 7) - 1), q8.1, q8.2.1, q8.2.2))))))))))))
set_option maxRecDepth 100000 in
set_option maxHeartbeats 400000 in
theorem v_X12_send_44 (s0 : XW) (n : Nat) (o44 : Nat → Int32) (a45 : Nat → Int32) (a48 : Nat → Int32) (a49 : Nat → Int32) (p1 : Int32) (p2 : Int32) (q : ((Int32) × (Nat → Int32) × (Nat → Int32) × (Nat → Int32))) (h : f_X12_send_44 n o44 a45 a48 a49 p1 p2 = some q) : C_X12_send 3 61 [.ref 44, .int p1, .int p2] (xof s0 [W_44 o44, W_45 a45, W_48 a48, W_49 a49]) (some (.int q.1)) (xof s0 [W_44 q.2.1, W_45 a45, W_48 q.2.2.1, W_49 q.2.2.2]) := by
  unfold f_X12_send_44 at h
  show V yX12_send cX12_send (some .int) 3 61 (0, 0) 0 [some (.ref 44), some (.int p1), some (.int p2), none, none] [] (xof s0 [W_44 o44, W_45 a45, W_48 a48, W_49 a49]) _
  refine x_aload_n dX12_send_0 rfl ?_
  refine x_iconst (v := 0) dX12_send_1 (by decide) ?_
  refine p_X12_1 (fs' := [_, _, _, _, _, _, _, _, _, _, _, _, _, _, _, _, _, _, _, _, _, _]) (L' := [(44, _), (45, _), (48, _), (49, _)]) rfl dX12_send_2 (by decide) rfl (Nat.le_of_ble_eq_true rfl) rfl rfl ?_
  refine x_iload_n dX12_send_5 rfl ?_
  refine x_i2l dX12_send_6 ?_
  refine x_lconst (v := 0) dX12_send_7 (by decide) ?_
  refine x_ldc2 dX12_send_8 cn_X12_119 ?_
  obtain ⟨q1, hq1, h⟩ := Option.bind_eq_some_iff.mp h
  refine y_callSi (L' := [(44, _), (45, _), (48, _), (49, _)]) mi_X12_isIn ml_X12_77 st_X12_isIn dX12_send_11 (fun s1 => v_X12_isIn 61 s1 _ _ _ q1 hq1) (Nat.le_of_ble_eq_true rfl) rfl (by decide) (Nat.le_of_ble_eq_true rfl) rfl rfl rfl rfl ?_
  refine x_if_ne (tgt := 20) dX12_send_14 (by decide) (fun c2 => ?_) (fun c2 => ?_)
  · replace h := xif_n c2 h
    refine x_aload_n dX12_send_20 rfl ?_
    refine x_iconst (v := 1) dX12_send_21 (by decide) ?_
    obtain ⟨q3, hq3, h⟩ := Option.bind_eq_some_iff.mp h
    refine y_callVi (L' := [(44, _), (45, _), (48, _), (49, _)]) mi_X12_hasRoom ml_X12_121 im_X12_hasRoom se_X12_hasRoom (rfl : vwCl[11]? = _) dX12_send_22 (fun s1 => v_X12_hasRoom_44 s1 _ _ _ q3 hq3) (by decide) rfl (Nat.le_of_ble_eq_true rfl) rfl (by decide) (Nat.le_of_ble_eq_true rfl) rfl rfl rfl rfl ?_
    refine x_if_ne (tgt := 31) dX12_send_25 (by decide) (fun c4 => ?_) (fun c4 => ?_)
    · replace h := xif_n c4 h
      refine x_iload_n dX12_send_31 rfl ?_
      refine x_istore_n (ls' := [_, _, _, _, _]) dX12_send_32 rfl rfl ?_
      refine x_iconst (v := 0) dX12_send_33 (by decide) ?_
      refine x_istore (ls' := [_, _, _, _, _]) dX12_send_34 rfl rfl ?_
      refine V.drop1 (i := 2) (ls' := [_, _, _, _, _]) rfl ?_
      obtain ⟨u7, hu7, h⟩ := Option.bind_eq_some_iff.mp h
      show V yX12_send cX12_send (some .int) 3 61 (0, 0) 36 [some (.ref 44), some (.int p1), none, some (.int p2), some (.int 0)] [] (xof s0 [W_44 (upd o44 0 0), W_45 a45, W_48 a48, W_49 a49]) _
      refine lv_X12_send_44_36 s0 _ (upd o44 0 0) a45 a48 p1 _ n p2 0 a49 _ hu7 ?_
      refine x_aload_n dX12_send_88 rfl ?_
      refine x_iload_n dX12_send_89 rfl ?_
      obtain ⟨q8, hq8, h⟩ := Option.bind_eq_some_iff.mp h
      refine y_callVv (L' := [(44, _), (45, _), (48, _), (49, _)]) mi_X12_sends ml_X12_126 im_X12_sends se_X12_sends (rfl : vwCl[11]? = _) dX12_send_90 (fun s1 => v_X12_sends_44 s1 n _ _ _ _ _ q8 hq8) (by decide) rfl (Nat.le_of_ble_eq_true rfl) rfl (by decide) (Nat.le_of_ble_eq_true rfl) rfl rfl rfl rfl ?_
      refine x_aload_n dX12_send_93 rfl ?_
      refine g_X12_109 rfl dX12_send_94 (by decide) rfl rfl ?_
      refine x_iconst (v := 1) dX12_send_97 (by decide) ?_
      refine x_isub dX12_send_98 ?_
      cases h
      exact x_iret dX12_send_99 ⟨rfl, rfl, rfl⟩
    · replace h := xif_p c4 h
      refine x_bipush (v := -4) dX12_send_28 (by decide) ?_
      cases h
      exact x_iret dX12_send_30 ⟨rfl, rfl, rfl⟩
  · replace h := xif_p c2 h
    refine x_bipush (v := -3) dX12_send_17 (by decide) ?_
    cases h
    exact x_iret dX12_send_19 ⟨rfl, rfl, rfl⟩
def l_X12_rest_44_40 (n : Nat) (o44 : Nat → Int32) (a45 : Nat → Int32) (a48 : Nat → Int32) (l1 : Int32) (l2 : Int32) : Nat → (Int32) → (Nat → Int32) → Option (((Int32) × (Nat → Int32)))
  | 0, _, _ => none
  | k + 1, l3, a49 => (if (a45 0) ≤ l3 then (some (l3, a49)) else (bif xin (((50 * (o44 7)) + 2) + l3) 3200 then (l_X12_rest_44_40 n o44 a45 a48 l1 l2 k ((l3 + 1)) (upd a49 ((Int32.toNatClampNeg (((50 * (o44 7)) + 2) + l3))) 106)) else none))
set_option maxRecDepth 100000 in
set_option maxHeartbeats 400000 in
theorem lv_X12_rest_44_40 (s0 : XW) (n : Nat) (o44 : Nat → Int32) (a45 : Nat → Int32) (a48 : Nat → Int32) (l1 : Int32) (l2 : Int32) (Q : Nat → Option Value → XW → Prop) : ∀ (k : Nat) (l3 : Int32) (a49 : Nat → Int32) (o : ((Int32) × (Nat → Int32))), l_X12_rest_44_40 n o44 a45 a48 l1 l2 k l3 a49 = some o → (V yX12_rest cX12_rest (some .int) 3 61 (0, 0) 74 [some (.ref 44), some (.int l1), some (.int l2), none] [] (xof s0 [W_44 o44, W_45 a45, W_48 a48, W_49 o.2]) Q) → V yX12_rest cX12_rest (some .int) 3 61 (0, 0) 40 [some (.ref 44), some (.int l1), some (.int l2), some (.int l3)] [] (xof s0 [W_44 o44, W_45 a45, W_48 a48, W_49 a49]) Q := by
  intro k
  induction k with
  | zero =>
    intro _ _ _ h
    simp [l_X12_rest_44_40] at h
  | succ k ih =>
    intro l3 a49 o h hk
    rw [l_X12_rest_44_40] at h
    refine x_iload_n dX12_rest_40 rfl ?_
    refine x_aload_n dX12_rest_41 rfl ?_
    refine g_X12_13 rfl dX12_rest_42 (by decide) rfl rfl ?_
    refine x_iconst (v := 0) dX12_rest_45 (by decide) ?_
    refine x_ialdK (jn := 0) (v := (a45 0)) dX12_rest_46 (by decide) rfl (xin_ok (by decide)) (by decide) rfl ?_
    refine x_icmp_ge (tgt := 74) dX12_rest_47 (by decide) (fun c6 => ?_) (fun c6 => ?_)
    · replace h := xif_p c6 h
      refine V.drop1 (i := 3) (ls' := [_, _, _, _]) rfl ?_
      show V yX12_rest cX12_rest (some .int) 3 61 (0, 0) 74 [some (.ref 44), some (.int l1), some (.int l2), none] [] (xof s0 [W_44 o44, W_45 a45, W_48 a48, W_49 a49]) _
      cases h
      exact hk
    · replace h := xif_n c6 h
      refine x_aload_n dX12_rest_50 rfl ?_
      refine g_X12_26 rfl dX12_rest_51 (by decide) rfl rfl ?_
      refine x_bipush (v := 50) dX12_rest_54 (by decide) ?_
      refine x_aload_n dX12_rest_56 rfl ?_
      refine g_X12_109 rfl dX12_rest_57 (by decide) rfl rfl ?_
      refine x_imul dX12_rest_60 ?_
      refine x_iconst (v := 2) dX12_rest_61 (by decide) ?_
      refine x_iadd dX12_rest_62 ?_
      refine x_iload_n dX12_rest_63 rfl ?_
      refine x_iadd dX12_rest_64 ?_
      refine x_bipush (v := 106) dX12_rest_65 (by decide) ?_
      obtain ⟨c7, h⟩ := xck h
      refine x_iastK (jn := (Int32.toNatClampNeg (((50 * (o44 7)) + 2) + l3))) (L' := [(44, _), (45, _), (48, _), (49, _)]) dX12_rest_67 (by decide) rfl (xin_ok c7) rfl rfl ?_
      refine x_iinc (v := l3 + 1) (ls' := [_, _, _, _]) dX12_rest_68 rfl rfl rfl rfl ?_
      refine x_goto (tgt := 40) dX12_rest_71 (by decide) ?_
      show V yX12_rest cX12_rest (some .int) 3 61 (0, 0) 40 [some (.ref 44), some (.int l1), some (.int l2), some (.int ((l3 + 1)))] [] (xof s0 [W_44 o44, W_45 a45, W_48 a48, W_49 (upd a49 ((Int32.toNatClampNeg (((50 * (o44 7)) + 2) + l3))) 106)]) _
      exact ih ((l3 + 1)) (upd a49 ((Int32.toNatClampNeg (((50 * (o44 7)) + 2) + l3))) 106) _ h hk
def l_X12_rest_44_33 (n : Nat) (a45 : Nat → Int32) (l1 : Int32) : Nat → (Int32) → (Nat → Int32) → (Nat → Int32) → (Nat → Int32) → Option (((Int32) × (Nat → Int32) × (Nat → Int32) × (Nat → Int32)))
  | 0, _, _, _, _ => none
  | k + 1, l2, o44, a48, a49 => (if l1 ≤ l2 then (some (l2, o44, a48, a49)) else (Option.bind (l_X12_rest_44_40 n o44 a45 a48 l1 l2 n 0 a49) (fun u8 => (Option.bind (f_X12_sends_44 n o44 a45 a48 u8.2 1) (fun q9 => (l_X12_rest_44_33 n a45 l1 k ((l2 + 1)) q9.1 q9.2.1 q9.2.2))))))
set_option maxRecDepth 100000 in
set_option maxHeartbeats 400000 in
theorem lv_X12_rest_44_33 (s0 : XW) (n : Nat) (a45 : Nat → Int32) (l1 : Int32) (Q : Nat → Option Value → XW → Prop) : ∀ (k : Nat) (l2 : Int32) (o44 : Nat → Int32) (a48 : Nat → Int32) (a49 : Nat → Int32) (o : ((Int32) × (Nat → Int32) × (Nat → Int32) × (Nat → Int32))), l_X12_rest_44_33 n a45 l1 k l2 o44 a48 a49 = some o → (V yX12_rest cX12_rest (some .int) 3 61 (0, 0) 85 [some (.ref 44), none, none, none] [] (xof s0 [W_44 o.2.1, W_45 a45, W_48 o.2.2.1, W_49 o.2.2.2]) Q) → V yX12_rest cX12_rest (some .int) 3 61 (0, 0) 33 [some (.ref 44), some (.int l1), some (.int l2), none] [] (xof s0 [W_44 o44, W_45 a45, W_48 a48, W_49 a49]) Q := by
  intro k
  induction k with
  | zero =>
    intro _ _ _ _ _ h
    simp [l_X12_rest_44_33] at h
  | succ k ih =>
    intro l2 o44 a48 a49 o h hk
    rw [l_X12_rest_44_33] at h
    refine x_iload_n dX12_rest_33 rfl ?_
    refine x_iload_n dX12_rest_34 rfl ?_
    refine x_icmp_ge (tgt := 85) dX12_rest_35 (by decide) (fun c5 => ?_) (fun c5 => ?_)
    · replace h := xif_p c5 h
      refine V.drop1 (i := 1) (ls' := [_, _, _, _]) rfl ?_
      refine V.drop1 (i := 2) (ls' := [_, _, _, _]) rfl ?_
      show V yX12_rest cX12_rest (some .int) 3 61 (0, 0) 85 [some (.ref 44), none, none, none] [] (xof s0 [W_44 o44, W_45 a45, W_48 a48, W_49 a49]) _
      cases h
      exact hk
    · replace h := xif_n c5 h
      refine x_iconst (v := 0) dX12_rest_38 (by decide) ?_
      refine x_istore_n (ls' := [_, _, _, _]) dX12_rest_39 rfl rfl ?_
      obtain ⟨u8, hu8, h⟩ := Option.bind_eq_some_iff.mp h
      show V yX12_rest cX12_rest (some .int) 3 61 (0, 0) 40 [some (.ref 44), some (.int l1), some (.int l2), some (.int 0)] [] (xof s0 [W_44 o44, W_45 a45, W_48 a48, W_49 a49]) _
      refine lv_X12_rest_44_40 s0 _ o44 a45 a48 l1 l2 _ n 0 a49 _ hu8 ?_
      refine x_aload_n dX12_rest_74 rfl ?_
      refine x_iconst (v := 1) dX12_rest_75 (by decide) ?_
      obtain ⟨q9, hq9, h⟩ := Option.bind_eq_some_iff.mp h
      refine y_callVv (L' := [(44, _), (45, _), (48, _), (49, _)]) mi_X12_sends ml_X12_126 im_X12_sends se_X12_sends (rfl : vwCl[11]? = _) dX12_rest_76 (fun s1 => v_X12_sends_44 s1 n _ _ _ _ _ q9 hq9) (by decide) rfl (Nat.le_of_ble_eq_true rfl) rfl (by decide) (Nat.le_of_ble_eq_true rfl) rfl rfl rfl rfl ?_
      refine x_iinc (v := l2 + 1) (ls' := [_, _, _, _]) dX12_rest_79 rfl rfl rfl rfl ?_
      refine x_goto (tgt := 33) dX12_rest_82 (by decide) ?_
      show V yX12_rest cX12_rest (some .int) 3 61 (0, 0) 33 [some (.ref 44), some (.int l1), some (.int ((l2 + 1))), none] [] (xof s0 [W_44 q9.1, W_45 a45, W_48 q9.2.1, W_49 q9.2.2]) _
      exact ih ((l2 + 1)) q9.1 q9.2.1 q9.2.2 _ h hk
def f_X12_rest_44 (n : Nat) (o44 : Nat → Int32) (a45 : Nat → Int32) (a48 : Nat → Int32) (a49 : Nat → Int32) (p1 : Int32) : Option (((Int32) × (Nat → Int32) × (Nat → Int32) × (Nat → Int32))) := (Option.bind (f_X12_isIn ((Int32.toInt64 p1)) 1 20) (fun q1 => (if q1 = 0 then (some ((-3), upd o44 0 0, a48, a49)) else (Option.bind (f_X12_hasRoom_44 (upd o44 0 0) a45 p1) (fun q3 => (if q3 = 0 then (some ((-4), upd o44 0 0, a48, a49)) else (Option.bind (l_X12_rest_44_33 n a45 p1 n 0 (upd o44 0 0) a48 a49) (fun u10 => (some ((u10.2.1 7), u10.2.1, u10.2.2.1, u10.2.2.2))))))))))
set_option maxRecDepth 100000 in
set_option maxHeartbeats 400000 in
theorem v_X12_rest_44 (s0 : XW) (n : Nat) (o44 : Nat → Int32) (a45 : Nat → Int32) (a48 : Nat → Int32) (a49 : Nat → Int32) (p1 : Int32) (q : ((Int32) × (Nat → Int32) × (Nat → Int32) × (Nat → Int32))) (h : f_X12_rest_44 n o44 a45 a48 a49 p1 = some q) : C_X12_rest 3 61 [.ref 44, .int p1] (xof s0 [W_44 o44, W_45 a45, W_48 a48, W_49 a49]) (some (.int q.1)) (xof s0 [W_44 q.2.1, W_45 a45, W_48 q.2.2.1, W_49 q.2.2.2]) := by
  unfold f_X12_rest_44 at h
  show V yX12_rest cX12_rest (some .int) 3 61 (0, 0) 0 [some (.ref 44), some (.int p1), none, none] [] (xof s0 [W_44 o44, W_45 a45, W_48 a48, W_49 a49]) _
  refine x_aload_n dX12_rest_0 rfl ?_
  refine x_iconst (v := 0) dX12_rest_1 (by decide) ?_
  refine p_X12_1 (fs' := [_, _, _, _, _, _, _, _, _, _, _, _, _, _, _, _, _, _, _, _, _, _]) (L' := [(44, _), (45, _), (48, _), (49, _)]) rfl dX12_rest_2 (by decide) rfl (Nat.le_of_ble_eq_true rfl) rfl rfl ?_
  refine x_iload_n dX12_rest_5 rfl ?_
  refine x_i2l dX12_rest_6 ?_
  refine x_lconst (v := 1) dX12_rest_7 (by decide) ?_
  refine x_ldc2 dX12_rest_8 cn_X12_129 ?_
  obtain ⟨q1, hq1, h⟩ := Option.bind_eq_some_iff.mp h
  refine y_callSi (L' := [(44, _), (45, _), (48, _), (49, _)]) mi_X12_isIn ml_X12_77 st_X12_isIn dX12_rest_11 (fun s1 => v_X12_isIn 61 s1 _ _ _ q1 hq1) (Nat.le_of_ble_eq_true rfl) rfl (by decide) (Nat.le_of_ble_eq_true rfl) rfl rfl rfl rfl ?_
  refine x_if_ne (tgt := 20) dX12_rest_14 (by decide) (fun c2 => ?_) (fun c2 => ?_)
  · replace h := xif_n c2 h
    refine x_aload_n dX12_rest_20 rfl ?_
    refine x_iload_n dX12_rest_21 rfl ?_
    obtain ⟨q3, hq3, h⟩ := Option.bind_eq_some_iff.mp h
    refine y_callVi (L' := [(44, _), (45, _), (48, _), (49, _)]) mi_X12_hasRoom ml_X12_121 im_X12_hasRoom se_X12_hasRoom (rfl : vwCl[11]? = _) dX12_rest_22 (fun s1 => v_X12_hasRoom_44 s1 _ _ _ q3 hq3) (by decide) rfl (Nat.le_of_ble_eq_true rfl) rfl (by decide) (Nat.le_of_ble_eq_true rfl) rfl rfl rfl rfl ?_
    refine x_if_ne (tgt := 31) dX12_rest_25 (by decide) (fun c4 => ?_) (fun c4 => ?_)
    · replace h := xif_n c4 h
      refine x_iconst (v := 0) dX12_rest_31 (by decide) ?_
      refine x_istore_n (ls' := [_, _, _, _]) dX12_rest_32 rfl rfl ?_
      obtain ⟨u10, hu10, h⟩ := Option.bind_eq_some_iff.mp h
      show V yX12_rest cX12_rest (some .int) 3 61 (0, 0) 33 [some (.ref 44), some (.int p1), some (.int 0), none] [] (xof s0 [W_44 (upd o44 0 0), W_45 a45, W_48 a48, W_49 a49]) _
      refine lv_X12_rest_44_33 s0 _ a45 p1 _ n 0 (upd o44 0 0) a48 a49 _ hu10 ?_
      refine x_aload_n dX12_rest_85 rfl ?_
      refine g_X12_109 rfl dX12_rest_86 (by decide) rfl rfl ?_
      cases h
      exact x_iret dX12_rest_89 ⟨rfl, rfl, rfl⟩
    · replace h := xif_p c4 h
      refine x_bipush (v := -4) dX12_rest_28 (by decide) ?_
      cases h
      exact x_iret dX12_rest_30 ⟨rfl, rfl, rfl⟩
  · replace h := xif_p c2 h
    refine x_bipush (v := -3) dX12_rest_17 (by decide) ?_
    cases h
    exact x_iret dX12_rest_19 ⟨rfl, rfl, rfl⟩
def f_X12_isBit_44 (o44 : Nat → Int32) (p1 : Int32) : Option Int32 := (Option.bind (f_X12_isIn ((Int32.toInt64 p1)) 0 ((Int32.toInt64 ((o44 6) - 1)))) (fun q1 => (bif xb q1 then (some q1) else none)))
set_option maxRecDepth 100000 in
set_option maxHeartbeats 400000 in
theorem v_X12_isBit_44 (s0 : XW) (o44 : Nat → Int32) (p1 : Int32) (q : Int32) (h : f_X12_isBit_44 o44 p1 = some q) : C_X12_isBit 1 61 [.ref 44, .int p1] (xof s0 [W_44 o44]) (some (.int q)) (xof s0 [W_44 o44]) := by
  unfold f_X12_isBit_44 at h
  show V yX12_isBit cX12_isBit (some .boolean) 1 61 (0, 0) 0 [some (.ref 44), some (.int p1)] [] (xof s0 [W_44 o44]) _
  refine x_iload_n dX12_isBit_0 rfl ?_
  refine x_i2l dX12_isBit_1 ?_
  refine x_lconst (v := 0) dX12_isBit_2 (by decide) ?_
  refine x_aload_n dX12_isBit_3 rfl ?_
  refine g_X12_64 rfl dX12_isBit_4 (by decide) rfl rfl ?_
  refine x_iconst (v := 1) dX12_isBit_7 (by decide) ?_
  refine x_isub dX12_isBit_8 ?_
  refine x_i2l dX12_isBit_9 ?_
  obtain ⟨q1, hq1, h⟩ := Option.bind_eq_some_iff.mp h
  refine y_callSi (L' := [(44, _)]) mi_X12_isIn ml_X12_77 st_X12_isIn dX12_isBit_10 (fun s1 => v_X12_isIn 61 s1 _ _ _ q1 hq1) (Nat.le_of_ble_eq_true rfl) rfl (by decide) (Nat.le_of_ble_eq_true rfl) rfl rfl rfl rfl ?_
  obtain ⟨c2, h⟩ := xck h
  cases h
  exact x_zret dX12_isBit_13 (xb_ok c2) ⟨rfl, rfl, rfl⟩
def f_X12_flip_44 (o44 : Nat → Int32) (a48 : Nat → Int32) (a51 : Nat → Int32) (p1 : Int32) : Option (((Int32) × (Nat → Int32) × (Nat → Int32))) := (Option.bind (f_X12_isBit_44 (upd o44 0 0) p1) (fun q1 => (if q1 = 0 then (some ((-2), upd o44 0 0, a48)) else (if (a51 0) ≤ p1 then (bif xin p1 9600 then (bif xin p1 9600 then (bif xin p1 9600 then (some (((upd a48 ((Int32.toNatClampNeg p1)) ((1 - (a48 (Int32.toNatClampNeg p1))))) (Int32.toNatClampNeg p1)), upd o44 0 0, upd a48 ((Int32.toNatClampNeg p1)) ((1 - (a48 (Int32.toNatClampNeg p1)))))) else none) else none) else none) else (some ((-5), upd o44 0 0, a48))))))
set_option maxRecDepth 100000 in
set_option maxHeartbeats 400000 in
theorem v_X12_flip_44 (s0 : XW) (o44 : Nat → Int32) (a48 : Nat → Int32) (a51 : Nat → Int32) (p1 : Int32) (q : ((Int32) × (Nat → Int32) × (Nat → Int32))) (h : f_X12_flip_44 o44 a48 a51 p1 = some q) : C_X12_flip 2 61 [.ref 44, .int p1] (xof s0 [W_44 o44, W_48 a48, W_51 a51]) (some (.int q.1)) (xof s0 [W_44 q.2.1, W_48 q.2.2, W_51 a51]) := by
  unfold f_X12_flip_44 at h
  show V yX12_flip cX12_flip (some .int) 2 61 (0, 0) 0 [some (.ref 44), some (.int p1)] [] (xof s0 [W_44 o44, W_48 a48, W_51 a51]) _
  refine x_aload_n dX12_flip_0 rfl ?_
  refine x_iconst (v := 0) dX12_flip_1 (by decide) ?_
  refine p_X12_1 (fs' := [_, _, _, _, _, _, _, _, _, _, _, _, _, _, _, _, _, _, _, _, _, _]) (L' := [(44, _), (48, _), (51, _)]) rfl dX12_flip_2 (by decide) rfl (Nat.le_of_ble_eq_true rfl) rfl rfl ?_
  refine x_aload_n dX12_flip_5 rfl ?_
  refine x_iload_n dX12_flip_6 rfl ?_
  obtain ⟨q1, hq1, h⟩ := Option.bind_eq_some_iff.mp h
  refine y_callVi (L' := [(44, _), (48, _), (51, _)]) mi_X12_isBit ml_X12_131 im_X12_isBit se_X12_isBit (rfl : vwCl[11]? = _) dX12_flip_7 (fun s1 => v_X12_isBit_44 s1 _ _ q1 hq1) (by decide) rfl (Nat.le_of_ble_eq_true rfl) rfl (by decide) (Nat.le_of_ble_eq_true rfl) rfl rfl rfl rfl ?_
  refine x_if_ne (tgt := 16) dX12_flip_10 (by decide) (fun c2 => ?_) (fun c2 => ?_)
  · replace h := xif_n c2 h
    refine x_iload_n dX12_flip_16 rfl ?_
    refine x_aload_n dX12_flip_17 rfl ?_
    refine g_X12_32 rfl dX12_flip_18 (by decide) rfl rfl ?_
    refine x_iconst (v := 0) dX12_flip_21 (by decide) ?_
    refine x_ialdK (jn := 0) (v := (a51 0)) dX12_flip_22 (by decide) rfl (xin_ok (by decide)) (by decide) rfl ?_
    refine x_icmp_ge (tgt := 29) dX12_flip_23 (by decide) (fun c3 => ?_) (fun c3 => ?_)
    · replace h := xif_p c3 h
      refine x_aload_n dX12_flip_29 rfl ?_
      refine g_X12_23 rfl dX12_flip_30 (by decide) rfl rfl ?_
      refine x_iload_n dX12_flip_33 rfl ?_
      refine x_iconst (v := 1) dX12_flip_34 (by decide) ?_
      refine x_aload_n dX12_flip_35 rfl ?_
      refine g_X12_23 rfl dX12_flip_36 (by decide) rfl rfl ?_
      refine x_iload_n dX12_flip_39 rfl ?_
      obtain ⟨c4, h⟩ := xck h
      refine x_ialdK (jn := (Int32.toNatClampNeg p1)) (v := (a48 (Int32.toNatClampNeg p1))) dX12_flip_40 (by decide) rfl (xin_ok c4) rfl rfl ?_
      refine x_isub dX12_flip_41 ?_
      obtain ⟨c5, h⟩ := xck h
      refine x_iastK (jn := (Int32.toNatClampNeg p1)) (L' := [(44, _), (48, _), (51, _)]) dX12_flip_42 (by decide) rfl (xin_ok c5) rfl rfl ?_
      refine x_aload_n dX12_flip_43 rfl ?_
      refine g_X12_23 rfl dX12_flip_44 (by decide) rfl rfl ?_
      refine x_iload_n dX12_flip_47 rfl ?_
      obtain ⟨c6, h⟩ := xck h
      refine x_ialdK (jn := (Int32.toNatClampNeg p1)) (v := ((upd a48 ((Int32.toNatClampNeg p1)) ((1 - (a48 (Int32.toNatClampNeg p1))))) (Int32.toNatClampNeg p1))) dX12_flip_48 (by decide) rfl (xin_ok c6) rfl rfl ?_
      cases h
      exact x_iret dX12_flip_49 ⟨rfl, rfl, rfl⟩
    · replace h := xif_n c3 h
      refine x_bipush (v := -5) dX12_flip_26 (by decide) ?_
      cases h
      exact x_iret dX12_flip_28 ⟨rfl, rfl, rfl⟩
  · replace h := xif_p c2 h
    refine x_bipush (v := -2) dX12_flip_13 (by decide) ?_
    cases h
    exact x_iret dX12_flip_15 ⟨rfl, rfl, rfl⟩
def l_X12_drop_44_58 (n : Nat) (o44 : Nat → Int32) (a51 : Nat → Int32) (l2 : Int32) : Nat → (Int32) → (Nat → Int32) → Option (((Int32) × (Nat → Int32)))
  | 0, _, _ => none
  | k + 1, l3, a48 => (if (o44 6) ≤ l3 then (some (l3, a48)) else (bif xin l3 9600 then (bif xin (l3 - l2) 9600 then (l_X12_drop_44_58 n o44 a51 l2 k ((l3 + 1)) (upd a48 ((Int32.toNatClampNeg (l3 - l2))) ((a48 (Int32.toNatClampNeg l3))))) else none) else none))
set_option maxRecDepth 100000 in
set_option maxHeartbeats 400000 in
theorem lv_X12_drop_44_58 (s0 : XW) (n : Nat) (o44 : Nat → Int32) (a51 : Nat → Int32) (l2 : Int32) (Q : Nat → Option Value → XW → Prop) : ∀ (k : Nat) (l3 : Int32) (a48 : Nat → Int32) (o : ((Int32) × (Nat → Int32))), l_X12_drop_44_58 n o44 a51 l2 k l3 a48 = some o → (V yX12_drop cX12_drop (some .int) 2 61 (0, 0) 86 [some (.ref 44), none, some (.int l2), none] [] (xof s0 [W_44 o44, W_48 o.2, W_51 a51]) Q) → V yX12_drop cX12_drop (some .int) 2 61 (0, 0) 58 [some (.ref 44), none, some (.int l2), some (.int l3)] [] (xof s0 [W_44 o44, W_48 a48, W_51 a51]) Q := by
  intro k
  induction k with
  | zero =>
    intro _ _ _ h
    simp [l_X12_drop_44_58] at h
  | succ k ih =>
    intro l3 a48 o h hk
    rw [l_X12_drop_44_58] at h
    refine x_iload_n dX12_drop_58 rfl ?_
    refine x_aload_n dX12_drop_59 rfl ?_
    refine g_X12_64 rfl dX12_drop_60 (by decide) rfl rfl ?_
    refine x_icmp_ge (tgt := 86) dX12_drop_63 (by decide) (fun c7 => ?_) (fun c7 => ?_)
    · replace h := xif_p c7 h
      refine V.drop1 (i := 3) (ls' := [_, _, _, _]) rfl ?_
      show V yX12_drop cX12_drop (some .int) 2 61 (0, 0) 86 [some (.ref 44), none, some (.int l2), none] [] (xof s0 [W_44 o44, W_48 a48, W_51 a51]) _
      cases h
      exact hk
    · replace h := xif_n c7 h
      refine x_aload_n dX12_drop_66 rfl ?_
      refine g_X12_23 rfl dX12_drop_67 (by decide) rfl rfl ?_
      refine x_iload_n dX12_drop_70 rfl ?_
      refine x_iload_n dX12_drop_71 rfl ?_
      refine x_isub dX12_drop_72 ?_
      refine x_aload_n dX12_drop_73 rfl ?_
      refine g_X12_23 rfl dX12_drop_74 (by decide) rfl rfl ?_
      refine x_iload_n dX12_drop_77 rfl ?_
      obtain ⟨c8, h⟩ := xck h
      refine x_ialdK (jn := (Int32.toNatClampNeg l3)) (v := (a48 (Int32.toNatClampNeg l3))) dX12_drop_78 (by decide) rfl (xin_ok c8) rfl rfl ?_
      obtain ⟨c9, h⟩ := xck h
      refine x_iastK (jn := (Int32.toNatClampNeg (l3 - l2))) (L' := [(44, _), (48, _), (51, _)]) dX12_drop_79 (by decide) rfl (xin_ok c9) rfl rfl ?_
      refine x_iinc (v := l3 + 1) (ls' := [_, _, _, _]) dX12_drop_80 rfl rfl rfl rfl ?_
      refine x_goto (tgt := 58) dX12_drop_83 (by decide) ?_
      show V yX12_drop cX12_drop (some .int) 2 61 (0, 0) 58 [some (.ref 44), none, some (.int l2), some (.int ((l3 + 1)))] [] (xof s0 [W_44 o44, W_48 (upd a48 ((Int32.toNatClampNeg (l3 - l2))) ((a48 (Int32.toNatClampNeg l3)))), W_51 a51]) _
      exact ih ((l3 + 1)) (upd a48 ((Int32.toNatClampNeg (l3 - l2))) ((a48 (Int32.toNatClampNeg l3)))) _ h hk
def f_X12_drop_44 (n : Nat) (o44 : Nat → Int32) (a48 : Nat → Int32) (a51 : Nat → Int32) (p1 : Int32) (p2 : Int32) : Option (((Int32) × (Nat → Int32) × (Nat → Int32))) := (Option.bind (f_X12_isBit_44 (upd o44 0 0) p1) (fun q1 => (if q1 = 0 then (some ((-2), upd o44 0 0, a48)) else (Option.bind (f_X12_isIn ((Int32.toInt64 p2)) 1 400) (fun q3 => (if q3 = 0 then (some ((-3), upd o44 0 0, a48)) else (if p2 ≤ ((o44 6) - p1) then (if (a51 0) ≤ p1 then (Option.bind (l_X12_drop_44_58 n (upd o44 0 0) a51 p2 n ((p1 + p2)) a48) (fun u10 => (some (((o44 6) - p2), upd (upd o44 0 0) 6 (((o44 6) - p2)), u10.2)))) else (some ((-5), upd o44 0 0, a48))) else (some ((-3), upd o44 0 0, a48)))))))))
set_option maxRecDepth 100000 in
set_option maxHeartbeats 400000 in
theorem v_X12_drop_44 (s0 : XW) (n : Nat) (o44 : Nat → Int32) (a48 : Nat → Int32) (a51 : Nat → Int32) (p1 : Int32) (p2 : Int32) (q : ((Int32) × (Nat → Int32) × (Nat → Int32))) (h : f_X12_drop_44 n o44 a48 a51 p1 p2 = some q) : C_X12_drop 2 61 [.ref 44, .int p1, .int p2] (xof s0 [W_44 o44, W_48 a48, W_51 a51]) (some (.int q.1)) (xof s0 [W_44 q.2.1, W_48 q.2.2, W_51 a51]) := by
  unfold f_X12_drop_44 at h
  show V yX12_drop cX12_drop (some .int) 2 61 (0, 0) 0 [some (.ref 44), some (.int p1), some (.int p2), none] [] (xof s0 [W_44 o44, W_48 a48, W_51 a51]) _
  refine x_aload_n dX12_drop_0 rfl ?_
  refine x_iconst (v := 0) dX12_drop_1 (by decide) ?_
  refine p_X12_1 (fs' := [_, _, _, _, _, _, _, _, _, _, _, _, _, _, _, _, _, _, _, _, _, _]) (L' := [(44, _), (48, _), (51, _)]) rfl dX12_drop_2 (by decide) rfl (Nat.le_of_ble_eq_true rfl) rfl rfl ?_
  refine x_aload_n dX12_drop_5 rfl ?_
  refine x_iload_n dX12_drop_6 rfl ?_
  obtain ⟨q1, hq1, h⟩ := Option.bind_eq_some_iff.mp h
  refine y_callVi (L' := [(44, _), (48, _), (51, _)]) mi_X12_isBit ml_X12_131 im_X12_isBit se_X12_isBit (rfl : vwCl[11]? = _) dX12_drop_7 (fun s1 => v_X12_isBit_44 s1 _ _ q1 hq1) (by decide) rfl (Nat.le_of_ble_eq_true rfl) rfl (by decide) (Nat.le_of_ble_eq_true rfl) rfl rfl rfl rfl ?_
  refine x_if_ne (tgt := 16) dX12_drop_10 (by decide) (fun c2 => ?_) (fun c2 => ?_)
  · replace h := xif_n c2 h
    refine x_iload_n dX12_drop_16 rfl ?_
    refine x_i2l dX12_drop_17 ?_
    refine x_lconst (v := 1) dX12_drop_18 (by decide) ?_
    refine x_ldc2 dX12_drop_19 cn_X12_134 ?_
    obtain ⟨q3, hq3, h⟩ := Option.bind_eq_some_iff.mp h
    refine y_callSi (L' := [(44, _), (48, _), (51, _)]) mi_X12_isIn ml_X12_77 st_X12_isIn dX12_drop_22 (fun s1 => v_X12_isIn 61 s1 _ _ _ q3 hq3) (Nat.le_of_ble_eq_true rfl) rfl (by decide) (Nat.le_of_ble_eq_true rfl) rfl rfl rfl rfl ?_
    refine x_if_eq (tgt := 38) dX12_drop_25 (by decide) (fun c4 => ?_) (fun c4 => ?_)
    · replace h := xif_p c4 h
      refine x_bipush (v := -3) dX12_drop_38 (by decide) ?_
      cases h
      exact x_iret dX12_drop_40 ⟨rfl, rfl, rfl⟩
    · replace h := xif_n c4 h
      refine x_iload_n dX12_drop_28 rfl ?_
      refine x_aload_n dX12_drop_29 rfl ?_
      refine g_X12_64 rfl dX12_drop_30 (by decide) rfl rfl ?_
      refine x_iload_n dX12_drop_33 rfl ?_
      refine x_isub dX12_drop_34 ?_
      refine x_icmp_le (tgt := 41) dX12_drop_35 (by decide) (fun c5 => ?_) (fun c5 => ?_)
      · replace h := xif_p c5 h
        refine x_iload_n dX12_drop_41 rfl ?_
        refine x_aload_n dX12_drop_42 rfl ?_
        refine g_X12_32 rfl dX12_drop_43 (by decide) rfl rfl ?_
        refine x_iconst (v := 0) dX12_drop_46 (by decide) ?_
        refine x_ialdK (jn := 0) (v := (a51 0)) dX12_drop_47 (by decide) rfl (xin_ok (by decide)) (by decide) rfl ?_
        refine x_icmp_ge (tgt := 54) dX12_drop_48 (by decide) (fun c6 => ?_) (fun c6 => ?_)
        · replace h := xif_p c6 h
          refine x_iload_n dX12_drop_54 rfl ?_
          refine x_iload_n dX12_drop_55 rfl ?_
          refine x_iadd dX12_drop_56 ?_
          refine x_istore_n (ls' := [_, _, _, _]) dX12_drop_57 rfl rfl ?_
          refine V.drop1 (i := 1) (ls' := [_, _, _, _]) rfl ?_
          obtain ⟨u10, hu10, h⟩ := Option.bind_eq_some_iff.mp h
          show V yX12_drop cX12_drop (some .int) 2 61 (0, 0) 58 [some (.ref 44), none, some (.int p2), some (.int ((p1 + p2)))] [] (xof s0 [W_44 (upd o44 0 0), W_48 a48, W_51 a51]) _
          refine lv_X12_drop_44_58 s0 _ (upd o44 0 0) a51 p2 _ n ((p1 + p2)) a48 _ hu10 ?_
          refine x_aload_n dX12_drop_86 rfl ?_
          refine x_dup dX12_drop_87 rfl ?_
          refine g_X12_64 rfl dX12_drop_88 (by decide) rfl rfl ?_
          refine x_iload_n dX12_drop_91 rfl ?_
          refine x_isub dX12_drop_92 ?_
          refine p_X12_64 (fs' := [_, _, _, _, _, _, _, _, _, _, _, _, _, _, _, _, _, _, _, _, _, _]) (L' := [(44, _), (48, _), (51, _)]) rfl dX12_drop_93 (by decide) rfl (Nat.le_of_ble_eq_true rfl) rfl rfl ?_
          refine x_aload_n dX12_drop_96 rfl ?_
          refine g_X12_64 rfl dX12_drop_97 (by decide) rfl rfl ?_
          cases h
          exact x_iret dX12_drop_100 ⟨rfl, rfl, rfl⟩
        · replace h := xif_n c6 h
          refine x_bipush (v := -5) dX12_drop_51 (by decide) ?_
          cases h
          exact x_iret dX12_drop_53 ⟨rfl, rfl, rfl⟩
      · replace h := xif_n c5 h
        refine x_bipush (v := -3) dX12_drop_38 (by decide) ?_
        cases h
        exact x_iret dX12_drop_40 ⟨rfl, rfl, rfl⟩
  · replace h := xif_p c2 h
    refine x_bipush (v := -2) dX12_drop_13 (by decide) ?_
    cases h
    exact x_iret dX12_drop_15 ⟨rfl, rfl, rfl⟩
def l_X12_slip_44_73 (n : Nat) (o44 : Nat → Int32) (a51 : Nat → Int32) (l1 : Int32) (l2 : Int32) (l3 : Int32) : Nat → (Int32) → (Nat → Int32) → Option (((Int32) × (Nat → Int32)))
  | 0, _, _ => none
  | k + 1, l4, a48 => (if l4 < l1 then (some (l4, a48)) else (bif xin l4 9600 then (bif xin (l4 + l2) 9600 then (l_X12_slip_44_73 n o44 a51 l1 l2 l3 k ((l4 + (-1))) (upd a48 ((Int32.toNatClampNeg (l4 + l2))) ((a48 (Int32.toNatClampNeg l4))))) else none) else none))
set_option maxRecDepth 100000 in
set_option maxHeartbeats 400000 in
theorem lv_X12_slip_44_73 (s0 : XW) (n : Nat) (o44 : Nat → Int32) (a51 : Nat → Int32) (l1 : Int32) (l2 : Int32) (l3 : Int32) (Q : Nat → Option Value → XW → Prop) : ∀ (k : Nat) (l4 : Int32) (a48 : Nat → Int32) (o : ((Int32) × (Nat → Int32))), l_X12_slip_44_73 n o44 a51 l1 l2 l3 k l4 a48 = some o → (V yX12_slip cX12_slip (some .int) 1 61 (0, 0) 101 [some (.ref 44), some (.int l1), some (.int l2), some (.int l3), none] [] (xof s0 [W_44 o44, W_48 o.2, W_51 a51]) Q) → V yX12_slip cX12_slip (some .int) 1 61 (0, 0) 73 [some (.ref 44), some (.int l1), some (.int l2), some (.int l3), some (.int l4)] [] (xof s0 [W_44 o44, W_48 a48, W_51 a51]) Q := by
  intro k
  induction k with
  | zero =>
    intro _ _ _ h
    simp [l_X12_slip_44_73] at h
  | succ k ih =>
    intro l4 a48 o h hk
    rw [l_X12_slip_44_73] at h
    refine x_iload dX12_slip_73 rfl ?_
    refine x_iload_n dX12_slip_75 rfl ?_
    refine x_icmp_lt (tgt := 101) dX12_slip_76 (by decide) (fun c7 => ?_) (fun c7 => ?_)
    · replace h := xif_p c7 h
      refine V.drop1 (i := 4) (ls' := [_, _, _, _, _]) rfl ?_
      show V yX12_slip cX12_slip (some .int) 1 61 (0, 0) 101 [some (.ref 44), some (.int l1), some (.int l2), some (.int l3), none] [] (xof s0 [W_44 o44, W_48 a48, W_51 a51]) _
      cases h
      exact hk
    · replace h := xif_n c7 h
      refine x_aload_n dX12_slip_79 rfl ?_
      refine g_X12_23 rfl dX12_slip_80 (by decide) rfl rfl ?_
      refine x_iload dX12_slip_83 rfl ?_
      refine x_iload_n dX12_slip_85 rfl ?_
      refine x_iadd dX12_slip_86 ?_
      refine x_aload_n dX12_slip_87 rfl ?_
      refine g_X12_23 rfl dX12_slip_88 (by decide) rfl rfl ?_
      refine x_iload dX12_slip_91 rfl ?_
      obtain ⟨c8, h⟩ := xck h
      refine x_ialdK (jn := (Int32.toNatClampNeg l4)) (v := (a48 (Int32.toNatClampNeg l4))) dX12_slip_93 (by decide) rfl (xin_ok c8) rfl rfl ?_
      obtain ⟨c9, h⟩ := xck h
      refine x_iastK (jn := (Int32.toNatClampNeg (l4 + l2))) (L' := [(44, _), (48, _), (51, _)]) dX12_slip_94 (by decide) rfl (xin_ok c9) rfl rfl ?_
      refine x_iinc (v := l4 + (-1)) (ls' := [_, _, _, _, _]) dX12_slip_95 rfl rfl rfl rfl ?_
      refine x_goto (tgt := 73) dX12_slip_98 (by decide) ?_
      show V yX12_slip cX12_slip (some .int) 1 61 (0, 0) 73 [some (.ref 44), some (.int l1), some (.int l2), some (.int l3), some (.int ((l4 + (-1))))] [] (xof s0 [W_44 o44, W_48 (upd a48 ((Int32.toNatClampNeg (l4 + l2))) ((a48 (Int32.toNatClampNeg l4)))), W_51 a51]) _
      exact ih ((l4 + (-1))) (upd a48 ((Int32.toNatClampNeg (l4 + l2))) ((a48 (Int32.toNatClampNeg l4)))) _ h hk
def l_X12_slip_44_104 (n : Nat) (o44 : Nat → Int32) (a51 : Nat → Int32) (l1 : Int32) (l2 : Int32) (l3 : Int32) : Nat → (Int32) → (Nat → Int32) → Option (((Int32) × (Nat → Int32)))
  | 0, _, _ => none
  | k + 1, l4, a48 => (if l2 ≤ l4 then (some (l4, a48)) else (bif xin (l1 + l4) 9600 then (l_X12_slip_44_104 n o44 a51 l1 l2 l3 k ((l4 + 1)) (upd a48 ((Int32.toNatClampNeg (l1 + l4))) (((xus l3 ((l2 - 1) - l4)) &&& 1)))) else none))
set_option maxRecDepth 100000 in
set_option maxHeartbeats 400000 in
theorem lv_X12_slip_44_104 (s0 : XW) (n : Nat) (o44 : Nat → Int32) (a51 : Nat → Int32) (l1 : Int32) (l2 : Int32) (l3 : Int32) (Q : Nat → Option Value → XW → Prop) : ∀ (k : Nat) (l4 : Int32) (a48 : Nat → Int32) (o : ((Int32) × (Nat → Int32))), l_X12_slip_44_104 n o44 a51 l1 l2 l3 k l4 a48 = some o → (V yX12_slip cX12_slip (some .int) 1 61 (0, 0) 135 [some (.ref 44), none, some (.int l2), none, none] [] (xof s0 [W_44 o44, W_48 o.2, W_51 a51]) Q) → V yX12_slip cX12_slip (some .int) 1 61 (0, 0) 104 [some (.ref 44), some (.int l1), some (.int l2), some (.int l3), some (.int l4)] [] (xof s0 [W_44 o44, W_48 a48, W_51 a51]) Q := by
  intro k
  induction k with
  | zero =>
    intro _ _ _ h
    simp [l_X12_slip_44_104] at h
  | succ k ih =>
    intro l4 a48 o h hk
    rw [l_X12_slip_44_104] at h
    refine x_iload dX12_slip_104 rfl ?_
    refine x_iload_n dX12_slip_106 rfl ?_
    refine x_icmp_ge (tgt := 135) dX12_slip_107 (by decide) (fun c11 => ?_) (fun c11 => ?_)
    · replace h := xif_p c11 h
      refine V.drop1 (i := 1) (ls' := [_, _, _, _, _]) rfl ?_
      refine V.drop1 (i := 3) (ls' := [_, _, _, _, _]) rfl ?_
      refine V.drop1 (i := 4) (ls' := [_, _, _, _, _]) rfl ?_
      show V yX12_slip cX12_slip (some .int) 1 61 (0, 0) 135 [some (.ref 44), none, some (.int l2), none, none] [] (xof s0 [W_44 o44, W_48 a48, W_51 a51]) _
      cases h
      exact hk
    · replace h := xif_n c11 h
      refine x_aload_n dX12_slip_110 rfl ?_
      refine g_X12_23 rfl dX12_slip_111 (by decide) rfl rfl ?_
      refine x_iload_n dX12_slip_114 rfl ?_
      refine x_iload dX12_slip_115 rfl ?_
      refine x_iadd dX12_slip_117 ?_
      refine x_iload_n dX12_slip_118 rfl ?_
      refine x_iload_n dX12_slip_119 rfl ?_
      refine x_iconst (v := 1) dX12_slip_120 (by decide) ?_
      refine x_isub dX12_slip_121 ?_
      refine x_iload dX12_slip_122 rfl ?_
      refine x_isub dX12_slip_124 ?_
      refine x_iushr dX12_slip_125 ?_
      refine x_iconst (v := 1) dX12_slip_126 (by decide) ?_
      refine x_iand dX12_slip_127 ?_
      obtain ⟨c12, h⟩ := xck h
      refine x_iastK (jn := (Int32.toNatClampNeg (l1 + l4))) (L' := [(44, _), (48, _), (51, _)]) dX12_slip_128 (by decide) rfl (xin_ok c12) rfl rfl ?_
      refine x_iinc (v := l4 + 1) (ls' := [_, _, _, _, _]) dX12_slip_129 rfl rfl rfl rfl ?_
      refine x_goto (tgt := 104) dX12_slip_132 (by decide) ?_
      show V yX12_slip cX12_slip (some .int) 1 61 (0, 0) 104 [some (.ref 44), some (.int l1), some (.int l2), some (.int l3), some (.int ((l4 + 1)))] [] (xof s0 [W_44 o44, W_48 (upd a48 ((Int32.toNatClampNeg (l1 + l4))) (((xus l3 ((l2 - 1) - l4)) &&& 1))), W_51 a51]) _
      exact ih ((l4 + 1)) (upd a48 ((Int32.toNatClampNeg (l1 + l4))) (((xus l3 ((l2 - 1) - l4)) &&& 1))) _ h hk
def f_X12_slip_44 (n : Nat) (o44 : Nat → Int32) (a48 : Nat → Int32) (a51 : Nat → Int32) (p1 : Int32) (p2 : Int32) (p3 : Int32) : Option (((Int32) × (Nat → Int32) × (Nat → Int32))) := (Option.bind (f_X12_isIn ((Int32.toInt64 p1)) 0 ((Int32.toInt64 (o44 6)))) (fun q1 => (if q1 = 0 then (some ((-2), upd o44 0 0, a48)) else (Option.bind (f_X12_isIn ((Int32.toInt64 p2)) 1 32) (fun q3 => (if q3 = 0 then (some ((-3), upd o44 0 0, a48)) else (if ((o44 6) + p2) ≤ 9600 then (if (a51 0) ≤ p1 then (Option.bind (l_X12_slip_44_73 n (upd o44 0 0) a51 p1 p2 p3 n (((o44 6) - 1)) a48) (fun u10 => (Option.bind (l_X12_slip_44_104 n (upd o44 0 0) a51 p1 p2 p3 n 0 u10.2) (fun u13 => (some (((o44 6) + p2), upd (upd o44 0 0) 6 (((o44 6) + p2)), u13.2)))))) else (some ((-5), upd o44 0 0, a48))) else (some ((-4), upd o44 0 0, a48)))))))))
set_option maxRecDepth 100000 in
set_option maxHeartbeats 400000 in
theorem v_X12_slip_44 (s0 : XW) (n : Nat) (o44 : Nat → Int32) (a48 : Nat → Int32) (a51 : Nat → Int32) (p1 : Int32) (p2 : Int32) (p3 : Int32) (q : ((Int32) × (Nat → Int32) × (Nat → Int32))) (h : f_X12_slip_44 n o44 a48 a51 p1 p2 p3 = some q) : C_X12_slip 1 61 [.ref 44, .int p1, .int p2, .int p3] (xof s0 [W_44 o44, W_48 a48, W_51 a51]) (some (.int q.1)) (xof s0 [W_44 q.2.1, W_48 q.2.2, W_51 a51]) := by
  unfold f_X12_slip_44 at h
  show V yX12_slip cX12_slip (some .int) 1 61 (0, 0) 0 [some (.ref 44), some (.int p1), some (.int p2), some (.int p3), none] [] (xof s0 [W_44 o44, W_48 a48, W_51 a51]) _
  refine x_aload_n dX12_slip_0 rfl ?_
  refine x_iconst (v := 0) dX12_slip_1 (by decide) ?_
  refine p_X12_1 (fs' := [_, _, _, _, _, _, _, _, _, _, _, _, _, _, _, _, _, _, _, _, _, _]) (L' := [(44, _), (48, _), (51, _)]) rfl dX12_slip_2 (by decide) rfl (Nat.le_of_ble_eq_true rfl) rfl rfl ?_
  refine x_iload_n dX12_slip_5 rfl ?_
  refine x_i2l dX12_slip_6 ?_
  refine x_lconst (v := 0) dX12_slip_7 (by decide) ?_
  refine x_aload_n dX12_slip_8 rfl ?_
  refine g_X12_64 rfl dX12_slip_9 (by decide) rfl rfl ?_
  refine x_i2l dX12_slip_12 ?_
  obtain ⟨q1, hq1, h⟩ := Option.bind_eq_some_iff.mp h
  refine y_callSi (L' := [(44, _), (48, _), (51, _)]) mi_X12_isIn ml_X12_77 st_X12_isIn dX12_slip_13 (fun s1 => v_X12_isIn 61 s1 _ _ _ q1 hq1) (Nat.le_of_ble_eq_true rfl) rfl (by decide) (Nat.le_of_ble_eq_true rfl) rfl rfl rfl rfl ?_
  refine x_if_ne (tgt := 22) dX12_slip_16 (by decide) (fun c2 => ?_) (fun c2 => ?_)
  · replace h := xif_n c2 h
    refine x_iload_n dX12_slip_22 rfl ?_
    refine x_i2l dX12_slip_23 ?_
    refine x_lconst (v := 1) dX12_slip_24 (by decide) ?_
    refine x_ldc2 dX12_slip_25 cn_X12_75 ?_
    obtain ⟨q3, hq3, h⟩ := Option.bind_eq_some_iff.mp h
    refine y_callSi (L' := [(44, _), (48, _), (51, _)]) mi_X12_isIn ml_X12_77 st_X12_isIn dX12_slip_28 (fun s1 => v_X12_isIn 61 s1 _ _ _ q3 hq3) (Nat.le_of_ble_eq_true rfl) rfl (by decide) (Nat.le_of_ble_eq_true rfl) rfl rfl rfl rfl ?_
    refine x_if_ne (tgt := 37) dX12_slip_31 (by decide) (fun c4 => ?_) (fun c4 => ?_)
    · replace h := xif_n c4 h
      refine x_aload_n dX12_slip_37 rfl ?_
      refine g_X12_64 rfl dX12_slip_38 (by decide) rfl rfl ?_
      refine x_iload_n dX12_slip_41 rfl ?_
      refine x_iadd dX12_slip_42 ?_
      refine x_sipush (v := 9600) dX12_slip_43 (by decide) ?_
      refine x_icmp_le (tgt := 52) dX12_slip_46 (by decide) (fun c5 => ?_) (fun c5 => ?_)
      · replace h := xif_p c5 h
        refine x_iload_n dX12_slip_52 rfl ?_
        refine x_aload_n dX12_slip_53 rfl ?_
        refine g_X12_32 rfl dX12_slip_54 (by decide) rfl rfl ?_
        refine x_iconst (v := 0) dX12_slip_57 (by decide) ?_
        refine x_ialdK (jn := 0) (v := (a51 0)) dX12_slip_58 (by decide) rfl (xin_ok (by decide)) (by decide) rfl ?_
        refine x_icmp_ge (tgt := 65) dX12_slip_59 (by decide) (fun c6 => ?_) (fun c6 => ?_)
        · replace h := xif_p c6 h
          refine x_aload_n dX12_slip_65 rfl ?_
          refine g_X12_64 rfl dX12_slip_66 (by decide) rfl rfl ?_
          refine x_iconst (v := 1) dX12_slip_69 (by decide) ?_
          refine x_isub dX12_slip_70 ?_
          refine x_istore (ls' := [_, _, _, _, _]) dX12_slip_71 rfl rfl ?_
          obtain ⟨u10, hu10, h⟩ := Option.bind_eq_some_iff.mp h
          show V yX12_slip cX12_slip (some .int) 1 61 (0, 0) 73 [some (.ref 44), some (.int p1), some (.int p2), some (.int p3), some (.int (((o44 6) - 1)))] [] (xof s0 [W_44 (upd o44 0 0), W_48 a48, W_51 a51]) _
          refine lv_X12_slip_44_73 s0 _ (upd o44 0 0) a51 p1 p2 p3 _ n (((o44 6) - 1)) a48 _ hu10 ?_
          refine x_iconst (v := 0) dX12_slip_101 (by decide) ?_
          refine x_istore (ls' := [_, _, _, _, _]) dX12_slip_102 rfl rfl ?_
          obtain ⟨u13, hu13, h⟩ := Option.bind_eq_some_iff.mp h
          show V yX12_slip cX12_slip (some .int) 1 61 (0, 0) 104 [some (.ref 44), some (.int p1), some (.int p2), some (.int p3), some (.int 0)] [] (xof s0 [W_44 (upd o44 0 0), W_48 u10.2, W_51 a51]) _
          refine lv_X12_slip_44_104 s0 _ (upd o44 0 0) a51 p1 p2 p3 _ n 0 u10.2 _ hu13 ?_
          refine x_aload_n dX12_slip_135 rfl ?_
          refine x_dup dX12_slip_136 rfl ?_
          refine g_X12_64 rfl dX12_slip_137 (by decide) rfl rfl ?_
          refine x_iload_n dX12_slip_140 rfl ?_
          refine x_iadd dX12_slip_141 ?_
          refine p_X12_64 (fs' := [_, _, _, _, _, _, _, _, _, _, _, _, _, _, _, _, _, _, _, _, _, _]) (L' := [(44, _), (48, _), (51, _)]) rfl dX12_slip_142 (by decide) rfl (Nat.le_of_ble_eq_true rfl) rfl rfl ?_
          refine x_aload_n dX12_slip_145 rfl ?_
          refine g_X12_64 rfl dX12_slip_146 (by decide) rfl rfl ?_
          cases h
          exact x_iret dX12_slip_149 ⟨rfl, rfl, rfl⟩
        · replace h := xif_n c6 h
          refine x_bipush (v := -5) dX12_slip_62 (by decide) ?_
          cases h
          exact x_iret dX12_slip_64 ⟨rfl, rfl, rfl⟩
      · replace h := xif_n c5 h
        refine x_bipush (v := -4) dX12_slip_49 (by decide) ?_
        cases h
        exact x_iret dX12_slip_51 ⟨rfl, rfl, rfl⟩
    · replace h := xif_p c4 h
      refine x_bipush (v := -3) dX12_slip_34 (by decide) ?_
      cases h
      exact x_iret dX12_slip_36 ⟨rfl, rfl, rfl⟩
  · replace h := xif_p c2 h
    refine x_bipush (v := -2) dX12_slip_19 (by decide) ?_
    cases h
    exact x_iret dX12_slip_21 ⟨rfl, rfl, rfl⟩
def l_X12_disturb_44_89 (n : Nat) (o44 : Nat → Int32) (a51 : Nat → Int32) (l1 : Int32) (l2 : Int32) (l3 : Int32) : Nat → (Int32) → (Int32) → (Int32) → (Nat → Int32) → Option (((Int32) × (Int32) × (Int32) × (Nat → Int32)))
  | 0, _, _, _, _ => none
  | k + 1, l5, l6, l7, a48 => (if (l1 + l2) ≤ l7 then (some (l5, l6, l7, a48)) else (bif xnz l3 then (if ((((l6 * 1103) + 12345) - ((l6 * 1103) + 12345) / 1000003 * 1000003) - (((l6 * 1103) + 12345) - ((l6 * 1103) + 12345) / 1000003 * 1000003) / l3 * l3) = 0 then (bif xin l7 9600 then (bif xin l7 9600 then (l_X12_disturb_44_89 n o44 a51 l1 l2 l3 k ((l5 + 1)) ((((l6 * 1103) + 12345) - ((l6 * 1103) + 12345) / 1000003 * 1000003)) ((l7 + 1)) (upd a48 ((Int32.toNatClampNeg l7)) ((1 - (a48 (Int32.toNatClampNeg l7)))))) else none) else none) else (l_X12_disturb_44_89 n o44 a51 l1 l2 l3 k l5 ((((l6 * 1103) + 12345) - ((l6 * 1103) + 12345) / 1000003 * 1000003)) ((l7 + 1)) a48)) else none))
set_option maxRecDepth 100000 in
set_option maxHeartbeats 400000 in
theorem lv_X12_disturb_44_89 (s0 : XW) (n : Nat) (o44 : Nat → Int32) (a51 : Nat → Int32) (l1 : Int32) (l2 : Int32) (l3 : Int32) (Q : Nat → Option Value → XW → Prop) : ∀ (k : Nat) (l5 : Int32) (l6 : Int32) (l7 : Int32) (a48 : Nat → Int32) (o : ((Int32) × (Int32) × (Int32) × (Nat → Int32))), l_X12_disturb_44_89 n o44 a51 l1 l2 l3 k l5 l6 l7 a48 = some o → (V yX12_disturb cX12_disturb (some .int) 2 61 (0, 0) 147 [none, none, none, none, none, some (.int o.1), none, none] [] (xof s0 [W_44 o44, W_48 o.2.2.2, W_51 a51]) Q) → V yX12_disturb cX12_disturb (some .int) 2 61 (0, 0) 89 [some (.ref 44), some (.int l1), some (.int l2), some (.int l3), none, some (.int l5), some (.int l6), some (.int l7)] [] (xof s0 [W_44 o44, W_48 a48, W_51 a51]) Q := by
  intro k
  induction k with
  | zero =>
    intro _ _ _ _ _ h
    simp [l_X12_disturb_44_89] at h
  | succ k ih =>
    intro l5 l6 l7 a48 o h hk
    rw [l_X12_disturb_44_89] at h
    refine x_iload dX12_disturb_89 rfl ?_
    refine x_iload_n dX12_disturb_91 rfl ?_
    refine x_iload_n dX12_disturb_92 rfl ?_
    refine x_iadd dX12_disturb_93 ?_
    refine x_icmp_ge (tgt := 147) dX12_disturb_94 (by decide) (fun c11 => ?_) (fun c11 => ?_)
    · replace h := xif_p c11 h
      refine V.drop1 (i := 0) (ls' := [_, _, _, _, _, _, _, _]) rfl ?_
      refine V.drop1 (i := 1) (ls' := [_, _, _, _, _, _, _, _]) rfl ?_
      refine V.drop1 (i := 2) (ls' := [_, _, _, _, _, _, _, _]) rfl ?_
      refine V.drop1 (i := 3) (ls' := [_, _, _, _, _, _, _, _]) rfl ?_
      refine V.drop1 (i := 6) (ls' := [_, _, _, _, _, _, _, _]) rfl ?_
      refine V.drop1 (i := 7) (ls' := [_, _, _, _, _, _, _, _]) rfl ?_
      show V yX12_disturb cX12_disturb (some .int) 2 61 (0, 0) 147 [none, none, none, none, none, some (.int l5), none, none] [] (xof s0 [W_44 o44, W_48 a48, W_51 a51]) _
      cases h
      exact hk
    · replace h := xif_n c11 h
      refine x_iload dX12_disturb_97 rfl ?_
      refine x_sipush (v := 1103) dX12_disturb_99 (by decide) ?_
      refine x_imul dX12_disturb_102 ?_
      refine x_sipush (v := 12345) dX12_disturb_103 (by decide) ?_
      refine x_iadd dX12_disturb_106 ?_
      refine x_ldc dX12_disturb_107 cn_X12_125 ?_
      refine x_irem dX12_disturb_109 (by decide) ?_
      refine x_istore (ls' := [_, _, _, _, _, _, _, _]) dX12_disturb_110 rfl rfl ?_
      refine x_iload dX12_disturb_112 rfl ?_
      refine x_iload_n dX12_disturb_114 rfl ?_
      obtain ⟨c12, h⟩ := xck h
      refine x_irem dX12_disturb_115 (xnz_ok c12) ?_
      refine x_if_eq (tgt := 122) dX12_disturb_116 (by decide) (fun c13 => ?_) (fun c13 => ?_)
      · replace h := xif_p c13 h
        refine x_aload_n dX12_disturb_122 rfl ?_
        refine g_X12_23 rfl dX12_disturb_123 (by decide) rfl rfl ?_
        refine x_iload dX12_disturb_126 rfl ?_
        refine x_iconst (v := 1) dX12_disturb_128 (by decide) ?_
        refine x_aload_n dX12_disturb_129 rfl ?_
        refine g_X12_23 rfl dX12_disturb_130 (by decide) rfl rfl ?_
        refine x_iload dX12_disturb_133 rfl ?_
        obtain ⟨c14, h⟩ := xck h
        refine x_ialdK (jn := (Int32.toNatClampNeg l7)) (v := (a48 (Int32.toNatClampNeg l7))) dX12_disturb_135 (by decide) rfl (xin_ok c14) rfl rfl ?_
        refine x_isub dX12_disturb_136 ?_
        obtain ⟨c15, h⟩ := xck h
        refine x_iastK (jn := (Int32.toNatClampNeg l7)) (L' := [(44, _), (48, _), (51, _)]) dX12_disturb_137 (by decide) rfl (xin_ok c15) rfl rfl ?_
        refine x_iinc (v := l5 + 1) (ls' := [_, _, _, _, _, _, _, _]) dX12_disturb_138 rfl rfl rfl rfl ?_
        refine x_iinc (v := l7 + 1) (ls' := [_, _, _, _, _, _, _, _]) dX12_disturb_141 rfl rfl rfl rfl ?_
        refine x_goto (tgt := 89) dX12_disturb_144 (by decide) ?_
        show V yX12_disturb cX12_disturb (some .int) 2 61 (0, 0) 89 [some (.ref 44), some (.int l1), some (.int l2), some (.int l3), none, some (.int ((l5 + 1))), some (.int ((((l6 * 1103) + 12345) - ((l6 * 1103) + 12345) / 1000003 * 1000003))), some (.int ((l7 + 1)))] [] (xof s0 [W_44 o44, W_48 (upd a48 ((Int32.toNatClampNeg l7)) ((1 - (a48 (Int32.toNatClampNeg l7))))), W_51 a51]) _
        exact ih ((l5 + 1)) ((((l6 * 1103) + 12345) - ((l6 * 1103) + 12345) / 1000003 * 1000003)) ((l7 + 1)) (upd a48 ((Int32.toNatClampNeg l7)) ((1 - (a48 (Int32.toNatClampNeg l7))))) _ h hk
      · replace h := xif_n c13 h
        refine x_goto (tgt := 141) dX12_disturb_119 (by decide) ?_
        refine x_iinc (v := l7 + 1) (ls' := [_, _, _, _, _, _, _, _]) dX12_disturb_141 rfl rfl rfl rfl ?_
        refine x_goto (tgt := 89) dX12_disturb_144 (by decide) ?_
        show V yX12_disturb cX12_disturb (some .int) 2 61 (0, 0) 89 [some (.ref 44), some (.int l1), some (.int l2), some (.int l3), none, some (.int l5), some (.int ((((l6 * 1103) + 12345) - ((l6 * 1103) + 12345) / 1000003 * 1000003))), some (.int ((l7 + 1)))] [] (xof s0 [W_44 o44, W_48 a48, W_51 a51]) _
        exact ih l5 ((((l6 * 1103) + 12345) - ((l6 * 1103) + 12345) / 1000003 * 1000003)) ((l7 + 1)) a48 _ h hk
def f_X12_disturb_44 (n : Nat) (o44 : Nat → Int32) (a48 : Nat → Int32) (a51 : Nat → Int32) (p1 : Int32) (p2 : Int32) (p3 : Int32) (p4 : Int32) : Option (((Int32) × (Nat → Int32) × (Nat → Int32))) := (Option.bind (f_X12_isBit_44 (upd o44 0 0) p1) (fun q1 => (if q1 = 0 then (some ((-2), upd o44 0 0, a48)) else (Option.bind (f_X12_isIn ((Int32.toInt64 p2)) 1 2000) (fun q3 => (if q3 = 0 then (some ((-3), upd o44 0 0, a48)) else (if ((o44 6) - p1) < p2 then (some ((-3), upd o44 0 0, a48)) else (Option.bind (f_X12_isIn ((Int32.toInt64 p3)) 1 1000) (fun q6 => (if q6 = 0 then (some ((-3), upd o44 0 0, a48)) else (Option.bind (f_X12_isIn ((Int32.toInt64 p4)) 0 1000003) (fun q8 => (if q8 = 0 then (some ((-3), upd o44 0 0, a48)) else (if (a51 0) ≤ p1 then (Option.bind (l_X12_disturb_44_89 n (upd o44 0 0) a51 p1 p2 p3 n 0 p4 p1 a48) (fun u16 => (some (u16.1, upd o44 0 0, u16.2.2.2)))) else (some ((-5), upd o44 0 0, a48))))))))))))))))
set_option maxRecDepth 100000 in
set_option maxHeartbeats 400000 in
theorem v_X12_disturb_44 (s0 : XW) (n : Nat) (o44 : Nat → Int32) (a48 : Nat → Int32) (a51 : Nat → Int32) (p1 : Int32) (p2 : Int32) (p3 : Int32) (p4 : Int32) (q : ((Int32) × (Nat → Int32) × (Nat → Int32))) (h : f_X12_disturb_44 n o44 a48 a51 p1 p2 p3 p4 = some q) : C_X12_disturb 2 61 [.ref 44, .int p1, .int p2, .int p3, .int p4] (xof s0 [W_44 o44, W_48 a48, W_51 a51]) (some (.int q.1)) (xof s0 [W_44 q.2.1, W_48 q.2.2, W_51 a51]) := by
  unfold f_X12_disturb_44 at h
  show V yX12_disturb cX12_disturb (some .int) 2 61 (0, 0) 0 [some (.ref 44), some (.int p1), some (.int p2), some (.int p3), some (.int p4), none, none, none] [] (xof s0 [W_44 o44, W_48 a48, W_51 a51]) _
  refine x_aload_n dX12_disturb_0 rfl ?_
  refine x_iconst (v := 0) dX12_disturb_1 (by decide) ?_
  refine p_X12_1 (fs' := [_, _, _, _, _, _, _, _, _, _, _, _, _, _, _, _, _, _, _, _, _, _]) (L' := [(44, _), (48, _), (51, _)]) rfl dX12_disturb_2 (by decide) rfl (Nat.le_of_ble_eq_true rfl) rfl rfl ?_
  refine x_aload_n dX12_disturb_5 rfl ?_
  refine x_iload_n dX12_disturb_6 rfl ?_
  obtain ⟨q1, hq1, h⟩ := Option.bind_eq_some_iff.mp h
  refine y_callVi (L' := [(44, _), (48, _), (51, _)]) mi_X12_isBit ml_X12_131 im_X12_isBit se_X12_isBit (rfl : vwCl[11]? = _) dX12_disturb_7 (fun s1 => v_X12_isBit_44 s1 _ _ q1 hq1) (by decide) rfl (Nat.le_of_ble_eq_true rfl) rfl (by decide) (Nat.le_of_ble_eq_true rfl) rfl rfl rfl rfl ?_
  refine x_if_ne (tgt := 16) dX12_disturb_10 (by decide) (fun c2 => ?_) (fun c2 => ?_)
  · replace h := xif_n c2 h
    refine x_iload_n dX12_disturb_16 rfl ?_
    refine x_i2l dX12_disturb_17 ?_
    refine x_lconst (v := 1) dX12_disturb_18 (by decide) ?_
    refine x_ldc2 dX12_disturb_19 cn_X12_136 ?_
    obtain ⟨q3, hq3, h⟩ := Option.bind_eq_some_iff.mp h
    refine y_callSi (L' := [(44, _), (48, _), (51, _)]) mi_X12_isIn ml_X12_77 st_X12_isIn dX12_disturb_22 (fun s1 => v_X12_isIn 61 s1 _ _ _ q3 hq3) (Nat.le_of_ble_eq_true rfl) rfl (by decide) (Nat.le_of_ble_eq_true rfl) rfl rfl rfl rfl ?_
    refine x_if_eq (tgt := 63) dX12_disturb_25 (by decide) (fun c4 => ?_) (fun c4 => ?_)
    · replace h := xif_p c4 h
      refine x_bipush (v := -3) dX12_disturb_63 (by decide) ?_
      cases h
      exact x_iret dX12_disturb_65 ⟨rfl, rfl, rfl⟩
    · replace h := xif_n c4 h
      refine x_iload_n dX12_disturb_28 rfl ?_
      refine x_aload_n dX12_disturb_29 rfl ?_
      refine g_X12_64 rfl dX12_disturb_30 (by decide) rfl rfl ?_
      refine x_iload_n dX12_disturb_33 rfl ?_
      refine x_isub dX12_disturb_34 ?_
      refine x_icmp_gt (tgt := 63) dX12_disturb_35 (by decide) (fun c5 => ?_) (fun c5 => ?_)
      · replace h := xif_p c5 h
        refine x_bipush (v := -3) dX12_disturb_63 (by decide) ?_
        cases h
        exact x_iret dX12_disturb_65 ⟨rfl, rfl, rfl⟩
      · replace h := xif_n c5 h
        refine x_iload_n dX12_disturb_38 rfl ?_
        refine x_i2l dX12_disturb_39 ?_
        refine x_lconst (v := 1) dX12_disturb_40 (by decide) ?_
        refine x_ldc2 dX12_disturb_41 cn_X12_138 ?_
        obtain ⟨q6, hq6, h⟩ := Option.bind_eq_some_iff.mp h
        refine y_callSi (L' := [(44, _), (48, _), (51, _)]) mi_X12_isIn ml_X12_77 st_X12_isIn dX12_disturb_44 (fun s1 => v_X12_isIn 61 s1 _ _ _ q6 hq6) (Nat.le_of_ble_eq_true rfl) rfl (by decide) (Nat.le_of_ble_eq_true rfl) rfl rfl rfl rfl ?_
        refine x_if_eq (tgt := 63) dX12_disturb_47 (by decide) (fun c7 => ?_) (fun c7 => ?_)
        · replace h := xif_p c7 h
          refine x_bipush (v := -3) dX12_disturb_63 (by decide) ?_
          cases h
          exact x_iret dX12_disturb_65 ⟨rfl, rfl, rfl⟩
        · replace h := xif_n c7 h
          refine x_iload dX12_disturb_50 rfl ?_
          refine x_i2l dX12_disturb_52 ?_
          refine x_lconst (v := 0) dX12_disturb_53 (by decide) ?_
          refine x_ldc2 dX12_disturb_54 cn_X12_119 ?_
          obtain ⟨q8, hq8, h⟩ := Option.bind_eq_some_iff.mp h
          refine y_callSi (L' := [(44, _), (48, _), (51, _)]) mi_X12_isIn ml_X12_77 st_X12_isIn dX12_disturb_57 (fun s1 => v_X12_isIn 61 s1 _ _ _ q8 hq8) (Nat.le_of_ble_eq_true rfl) rfl (by decide) (Nat.le_of_ble_eq_true rfl) rfl rfl rfl rfl ?_
          refine x_if_ne (tgt := 66) dX12_disturb_60 (by decide) (fun c9 => ?_) (fun c9 => ?_)
          · replace h := xif_n c9 h
            refine x_iload_n dX12_disturb_66 rfl ?_
            refine x_aload_n dX12_disturb_67 rfl ?_
            refine g_X12_32 rfl dX12_disturb_68 (by decide) rfl rfl ?_
            refine x_iconst (v := 0) dX12_disturb_71 (by decide) ?_
            refine x_ialdK (jn := 0) (v := (a51 0)) dX12_disturb_72 (by decide) rfl (xin_ok (by decide)) (by decide) rfl ?_
            refine x_icmp_ge (tgt := 79) dX12_disturb_73 (by decide) (fun c10 => ?_) (fun c10 => ?_)
            · replace h := xif_p c10 h
              refine x_iconst (v := 0) dX12_disturb_79 (by decide) ?_
              refine x_istore (ls' := [_, _, _, _, _, _, _, _]) dX12_disturb_80 rfl rfl ?_
              refine x_iload dX12_disturb_82 rfl ?_
              refine x_istore (ls' := [_, _, _, _, _, _, _, _]) dX12_disturb_84 rfl rfl ?_
              refine x_iload_n dX12_disturb_86 rfl ?_
              refine x_istore (ls' := [_, _, _, _, _, _, _, _]) dX12_disturb_87 rfl rfl ?_
              refine V.drop1 (i := 4) (ls' := [_, _, _, _, _, _, _, _]) rfl ?_
              obtain ⟨u16, hu16, h⟩ := Option.bind_eq_some_iff.mp h
              show V yX12_disturb cX12_disturb (some .int) 2 61 (0, 0) 89 [some (.ref 44), some (.int p1), some (.int p2), some (.int p3), none, some (.int 0), some (.int p4), some (.int p1)] [] (xof s0 [W_44 (upd o44 0 0), W_48 a48, W_51 a51]) _
              refine lv_X12_disturb_44_89 s0 _ (upd o44 0 0) a51 p1 p2 p3 _ n 0 p4 p1 a48 _ hu16 ?_
              refine x_iload dX12_disturb_147 rfl ?_
              cases h
              exact x_iret dX12_disturb_149 ⟨rfl, rfl, rfl⟩
            · replace h := xif_n c10 h
              refine x_bipush (v := -5) dX12_disturb_76 (by decide) ?_
              cases h
              exact x_iret dX12_disturb_78 ⟨rfl, rfl, rfl⟩
          · replace h := xif_p c9 h
            refine x_bipush (v := -3) dX12_disturb_63 (by decide) ?_
            cases h
            exact x_iret dX12_disturb_65 ⟨rfl, rfl, rfl⟩
  · replace h := xif_p c2 h
    refine x_bipush (v := -2) dX12_disturb_13 (by decide) ?_
    cases h
    exact x_iret dX12_disturb_15 ⟨rfl, rfl, rfl⟩
def f_X12_bit_44 (o44 : Nat → Int32) (a48 : Nat → Int32) (p1 : Int32) : Option (((Int32) × (Nat → Int32))) := (Option.bind (f_X12_isBit_44 (upd o44 0 0) p1) (fun q1 => (if q1 = 0 then (some ((-1), upd o44 0 0)) else (bif xin p1 9600 then (some ((a48 (Int32.toNatClampNeg p1)), upd o44 0 0)) else none))))
set_option maxRecDepth 100000 in
set_option maxHeartbeats 400000 in
theorem v_X12_bit_44 (s0 : XW) (o44 : Nat → Int32) (a48 : Nat → Int32) (p1 : Int32) (q : ((Int32) × (Nat → Int32))) (h : f_X12_bit_44 o44 a48 p1 = some q) : C_X12_bit 2 61 [.ref 44, .int p1] (xof s0 [W_44 o44, W_48 a48]) (some (.int q.1)) (xof s0 [W_44 q.2, W_48 a48]) := by
  unfold f_X12_bit_44 at h
  show V yX12_bit cX12_bit (some .int) 2 61 (0, 0) 0 [some (.ref 44), some (.int p1)] [] (xof s0 [W_44 o44, W_48 a48]) _
  refine x_aload_n dX12_bit_0 rfl ?_
  refine x_iconst (v := 0) dX12_bit_1 (by decide) ?_
  refine p_X12_1 (fs' := [_, _, _, _, _, _, _, _, _, _, _, _, _, _, _, _, _, _, _, _, _, _]) (L' := [(44, _), (48, _)]) rfl dX12_bit_2 (by decide) rfl (Nat.le_of_ble_eq_true rfl) rfl rfl ?_
  refine x_aload_n dX12_bit_5 rfl ?_
  refine x_iload_n dX12_bit_6 rfl ?_
  obtain ⟨q1, hq1, h⟩ := Option.bind_eq_some_iff.mp h
  refine y_callVi (L' := [(44, _), (48, _)]) mi_X12_isBit ml_X12_131 im_X12_isBit se_X12_isBit (rfl : vwCl[11]? = _) dX12_bit_7 (fun s1 => v_X12_isBit_44 s1 _ _ q1 hq1) (by decide) rfl (Nat.le_of_ble_eq_true rfl) rfl (by decide) (Nat.le_of_ble_eq_true rfl) rfl rfl rfl rfl ?_
  refine x_if_eq (tgt := 22) dX12_bit_10 (by decide) (fun c2 => ?_) (fun c2 => ?_)
  · replace h := xif_p c2 h
    refine x_iconst (v := -1) dX12_bit_22 (by decide) ?_
    cases h
    exact x_iret dX12_bit_23 ⟨rfl, rfl, rfl⟩
  · replace h := xif_n c2 h
    refine x_aload_n dX12_bit_13 rfl ?_
    refine g_X12_23 rfl dX12_bit_14 (by decide) rfl rfl ?_
    refine x_iload_n dX12_bit_17 rfl ?_
    obtain ⟨c3, h⟩ := xck h
    refine x_ialdK (jn := (Int32.toNatClampNeg p1)) (v := (a48 (Int32.toNatClampNeg p1))) dX12_bit_18 (by decide) rfl (xin_ok c3) rfl rfl ?_
    refine x_goto (tgt := 23) dX12_bit_19 (by decide) ?_
    cases h
    exact x_iret dX12_bit_23 ⟨rfl, rfl, rfl⟩
def f_X12_empty_44 (o44 : Nat → Int32) (a51 : Nat → Int32)  : Option (((Int32) × (Nat → Int32) × (Nat → Int32))) := (some ((o44 6), upd (upd (upd (upd (upd o44 0 0) 6 0) 7 0) 8 0) 9 0, upd a51 0 0))
set_option maxRecDepth 100000 in
set_option maxHeartbeats 400000 in
theorem v_X12_empty_44 (s0 : XW) (o44 : Nat → Int32) (a51 : Nat → Int32)  (q : ((Int32) × (Nat → Int32) × (Nat → Int32))) (h : f_X12_empty_44 o44 a51 = some q) : C_X12_empty 0 61 [.ref 44] (xof s0 [W_44 o44, W_51 a51]) (some (.int q.1)) (xof s0 [W_44 q.2.1, W_51 q.2.2]) := by
  unfold f_X12_empty_44 at h
  show V yX12_empty cX12_empty (some .int) 0 61 (0, 0) 0 [some (.ref 44), none] [] (xof s0 [W_44 o44, W_51 a51]) _
  refine x_aload_n dX12_empty_0 rfl ?_
  refine x_iconst (v := 0) dX12_empty_1 (by decide) ?_
  refine p_X12_1 (fs' := [_, _, _, _, _, _, _, _, _, _, _, _, _, _, _, _, _, _, _, _, _, _]) (L' := [(44, _), (51, _)]) rfl dX12_empty_2 (by decide) rfl (Nat.le_of_ble_eq_true rfl) rfl rfl ?_
  refine x_aload_n dX12_empty_5 rfl ?_
  refine g_X12_64 rfl dX12_empty_6 (by decide) rfl rfl ?_
  refine x_istore_n (ls' := [_, _]) dX12_empty_9 rfl rfl ?_
  refine x_aload_n dX12_empty_10 rfl ?_
  refine x_iconst (v := 0) dX12_empty_11 (by decide) ?_
  refine p_X12_64 (fs' := [_, _, _, _, _, _, _, _, _, _, _, _, _, _, _, _, _, _, _, _, _, _]) (L' := [(44, _), (51, _)]) rfl dX12_empty_12 (by decide) rfl (Nat.le_of_ble_eq_true rfl) rfl rfl ?_
  refine x_aload_n dX12_empty_15 rfl ?_
  refine x_iconst (v := 0) dX12_empty_16 (by decide) ?_
  refine p_X12_109 (fs' := [_, _, _, _, _, _, _, _, _, _, _, _, _, _, _, _, _, _, _, _, _, _]) (L' := [(44, _), (51, _)]) rfl dX12_empty_17 (by decide) rfl (Nat.le_of_ble_eq_true rfl) rfl rfl ?_
  refine x_aload_n dX12_empty_20 rfl ?_
  refine x_iconst (v := 0) dX12_empty_21 (by decide) ?_
  refine p_X12_103 (fs' := [_, _, _, _, _, _, _, _, _, _, _, _, _, _, _, _, _, _, _, _, _, _]) (L' := [(44, _), (51, _)]) rfl dX12_empty_22 (by decide) rfl (Nat.le_of_ble_eq_true rfl) rfl rfl ?_
  refine x_aload_n dX12_empty_25 rfl ?_
  refine x_iconst (v := 0) dX12_empty_26 (by decide) ?_
  refine p_X12_106 (fs' := [_, _, _, _, _, _, _, _, _, _, _, _, _, _, _, _, _, _, _, _, _, _]) (L' := [(44, _), (51, _)]) rfl dX12_empty_27 (by decide) rfl (Nat.le_of_ble_eq_true rfl) rfl rfl ?_
  refine x_aload_n dX12_empty_30 rfl ?_
  refine g_X12_32 rfl dX12_empty_31 (by decide) rfl rfl ?_
  refine x_iconst (v := 0) dX12_empty_34 (by decide) ?_
  refine x_iconst (v := 0) dX12_empty_35 (by decide) ?_
  refine x_iastK (jn := 0) (L' := [(44, _), (51, _)]) dX12_empty_36 (by decide) rfl (xin_ok (by decide)) (by decide) rfl ?_
  refine x_iload_n dX12_empty_37 rfl ?_
  cases h
  exact x_iret dX12_empty_38 ⟨rfl, rfl, rfl⟩
def b_X12_terms_44_78  (o44 : Nat → Int32) (a45 : Nat → Int32) (a46 : Nat → Int32) (a47 : Nat → Int32) (a51 : Nat → Int32) (l1 : Int32) (l2 : Int32) : Option (((Int32) × (Nat → Int32) × (Nat → Int32))) := (bif xin l1 7 then (bif xin l1 7 then (some ((a45 (Int32.toNatClampNeg l1)), o44, upd a45 ((Int32.toNatClampNeg l1)) l2)) else none) else none)
set_option maxRecDepth 100000 in
set_option maxHeartbeats 400000 in
theorem vb_X12_terms_44_78 (s0 : XW)  (o44 : Nat → Int32) (a45 : Nat → Int32) (a46 : Nat → Int32) (a47 : Nat → Int32) (a51 : Nat → Int32) (l1 : Int32) (l2 : Int32) (q : ((Int32) × (Nat → Int32) × (Nat → Int32))) (h : b_X12_terms_44_78 o44 a45 a46 a47 a51 l1 l2 = some q) : V yX12_terms cX12_terms (some .int) 1 61 (0, 0) 78 [some (.ref 44), some (.int l1), some (.int l2), none] [] (xof s0 [W_44 o44, W_45 a45, W_46 a46, W_47 a47, W_51 a51]) (xq 61 (some (.int q.1)) (xof s0 [W_44 q.2.1, W_45 q.2.2, W_46 a46, W_47 a47, W_51 a51])) := by
  unfold b_X12_terms_44_78 at h
  refine x_aload_n dX12_terms_78 rfl ?_
  refine g_X12_13 rfl dX12_terms_79 (by decide) rfl rfl ?_
  refine x_iload_n dX12_terms_82 rfl ?_
  obtain ⟨c8, h⟩ := xck h
  refine x_ialdK (jn := (Int32.toNatClampNeg l1)) (v := (a45 (Int32.toNatClampNeg l1))) dX12_terms_83 (by decide) rfl (xin_ok c8) rfl rfl ?_
  refine x_istore_n (ls' := [_, _, _, _]) dX12_terms_84 rfl rfl ?_
  refine x_aload_n dX12_terms_85 rfl ?_
  refine g_X12_13 rfl dX12_terms_86 (by decide) rfl rfl ?_
  refine x_iload_n dX12_terms_89 rfl ?_
  refine x_iload_n dX12_terms_90 rfl ?_
  obtain ⟨c9, h⟩ := xck h
  refine x_iastK (jn := (Int32.toNatClampNeg l1)) (L' := [(44, _), (45, _), (46, _), (47, _), (51, _)]) dX12_terms_91 (by decide) rfl (xin_ok c9) rfl rfl ?_
  refine x_iload_n dX12_terms_92 rfl ?_
  cases h
  exact x_iret dX12_terms_93 ⟨rfl, rfl, rfl⟩
def f_X12_terms_44 (o44 : Nat → Int32) (a45 : Nat → Int32) (a46 : Nat → Int32) (a47 : Nat → Int32) (a51 : Nat → Int32) (p1 : Int32) (p2 : Int32) : Option (((Int32) × (Nat → Int32) × (Nat → Int32))) := (Option.bind (f_X12_isIn ((Int32.toInt64 p1)) 0 6) (fun q1 => (if q1 = 0 then (some ((-2), upd o44 0 0, a45)) else (bif xin p1 7 then (bif xin p1 7 then (Option.bind (f_X12_isIn ((Int32.toInt64 p2)) ((Int32.toInt64 (a46 (Int32.toNatClampNeg p1)))) ((Int32.toInt64 (a47 (Int32.toNatClampNeg p1))))) (fun q5 => (if q5 = 0 then (some ((-3), upd o44 0 0, a45)) else (if p1 = 0 then (if 0 < (o44 7) then (some ((-5), upd o44 0 0, a45)) else (if (a51 1) = 0 then (if (a51 16) ≤ 0 then (b_X12_terms_44_78 (upd o44 0 0) a45 a46 a47 a51 p1 p2) else (some ((-5), upd o44 0 0, a45))) else (some ((-5), upd o44 0 0, a45)))) else (b_X12_terms_44_78 (upd o44 0 0) a45 a46 a47 a51 p1 p2))))) else none) else none))))
set_option maxRecDepth 100000 in
set_option maxHeartbeats 400000 in
theorem v_X12_terms_44 (s0 : XW) (o44 : Nat → Int32) (a45 : Nat → Int32) (a46 : Nat → Int32) (a47 : Nat → Int32) (a51 : Nat → Int32) (p1 : Int32) (p2 : Int32) (q : ((Int32) × (Nat → Int32) × (Nat → Int32))) (h : f_X12_terms_44 o44 a45 a46 a47 a51 p1 p2 = some q) : C_X12_terms 1 61 [.ref 44, .int p1, .int p2] (xof s0 [W_44 o44, W_45 a45, W_46 a46, W_47 a47, W_51 a51]) (some (.int q.1)) (xof s0 [W_44 q.2.1, W_45 q.2.2, W_46 a46, W_47 a47, W_51 a51]) := by
  unfold f_X12_terms_44 at h
  show V yX12_terms cX12_terms (some .int) 1 61 (0, 0) 0 [some (.ref 44), some (.int p1), some (.int p2), none] [] (xof s0 [W_44 o44, W_45 a45, W_46 a46, W_47 a47, W_51 a51]) _
  refine x_aload_n dX12_terms_0 rfl ?_
  refine x_iconst (v := 0) dX12_terms_1 (by decide) ?_
  refine p_X12_1 (fs' := [_, _, _, _, _, _, _, _, _, _, _, _, _, _, _, _, _, _, _, _, _, _]) (L' := [(44, _), (45, _), (46, _), (47, _), (51, _)]) rfl dX12_terms_2 (by decide) rfl (Nat.le_of_ble_eq_true rfl) rfl rfl ?_
  refine x_iload_n dX12_terms_5 rfl ?_
  refine x_i2l dX12_terms_6 ?_
  refine x_lconst (v := 0) dX12_terms_7 (by decide) ?_
  refine x_ldc2 dX12_terms_8 cn_X12_140 ?_
  obtain ⟨q1, hq1, h⟩ := Option.bind_eq_some_iff.mp h
  refine y_callSi (L' := [(44, _), (45, _), (46, _), (47, _), (51, _)]) mi_X12_isIn ml_X12_77 st_X12_isIn dX12_terms_11 (fun s1 => v_X12_isIn 61 s1 _ _ _ q1 hq1) (Nat.le_of_ble_eq_true rfl) rfl (by decide) (Nat.le_of_ble_eq_true rfl) rfl rfl rfl rfl ?_
  refine x_if_ne (tgt := 20) dX12_terms_14 (by decide) (fun c2 => ?_) (fun c2 => ?_)
  · replace h := xif_n c2 h
    refine x_iload_n dX12_terms_20 rfl ?_
    refine x_i2l dX12_terms_21 ?_
    refine x_aload_n dX12_terms_22 rfl ?_
    refine g_X12_17 rfl dX12_terms_23 (by decide) rfl rfl ?_
    refine x_iload_n dX12_terms_26 rfl ?_
    obtain ⟨c3, h⟩ := xck h
    refine x_ialdK (jn := (Int32.toNatClampNeg p1)) (v := (a46 (Int32.toNatClampNeg p1))) dX12_terms_27 (by decide) rfl (xin_ok c3) rfl rfl ?_
    refine x_i2l dX12_terms_28 ?_
    refine x_aload_n dX12_terms_29 rfl ?_
    refine g_X12_20 rfl dX12_terms_30 (by decide) rfl rfl ?_
    refine x_iload_n dX12_terms_33 rfl ?_
    obtain ⟨c4, h⟩ := xck h
    refine x_ialdK (jn := (Int32.toNatClampNeg p1)) (v := (a47 (Int32.toNatClampNeg p1))) dX12_terms_34 (by decide) rfl (xin_ok c4) rfl rfl ?_
    refine x_i2l dX12_terms_35 ?_
    obtain ⟨q5, hq5, h⟩ := Option.bind_eq_some_iff.mp h
    refine y_callSi (L' := [(44, _), (45, _), (46, _), (47, _), (51, _)]) mi_X12_isIn ml_X12_77 st_X12_isIn dX12_terms_36 (fun s1 => v_X12_isIn 61 s1 _ _ _ q5 hq5) (Nat.le_of_ble_eq_true rfl) rfl (by decide) (Nat.le_of_ble_eq_true rfl) rfl rfl rfl rfl ?_
    refine x_if_ne (tgt := 45) dX12_terms_39 (by decide) (fun c6 => ?_) (fun c6 => ?_)
    · replace h := xif_n c6 h
      refine x_iload_n dX12_terms_45 rfl ?_
      refine x_if_ne (tgt := 78) dX12_terms_46 (by decide) (fun c7 => ?_) (fun c7 => ?_)
      · replace h := xif_n c7 h
        show V yX12_terms cX12_terms (some .int) 1 61 (0, 0) 78 [some (.ref 44), some (.int p1), some (.int p2), none] [] (xof s0 [W_44 (upd o44 0 0), W_45 a45, W_46 a46, W_47 a47, W_51 a51]) _
        exact vb_X12_terms_44_78 s0 (upd o44 0 0) a45 a46 a47 a51 p1 p2 q h
      · replace h := xif_p c7 h
        refine x_aload_n dX12_terms_49 rfl ?_
        refine g_X12_109 rfl dX12_terms_50 (by decide) rfl rfl ?_
        refine x_if_gt (tgt := 75) dX12_terms_53 (by decide) (fun c10 => ?_) (fun c10 => ?_)
        · replace h := xif_p c10 h
          refine x_bipush (v := -5) dX12_terms_75 (by decide) ?_
          cases h
          exact x_iret dX12_terms_77 ⟨rfl, rfl, rfl⟩
        · replace h := xif_n c10 h
          refine x_aload_n dX12_terms_56 rfl ?_
          refine g_X12_32 rfl dX12_terms_57 (by decide) rfl rfl ?_
          refine x_iconst (v := 1) dX12_terms_60 (by decide) ?_
          refine x_ialdK (jn := 1) (v := (a51 1)) dX12_terms_61 (by decide) rfl (xin_ok (by decide)) (by decide) rfl ?_
          refine x_if_ne (tgt := 75) dX12_terms_62 (by decide) (fun c11 => ?_) (fun c11 => ?_)
          · replace h := xif_n c11 h
            refine x_bipush (v := -5) dX12_terms_75 (by decide) ?_
            cases h
            exact x_iret dX12_terms_77 ⟨rfl, rfl, rfl⟩
          · replace h := xif_p c11 h
            refine x_aload_n dX12_terms_65 rfl ?_
            refine g_X12_32 rfl dX12_terms_66 (by decide) rfl rfl ?_
            refine x_bipush (v := 16) dX12_terms_69 (by decide) ?_
            refine x_ialdK (jn := 16) (v := (a51 16)) dX12_terms_71 (by decide) rfl (xin_ok (by decide)) (by decide) rfl ?_
            refine x_if_le (tgt := 78) dX12_terms_72 (by decide) (fun c12 => ?_) (fun c12 => ?_)
            · replace h := xif_p c12 h
              show V yX12_terms cX12_terms (some .int) 1 61 (0, 0) 78 [some (.ref 44), some (.int p1), some (.int p2), none] [] (xof s0 [W_44 (upd o44 0 0), W_45 a45, W_46 a46, W_47 a47, W_51 a51]) _
              exact vb_X12_terms_44_78 s0 (upd o44 0 0) a45 a46 a47 a51 p1 p2 q h
            · replace h := xif_n c12 h
              refine x_bipush (v := -5) dX12_terms_75 (by decide) ?_
              cases h
              exact x_iret dX12_terms_77 ⟨rfl, rfl, rfl⟩
    · replace h := xif_p c6 h
      refine x_bipush (v := -3) dX12_terms_42 (by decide) ?_
      cases h
      exact x_iret dX12_terms_44 ⟨rfl, rfl, rfl⟩
  · replace h := xif_p c2 h
    refine x_bipush (v := -2) dX12_terms_17 (by decide) ?_
    cases h
    exact x_iret dX12_terms_19 ⟨rfl, rfl, rfl⟩
def f_X12_counts_44 (o44 : Nat → Int32) (a51 : Nat → Int32) (p1 : Int32) : Option (Nat → Int32) := (bif xin (13 + p1) 875 then (bif xin (13 + p1) 875 then (some (upd a51 ((Int32.toNatClampNeg (13 + p1))) (((a51 (Int32.toNatClampNeg (13 + p1))) + 1)))) else none) else none)
set_option maxRecDepth 100000 in
set_option maxHeartbeats 400000 in
theorem v_X12_counts_44 (s0 : XW) (o44 : Nat → Int32) (a51 : Nat → Int32) (p1 : Int32) (q : Nat → Int32) (h : f_X12_counts_44 o44 a51 p1 = some q) : C_X12_counts 0 61 [.ref 44, .int p1] (xof s0 [W_44 o44, W_51 a51]) none (xof s0 [W_44 o44, W_51 q]) := by
  unfold f_X12_counts_44 at h
  show V yX12_counts cX12_counts none 0 61 (0, 0) 0 [some (.ref 44), some (.int p1)] [] (xof s0 [W_44 o44, W_51 a51]) _
  refine x_aload_n dX12_counts_0 rfl ?_
  refine g_X12_32 rfl dX12_counts_1 (by decide) rfl rfl ?_
  refine x_bipush (v := 13) dX12_counts_4 (by decide) ?_
  refine x_iload_n dX12_counts_6 rfl ?_
  refine x_iadd dX12_counts_7 ?_
  refine x_dup2 dX12_counts_8 rfl rfl ?_
  obtain ⟨c1, h⟩ := xck h
  refine x_ialdK (jn := (Int32.toNatClampNeg (13 + p1))) (v := (a51 (Int32.toNatClampNeg (13 + p1)))) dX12_counts_9 (by decide) rfl (xin_ok c1) rfl rfl ?_
  refine x_iconst (v := 1) dX12_counts_10 (by decide) ?_
  refine x_iadd dX12_counts_11 ?_
  obtain ⟨c2, h⟩ := xck h
  refine x_iastK (jn := (Int32.toNatClampNeg (13 + p1))) (L' := [(44, _), (51, _)]) dX12_counts_12 (by decide) rfl (xin_ok c2) rfl rfl ?_
  cases h
  exact x_vret dX12_counts_13 ⟨rfl, rfl, rfl⟩
def f_X12_syndromeNow_44 (n : Nat) (o44 : Nat → Int32) (a51 : Nat → Int32)  : Option Int32 := (Option.bind (f_X12_checkOf n ((a51 27))) (fun q1 => (some ((q1 ^^^ (a51 28))))))
set_option maxRecDepth 100000 in
set_option maxHeartbeats 400000 in
theorem v_X12_syndromeNow_44 (s0 : XW) (n : Nat) (o44 : Nat → Int32) (a51 : Nat → Int32)  (q : Int32) (h : f_X12_syndromeNow_44 n o44 a51 = some q) : C_X12_syndromeNow 2 61 [.ref 44] (xof s0 [W_44 o44, W_51 a51]) (some (.int q)) (xof s0 [W_44 o44, W_51 a51]) := by
  unfold f_X12_syndromeNow_44 at h
  show V yX12_syndromeNow cX12_syndromeNow (some .int) 2 61 (0, 0) 0 [some (.ref 44)] [] (xof s0 [W_44 o44, W_51 a51]) _
  refine x_aload_n dX12_syndromeNow_0 rfl ?_
  refine g_X12_32 rfl dX12_syndromeNow_1 (by decide) rfl rfl ?_
  refine x_bipush (v := 27) dX12_syndromeNow_4 (by decide) ?_
  refine x_ialdK (jn := 27) (v := (a51 27)) dX12_syndromeNow_6 (by decide) rfl (xin_ok (by decide)) (by decide) rfl ?_
  obtain ⟨q1, hq1, h⟩ := Option.bind_eq_some_iff.mp h
  refine y_callSi (L' := [(44, _), (51, _)]) mi_X12_checkOf ml_X12_88 st_X12_checkOf dX12_syndromeNow_7 (fun s1 => v_X12_checkOf 61 s1 n _ q1 hq1) (Nat.le_of_ble_eq_true rfl) rfl (by decide) (Nat.le_of_ble_eq_true rfl) rfl rfl rfl rfl ?_
  refine x_aload_n dX12_syndromeNow_10 rfl ?_
  refine g_X12_32 rfl dX12_syndromeNow_11 (by decide) rfl rfl ?_
  refine x_bipush (v := 28) dX12_syndromeNow_14 (by decide) ?_
  refine x_ialdK (jn := 28) (v := (a51 28)) dX12_syndromeNow_16 (by decide) rfl (xin_ok (by decide)) (by decide) rfl ?_
  refine x_ixor dX12_syndromeNow_17 ?_
  cases h
  exact x_iret dX12_syndromeNow_18 ⟨rfl, rfl, rfl⟩
def b_X12_turns_44_83  (o44 : Nat → Int32) (a51 : Nat → Int32) (l1 : Int32) : Option (Nat → Int32) := (some (upd (upd (upd (upd (upd (upd a51 1 l1) 6 0) 7 0) 8 0) 9 0) 874 0))
set_option maxRecDepth 100000 in
set_option maxHeartbeats 400000 in
theorem vb_X12_turns_44_83 (s0 : XW)  (o44 : Nat → Int32) (a51 : Nat → Int32) (l1 : Int32) (q : Nat → Int32) (h : b_X12_turns_44_83 o44 a51 l1 = some q) : V yX12_turns cX12_turns none 1 61 (0, 0) 83 [some (.ref 44), some (.int l1), none] [] (xof s0 [W_44 o44, W_51 a51]) (xq 61 none (xof s0 [W_44 o44, W_51 q])) := by
  unfold b_X12_turns_44_83 at h
  refine x_aload_n dX12_turns_83 rfl ?_
  refine g_X12_32 rfl dX12_turns_84 (by decide) rfl rfl ?_
  refine x_iconst (v := 1) dX12_turns_87 (by decide) ?_
  refine x_iload_n dX12_turns_88 rfl ?_
  refine x_iastK (jn := 1) (L' := [(44, _), (51, _)]) dX12_turns_89 (by decide) rfl (xin_ok (by decide)) (by decide) rfl ?_
  refine x_aload_n dX12_turns_90 rfl ?_
  refine g_X12_32 rfl dX12_turns_91 (by decide) rfl rfl ?_
  refine x_bipush (v := 6) dX12_turns_94 (by decide) ?_
  refine x_iconst (v := 0) dX12_turns_96 (by decide) ?_
  refine x_iastK (jn := 6) (L' := [(44, _), (51, _)]) dX12_turns_97 (by decide) rfl (xin_ok (by decide)) (by decide) rfl ?_
  refine x_aload_n dX12_turns_98 rfl ?_
  refine g_X12_32 rfl dX12_turns_99 (by decide) rfl rfl ?_
  refine x_bipush (v := 7) dX12_turns_102 (by decide) ?_
  refine x_iconst (v := 0) dX12_turns_104 (by decide) ?_
  refine x_iastK (jn := 7) (L' := [(44, _), (51, _)]) dX12_turns_105 (by decide) rfl (xin_ok (by decide)) (by decide) rfl ?_
  refine x_aload_n dX12_turns_106 rfl ?_
  refine g_X12_32 rfl dX12_turns_107 (by decide) rfl rfl ?_
  refine x_bipush (v := 8) dX12_turns_110 (by decide) ?_
  refine x_iconst (v := 0) dX12_turns_112 (by decide) ?_
  refine x_iastK (jn := 8) (L' := [(44, _), (51, _)]) dX12_turns_113 (by decide) rfl (xin_ok (by decide)) (by decide) rfl ?_
  refine x_aload_n dX12_turns_114 rfl ?_
  refine g_X12_32 rfl dX12_turns_115 (by decide) rfl rfl ?_
  refine x_bipush (v := 9) dX12_turns_118 (by decide) ?_
  refine x_iconst (v := 0) dX12_turns_120 (by decide) ?_
  refine x_iastK (jn := 9) (L' := [(44, _), (51, _)]) dX12_turns_121 (by decide) rfl (xin_ok (by decide)) (by decide) rfl ?_
  refine x_aload_n dX12_turns_122 rfl ?_
  refine g_X12_32 rfl dX12_turns_123 (by decide) rfl rfl ?_
  refine x_sipush (v := 874) dX12_turns_126 (by decide) ?_
  refine x_iconst (v := 0) dX12_turns_129 (by decide) ?_
  refine x_iastK (jn := 874) (L' := [(44, _), (51, _)]) dX12_turns_130 (by decide) rfl (xin_ok (by decide)) (by decide) rfl ?_
  cases h
  exact x_vret dX12_turns_131 ⟨rfl, rfl, rfl⟩
def b_X12_turns_44_68  (o44 : Nat → Int32) (a51 : Nat → Int32) (l1 : Int32) : Option (Nat → Int32) := (if (a51 1) = 2 then (Option.bind (f_X12_counts_44 o44 a51 5) (fun q7 => (b_X12_turns_44_83 o44 q7 l1))) else (b_X12_turns_44_83 o44 a51 l1))
set_option maxRecDepth 100000 in
set_option maxHeartbeats 400000 in
theorem vb_X12_turns_44_68 (s0 : XW)  (o44 : Nat → Int32) (a51 : Nat → Int32) (l1 : Int32) (q : Nat → Int32) (h : b_X12_turns_44_68 o44 a51 l1 = some q) : V yX12_turns cX12_turns none 1 61 (0, 0) 68 [some (.ref 44), some (.int l1), none] [] (xof s0 [W_44 o44, W_51 a51]) (xq 61 none (xof s0 [W_44 o44, W_51 q])) := by
  unfold b_X12_turns_44_68 at h
  refine x_aload_n dX12_turns_68 rfl ?_
  refine g_X12_32 rfl dX12_turns_69 (by decide) rfl rfl ?_
  refine x_iconst (v := 1) dX12_turns_72 (by decide) ?_
  refine x_ialdK (jn := 1) (v := (a51 1)) dX12_turns_73 (by decide) rfl (xin_ok (by decide)) (by decide) rfl ?_
  refine x_iconst (v := 2) dX12_turns_74 (by decide) ?_
  refine x_icmp_ne (tgt := 83) dX12_turns_75 (by decide) (fun c6 => ?_) (fun c6 => ?_)
  · replace h := xif_n c6 h
    show V yX12_turns cX12_turns none 1 61 (0, 0) 83 [some (.ref 44), some (.int l1), none] [] (xof s0 [W_44 o44, W_51 a51]) _
    exact vb_X12_turns_44_83 s0 o44 a51 l1 q h
  · replace h := xif_p c6 h
    refine x_aload_n dX12_turns_78 rfl ?_
    refine x_iconst (v := 5) dX12_turns_79 (by decide) ?_
    obtain ⟨q7, hq7, h⟩ := Option.bind_eq_some_iff.mp h
    refine y_callVv (L' := [(44, _), (51, _)]) mi_X12_counts ml_X12_142 im_X12_counts se_X12_counts (rfl : vwCl[11]? = _) dX12_turns_80 (fun s1 => v_X12_counts_44 s1 _ _ _ q7 hq7) (by decide) rfl (Nat.le_of_ble_eq_true rfl) rfl (by decide) (Nat.le_of_ble_eq_true rfl) rfl rfl rfl rfl ?_
    show V yX12_turns cX12_turns none 1 61 (0, 0) 83 [some (.ref 44), some (.int l1), none] [] (xof s0 [W_44 o44, W_51 q7]) _
    exact vb_X12_turns_44_83 s0 o44 q7 l1 q h
def f_X12_turns_44 (o44 : Nat → Int32) (a51 : Nat → Int32) (p1 : Int32) : Option (Nat → Int32) := (bif xin (704 + (3 * ((a51 20) - (a51 20) / 24 * 24))) 875 then (bif xin ((704 + (3 * ((a51 20) - (a51 20) / 24 * 24))) + 1) 875 then (bif xin ((704 + (3 * ((a51 20) - (a51 20) / 24 * 24))) + 2) 875 then (Option.bind (f_X12_counts_44 o44 (upd (upd (upd a51 ((Int32.toNatClampNeg (704 + (3 * ((a51 20) - (a51 20) / 24 * 24))))) ((a51 0))) ((Int32.toNatClampNeg ((704 + (3 * ((a51 20) - (a51 20) / 24 * 24))) + 1))) (((upd a51 ((Int32.toNatClampNeg (704 + (3 * ((a51 20) - (a51 20) / 24 * 24))))) ((a51 0))) 1))) ((Int32.toNatClampNeg ((704 + (3 * ((a51 20) - (a51 20) / 24 * 24))) + 2))) p1) 7) (fun q4 => (if p1 = 2 then (Option.bind (f_X12_counts_44 o44 q4 4) (fun q8 => (b_X12_turns_44_68 o44 q8 p1))) else (b_X12_turns_44_68 o44 q4 p1)))) else none) else none) else none)
set_option maxRecDepth 100000 in
set_option maxHeartbeats 400000 in
theorem v_X12_turns_44 (s0 : XW) (o44 : Nat → Int32) (a51 : Nat → Int32) (p1 : Int32) (q : Nat → Int32) (h : f_X12_turns_44 o44 a51 p1 = some q) : C_X12_turns 1 61 [.ref 44, .int p1] (xof s0 [W_44 o44, W_51 a51]) none (xof s0 [W_44 o44, W_51 q]) := by
  unfold f_X12_turns_44 at h
  show V yX12_turns cX12_turns none 1 61 (0, 0) 0 [some (.ref 44), some (.int p1), none] [] (xof s0 [W_44 o44, W_51 a51]) _
  refine x_sipush (v := 704) dX12_turns_0 (by decide) ?_
  refine x_iconst (v := 3) dX12_turns_3 (by decide) ?_
  refine x_aload_n dX12_turns_4 rfl ?_
  refine g_X12_32 rfl dX12_turns_5 (by decide) rfl rfl ?_
  refine x_bipush (v := 20) dX12_turns_8 (by decide) ?_
  refine x_ialdK (jn := 20) (v := (a51 20)) dX12_turns_10 (by decide) rfl (xin_ok (by decide)) (by decide) rfl ?_
  refine x_bipush (v := 24) dX12_turns_11 (by decide) ?_
  refine x_irem dX12_turns_13 (by decide) ?_
  refine x_imul dX12_turns_14 ?_
  refine x_iadd dX12_turns_15 ?_
  refine x_istore_n (ls' := [_, _, _]) dX12_turns_16 rfl rfl ?_
  refine x_aload_n dX12_turns_17 rfl ?_
  refine g_X12_32 rfl dX12_turns_18 (by decide) rfl rfl ?_
  refine x_iload_n dX12_turns_21 rfl ?_
  refine x_aload_n dX12_turns_22 rfl ?_
  refine g_X12_32 rfl dX12_turns_23 (by decide) rfl rfl ?_
  refine x_iconst (v := 0) dX12_turns_26 (by decide) ?_
  refine x_ialdK (jn := 0) (v := (a51 0)) dX12_turns_27 (by decide) rfl (xin_ok (by decide)) (by decide) rfl ?_
  obtain ⟨c1, h⟩ := xck h
  refine x_iastK (jn := (Int32.toNatClampNeg (704 + (3 * ((a51 20) - (a51 20) / 24 * 24))))) (L' := [(44, _), (51, _)]) dX12_turns_28 (by decide) rfl (xin_ok c1) rfl rfl ?_
  refine x_aload_n dX12_turns_29 rfl ?_
  refine g_X12_32 rfl dX12_turns_30 (by decide) rfl rfl ?_
  refine x_iload_n dX12_turns_33 rfl ?_
  refine x_iconst (v := 1) dX12_turns_34 (by decide) ?_
  refine x_iadd dX12_turns_35 ?_
  refine x_aload_n dX12_turns_36 rfl ?_
  refine g_X12_32 rfl dX12_turns_37 (by decide) rfl rfl ?_
  refine x_iconst (v := 1) dX12_turns_40 (by decide) ?_
  refine x_ialdK (jn := 1) (v := ((upd a51 ((Int32.toNatClampNeg (704 + (3 * ((a51 20) - (a51 20) / 24 * 24))))) ((a51 0))) 1)) dX12_turns_41 (by decide) rfl (xin_ok (by decide)) (by decide) rfl ?_
  obtain ⟨c2, h⟩ := xck h
  refine x_iastK (jn := (Int32.toNatClampNeg ((704 + (3 * ((a51 20) - (a51 20) / 24 * 24))) + 1))) (L' := [(44, _), (51, _)]) dX12_turns_42 (by decide) rfl (xin_ok c2) rfl rfl ?_
  refine x_aload_n dX12_turns_43 rfl ?_
  refine g_X12_32 rfl dX12_turns_44 (by decide) rfl rfl ?_
  refine x_iload_n dX12_turns_47 rfl ?_
  refine x_iconst (v := 2) dX12_turns_48 (by decide) ?_
  refine x_iadd dX12_turns_49 ?_
  refine x_iload_n dX12_turns_50 rfl ?_
  obtain ⟨c3, h⟩ := xck h
  refine x_iastK (jn := (Int32.toNatClampNeg ((704 + (3 * ((a51 20) - (a51 20) / 24 * 24))) + 2))) (L' := [(44, _), (51, _)]) dX12_turns_51 (by decide) rfl (xin_ok c3) rfl rfl ?_
  refine x_aload_n dX12_turns_52 rfl ?_
  refine x_bipush (v := 7) dX12_turns_53 (by decide) ?_
  obtain ⟨q4, hq4, h⟩ := Option.bind_eq_some_iff.mp h
  refine y_callVv (L' := [(44, _), (51, _)]) mi_X12_counts ml_X12_142 im_X12_counts se_X12_counts (rfl : vwCl[11]? = _) dX12_turns_55 (fun s1 => v_X12_counts_44 s1 _ _ _ q4 hq4) (by decide) rfl (Nat.le_of_ble_eq_true rfl) rfl (by decide) (Nat.le_of_ble_eq_true rfl) rfl rfl rfl rfl ?_
  refine x_iload_n dX12_turns_58 rfl ?_
  refine x_iconst (v := 2) dX12_turns_59 (by decide) ?_
  refine x_icmp_ne (tgt := 68) dX12_turns_60 (by decide) (fun c5 => ?_) (fun c5 => ?_)
  · replace h := xif_n c5 h
    refine V.drop1 (i := 2) (ls' := [_, _, _]) rfl ?_
    show V yX12_turns cX12_turns none 1 61 (0, 0) 68 [some (.ref 44), some (.int p1), none] [] (xof s0 [W_44 o44, W_51 q4]) _
    exact vb_X12_turns_44_68 s0 o44 q4 p1 q h
  · replace h := xif_p c5 h
    refine x_aload_n dX12_turns_63 rfl ?_
    refine x_iconst (v := 4) dX12_turns_64 (by decide) ?_
    obtain ⟨q8, hq8, h⟩ := Option.bind_eq_some_iff.mp h
    refine y_callVv (L' := [(44, _), (51, _)]) mi_X12_counts ml_X12_142 im_X12_counts se_X12_counts (rfl : vwCl[11]? = _) dX12_turns_65 (fun s1 => v_X12_counts_44 s1 _ _ _ q8 hq8) (by decide) rfl (Nat.le_of_ble_eq_true rfl) rfl (by decide) (Nat.le_of_ble_eq_true rfl) rfl rfl rfl rfl ?_
    refine V.drop1 (i := 2) (ls' := [_, _, _]) rfl ?_
    show V yX12_turns cX12_turns none 1 61 (0, 0) 68 [some (.ref 44), some (.int p1), none] [] (xof s0 [W_44 o44, W_51 q8]) _
    exact vb_X12_turns_44_68 s0 o44 q8 p1 q h
def f_X12_hunts_44 (n : Nat) (o44 : Nat → Int32) (a45 : Nat → Int32) (a51 : Nat → Int32)  : Option (Nat → Int32) := (bif xnz (a45 6) then (if (((a51 874) + 1) - ((a51 874) + 1) / (a45 6) * (a45 6)) = 0 then (if (a51 5) < 40 then (some (upd a51 874 (((a51 874) + 1)))) else (Option.bind (f_X12_syndromeNow_44 n o44 (upd a51 874 (((a51 874) + 1)))) (fun q4 => (if q4 = 0 then (Option.bind (f_X12_turns_44 o44 (upd a51 874 (((a51 874) + 1))) 1) (fun q6 => (some (upd q6 2 0)))) else (some (upd a51 874 (((a51 874) + 1)))))))) else (some (upd a51 874 (((a51 874) + 1))))) else none)
set_option maxRecDepth 100000 in
set_option maxHeartbeats 400000 in
theorem v_X12_hunts_44 (s0 : XW) (n : Nat) (o44 : Nat → Int32) (a45 : Nat → Int32) (a51 : Nat → Int32)  (q : Nat → Int32) (h : f_X12_hunts_44 n o44 a45 a51 = some q) : C_X12_hunts 3 61 [.ref 44] (xof s0 [W_44 o44, W_45 a45, W_51 a51]) none (xof s0 [W_44 o44, W_45 a45, W_51 q]) := by
  unfold f_X12_hunts_44 at h
  show V yX12_hunts cX12_hunts none 3 61 (0, 0) 0 [some (.ref 44)] [] (xof s0 [W_44 o44, W_45 a45, W_51 a51]) _
  refine x_aload_n dX12_hunts_0 rfl ?_
  refine g_X12_32 rfl dX12_hunts_1 (by decide) rfl rfl ?_
  refine x_sipush (v := 874) dX12_hunts_4 (by decide) ?_
  refine x_dup2 dX12_hunts_7 rfl rfl ?_
  refine x_ialdK (jn := 874) (v := (a51 874)) dX12_hunts_8 (by decide) rfl (xin_ok (by decide)) (by decide) rfl ?_
  refine x_iconst (v := 1) dX12_hunts_9 (by decide) ?_
  refine x_iadd dX12_hunts_10 ?_
  refine x_iastK (jn := 874) (L' := [(44, _), (45, _), (51, _)]) dX12_hunts_11 (by decide) rfl (xin_ok (by decide)) (by decide) rfl ?_
  refine x_aload_n dX12_hunts_12 rfl ?_
  refine g_X12_32 rfl dX12_hunts_13 (by decide) rfl rfl ?_
  refine x_sipush (v := 874) dX12_hunts_16 (by decide) ?_
  refine x_ialdK (jn := 874) (v := ((a51 874) + 1)) dX12_hunts_19 (by decide) rfl (xin_ok (by decide)) (by decide) rfl ?_
  refine x_aload_n dX12_hunts_20 rfl ?_
  refine g_X12_13 rfl dX12_hunts_21 (by decide) rfl rfl ?_
  refine x_bipush (v := 6) dX12_hunts_24 (by decide) ?_
  refine x_ialdK (jn := 6) (v := (a45 6)) dX12_hunts_26 (by decide) rfl (xin_ok (by decide)) (by decide) rfl ?_
  obtain ⟨c1, h⟩ := xck h
  refine x_irem dX12_hunts_27 (xnz_ok c1) ?_
  refine x_if_ne (tgt := 49) dX12_hunts_28 (by decide) (fun c2 => ?_) (fun c2 => ?_)
  · replace h := xif_n c2 h
    cases h
    exact x_vret dX12_hunts_49 ⟨rfl, rfl, rfl⟩
  · replace h := xif_p c2 h
    refine x_aload_n dX12_hunts_31 rfl ?_
    refine g_X12_32 rfl dX12_hunts_32 (by decide) rfl rfl ?_
    refine x_iconst (v := 5) dX12_hunts_35 (by decide) ?_
    refine x_ialdK (jn := 5) (v := (a51 5)) dX12_hunts_36 (by decide) rfl (xin_ok (by decide)) (by decide) rfl ?_
    refine x_bipush (v := 40) dX12_hunts_37 (by decide) ?_
    refine x_icmp_lt (tgt := 49) dX12_hunts_39 (by decide) (fun c3 => ?_) (fun c3 => ?_)
    · replace h := xif_p c3 h
      cases h
      exact x_vret dX12_hunts_49 ⟨rfl, rfl, rfl⟩
    · replace h := xif_n c3 h
      refine x_aload_n dX12_hunts_42 rfl ?_
      obtain ⟨q4, hq4, h⟩ := Option.bind_eq_some_iff.mp h
      refine y_callVi (L' := [(44, _), (45, _), (51, _)]) mi_X12_syndromeNow ml_X12_154 im_X12_syndromeNow se_X12_syndromeNow (rfl : vwCl[11]? = _) dX12_hunts_43 (fun s1 => v_X12_syndromeNow_44 s1 n _ _ q4 hq4) (by decide) rfl (Nat.le_of_ble_eq_true rfl) rfl (by decide) (Nat.le_of_ble_eq_true rfl) rfl rfl rfl rfl ?_
      refine x_if_eq (tgt := 50) dX12_hunts_46 (by decide) (fun c5 => ?_) (fun c5 => ?_)
      · replace h := xif_p c5 h
        refine x_aload_n dX12_hunts_50 rfl ?_
        refine x_iconst (v := 1) dX12_hunts_51 (by decide) ?_
        obtain ⟨q6, hq6, h⟩ := Option.bind_eq_some_iff.mp h
        refine y_callVv (L' := [(44, _), (45, _), (51, _)]) mi_X12_turns ml_X12_157 im_X12_turns se_X12_turns (rfl : vwCl[11]? = _) dX12_hunts_52 (fun s1 => v_X12_turns_44 s1 _ _ _ q6 hq6) (by decide) rfl (Nat.le_of_ble_eq_true rfl) rfl (by decide) (Nat.le_of_ble_eq_true rfl) rfl rfl rfl rfl ?_
        refine x_aload_n dX12_hunts_55 rfl ?_
        refine g_X12_32 rfl dX12_hunts_56 (by decide) rfl rfl ?_
        refine x_iconst (v := 2) dX12_hunts_59 (by decide) ?_
        refine x_iconst (v := 0) dX12_hunts_60 (by decide) ?_
        refine x_iastK (jn := 2) (L' := [(44, _), (45, _), (51, _)]) dX12_hunts_61 (by decide) rfl (xin_ok (by decide)) (by decide) rfl ?_
        cases h
        exact x_vret dX12_hunts_62 ⟨rfl, rfl, rfl⟩
      · replace h := xif_n c5 h
        cases h
        exact x_vret dX12_hunts_49 ⟨rfl, rfl, rfl⟩
def f_X12_checksNear_44 (o44 : Nat → Int32) (a45 : Nat → Int32) (a51 : Nat → Int32) (p1 : Int32) : Option (Nat → Int32) := (if p1 = 0 then (if (a45 2) ≤ ((a51 2) + 1) then (Option.bind (f_X12_turns_44 o44 (upd (upd a51 9 0) 2 (((a51 2) + 1))) 2) (fun q3 => (some (upd (upd (upd q3 4 1) 3 0) 9 1)))) else (some (upd (upd a51 9 0) 2 (((a51 2) + 1))))) else (Option.bind (f_X12_turns_44 o44 a51 0) (fun q4 => (some q4))))
set_option maxRecDepth 100000 in
set_option maxHeartbeats 400000 in
theorem v_X12_checksNear_44 (s0 : XW) (o44 : Nat → Int32) (a45 : Nat → Int32) (a51 : Nat → Int32) (p1 : Int32) (q : Nat → Int32) (h : f_X12_checksNear_44 o44 a45 a51 p1 = some q) : C_X12_checksNear 2 61 [.ref 44, .int p1] (xof s0 [W_44 o44, W_45 a45, W_51 a51]) none (xof s0 [W_44 o44, W_45 a45, W_51 q]) := by
  unfold f_X12_checksNear_44 at h
  show V yX12_checksNear cX12_checksNear none 2 61 (0, 0) 0 [some (.ref 44), some (.int p1)] [] (xof s0 [W_44 o44, W_45 a45, W_51 a51]) _
  refine x_iload_n dX12_checksNear_0 rfl ?_
  refine x_if_eq (tgt := 10) dX12_checksNear_1 (by decide) (fun c1 => ?_) (fun c1 => ?_)
  · replace h := xif_p c1 h
    refine x_aload_n dX12_checksNear_10 rfl ?_
    refine g_X12_32 rfl dX12_checksNear_11 (by decide) rfl rfl ?_
    refine x_bipush (v := 9) dX12_checksNear_14 (by decide) ?_
    refine x_iconst (v := 0) dX12_checksNear_16 (by decide) ?_
    refine x_iastK (jn := 9) (L' := [(44, _), (45, _), (51, _)]) dX12_checksNear_17 (by decide) rfl (xin_ok (by decide)) (by decide) rfl ?_
    refine x_aload_n dX12_checksNear_18 rfl ?_
    refine g_X12_32 rfl dX12_checksNear_19 (by decide) rfl rfl ?_
    refine x_iconst (v := 2) dX12_checksNear_22 (by decide) ?_
    refine x_dup2 dX12_checksNear_23 rfl rfl ?_
    refine x_ialdK (jn := 2) (v := (a51 2)) dX12_checksNear_24 (by decide) rfl (xin_ok (by decide)) (by decide) rfl ?_
    refine x_iconst (v := 1) dX12_checksNear_25 (by decide) ?_
    refine x_iadd dX12_checksNear_26 ?_
    refine x_iastK (jn := 2) (L' := [(44, _), (45, _), (51, _)]) dX12_checksNear_27 (by decide) rfl (xin_ok (by decide)) (by decide) rfl ?_
    refine x_aload_n dX12_checksNear_28 rfl ?_
    refine g_X12_32 rfl dX12_checksNear_29 (by decide) rfl rfl ?_
    refine x_iconst (v := 2) dX12_checksNear_32 (by decide) ?_
    refine x_ialdK (jn := 2) (v := ((a51 2) + 1)) dX12_checksNear_33 (by decide) rfl (xin_ok (by decide)) (by decide) rfl ?_
    refine x_aload_n dX12_checksNear_34 rfl ?_
    refine g_X12_13 rfl dX12_checksNear_35 (by decide) rfl rfl ?_
    refine x_iconst (v := 2) dX12_checksNear_38 (by decide) ?_
    refine x_ialdK (jn := 2) (v := (a45 2)) dX12_checksNear_39 (by decide) rfl (xin_ok (by decide)) (by decide) rfl ?_
    refine x_icmp_ge (tgt := 44) dX12_checksNear_40 (by decide) (fun c2 => ?_) (fun c2 => ?_)
    · replace h := xif_p c2 h
      refine x_aload_n dX12_checksNear_44 rfl ?_
      refine x_iconst (v := 2) dX12_checksNear_45 (by decide) ?_
      obtain ⟨q3, hq3, h⟩ := Option.bind_eq_some_iff.mp h
      refine y_callVv (L' := [(44, _), (45, _), (51, _)]) mi_X12_turns ml_X12_157 im_X12_turns se_X12_turns (rfl : vwCl[11]? = _) dX12_checksNear_46 (fun s1 => v_X12_turns_44 s1 _ _ _ q3 hq3) (by decide) rfl (Nat.le_of_ble_eq_true rfl) rfl (by decide) (Nat.le_of_ble_eq_true rfl) rfl rfl rfl rfl ?_
      refine x_aload_n dX12_checksNear_49 rfl ?_
      refine g_X12_32 rfl dX12_checksNear_50 (by decide) rfl rfl ?_
      refine x_iconst (v := 4) dX12_checksNear_53 (by decide) ?_
      refine x_iconst (v := 1) dX12_checksNear_54 (by decide) ?_
      refine x_iastK (jn := 4) (L' := [(44, _), (45, _), (51, _)]) dX12_checksNear_55 (by decide) rfl (xin_ok (by decide)) (by decide) rfl ?_
      refine x_aload_n dX12_checksNear_56 rfl ?_
      refine g_X12_32 rfl dX12_checksNear_57 (by decide) rfl rfl ?_
      refine x_iconst (v := 3) dX12_checksNear_60 (by decide) ?_
      refine x_iconst (v := 0) dX12_checksNear_61 (by decide) ?_
      refine x_iastK (jn := 3) (L' := [(44, _), (45, _), (51, _)]) dX12_checksNear_62 (by decide) rfl (xin_ok (by decide)) (by decide) rfl ?_
      refine x_aload_n dX12_checksNear_63 rfl ?_
      refine g_X12_32 rfl dX12_checksNear_64 (by decide) rfl rfl ?_
      refine x_bipush (v := 9) dX12_checksNear_67 (by decide) ?_
      refine x_iconst (v := 1) dX12_checksNear_69 (by decide) ?_
      refine x_iastK (jn := 9) (L' := [(44, _), (45, _), (51, _)]) dX12_checksNear_70 (by decide) rfl (xin_ok (by decide)) (by decide) rfl ?_
      cases h
      exact x_vret dX12_checksNear_71 ⟨rfl, rfl, rfl⟩
    · replace h := xif_n c2 h
      cases h
      exact x_vret dX12_checksNear_43 ⟨rfl, rfl, rfl⟩
  · replace h := xif_n c1 h
    refine x_aload_n dX12_checksNear_4 rfl ?_
    refine x_iconst (v := 0) dX12_checksNear_5 (by decide) ?_
    obtain ⟨q4, hq4, h⟩ := Option.bind_eq_some_iff.mp h
    refine y_callVv (L' := [(44, _), (45, _), (51, _)]) mi_X12_turns ml_X12_157 im_X12_turns se_X12_turns (rfl : vwCl[11]? = _) dX12_checksNear_6 (fun s1 => v_X12_turns_44 s1 _ _ _ q4 hq4) (by decide) rfl (Nat.le_of_ble_eq_true rfl) rfl (by decide) (Nat.le_of_ble_eq_true rfl) rfl rfl rfl rfl ?_
    cases h
    exact x_vret dX12_checksNear_9 ⟨rfl, rfl, rfl⟩
def f_X12_markOf (n : Nat)  (p0 : Int32) : Option Int32 := (if 32 ≤ p0 then (some ((1 <<< ((39 - p0) &&& 31)))) else (Option.bind (f_X12_restOf n ((1 <<< ((31 - p0) &&& 31)))) (fun q2 => (some q2))))
set_option maxRecDepth 100000 in
set_option maxHeartbeats 400000 in
theorem v_X12_markOf (N : Nat) (s0 : XW) (n : Nat)  (p0 : Int32) (q : Int32) (h : f_X12_markOf n p0 = some q) : C_X12_markOf 1 N [.int p0] (xof s0 []) (some (.int q)) (xof s0 []) := by
  unfold f_X12_markOf at h
  show V yX12_markOf cX12_markOf (some .int) 1 N (0, 0) 0 [some (.int p0)] [] (xof s0 []) _
  refine x_iload_n dX12_markOf_0 rfl ?_
  refine x_bipush (v := 32) dX12_markOf_1 (by decide) ?_
  refine x_icmp_ge (tgt := 18) dX12_markOf_3 (by decide) (fun c1 => ?_) (fun c1 => ?_)
  · replace h := xif_p c1 h
    refine x_iconst (v := 1) dX12_markOf_18 (by decide) ?_
    refine x_bipush (v := 39) dX12_markOf_19 (by decide) ?_
    refine x_iload_n dX12_markOf_21 rfl ?_
    refine x_isub dX12_markOf_22 ?_
    refine x_ishl dX12_markOf_23 ?_
    cases h
    exact x_iret dX12_markOf_24 ⟨rfl, rfl, rfl⟩
  · replace h := xif_n c1 h
    refine x_iconst (v := 1) dX12_markOf_6 (by decide) ?_
    refine x_bipush (v := 31) dX12_markOf_7 (by decide) ?_
    refine x_iload_n dX12_markOf_9 rfl ?_
    refine x_isub dX12_markOf_10 ?_
    refine x_ishl dX12_markOf_11 ?_
    obtain ⟨q2, hq2, h⟩ := Option.bind_eq_some_iff.mp h
    refine y_callSi (L' := []) mi_X12_restOf ml_X12_81 st_X12_restOf dX12_markOf_12 (fun s1 => v_X12_restOf N s1 n _ q2 hq2) (Nat.le_of_ble_eq_true rfl) rfl (by decide) (Nat.le_of_ble_eq_true rfl) rfl rfl rfl rfl ?_
    refine x_goto (tgt := 24) dX12_markOf_15 (by decide) ?_
    cases h
    exact x_iret dX12_markOf_24 ⟨rfl, rfl, rfl⟩
def l_X12_singleOf_2 (n : Nat) (l0 : Int32) : Nat → (Int32) → Option (Int32 ⊕ Int32)
  | 0, _ => none
  | k + 1, l1 => (if 40 ≤ l1 then (some (Sum.inr l1)) else (Option.bind (f_X12_markOf n l1) (fun q2 => (if q2 = l0 then (some (Sum.inl l1)) else (l_X12_singleOf_2 n l0 k ((l1 + 1)))))))
set_option maxRecDepth 100000 in
set_option maxHeartbeats 400000 in
theorem lv_X12_singleOf_2 (N : Nat) (s0 : XW) (n : Nat) (l0 : Int32) (Q : Nat → Option Value → XW → Prop) : ∀ (k : Nat) (l1 : Int32) (o : Int32 ⊕ Int32), l_X12_singleOf_2 n l0 k l1 = some o → ((∀ z, o = Sum.inl z → Q N (some (.int z)) (xof s0 [])) ∧ (∀ z, o = Sum.inr z → V yX12_singleOf cX12_singleOf (some .int) 2 N (0, 0) 24 [none, none] [] (xof s0 []) Q)) → V yX12_singleOf cX12_singleOf (some .int) 2 N (0, 0) 2 [some (.int l0), some (.int l1)] [] (xof s0 []) Q := by
  intro k
  induction k with
  | zero =>
    intro _ _ h
    simp [l_X12_singleOf_2] at h
  | succ k ih =>
    intro l1 o h hk
    rw [l_X12_singleOf_2] at h
    refine x_iload_n dX12_singleOf_2 rfl ?_
    refine x_bipush (v := 40) dX12_singleOf_3 (by decide) ?_
    refine x_icmp_ge (tgt := 24) dX12_singleOf_5 (by decide) (fun c1 => ?_) (fun c1 => ?_)
    · replace h := xif_p c1 h
      refine V.drop1 (i := 0) (ls' := [_, _]) rfl ?_
      refine V.drop1 (i := 1) (ls' := [_, _]) rfl ?_
      show V yX12_singleOf cX12_singleOf (some .int) 2 N (0, 0) 24 [none, none] [] (xof s0 []) _
      cases h
      exact hk.2 l1 rfl
    · replace h := xif_n c1 h
      refine x_iload_n dX12_singleOf_8 rfl ?_
      obtain ⟨q2, hq2, h⟩ := Option.bind_eq_some_iff.mp h
      refine y_callSi (L' := []) mi_X12_markOf ml_X12_85 st_X12_markOf dX12_singleOf_9 (fun s1 => v_X12_markOf N s1 n _ q2 hq2) (Nat.le_of_ble_eq_true rfl) rfl (by decide) (Nat.le_of_ble_eq_true rfl) rfl rfl rfl rfl ?_
      refine x_iload_n dX12_singleOf_12 rfl ?_
      refine x_icmp_ne (tgt := 18) dX12_singleOf_13 (by decide) (fun c3 => ?_) (fun c3 => ?_)
      · replace h := xif_n c3 h
        refine x_iinc (v := l1 + 1) (ls' := [_, _]) dX12_singleOf_18 rfl rfl rfl rfl ?_
        refine x_goto (tgt := 2) dX12_singleOf_21 (by decide) ?_
        show V yX12_singleOf cX12_singleOf (some .int) 2 N (0, 0) 2 [some (.int l0), some (.int ((l1 + 1)))] [] (xof s0 []) _
        exact ih ((l1 + 1)) _ h hk
      · replace h := xif_p c3 h
        refine x_iload_n dX12_singleOf_16 rfl ?_
        cases h
        exact x_iret dX12_singleOf_17 (hk.1 l1 rfl)
def f_X12_singleOf (n : Nat)  (p0 : Int32) : Option Int32 := (Option.bind (l_X12_singleOf_2 n p0 n 0) (fun u4 => Sum.elim (fun z5 => some z5) (fun z5 => (some ((-1)))) u4))
set_option maxRecDepth 100000 in
set_option maxHeartbeats 400000 in
theorem v_X12_singleOf (N : Nat) (s0 : XW) (n : Nat)  (p0 : Int32) (q : Int32) (h : f_X12_singleOf n p0 = some q) : C_X12_singleOf 2 N [.int p0] (xof s0 []) (some (.int q)) (xof s0 []) := by
  unfold f_X12_singleOf at h
  show V yX12_singleOf cX12_singleOf (some .int) 2 N (0, 0) 0 [some (.int p0), none] [] (xof s0 []) _
  refine x_iconst (v := 0) dX12_singleOf_0 (by decide) ?_
  refine x_istore_n (ls' := [_, _]) dX12_singleOf_1 rfl rfl ?_
  obtain ⟨u4, hu4, h⟩ := Option.bind_eq_some_iff.mp h
  show V yX12_singleOf cX12_singleOf (some .int) 2 N (0, 0) 2 [some (.int p0), some (.int 0)] [] (xof s0 []) _
  refine lv_X12_singleOf_2 N s0 _ p0 _ n 0 _ hu4 ⟨fun z5 hz => ?_, fun z5 hz => ?_⟩
  · subst hz
    replace h := xsl h
    cases h
    exact ⟨rfl, rfl, rfl⟩
  subst hz
  replace h := xsr h
  refine x_iconst (v := -1) dX12_singleOf_24 (by decide) ?_
  cases h
  exact x_iret dX12_singleOf_25 ⟨rfl, rfl, rfl⟩
def b_X12_checksSure_44_136 (n : Nat) (o44 : Nat → Int32) (a45 : Nat → Int32) (a51 : Nat → Int32) (l2 : Int32) (t1 : Int32) : Option (Nat → Int32) := (Option.bind (f_X12_counts_44 o44 a51 t1) (fun q7 => (Option.bind (f_X12_isIn ((Int32.toInt64 l2)) 0 31) (fun q8 => (if q8 = 0 then (some q7) else (some (upd q7 11 (((q7 11) ^^^ (1 <<< ((31 - l2) &&& 31)))))))))))
set_option maxRecDepth 100000 in
set_option maxHeartbeats 400000 in
theorem vb_X12_checksSure_44_136 (s0 : XW) (n : Nat) (o44 : Nat → Int32) (a45 : Nat → Int32) (a51 : Nat → Int32) (l2 : Int32) (t1 : Int32) (q : Nat → Int32) (h : b_X12_checksSure_44_136 n o44 a45 a51 l2 t1 = some q) : V yX12_checksSure cX12_checksSure none 3 61 (0, 0) 136 [some (.ref 44), none, some (.int l2)] [.int t1, .ref 44] (xof s0 [W_44 o44, W_45 a45, W_51 a51]) (xq 61 none (xof s0 [W_44 o44, W_45 a45, W_51 q])) := by
  unfold b_X12_checksSure_44_136 at h
  obtain ⟨q7, hq7, h⟩ := Option.bind_eq_some_iff.mp h
  refine y_callVv (L' := [(44, _), (45, _), (51, _)]) mi_X12_counts ml_X12_142 im_X12_counts se_X12_counts (rfl : vwCl[11]? = _) dX12_checksSure_136 (fun s1 => v_X12_counts_44 s1 _ _ _ q7 hq7) (by decide) rfl (Nat.le_of_ble_eq_true rfl) rfl (by decide) (Nat.le_of_ble_eq_true rfl) rfl rfl rfl rfl ?_
  refine x_iload_n dX12_checksSure_139 rfl ?_
  refine x_i2l dX12_checksSure_140 ?_
  refine x_lconst (v := 0) dX12_checksSure_141 (by decide) ?_
  refine x_ldc2 dX12_checksSure_142 cn_X12_101 ?_
  obtain ⟨q8, hq8, h⟩ := Option.bind_eq_some_iff.mp h
  refine y_callSi (L' := [(44, _), (45, _), (51, _)]) mi_X12_isIn ml_X12_77 st_X12_isIn dX12_checksSure_145 (fun s1 => v_X12_isIn 61 s1 _ _ _ q8 hq8) (Nat.le_of_ble_eq_true rfl) rfl (by decide) (Nat.le_of_ble_eq_true rfl) rfl rfl rfl rfl ?_
  refine x_if_eq (tgt := 167) dX12_checksSure_148 (by decide) (fun c9 => ?_) (fun c9 => ?_)
  · replace h := xif_p c9 h
    cases h
    exact x_vret dX12_checksSure_167 ⟨rfl, rfl, rfl⟩
  · replace h := xif_n c9 h
    refine x_aload_n dX12_checksSure_151 rfl ?_
    refine g_X12_32 rfl dX12_checksSure_152 (by decide) rfl rfl ?_
    refine x_bipush (v := 11) dX12_checksSure_155 (by decide) ?_
    refine x_dup2 dX12_checksSure_157 rfl rfl ?_
    refine x_ialdK (jn := 11) (v := (q7 11)) dX12_checksSure_158 (by decide) rfl (xin_ok (by decide)) (by decide) rfl ?_
    refine x_iconst (v := 1) dX12_checksSure_159 (by decide) ?_
    refine x_bipush (v := 31) dX12_checksSure_160 (by decide) ?_
    refine x_iload_n dX12_checksSure_162 rfl ?_
    refine x_isub dX12_checksSure_163 ?_
    refine x_ishl dX12_checksSure_164 ?_
    refine x_ixor dX12_checksSure_165 ?_
    refine x_iastK (jn := 11) (L' := [(44, _), (45, _), (51, _)]) dX12_checksSure_166 (by decide) rfl (xin_ok (by decide)) (by decide) rfl ?_
    cases h
    exact x_vret dX12_checksSure_167 ⟨rfl, rfl, rfl⟩
def b_X12_checksSure_44_110 (n : Nat) (o44 : Nat → Int32) (a45 : Nat → Int32) (a51 : Nat → Int32) (l2 : Int32) (t1 : Int32) (t2 : Int32) : Option (Nat → Int32) := (bif xin t1 875 then (if l2 = (-1) then (b_X12_checksSure_44_136 n o44 a45 (upd (upd a51 ((Int32.toNatClampNeg t1)) t2) 10 (((upd a51 ((Int32.toNatClampNeg t1)) t2) 9))) l2 2) else (b_X12_checksSure_44_136 n o44 a45 (upd (upd a51 ((Int32.toNatClampNeg t1)) t2) 10 (((upd a51 ((Int32.toNatClampNeg t1)) t2) 9))) l2 1)) else none)
set_option maxRecDepth 100000 in
set_option maxHeartbeats 400000 in
theorem vb_X12_checksSure_44_110 (s0 : XW) (n : Nat) (o44 : Nat → Int32) (a45 : Nat → Int32) (a51 : Nat → Int32) (l2 : Int32) (t1 : Int32) (t2 : Int32) (q : Nat → Int32) (h : b_X12_checksSure_44_110 n o44 a45 a51 l2 t1 t2 = some q) : V yX12_checksSure cX12_checksSure none 3 61 (0, 0) 110 [some (.ref 44), none, some (.int l2)] [.int t2, .int t1, .ref 51] (xof s0 [W_44 o44, W_45 a45, W_51 a51]) (xq 61 none (xof s0 [W_44 o44, W_45 a45, W_51 q])) := by
  unfold b_X12_checksSure_44_110 at h
  obtain ⟨c5, h⟩ := xck h
  refine x_iastK (jn := (Int32.toNatClampNeg t1)) (L' := [(44, _), (45, _), (51, _)]) dX12_checksSure_110 (by decide) rfl (xin_ok c5) rfl rfl ?_
  refine x_aload_n dX12_checksSure_111 rfl ?_
  refine g_X12_32 rfl dX12_checksSure_112 (by decide) rfl rfl ?_
  refine x_bipush (v := 10) dX12_checksSure_115 (by decide) ?_
  refine x_aload_n dX12_checksSure_117 rfl ?_
  refine g_X12_32 rfl dX12_checksSure_118 (by decide) rfl rfl ?_
  refine x_bipush (v := 9) dX12_checksSure_121 (by decide) ?_
  refine x_ialdK (jn := 9) (v := ((upd a51 ((Int32.toNatClampNeg t1)) t2) 9)) dX12_checksSure_123 (by decide) rfl (xin_ok (by decide)) (by decide) rfl ?_
  refine x_iastK (jn := 10) (L' := [(44, _), (45, _), (51, _)]) dX12_checksSure_124 (by decide) rfl (xin_ok (by decide)) (by decide) rfl ?_
  refine x_aload_n dX12_checksSure_125 rfl ?_
  refine x_iload_n dX12_checksSure_126 rfl ?_
  refine x_iconst (v := -1) dX12_checksSure_127 (by decide) ?_
  refine x_icmp_ne (tgt := 135) dX12_checksSure_128 (by decide) (fun c6 => ?_) (fun c6 => ?_)
  · replace h := xif_n c6 h
    refine x_iconst (v := 1) dX12_checksSure_135 (by decide) ?_
    show V yX12_checksSure cX12_checksSure none 3 61 (0, 0) 136 [some (.ref 44), none, some (.int l2)] [.int 1, .ref 44] (xof s0 [W_44 o44, W_45 a45, W_51 (upd (upd a51 ((Int32.toNatClampNeg t1)) t2) 10 (((upd a51 ((Int32.toNatClampNeg t1)) t2) 9)))]) _
    exact vb_X12_checksSure_44_136 s0 n o44 a45 (upd (upd a51 ((Int32.toNatClampNeg t1)) t2) 10 (((upd a51 ((Int32.toNatClampNeg t1)) t2) 9))) l2 1 q h
  · replace h := xif_p c6 h
    refine x_iconst (v := 2) dX12_checksSure_131 (by decide) ?_
    refine x_goto (tgt := 136) dX12_checksSure_132 (by decide) ?_
    show V yX12_checksSure cX12_checksSure none 3 61 (0, 0) 136 [some (.ref 44), none, some (.int l2)] [.int 2, .ref 44] (xof s0 [W_44 o44, W_45 a45, W_51 (upd (upd a51 ((Int32.toNatClampNeg t1)) t2) 10 (((upd a51 ((Int32.toNatClampNeg t1)) t2) 9)))]) _
    exact vb_X12_checksSure_44_136 s0 n o44 a45 (upd (upd a51 ((Int32.toNatClampNeg t1)) t2) 10 (((upd a51 ((Int32.toNatClampNeg t1)) t2) 9))) l2 2 q h
def b_X12_checksSure_44_86 (n : Nat) (o44 : Nat → Int32) (a45 : Nat → Int32) (a51 : Nat → Int32) (t0 : Int32) : Option (Nat → Int32) := (if t0 = (-1) then (b_X12_checksSure_44_110 n o44 a45 (upd a51 4 0) t0 9 0) else (b_X12_checksSure_44_110 n o44 a45 (upd a51 4 0) t0 9 1))
set_option maxRecDepth 100000 in
set_option maxHeartbeats 400000 in
theorem vb_X12_checksSure_44_86 (s0 : XW) (n : Nat) (o44 : Nat → Int32) (a45 : Nat → Int32) (a51 : Nat → Int32) (t0 : Int32) (q : Nat → Int32) (h : b_X12_checksSure_44_86 n o44 a45 a51 t0 = some q) : V yX12_checksSure cX12_checksSure none 3 61 (0, 0) 86 [some (.ref 44), none, none] [.int t0] (xof s0 [W_44 o44, W_45 a45, W_51 a51]) (xq 61 none (xof s0 [W_44 o44, W_45 a45, W_51 q])) := by
  unfold b_X12_checksSure_44_86 at h
  refine x_istore_n (ls' := [_, _, _]) dX12_checksSure_86 rfl rfl ?_
  refine x_aload_n dX12_checksSure_87 rfl ?_
  refine g_X12_32 rfl dX12_checksSure_88 (by decide) rfl rfl ?_
  refine x_iconst (v := 4) dX12_checksSure_91 (by decide) ?_
  refine x_iconst (v := 0) dX12_checksSure_92 (by decide) ?_
  refine x_iastK (jn := 4) (L' := [(44, _), (45, _), (51, _)]) dX12_checksSure_93 (by decide) rfl (xin_ok (by decide)) (by decide) rfl ?_
  refine x_aload_n dX12_checksSure_94 rfl ?_
  refine g_X12_32 rfl dX12_checksSure_95 (by decide) rfl rfl ?_
  refine x_bipush (v := 9) dX12_checksSure_98 (by decide) ?_
  refine x_iload_n dX12_checksSure_100 rfl ?_
  refine x_iconst (v := -1) dX12_checksSure_101 (by decide) ?_
  refine x_icmp_ne (tgt := 109) dX12_checksSure_102 (by decide) (fun c4 => ?_) (fun c4 => ?_)
  · replace h := xif_n c4 h
    refine x_iconst (v := 1) dX12_checksSure_109 (by decide) ?_
    show V yX12_checksSure cX12_checksSure none 3 61 (0, 0) 110 [some (.ref 44), none, some (.int t0)] [.int 1, .int 9, .ref 51] (xof s0 [W_44 o44, W_45 a45, W_51 (upd a51 4 0)]) _
    exact vb_X12_checksSure_44_110 s0 n o44 a45 (upd a51 4 0) t0 9 1 q h
  · replace h := xif_p c4 h
    refine x_iconst (v := 0) dX12_checksSure_105 (by decide) ?_
    refine x_goto (tgt := 110) dX12_checksSure_106 (by decide) ?_
    show V yX12_checksSure cX12_checksSure none 3 61 (0, 0) 110 [some (.ref 44), none, some (.int t0)] [.int 0, .int 9, .ref 51] (xof s0 [W_44 o44, W_45 a45, W_51 (upd a51 4 0)]) _
    exact vb_X12_checksSure_44_110 s0 n o44 a45 (upd a51 4 0) t0 9 0 q h
def b_X12_checksSure_44_85 (n : Nat) (o44 : Nat → Int32) (a45 : Nat → Int32) (a51 : Nat → Int32)  : Option (Nat → Int32) := (b_X12_checksSure_44_86 n o44 a45 a51 ((-1)))
set_option maxRecDepth 100000 in
set_option maxHeartbeats 400000 in
theorem vb_X12_checksSure_44_85 (s0 : XW) (n : Nat) (o44 : Nat → Int32) (a45 : Nat → Int32) (a51 : Nat → Int32)  (q : Nat → Int32) (h : b_X12_checksSure_44_85 n o44 a45 a51 = some q) : V yX12_checksSure cX12_checksSure none 3 61 (0, 0) 85 [some (.ref 44), none, none] [] (xof s0 [W_44 o44, W_45 a45, W_51 a51]) (xq 61 none (xof s0 [W_44 o44, W_45 a45, W_51 q])) := by
  unfold b_X12_checksSure_44_85 at h
  refine x_iconst (v := -1) dX12_checksSure_85 (by decide) ?_
  show V yX12_checksSure cX12_checksSure none 3 61 (0, 0) 86 [some (.ref 44), none, none] [.int ((-1))] (xof s0 [W_44 o44, W_45 a45, W_51 a51]) _
  exact vb_X12_checksSure_44_86 s0 n o44 a45 a51 ((-1)) q h
def f_X12_checksSure_44 (n : Nat) (o44 : Nat → Int32) (a45 : Nat → Int32) (a51 : Nat → Int32) (p1 : Int32) : Option (Nat → Int32) := (if p1 = 0 then (some (upd (upd (upd a51 3 0) 4 1) 9 1)) else (if ((a51 3) + 1) < (a45 1) then (if (a51 4) = 1 then (if (a45 3) = 1 then (Option.bind (f_X12_singleOf n p1) (fun q11 => (b_X12_checksSure_44_86 n o44 a45 (upd a51 3 (((a51 3) + 1))) q11))) else (b_X12_checksSure_44_85 n o44 a45 (upd a51 3 (((a51 3) + 1))))) else (b_X12_checksSure_44_85 n o44 a45 (upd a51 3 (((a51 3) + 1))))) else (Option.bind (f_X12_turns_44 o44 (upd a51 3 (((a51 3) + 1))) 0) (fun q12 => (some q12)))))
set_option maxRecDepth 100000 in
set_option maxHeartbeats 400000 in
theorem v_X12_checksSure_44 (s0 : XW) (n : Nat) (o44 : Nat → Int32) (a45 : Nat → Int32) (a51 : Nat → Int32) (p1 : Int32) (q : Nat → Int32) (h : f_X12_checksSure_44 n o44 a45 a51 p1 = some q) : C_X12_checksSure 3 61 [.ref 44, .int p1] (xof s0 [W_44 o44, W_45 a45, W_51 a51]) none (xof s0 [W_44 o44, W_45 a45, W_51 q]) := by
  unfold f_X12_checksSure_44 at h
  show V yX12_checksSure cX12_checksSure none 3 61 (0, 0) 0 [some (.ref 44), some (.int p1), none] [] (xof s0 [W_44 o44, W_45 a45, W_51 a51]) _
  refine x_iload_n dX12_checksSure_0 rfl ?_
  refine x_if_ne (tgt := 27) dX12_checksSure_1 (by decide) (fun c1 => ?_) (fun c1 => ?_)
  · replace h := xif_n c1 h
    refine x_aload_n dX12_checksSure_27 rfl ?_
    refine g_X12_32 rfl dX12_checksSure_28 (by decide) rfl rfl ?_
    refine x_iconst (v := 3) dX12_checksSure_31 (by decide) ?_
    refine x_dup2 dX12_checksSure_32 rfl rfl ?_
    refine x_ialdK (jn := 3) (v := (a51 3)) dX12_checksSure_33 (by decide) rfl (xin_ok (by decide)) (by decide) rfl ?_
    refine x_iconst (v := 1) dX12_checksSure_34 (by decide) ?_
    refine x_iadd dX12_checksSure_35 ?_
    refine x_iastK (jn := 3) (L' := [(44, _), (45, _), (51, _)]) dX12_checksSure_36 (by decide) rfl (xin_ok (by decide)) (by decide) rfl ?_
    refine x_aload_n dX12_checksSure_37 rfl ?_
    refine g_X12_32 rfl dX12_checksSure_38 (by decide) rfl rfl ?_
    refine x_iconst (v := 3) dX12_checksSure_41 (by decide) ?_
    refine x_ialdK (jn := 3) (v := ((a51 3) + 1)) dX12_checksSure_42 (by decide) rfl (xin_ok (by decide)) (by decide) rfl ?_
    refine x_aload_n dX12_checksSure_43 rfl ?_
    refine g_X12_13 rfl dX12_checksSure_44 (by decide) rfl rfl ?_
    refine x_iconst (v := 1) dX12_checksSure_47 (by decide) ?_
    refine x_ialdK (jn := 1) (v := (a45 1)) dX12_checksSure_48 (by decide) rfl (xin_ok (by decide)) (by decide) rfl ?_
    refine x_icmp_lt (tgt := 58) dX12_checksSure_49 (by decide) (fun c2 => ?_) (fun c2 => ?_)
    · replace h := xif_p c2 h
      refine x_aload_n dX12_checksSure_58 rfl ?_
      refine g_X12_32 rfl dX12_checksSure_59 (by decide) rfl rfl ?_
      refine x_iconst (v := 4) dX12_checksSure_62 (by decide) ?_
      refine x_ialdK (jn := 4) (v := (a51 4)) dX12_checksSure_63 (by decide) rfl (xin_ok (by decide)) (by decide) rfl ?_
      refine x_iconst (v := 1) dX12_checksSure_64 (by decide) ?_
      refine x_icmp_ne (tgt := 85) dX12_checksSure_65 (by decide) (fun c3 => ?_) (fun c3 => ?_)
      · replace h := xif_n c3 h
        refine V.drop1 (i := 1) (ls' := [_, _, _]) rfl ?_
        show V yX12_checksSure cX12_checksSure none 3 61 (0, 0) 85 [some (.ref 44), none, none] [] (xof s0 [W_44 o44, W_45 a45, W_51 (upd a51 3 (((a51 3) + 1)))]) _
        exact vb_X12_checksSure_44_85 s0 n o44 a45 (upd a51 3 (((a51 3) + 1))) q h
      · replace h := xif_p c3 h
        refine x_aload_n dX12_checksSure_68 rfl ?_
        refine g_X12_13 rfl dX12_checksSure_69 (by decide) rfl rfl ?_
        refine x_iconst (v := 3) dX12_checksSure_72 (by decide) ?_
        refine x_ialdK (jn := 3) (v := (a45 3)) dX12_checksSure_73 (by decide) rfl (xin_ok (by decide)) (by decide) rfl ?_
        refine x_iconst (v := 1) dX12_checksSure_74 (by decide) ?_
        refine x_icmp_ne (tgt := 85) dX12_checksSure_75 (by decide) (fun c10 => ?_) (fun c10 => ?_)
        · replace h := xif_n c10 h
          refine V.drop1 (i := 1) (ls' := [_, _, _]) rfl ?_
          show V yX12_checksSure cX12_checksSure none 3 61 (0, 0) 85 [some (.ref 44), none, none] [] (xof s0 [W_44 o44, W_45 a45, W_51 (upd a51 3 (((a51 3) + 1)))]) _
          exact vb_X12_checksSure_44_85 s0 n o44 a45 (upd a51 3 (((a51 3) + 1))) q h
        · replace h := xif_p c10 h
          refine x_iload_n dX12_checksSure_78 rfl ?_
          obtain ⟨q11, hq11, h⟩ := Option.bind_eq_some_iff.mp h
          refine y_callSi (L' := [(44, _), (45, _), (51, _)]) mi_X12_singleOf ml_X12_93 st_X12_singleOf dX12_checksSure_79 (fun s1 => v_X12_singleOf 61 s1 n _ q11 hq11) (Nat.le_of_ble_eq_true rfl) rfl (by decide) (Nat.le_of_ble_eq_true rfl) rfl rfl rfl rfl ?_
          refine x_goto (tgt := 86) dX12_checksSure_82 (by decide) ?_
          refine V.drop1 (i := 1) (ls' := [_, _, _]) rfl ?_
          show V yX12_checksSure cX12_checksSure none 3 61 (0, 0) 86 [some (.ref 44), none, none] [.int q11] (xof s0 [W_44 o44, W_45 a45, W_51 (upd a51 3 (((a51 3) + 1)))]) _
          exact vb_X12_checksSure_44_86 s0 n o44 a45 (upd a51 3 (((a51 3) + 1))) q11 q h
    · replace h := xif_n c2 h
      refine x_aload_n dX12_checksSure_52 rfl ?_
      refine x_iconst (v := 0) dX12_checksSure_53 (by decide) ?_
      obtain ⟨q12, hq12, h⟩ := Option.bind_eq_some_iff.mp h
      refine y_callVv (L' := [(44, _), (45, _), (51, _)]) mi_X12_turns ml_X12_157 im_X12_turns se_X12_turns (rfl : vwCl[11]? = _) dX12_checksSure_54 (fun s1 => v_X12_turns_44 s1 _ _ _ q12 hq12) (by decide) rfl (Nat.le_of_ble_eq_true rfl) rfl (by decide) (Nat.le_of_ble_eq_true rfl) rfl rfl rfl rfl ?_
      cases h
      exact x_vret dX12_checksSure_57 ⟨rfl, rfl, rfl⟩
  · replace h := xif_p c1 h
    refine x_aload_n dX12_checksSure_4 rfl ?_
    refine g_X12_32 rfl dX12_checksSure_5 (by decide) rfl rfl ?_
    refine x_iconst (v := 3) dX12_checksSure_8 (by decide) ?_
    refine x_iconst (v := 0) dX12_checksSure_9 (by decide) ?_
    refine x_iastK (jn := 3) (L' := [(44, _), (45, _), (51, _)]) dX12_checksSure_10 (by decide) rfl (xin_ok (by decide)) (by decide) rfl ?_
    refine x_aload_n dX12_checksSure_11 rfl ?_
    refine g_X12_32 rfl dX12_checksSure_12 (by decide) rfl rfl ?_
    refine x_iconst (v := 4) dX12_checksSure_15 (by decide) ?_
    refine x_iconst (v := 1) dX12_checksSure_16 (by decide) ?_
    refine x_iastK (jn := 4) (L' := [(44, _), (45, _), (51, _)]) dX12_checksSure_17 (by decide) rfl (xin_ok (by decide)) (by decide) rfl ?_
    refine x_aload_n dX12_checksSure_18 rfl ?_
    refine g_X12_32 rfl dX12_checksSure_19 (by decide) rfl rfl ?_
    refine x_bipush (v := 9) dX12_checksSure_22 (by decide) ?_
    refine x_iconst (v := 1) dX12_checksSure_24 (by decide) ?_
    refine x_iastK (jn := 9) (L' := [(44, _), (45, _), (51, _)]) dX12_checksSure_25 (by decide) rfl (xin_ok (by decide)) (by decide) rfl ?_
    cases h
    exact x_vret dX12_checksSure_26 ⟨rfl, rfl, rfl⟩
