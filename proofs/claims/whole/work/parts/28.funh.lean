def f_X6_loadTaken_16 (a1 : Nat → Int32) (o16 : Nat → Int32)  : Option Int32 := (Option.bind (f_X6_loadBits_16 a1 o16) (fun q1 => (if q1 ≤ (o16 15) then (some 0) else (some ((o16 15))))))
set_option maxRecDepth 100000 in
set_option maxHeartbeats 400000 in
theorem v_X6_loadTaken_16 (s0 : XW) (a1 : Nat → Int32) (o16 : Nat → Int32)  (q : Int32) (h : f_X6_loadTaken_16 a1 o16 = some q) : C_X6_loadTaken 1 61 [.ref 16] (xof s0 [W_1 a1, W_16 o16]) (some (.int q)) (xof s0 [W_1 a1, W_16 o16]) := by
  unfold f_X6_loadTaken_16 at h
  show V yX6_loadTaken cX6_loadTaken (some .int) 1 61 (0, 0) 0 [some (.ref 16)] [] (xof s0 [W_1 a1, W_16 o16]) _
  refine x_aload_n dX6_loadTaken_0 rfl ?_
  refine g_X6_80 rfl dX6_loadTaken_1 (by decide) rfl rfl ?_
  refine x_aload_n dX6_loadTaken_4 rfl ?_
  obtain ⟨q1, hq1, h⟩ := Option.bind_eq_some_iff.mp h
  refine y_callVi (L' := [(1, _), (16, _)]) mi_X6_loadBits ml_X6_105 im_X6_loadBits se_X6_loadBits (rfl : vwCl[5]? = _) dX6_loadTaken_5 (fun s1 => v_X6_loadBits_16 s1 _ _ q1 hq1) (by decide) rfl (Nat.le_of_ble_eq_true rfl) rfl (by decide) (Nat.le_of_ble_eq_true rfl) rfl rfl rfl rfl ?_
  refine x_icmp_ge (tgt := 18) dX6_loadTaken_8 (by decide) (fun c2 => ?_) (fun c2 => ?_)
  · replace h := xif_p c2 h
    refine x_iconst (v := 0) dX6_loadTaken_18 (by decide) ?_
    cases h
    exact x_iret dX6_loadTaken_19 ⟨rfl, rfl, rfl⟩
  · replace h := xif_n c2 h
    refine x_aload_n dX6_loadTaken_11 rfl ?_
    refine g_X6_80 rfl dX6_loadTaken_12 (by decide) rfl rfl ?_
    refine x_goto (tgt := 19) dX6_loadTaken_15 (by decide) ?_
    cases h
    exact x_iret dX6_loadTaken_19 ⟨rfl, rfl, rfl⟩
def f_X11_state_0 (a1 : Nat → Int32) (o16 : Nat → Int32) (o18 : Nat → Int32) (j18 : Int64) (p1 : Int32) : Option Int32 := (if p1 = 0 then (some ((o16 7))) else (if p1 = 1 then (some ((o16 8))) else (if p1 = 2 then (some ((o16 9))) else (if p1 = 3 then (some ((o16 10))) else (if p1 = 4 then (Option.bind (f_X6_loadTaken_16 a1 o16) (fun q6 => (some q6))) else (if p1 = 5 then (Option.bind (f_X6_headTaken_16 a1 o16) (fun q8 => (some q8))) else (if p1 = 6 then (if (o16 11) = 0 then (some 0) else (some 1)) else (if p1 = 7 then (Option.bind (f_X10_isFull_18 o18 j18) (fun q12 => (if q12 = 0 then (some ((-1))) else (Option.bind (f_X10_syndromeNow_18 o18 j18) (fun q14 => (some q14)))))) else (if p1 = 8 then (some ((o18 2))) else (if p1 = 9 then (if (o16 12) = 0 then (some 0) else (some 1)) else (if p1 = 10 then (some ((o16 13))) else (some ((-2))))))))))))))
set_option maxRecDepth 100000 in
set_option maxHeartbeats 400000 in
theorem v_X11_state_0 (s0 : XW) (a1 : Nat → Int32) (o16 : Nat → Int32) (o18 : Nat → Int32) (j18 : Int64) (p1 : Int32) (q : Int32) (h : f_X11_state_0 a1 o16 o18 j18 p1 = some q) : C_X11_state 2 61 [.ref 0, .int p1] (xof s0 [W_0, W_1 a1, W_16 o16, W_18 o18 j18]) (some (.int q)) (xof s0 [W_0, W_1 a1, W_16 o16, W_18 o18 j18]) := by
  unfold f_X11_state_0 at h
  show V yX11_state cX11_state (some .int) 2 61 (0, 0) 0 [some (.ref 0), some (.int p1)] [] (xof s0 [W_0, W_1 a1, W_16 o16, W_18 o18 j18]) _
  refine x_iload_n dX11_state_0 rfl ?_
  by_cases c1 : p1 = 0
  · replace h := xif_p c1 h
    refine x_tableIn (tgt := 60) dX11_state_1 (by rw [c1]; decide) (by rw [c1]; decide) (by rw [c1]; rfl) (by decide) ?_
    refine x_aload_n dX11_state_60 rfl ?_
    refine g_X11_47 rfl dX11_state_61 (by decide) rfl rfl ?_
    refine g_X11_168 rfl dX11_state_64 (by decide) rfl rfl ?_
    cases h
    exact x_iret dX11_state_67 ⟨rfl, rfl, rfl⟩
  replace h := xif_n c1 h
  by_cases c2 : p1 = 1
  · replace h := xif_p c2 h
    refine x_tableIn (tgt := 68) dX11_state_1 (by rw [c2]; decide) (by rw [c2]; decide) (by rw [c2]; rfl) (by decide) ?_
    refine x_aload_n dX11_state_68 rfl ?_
    refine g_X11_47 rfl dX11_state_69 (by decide) rfl rfl ?_
    refine g_X11_193 rfl dX11_state_72 (by decide) rfl rfl ?_
    cases h
    exact x_iret dX11_state_75 ⟨rfl, rfl, rfl⟩
  replace h := xif_n c2 h
  by_cases c3 : p1 = 2
  · replace h := xif_p c3 h
    refine x_tableIn (tgt := 76) dX11_state_1 (by rw [c3]; decide) (by rw [c3]; decide) (by rw [c3]; rfl) (by decide) ?_
    refine x_aload_n dX11_state_76 rfl ?_
    refine g_X11_47 rfl dX11_state_77 (by decide) rfl rfl ?_
    refine g_X11_196 rfl dX11_state_80 (by decide) rfl rfl ?_
    cases h
    exact x_iret dX11_state_83 ⟨rfl, rfl, rfl⟩
  replace h := xif_n c3 h
  by_cases c4 : p1 = 3
  · replace h := xif_p c4 h
    refine x_tableIn (tgt := 84) dX11_state_1 (by rw [c4]; decide) (by rw [c4]; decide) (by rw [c4]; rfl) (by decide) ?_
    refine x_aload_n dX11_state_84 rfl ?_
    refine g_X11_47 rfl dX11_state_85 (by decide) rfl rfl ?_
    refine g_X11_199 rfl dX11_state_88 (by decide) rfl rfl ?_
    cases h
    exact x_iret dX11_state_91 ⟨rfl, rfl, rfl⟩
  replace h := xif_n c4 h
  by_cases c5 : p1 = 4
  · replace h := xif_p c5 h
    refine x_tableIn (tgt := 92) dX11_state_1 (by rw [c5]; decide) (by rw [c5]; decide) (by rw [c5]; rfl) (by decide) ?_
    refine x_aload_n dX11_state_92 rfl ?_
    refine g_X11_47 rfl dX11_state_93 (by decide) rfl rfl ?_
    obtain ⟨q6, hq6, h⟩ := Option.bind_eq_some_iff.mp h
    refine y_callVi (L' := [(0, _), (1, _), (16, _), (18, _)]) mi_X6_loadTaken ml_X11_202 im_X6_loadTaken se_X6_loadTaken (rfl : vwCl[5]? = _) dX11_state_96 (fun s1 => v_X6_loadTaken_16 s1 _ _ q6 hq6) (by decide) rfl (Nat.le_of_ble_eq_true rfl) rfl (by decide) (Nat.le_of_ble_eq_true rfl) rfl rfl rfl rfl ?_
    cases h
    exact x_iret dX11_state_99 ⟨rfl, rfl, rfl⟩
  replace h := xif_n c5 h
  by_cases c7 : p1 = 5
  · replace h := xif_p c7 h
    refine x_tableIn (tgt := 100) dX11_state_1 (by rw [c7]; decide) (by rw [c7]; decide) (by rw [c7]; rfl) (by decide) ?_
    refine x_aload_n dX11_state_100 rfl ?_
    refine g_X11_47 rfl dX11_state_101 (by decide) rfl rfl ?_
    obtain ⟨q8, hq8, h⟩ := Option.bind_eq_some_iff.mp h
    refine y_callVi (L' := [(0, _), (1, _), (16, _), (18, _)]) mi_X6_headTaken ml_X11_205 im_X6_headTaken se_X6_headTaken (rfl : vwCl[5]? = _) dX11_state_104 (fun s1 => v_X6_headTaken_16 s1 _ _ q8 hq8) (by decide) rfl (Nat.le_of_ble_eq_true rfl) rfl (by decide) (Nat.le_of_ble_eq_true rfl) rfl rfl rfl rfl ?_
    cases h
    exact x_iret dX11_state_107 ⟨rfl, rfl, rfl⟩
  replace h := xif_n c7 h
  by_cases c9 : p1 = 6
  · replace h := xif_p c9 h
    refine x_tableIn (tgt := 108) dX11_state_1 (by rw [c9]; decide) (by rw [c9]; decide) (by rw [c9]; rfl) (by decide) ?_
    refine x_aload_n dX11_state_108 rfl ?_
    refine g_X11_47 rfl dX11_state_109 (by decide) rfl rfl ?_
    refine g_X11_208 rfl dX11_state_112 (by decide) rfl rfl ?_
    refine x_if_eq (tgt := 122) dX11_state_115 (by decide) (fun c10 => ?_) (fun c10 => ?_)
    · replace h := xif_p c10 h
      refine x_iconst (v := 0) dX11_state_122 (by decide) ?_
      cases h
      exact x_iret dX11_state_123 ⟨rfl, rfl, rfl⟩
    · replace h := xif_n c10 h
      refine x_iconst (v := 1) dX11_state_118 (by decide) ?_
      refine x_goto (tgt := 123) dX11_state_119 (by decide) ?_
      cases h
      exact x_iret dX11_state_123 ⟨rfl, rfl, rfl⟩
  replace h := xif_n c9 h
  by_cases c11 : p1 = 7
  · replace h := xif_p c11 h
    refine x_tableIn (tgt := 124) dX11_state_1 (by rw [c11]; decide) (by rw [c11]; decide) (by rw [c11]; rfl) (by decide) ?_
    refine x_aload_n dX11_state_124 rfl ?_
    refine g_X11_47 rfl dX11_state_125 (by decide) rfl rfl ?_
    refine g_X11_212 rfl dX11_state_128 (by decide) rfl rfl ?_
    obtain ⟨q12, hq12, h⟩ := Option.bind_eq_some_iff.mp h
    refine y_callVi (L' := [(0, _), (1, _), (16, _), (18, _)]) mi_X10_isFull ml_X11_215 im_X10_isFull se_X10_isFull (rfl : vwCl[9]? = _) dX11_state_131 (fun s1 => v_X10_isFull_18 s1 _ _ q12 hq12) (by decide) rfl (Nat.le_of_ble_eq_true rfl) rfl (by decide) (Nat.le_of_ble_eq_true rfl) rfl rfl rfl rfl ?_
    refine x_if_eq (tgt := 150) dX11_state_134 (by decide) (fun c13 => ?_) (fun c13 => ?_)
    · replace h := xif_p c13 h
      refine x_iconst (v := -1) dX11_state_150 (by decide) ?_
      cases h
      exact x_iret dX11_state_151 ⟨rfl, rfl, rfl⟩
    · replace h := xif_n c13 h
      refine x_aload_n dX11_state_137 rfl ?_
      refine g_X11_47 rfl dX11_state_138 (by decide) rfl rfl ?_
      refine g_X11_212 rfl dX11_state_141 (by decide) rfl rfl ?_
      obtain ⟨q14, hq14, h⟩ := Option.bind_eq_some_iff.mp h
      refine y_callVi (L' := [(0, _), (1, _), (16, _), (18, _)]) mi_X10_syndromeNow ml_X11_218 im_X10_syndromeNow se_X10_syndromeNow (rfl : vwCl[9]? = _) dX11_state_144 (fun s1 => v_X10_syndromeNow_18 s1 _ _ q14 hq14) (by decide) rfl (Nat.le_of_ble_eq_true rfl) rfl (by decide) (Nat.le_of_ble_eq_true rfl) rfl rfl rfl rfl ?_
      refine x_goto (tgt := 151) dX11_state_147 (by decide) ?_
      cases h
      exact x_iret dX11_state_151 ⟨rfl, rfl, rfl⟩
  replace h := xif_n c11 h
  by_cases c15 : p1 = 8
  · replace h := xif_p c15 h
    refine x_tableIn (tgt := 152) dX11_state_1 (by rw [c15]; decide) (by rw [c15]; decide) (by rw [c15]; rfl) (by decide) ?_
    refine x_aload_n dX11_state_152 rfl ?_
    refine g_X11_47 rfl dX11_state_153 (by decide) rfl rfl ?_
    refine g_X11_212 rfl dX11_state_156 (by decide) rfl rfl ?_
    refine g_X11_221 rfl dX11_state_159 (by decide) rfl rfl ?_
    cases h
    exact x_iret dX11_state_162 ⟨rfl, rfl, rfl⟩
  replace h := xif_n c15 h
  by_cases c16 : p1 = 9
  · replace h := xif_p c16 h
    refine x_tableIn (tgt := 163) dX11_state_1 (by rw [c16]; decide) (by rw [c16]; decide) (by rw [c16]; rfl) (by decide) ?_
    refine x_aload_n dX11_state_163 rfl ?_
    refine g_X11_47 rfl dX11_state_164 (by decide) rfl rfl ?_
    refine g_X11_224 rfl dX11_state_167 (by decide) rfl rfl ?_
    refine x_if_eq (tgt := 177) dX11_state_170 (by decide) (fun c17 => ?_) (fun c17 => ?_)
    · replace h := xif_p c17 h
      refine x_iconst (v := 0) dX11_state_177 (by decide) ?_
      cases h
      exact x_iret dX11_state_178 ⟨rfl, rfl, rfl⟩
    · replace h := xif_n c17 h
      refine x_iconst (v := 1) dX11_state_173 (by decide) ?_
      refine x_goto (tgt := 178) dX11_state_174 (by decide) ?_
      cases h
      exact x_iret dX11_state_178 ⟨rfl, rfl, rfl⟩
  replace h := xif_n c16 h
  by_cases c18 : p1 = 10
  · replace h := xif_p c18 h
    refine x_tableIn (tgt := 179) dX11_state_1 (by rw [c18]; decide) (by rw [c18]; decide) (by rw [c18]; rfl) (by decide) ?_
    refine x_aload_n dX11_state_179 rfl ?_
    refine g_X11_47 rfl dX11_state_180 (by decide) rfl rfl ?_
    refine g_X11_227 rfl dX11_state_183 (by decide) rfl rfl ?_
    cases h
    exact x_iret dX11_state_186 ⟨rfl, rfl, rfl⟩
  replace h := xif_n c18 h
  have c1t := lv_neT c1 (show Int32.toInt 0 = 0 from rfl)
  have c2t := lv_neT c2 (show Int32.toInt 1 = 1 from rfl)
  have c3t := lv_neT c3 (show Int32.toInt 2 = 2 from rfl)
  have c4t := lv_neT c4 (show Int32.toInt 3 = 3 from rfl)
  have c5t := lv_neT c5 (show Int32.toInt 4 = 4 from rfl)
  have c7t := lv_neT c7 (show Int32.toInt 5 = 5 from rfl)
  have c9t := lv_neT c9 (show Int32.toInt 6 = 6 from rfl)
  have c11t := lv_neT c11 (show Int32.toInt 7 = 7 from rfl)
  have c15t := lv_neT c15 (show Int32.toInt 8 = 8 from rfl)
  have c16t := lv_neT c16 (show Int32.toInt 9 = 9 from rfl)
  have c18t := lv_neT c18 (show Int32.toInt 10 = 10 from rfl)
  refine x_tableOut (tgt := 187) dX11_state_1 (by omega) (by decide) ?_
  refine x_bipush (v := -2) dX11_state_187 (by decide) ?_
  cases h
  exact x_iret dX11_state_189 ⟨rfl, rfl, rfl⟩
def f_X11_count_0 (o16 : Nat → Int32) (a17 : Nat → Int32) (p1 : Int32) : Option Int32 := (Option.bind (f_X11_isWithin p1 0 13) (fun q1 => (if q1 = 0 then (some ((-2))) else (bif xin p1 14 then (some ((a17 (Int32.toNatClampNeg p1)))) else none))))
set_option maxRecDepth 100000 in
set_option maxHeartbeats 400000 in
theorem v_X11_count_0 (s0 : XW) (o16 : Nat → Int32) (a17 : Nat → Int32) (p1 : Int32) (q : Int32) (h : f_X11_count_0 o16 a17 p1 = some q) : C_X11_count 1 61 [.ref 0, .int p1] (xof s0 [W_0, W_16 o16, W_17 a17]) (some (.int q)) (xof s0 [W_0, W_16 o16, W_17 a17]) := by
  unfold f_X11_count_0 at h
  show V yX11_count cX11_count (some .int) 1 61 (0, 0) 0 [some (.ref 0), some (.int p1)] [] (xof s0 [W_0, W_16 o16, W_17 a17]) _
  refine x_iload_n dX11_count_0 rfl ?_
  refine x_iconst (v := 0) dX11_count_1 (by decide) ?_
  refine x_bipush (v := 13) dX11_count_2 (by decide) ?_
  obtain ⟨q1, hq1, h⟩ := Option.bind_eq_some_iff.mp h
  refine y_callSi (L' := [(0, _), (16, _), (17, _)]) mi_X11_isWithin ml_X11_100 st_X11_isWithin dX11_count_4 (fun s1 => v_X11_isWithin 61 s1 _ _ _ q1 hq1) (Nat.le_of_ble_eq_true rfl) rfl (by decide) (Nat.le_of_ble_eq_true rfl) rfl rfl rfl rfl ?_
  refine x_if_eq (tgt := 22) dX11_count_7 (by decide) (fun c2 => ?_) (fun c2 => ?_)
  · replace h := xif_p c2 h
    refine x_bipush (v := -2) dX11_count_22 (by decide) ?_
    cases h
    exact x_iret dX11_count_24 ⟨rfl, rfl, rfl⟩
  · replace h := xif_n c2 h
    refine x_aload_n dX11_count_10 rfl ?_
    refine g_X11_47 rfl dX11_count_11 (by decide) rfl rfl ?_
    refine g_X11_171 rfl dX11_count_14 (by decide) rfl rfl ?_
    refine x_iload_n dX11_count_17 rfl ?_
    obtain ⟨c3, h⟩ := xck h
    refine x_ialdK (jn := (Int32.toNatClampNeg p1)) (v := (a17 (Int32.toNatClampNeg p1))) dX11_count_18 (by decide) rfl (xin_ok c3) rfl rfl ?_
    refine x_goto (tgt := 24) dX11_count_19 (by decide) ?_
    cases h
    exact x_iret dX11_count_24 ⟨rfl, rfl, rfl⟩
def f_X7_firstKept_9 (o9 : Nat → Int32)  : Option Int32 := (some ((if 0 < ((o9 2) - (o9 0)) then ((o9 2) - (o9 0)) else 0)))
set_option maxRecDepth 100000 in
set_option maxHeartbeats 400000 in
theorem v_X7_firstKept_9 (s0 : XW) (o9 : Nat → Int32)  (q : Int32) (h : f_X7_firstKept_9 o9 = some q) : C_X7_firstKept 1 61 [.ref 9] (xof s0 [W_9 o9]) (some (.int q)) (xof s0 [W_9 o9]) := by
  unfold f_X7_firstKept_9 at h
  show V yX7_firstKept cX7_firstKept (some .int) 1 61 (0, 0) 0 [some (.ref 9)] [] (xof s0 [W_9 o9]) _
  refine x_iconst (v := 0) dX7_firstKept_0 (by decide) ?_
  refine x_aload_n dX7_firstKept_1 rfl ?_
  refine g_X7_23 rfl dX7_firstKept_2 (by decide) rfl rfl ?_
  refine x_aload_n dX7_firstKept_5 rfl ?_
  refine g_X7_13 rfl dX7_firstKept_6 (by decide) rfl rfl ?_
  refine x_isub dX7_firstKept_9 ?_
  refine x_mmax dX7_firstKept_10 ml_X7_7 (by decide) (Nat.le_of_ble_eq_true rfl) ?_
  cases h
  exact x_iret dX7_firstKept_13 ⟨rfl, rfl, rfl⟩
def f_X7_keeps_9 (o9 : Nat → Int32) (p1 : Int32) : Option Int32 := (Option.bind (f_X7_firstKept_9 o9) (fun q1 => (if p1 < q1 then (some 0) else (if (o9 2) ≤ p1 then (some 0) else (some 1)))))
set_option maxRecDepth 100000 in
set_option maxHeartbeats 400000 in
theorem v_X7_keeps_9 (s0 : XW) (o9 : Nat → Int32) (p1 : Int32) (q : Int32) (h : f_X7_keeps_9 o9 p1 = some q) : C_X7_keeps 2 61 [.ref 9, .int p1] (xof s0 [W_9 o9]) (some (.int q)) (xof s0 [W_9 o9]) := by
  unfold f_X7_keeps_9 at h
  show V yX7_keeps cX7_keeps (some .boolean) 2 61 (0, 0) 0 [some (.ref 9), some (.int p1)] [] (xof s0 [W_9 o9]) _
  refine x_iload_n dX7_keeps_0 rfl ?_
  refine x_aload_n dX7_keeps_1 rfl ?_
  obtain ⟨q1, hq1, h⟩ := Option.bind_eq_some_iff.mp h
  refine y_callVi (L' := [(9, _)]) mi_X7_firstKept ml_X7_29 im_X7_firstKept se_X7_firstKept (rfl : vwCl[6]? = _) dX7_keeps_2 (fun s1 => v_X7_firstKept_9 s1 _ q1 hq1) (by decide) rfl (Nat.le_of_ble_eq_true rfl) rfl (by decide) (Nat.le_of_ble_eq_true rfl) rfl rfl rfl rfl ?_
  refine x_icmp_lt (tgt := 20) dX7_keeps_5 (by decide) (fun c2 => ?_) (fun c2 => ?_)
  · replace h := xif_p c2 h
    refine x_iconst (v := 0) dX7_keeps_20 (by decide) ?_
    cases h
    exact x_zret dX7_keeps_21 (Or.inl rfl) ⟨rfl, rfl, rfl⟩
  · replace h := xif_n c2 h
    refine x_iload_n dX7_keeps_8 rfl ?_
    refine x_aload_n dX7_keeps_9 rfl ?_
    refine g_X7_23 rfl dX7_keeps_10 (by decide) rfl rfl ?_
    refine x_icmp_ge (tgt := 20) dX7_keeps_13 (by decide) (fun c3 => ?_) (fun c3 => ?_)
    · replace h := xif_p c3 h
      refine x_iconst (v := 0) dX7_keeps_20 (by decide) ?_
      cases h
      exact x_zret dX7_keeps_21 (Or.inl rfl) ⟨rfl, rfl, rfl⟩
    · replace h := xif_n c3 h
      refine x_iconst (v := 1) dX7_keeps_16 (by decide) ?_
      refine x_goto (tgt := 21) dX7_keeps_17 (by decide) ?_
      cases h
      exact x_zret dX7_keeps_21 (Or.inr rfl) ⟨rfl, rfl, rfl⟩
def f_X7_slotOf_9 (o9 : Nat → Int32) (p1 : Int32) : Option Int32 := (if p1 < 0 then (some 0) else (if 1 ≤ (o9 0) then (bif xnz (o9 0) then (some ((p1 - p1 / (o9 0) * (o9 0)))) else none) else (some 0)))
set_option maxRecDepth 100000 in
set_option maxHeartbeats 400000 in
theorem v_X7_slotOf_9 (s0 : XW) (o9 : Nat → Int32) (p1 : Int32) (q : Int32) (h : f_X7_slotOf_9 o9 p1 = some q) : C_X7_slotOf 0 61 [.ref 9, .int p1] (xof s0 [W_9 o9]) (some (.int q)) (xof s0 [W_9 o9]) := by
  unfold f_X7_slotOf_9 at h
  show V yX7_slotOf cX7_slotOf (some .int) 0 61 (0, 0) 0 [some (.ref 9), some (.int p1)] [] (xof s0 [W_9 o9]) _
  refine x_iload_n dX7_slotOf_0 rfl ?_
  refine x_if_lt (tgt := 12) dX7_slotOf_1 (by decide) (fun c1 => ?_) (fun c1 => ?_)
  · replace h := xif_p c1 h
    refine x_iconst (v := 0) dX7_slotOf_12 (by decide) ?_
    refine x_goto (tgt := 22) dX7_slotOf_13 (by decide) ?_
    cases h
    exact x_iret dX7_slotOf_22 ⟨rfl, rfl, rfl⟩
  · replace h := xif_n c1 h
    refine x_aload_n dX7_slotOf_4 rfl ?_
    refine g_X7_13 rfl dX7_slotOf_5 (by decide) rfl rfl ?_
    refine x_iconst (v := 1) dX7_slotOf_8 (by decide) ?_
    refine x_icmp_ge (tgt := 16) dX7_slotOf_9 (by decide) (fun c2 => ?_) (fun c2 => ?_)
    · replace h := xif_p c2 h
      refine x_iload_n dX7_slotOf_16 rfl ?_
      refine x_aload_n dX7_slotOf_17 rfl ?_
      refine g_X7_13 rfl dX7_slotOf_18 (by decide) rfl rfl ?_
      obtain ⟨c3, h⟩ := xck h
      refine x_irem dX7_slotOf_21 (xnz_ok c3) ?_
      cases h
      exact x_iret dX7_slotOf_22 ⟨rfl, rfl, rfl⟩
    · replace h := xif_n c2 h
      refine x_iconst (v := 0) dX7_slotOf_12 (by decide) ?_
      refine x_goto (tgt := 22) dX7_slotOf_13 (by decide) ?_
      cases h
      exact x_iret dX7_slotOf_22 ⟨rfl, rfl, rfl⟩
def f_X7_entry_9 (o9 : Nat → Int32) (a10 : Nat → Int32) (p1 : Int32) (p2 : Int32) : Option Int32 := (Option.bind (f_X7_slotOf_9 o9 p1) (fun q1 => (if ((3 * q1) + p2) < 0 then (some 0) else (if 36 ≤ ((3 * q1) + p2) then (some 0) else (bif xin ((3 * q1) + p2) 36 then (some ((a10 (Int32.toNatClampNeg ((3 * q1) + p2))))) else none)))))
set_option maxRecDepth 100000 in
set_option maxHeartbeats 400000 in
theorem v_X7_entry_9 (s0 : XW) (o9 : Nat → Int32) (a10 : Nat → Int32) (p1 : Int32) (p2 : Int32) (q : Int32) (h : f_X7_entry_9 o9 a10 p1 p2 = some q) : C_X7_entry 1 61 [.ref 9, .int p1, .int p2] (xof s0 [W_9 o9, W_10 a10]) (some (.int q)) (xof s0 [W_9 o9, W_10 a10]) := by
  unfold f_X7_entry_9 at h
  show V yX7_entry cX7_entry (some .int) 1 61 (0, 0) 0 [some (.ref 9), some (.int p1), some (.int p2), none] [] (xof s0 [W_9 o9, W_10 a10]) _
  refine x_iconst (v := 3) dX7_entry_0 (by decide) ?_
  refine x_aload_n dX7_entry_1 rfl ?_
  refine x_iload_n dX7_entry_2 rfl ?_
  obtain ⟨q1, hq1, h⟩ := Option.bind_eq_some_iff.mp h
  refine y_callVi (L' := [(9, _), (10, _)]) mi_X7_slotOf ml_X7_33 im_X7_slotOf se_X7_slotOf (rfl : vwCl[6]? = _) dX7_entry_3 (fun s1 => v_X7_slotOf_9 s1 _ _ q1 hq1) (by decide) rfl (Nat.le_of_ble_eq_true rfl) rfl (by decide) (Nat.le_of_ble_eq_true rfl) rfl rfl rfl rfl ?_
  refine x_imul dX7_entry_6 ?_
  refine x_iload_n dX7_entry_7 rfl ?_
  refine x_iadd dX7_entry_8 ?_
  refine x_istore_n (ls' := [_, _, _, _]) dX7_entry_9 rfl rfl ?_
  refine x_iload_n dX7_entry_10 rfl ?_
  refine x_if_lt (tgt := 32) dX7_entry_11 (by decide) (fun c2 => ?_) (fun c2 => ?_)
  · replace h := xif_p c2 h
    refine x_iconst (v := 0) dX7_entry_32 (by decide) ?_
    cases h
    exact x_iret dX7_entry_33 ⟨rfl, rfl, rfl⟩
  · replace h := xif_n c2 h
    refine x_iload_n dX7_entry_14 rfl ?_
    refine x_aload_n dX7_entry_15 rfl ?_
    refine g_X7_19 rfl dX7_entry_16 (by decide) rfl rfl ?_
    refine x_alen (v := 36) dX7_entry_19 (by decide) rfl (by decide) rfl ?_
    refine x_icmp_ge (tgt := 32) dX7_entry_20 (by decide) (fun c3 => ?_) (fun c3 => ?_)
    · replace h := xif_p c3 h
      refine x_iconst (v := 0) dX7_entry_32 (by decide) ?_
      cases h
      exact x_iret dX7_entry_33 ⟨rfl, rfl, rfl⟩
    · replace h := xif_n c3 h
      refine x_aload_n dX7_entry_23 rfl ?_
      refine g_X7_19 rfl dX7_entry_24 (by decide) rfl rfl ?_
      refine x_iload_n dX7_entry_27 rfl ?_
      obtain ⟨c4, h⟩ := xck h
      refine x_ialdK (jn := (Int32.toNatClampNeg ((3 * q1) + p2))) (v := (a10 (Int32.toNatClampNeg ((3 * q1) + p2)))) dX7_entry_28 (by decide) rfl (xin_ok c4) rfl rfl ?_
      refine x_goto (tgt := 33) dX7_entry_29 (by decide) ?_
      cases h
      exact x_iret dX7_entry_33 ⟨rfl, rfl, rfl⟩
def f_X5_loadStart_8 (o9 : Nat → Int32) (p1 : Int32) : Option Int32 := (Option.bind (f_X7_slotOf_9 o9 p1) (fun q1 => (some ((48 * q1)))))
set_option maxRecDepth 100000 in
set_option maxHeartbeats 400000 in
theorem v_X5_loadStart_8 (s0 : XW) (o9 : Nat → Int32) (p1 : Int32) (q : Int32) (h : f_X5_loadStart_8 o9 p1 = some q) : C_X5_loadStart 1 61 [.ref 8, .int p1] (xof s0 [W_8, W_9 o9]) (some (.int q)) (xof s0 [W_8, W_9 o9]) := by
  unfold f_X5_loadStart_8 at h
  show V yX5_loadStart cX5_loadStart (some .int) 1 61 (0, 0) 0 [some (.ref 8), some (.int p1)] [] (xof s0 [W_8, W_9 o9]) _
  refine x_bipush (v := 48) dX5_loadStart_0 (by decide) ?_
  refine x_aload_n dX5_loadStart_2 rfl ?_
  refine g_X5_16 rfl dX5_loadStart_3 (by decide) rfl rfl ?_
  refine x_iload_n dX5_loadStart_6 rfl ?_
  obtain ⟨q1, hq1, h⟩ := Option.bind_eq_some_iff.mp h
  refine y_callVi (L' := [(8, _), (9, _)]) mi_X7_slotOf ml_X5_33 im_X7_slotOf se_X7_slotOf (rfl : vwCl[6]? = _) dX5_loadStart_7 (fun s1 => v_X7_slotOf_9 s1 _ _ q1 hq1) (by decide) rfl (Nat.le_of_ble_eq_true rfl) rfl (by decide) (Nat.le_of_ble_eq_true rfl) rfl rfl rfl rfl ?_
  refine x_imul dX5_loadStart_10 ?_
  cases h
  exact x_iret dX5_loadStart_11 ⟨rfl, rfl, rfl⟩
def l_X8_isLoadLike_4_15_37 (n : Nat) (o4 : Nat → Int32) (a7 : Nat → Int32) (a15 : Nat → Int32) (l3 : Int32) (l4 : Int32) (l5 : Int32) : Nat → (Int32) → Option (Int32 ⊕ Int32)
  | 0, _ => none
  | k + 1, l6 => (if l4 ≤ l6 then (some (Sum.inr l6)) else (bif xin (l5 + l6) 3072 then (bif xin (l3 + l6) 576 then (if (a7 (Int32.toNatClampNeg (l5 + l6))) = (a15 (Int32.toNatClampNeg (l3 + l6))) then (l_X8_isLoadLike_4_15_37 n o4 a7 a15 l3 l4 l5 k ((l6 + 1))) else (some (Sum.inl 0))) else none) else none))
set_option maxRecDepth 100000 in
set_option maxHeartbeats 400000 in
theorem lv_X8_isLoadLike_4_15_37 (s0 : XW) (n : Nat) (o4 : Nat → Int32) (a7 : Nat → Int32) (a15 : Nat → Int32) (l3 : Int32) (l4 : Int32) (l5 : Int32) (Q : Nat → Option Value → XW → Prop) : ∀ (k : Nat) (l6 : Int32) (o : Int32 ⊕ Int32), l_X8_isLoadLike_4_15_37 n o4 a7 a15 l3 l4 l5 k l6 = some o → ((∀ z, o = Sum.inl z → Q 61 (some (.int z)) (xof s0 [W_4 o4, W_7 a7, W_15 a15])) ∧ (∀ z, o = Sum.inr z → V yX8_isLoadLike cX8_isLoadLike (some .boolean) 0 61 (0, 0) 71 [none, none, none, none, none, none, none] [] (xof s0 [W_4 o4, W_7 a7, W_15 a15]) Q)) → V yX8_isLoadLike cX8_isLoadLike (some .boolean) 0 61 (0, 0) 37 [some (.ref 4), none, some (.ref 15), some (.int l3), some (.int l4), some (.int l5), some (.int l6)] [] (xof s0 [W_4 o4, W_7 a7, W_15 a15]) Q := by
  intro k
  induction k with
  | zero =>
    intro _ _ h
    simp [l_X8_isLoadLike_4_15_37] at h
  | succ k ih =>
    intro l6 o h hk
    rw [l_X8_isLoadLike_4_15_37] at h
    refine x_iload dX8_isLoadLike_37 rfl ?_
    refine x_iload dX8_isLoadLike_39 rfl ?_
    refine x_icmp_ge (tgt := 71) dX8_isLoadLike_41 (by decide) (fun c4 => ?_) (fun c4 => ?_)
    · replace h := xif_p c4 h
      refine V.drop1 (i := 0) (ls' := [_, _, _, _, _, _, _]) rfl ?_
      refine V.drop1 (i := 2) (ls' := [_, _, _, _, _, _, _]) rfl ?_
      refine V.drop1 (i := 3) (ls' := [_, _, _, _, _, _, _]) rfl ?_
      refine V.drop1 (i := 4) (ls' := [_, _, _, _, _, _, _]) rfl ?_
      refine V.drop1 (i := 5) (ls' := [_, _, _, _, _, _, _]) rfl ?_
      refine V.drop1 (i := 6) (ls' := [_, _, _, _, _, _, _]) rfl ?_
      show V yX8_isLoadLike cX8_isLoadLike (some .boolean) 0 61 (0, 0) 71 [none, none, none, none, none, none, none] [] (xof s0 [W_4 o4, W_7 a7, W_15 a15]) _
      cases h
      exact hk.2 l6 rfl
    · replace h := xif_n c4 h
      refine x_aload_n dX8_isLoadLike_44 rfl ?_
      refine g_X8_22 rfl dX8_isLoadLike_45 (by decide) rfl rfl ?_
      refine x_iload dX8_isLoadLike_48 rfl ?_
      refine x_iload dX8_isLoadLike_50 rfl ?_
      refine x_iadd dX8_isLoadLike_52 ?_
      obtain ⟨c5, h⟩ := xck h
      refine x_baldK (jn := (Int32.toNatClampNeg (l5 + l6))) (v := (a7 (Int32.toNatClampNeg (l5 + l6)))) dX8_isLoadLike_53 (by decide) rfl (xin_ok c5) rfl rfl ?_
      refine x_aload_n dX8_isLoadLike_54 rfl ?_
      refine x_iload_n dX8_isLoadLike_55 rfl ?_
      refine x_iload dX8_isLoadLike_56 rfl ?_
      refine x_iadd dX8_isLoadLike_58 ?_
      obtain ⟨c6, h⟩ := xck h
      refine x_baldK (jn := (Int32.toNatClampNeg (l3 + l6))) (v := (a15 (Int32.toNatClampNeg (l3 + l6)))) dX8_isLoadLike_59 (by decide) rfl (xin_ok c6) rfl rfl ?_
      refine x_icmp_eq (tgt := 65) dX8_isLoadLike_60 (by decide) (fun c7 => ?_) (fun c7 => ?_)
      · replace h := xif_p c7 h
        refine x_iinc (v := l6 + 1) (ls' := [_, _, _, _, _, _, _]) dX8_isLoadLike_65 rfl rfl rfl rfl ?_
        refine x_goto (tgt := 37) dX8_isLoadLike_68 (by decide) ?_
        show V yX8_isLoadLike cX8_isLoadLike (some .boolean) 0 61 (0, 0) 37 [some (.ref 4), none, some (.ref 15), some (.int l3), some (.int l4), some (.int l5), some (.int ((l6 + 1)))] [] (xof s0 [W_4 o4, W_7 a7, W_15 a15]) _
        exact ih ((l6 + 1)) _ h hk
      · replace h := xif_n c7 h
        refine x_iconst (v := 0) dX8_isLoadLike_63 (by decide) ?_
        cases h
        exact x_zret dX8_isLoadLike_64 (Or.inl rfl) (hk.1 0 rfl)
def f_X8_isLoadLike_4_15 (n : Nat) (o4 : Nat → Int32) (a7 : Nat → Int32) (a15 : Nat → Int32) (p1 : Int32) (p3 : Int32) (p4 : Int32) : Option Int32 := (if p3 < 0 then (some 0) else (if (576 - p3) < p4 then (some 0) else (if p4 ≤ (3072 - (p1 * 48)) then (Option.bind (l_X8_isLoadLike_4_15_37 n o4 a7 a15 p3 p4 ((p1 * 48)) n 0) (fun u8 => Sum.elim (fun z9 => some z9) (fun z9 => (some 1)) u8)) else (some 0))))
set_option maxRecDepth 100000 in
set_option maxHeartbeats 400000 in
theorem v_X8_isLoadLike_4_15 (s0 : XW) (n : Nat) (o4 : Nat → Int32) (a7 : Nat → Int32) (a15 : Nat → Int32) (p1 : Int32) (p3 : Int32) (p4 : Int32) (q : Int32) (h : f_X8_isLoadLike_4_15 n o4 a7 a15 p1 p3 p4 = some q) : C_X8_isLoadLike 0 61 [.ref 4, .int p1, .ref 15, .int p3, .int p4] (xof s0 [W_4 o4, W_7 a7, W_15 a15]) (some (.int q)) (xof s0 [W_4 o4, W_7 a7, W_15 a15]) := by
  unfold f_X8_isLoadLike_4_15 at h
  show V yX8_isLoadLike cX8_isLoadLike (some .boolean) 0 61 (0, 0) 0 [some (.ref 4), some (.int p1), some (.ref 15), some (.int p3), some (.int p4), none, none] [] (xof s0 [W_4 o4, W_7 a7, W_15 a15]) _
  refine x_iload_n dX8_isLoadLike_0 rfl ?_
  refine x_bipush (v := 48) dX8_isLoadLike_1 (by decide) ?_
  refine x_imul dX8_isLoadLike_3 ?_
  refine x_istore (ls' := [_, _, _, _, _, _, _]) dX8_isLoadLike_4 rfl rfl ?_
  refine x_iload_n dX8_isLoadLike_6 rfl ?_
  refine x_if_lt (tgt := 32) dX8_isLoadLike_7 (by decide) (fun c1 => ?_) (fun c1 => ?_)
  · replace h := xif_p c1 h
    refine x_iconst (v := 0) dX8_isLoadLike_32 (by decide) ?_
    cases h
    exact x_zret dX8_isLoadLike_33 (Or.inl rfl) ⟨rfl, rfl, rfl⟩
  · replace h := xif_n c1 h
    refine x_iload dX8_isLoadLike_10 rfl ?_
    refine x_aload_n dX8_isLoadLike_12 rfl ?_
    refine x_alen (v := 576) dX8_isLoadLike_13 (by decide) rfl (by decide) rfl ?_
    refine x_iload_n dX8_isLoadLike_14 rfl ?_
    refine x_isub dX8_isLoadLike_15 ?_
    refine x_icmp_gt (tgt := 32) dX8_isLoadLike_16 (by decide) (fun c2 => ?_) (fun c2 => ?_)
    · replace h := xif_p c2 h
      refine x_iconst (v := 0) dX8_isLoadLike_32 (by decide) ?_
      cases h
      exact x_zret dX8_isLoadLike_33 (Or.inl rfl) ⟨rfl, rfl, rfl⟩
    · replace h := xif_n c2 h
      refine x_iload dX8_isLoadLike_19 rfl ?_
      refine x_aload_n dX8_isLoadLike_21 rfl ?_
      refine g_X8_22 rfl dX8_isLoadLike_22 (by decide) rfl rfl ?_
      refine x_alen (v := 3072) dX8_isLoadLike_25 (by decide) rfl (by decide) rfl ?_
      refine x_iload dX8_isLoadLike_26 rfl ?_
      refine x_isub dX8_isLoadLike_28 ?_
      refine x_icmp_le (tgt := 34) dX8_isLoadLike_29 (by decide) (fun c3 => ?_) (fun c3 => ?_)
      · replace h := xif_p c3 h
        refine x_iconst (v := 0) dX8_isLoadLike_34 (by decide) ?_
        refine x_istore (ls' := [_, _, _, _, _, _, _]) dX8_isLoadLike_35 rfl rfl ?_
        refine V.drop1 (i := 1) (ls' := [_, _, _, _, _, _, _]) rfl ?_
        obtain ⟨u8, hu8, h⟩ := Option.bind_eq_some_iff.mp h
        show V yX8_isLoadLike cX8_isLoadLike (some .boolean) 0 61 (0, 0) 37 [some (.ref 4), none, some (.ref 15), some (.int p3), some (.int p4), some (.int ((p1 * 48))), some (.int 0)] [] (xof s0 [W_4 o4, W_7 a7, W_15 a15]) _
        refine lv_X8_isLoadLike_4_15_37 s0 _ o4 a7 a15 p3 p4 ((p1 * 48)) _ n 0 _ hu8 ⟨fun z9 hz => ?_, fun z9 hz => ?_⟩
        · subst hz
          replace h := xsl h
          cases h
          exact ⟨rfl, rfl, rfl⟩
        subst hz
        replace h := xsr h
        refine x_iconst (v := 1) dX8_isLoadLike_71 (by decide) ?_
        cases h
        exact x_zret dX8_isLoadLike_72 (Or.inr rfl) ⟨rfl, rfl, rfl⟩
      · replace h := xif_n c3 h
        refine x_iconst (v := 0) dX8_isLoadLike_32 (by decide) ?_
        cases h
        exact x_zret dX8_isLoadLike_33 (Or.inl rfl) ⟨rfl, rfl, rfl⟩
def l_X8_firstLike_4_15_3 (n : Nat) (o4 : Nat → Int32) (a6 : Nat → Int32) (a7 : Nat → Int32) (a15 : Nat → Int32) (l1 : Int32) (l3 : Int32) (l4 : Int32) : Nat → (Int32) → Option (Int32 ⊕ Int32)
  | 0, _ => none
  | k + 1, l5 => (if (o4 3) ≤ l5 then (some (Sum.inr l5)) else (if 64 ≤ l5 then (some (Sum.inr l5)) else (bif xin l5 64 then (if (a6 (Int32.toNatClampNeg l5)) = l1 then (Option.bind (f_X8_isLoadLike_4_15 n o4 a7 a15 l5 l3 l4) (fun q5 => (if q5 = 0 then (l_X8_firstLike_4_15_3 n o4 a6 a7 a15 l1 l3 l4 k ((l5 + 1))) else (some (Sum.inl l5))))) else (l_X8_firstLike_4_15_3 n o4 a6 a7 a15 l1 l3 l4 k ((l5 + 1)))) else none)))
set_option maxRecDepth 100000 in
set_option maxHeartbeats 400000 in
theorem lv_X8_firstLike_4_15_3 (s0 : XW) (n : Nat) (o4 : Nat → Int32) (a6 : Nat → Int32) (a7 : Nat → Int32) (a15 : Nat → Int32) (l1 : Int32) (l3 : Int32) (l4 : Int32) (Q : Nat → Option Value → XW → Prop) : ∀ (k : Nat) (l5 : Int32) (o : Int32 ⊕ Int32), l_X8_firstLike_4_15_3 n o4 a6 a7 a15 l1 l3 l4 k l5 = some o → ((∀ z, o = Sum.inl z → Q 61 (some (.int z)) (xof s0 [W_4 o4, W_6 a6, W_7 a7, W_15 a15])) ∧ (∀ z, o = Sum.inr z → V yX8_firstLike cX8_firstLike (some .int) 1 61 (0, 0) 55 [none, none, none, none, none, none] [] (xof s0 [W_4 o4, W_6 a6, W_7 a7, W_15 a15]) Q)) → V yX8_firstLike cX8_firstLike (some .int) 1 61 (0, 0) 3 [some (.ref 4), some (.int l1), some (.ref 15), some (.int l3), some (.int l4), some (.int l5)] [] (xof s0 [W_4 o4, W_6 a6, W_7 a7, W_15 a15]) Q := by
  intro k
  induction k with
  | zero =>
    intro _ _ h
    simp [l_X8_firstLike_4_15_3] at h
  | succ k ih =>
    intro l5 o h hk
    rw [l_X8_firstLike_4_15_3] at h
    refine x_iload dX8_firstLike_3 rfl ?_
    refine x_aload_n dX8_firstLike_5 rfl ?_
    refine g_X8_26 rfl dX8_firstLike_6 (by decide) rfl rfl ?_
    refine x_icmp_ge (tgt := 55) dX8_firstLike_9 (by decide) (fun c1 => ?_) (fun c1 => ?_)
    · replace h := xif_p c1 h
      refine V.drop1 (i := 0) (ls' := [_, _, _, _, _, _]) rfl ?_
      refine V.drop1 (i := 1) (ls' := [_, _, _, _, _, _]) rfl ?_
      refine V.drop1 (i := 2) (ls' := [_, _, _, _, _, _]) rfl ?_
      refine V.drop1 (i := 3) (ls' := [_, _, _, _, _, _]) rfl ?_
      refine V.drop1 (i := 4) (ls' := [_, _, _, _, _, _]) rfl ?_
      refine V.drop1 (i := 5) (ls' := [_, _, _, _, _, _]) rfl ?_
      show V yX8_firstLike cX8_firstLike (some .int) 1 61 (0, 0) 55 [none, none, none, none, none, none] [] (xof s0 [W_4 o4, W_6 a6, W_7 a7, W_15 a15]) _
      cases h
      exact hk.2 l5 rfl
    · replace h := xif_n c1 h
      refine x_iload dX8_firstLike_12 rfl ?_
      refine x_aload_n dX8_firstLike_14 rfl ?_
      refine g_X8_18 rfl dX8_firstLike_15 (by decide) rfl rfl ?_
      refine x_alen (v := 64) dX8_firstLike_18 (by decide) rfl (by decide) rfl ?_
      refine x_icmp_ge (tgt := 55) dX8_firstLike_19 (by decide) (fun c2 => ?_) (fun c2 => ?_)
      · replace h := xif_p c2 h
        refine V.drop1 (i := 0) (ls' := [_, _, _, _, _, _]) rfl ?_
        refine V.drop1 (i := 1) (ls' := [_, _, _, _, _, _]) rfl ?_
        refine V.drop1 (i := 2) (ls' := [_, _, _, _, _, _]) rfl ?_
        refine V.drop1 (i := 3) (ls' := [_, _, _, _, _, _]) rfl ?_
        refine V.drop1 (i := 4) (ls' := [_, _, _, _, _, _]) rfl ?_
        refine V.drop1 (i := 5) (ls' := [_, _, _, _, _, _]) rfl ?_
        show V yX8_firstLike cX8_firstLike (some .int) 1 61 (0, 0) 55 [none, none, none, none, none, none] [] (xof s0 [W_4 o4, W_6 a6, W_7 a7, W_15 a15]) _
        cases h
        exact hk.2 l5 rfl
      · replace h := xif_n c2 h
        refine x_aload_n dX8_firstLike_22 rfl ?_
        refine g_X8_18 rfl dX8_firstLike_23 (by decide) rfl rfl ?_
        refine x_iload dX8_firstLike_26 rfl ?_
        obtain ⟨c3, h⟩ := xck h
        refine x_ialdK (jn := (Int32.toNatClampNeg l5)) (v := (a6 (Int32.toNatClampNeg l5))) dX8_firstLike_28 (by decide) rfl (xin_ok c3) rfl rfl ?_
        refine x_iload_n dX8_firstLike_29 rfl ?_
        refine x_icmp_ne (tgt := 49) dX8_firstLike_30 (by decide) (fun c4 => ?_) (fun c4 => ?_)
        · replace h := xif_n c4 h
          refine x_iinc (v := l5 + 1) (ls' := [_, _, _, _, _, _]) dX8_firstLike_49 rfl rfl rfl rfl ?_
          refine x_goto (tgt := 3) dX8_firstLike_52 (by decide) ?_
          show V yX8_firstLike cX8_firstLike (some .int) 1 61 (0, 0) 3 [some (.ref 4), some (.int l1), some (.ref 15), some (.int l3), some (.int l4), some (.int ((l5 + 1)))] [] (xof s0 [W_4 o4, W_6 a6, W_7 a7, W_15 a15]) _
          exact ih ((l5 + 1)) _ h hk
        · replace h := xif_p c4 h
          refine x_aload_n dX8_firstLike_33 rfl ?_
          refine x_iload dX8_firstLike_34 rfl ?_
          refine x_aload_n dX8_firstLike_36 rfl ?_
          refine x_iload_n dX8_firstLike_37 rfl ?_
          refine x_iload dX8_firstLike_38 rfl ?_
          obtain ⟨q5, hq5, h⟩ := Option.bind_eq_some_iff.mp h
          refine y_callVi (L' := [(4, _), (6, _), (7, _), (15, _)]) mi_X8_isLoadLike ml_X8_60 im_X8_isLoadLike se_X8_isLoadLike (rfl : vwCl[7]? = _) dX8_firstLike_40 (fun s1 => v_X8_isLoadLike_4_15 s1 n _ _ _ _ _ _ q5 hq5) (by decide) rfl (Nat.le_of_ble_eq_true rfl) rfl (by decide) (Nat.le_of_ble_eq_true rfl) rfl rfl rfl rfl ?_
          refine x_if_eq (tgt := 49) dX8_firstLike_43 (by decide) (fun c6 => ?_) (fun c6 => ?_)
          · replace h := xif_p c6 h
            refine x_iinc (v := l5 + 1) (ls' := [_, _, _, _, _, _]) dX8_firstLike_49 rfl rfl rfl rfl ?_
            refine x_goto (tgt := 3) dX8_firstLike_52 (by decide) ?_
            show V yX8_firstLike cX8_firstLike (some .int) 1 61 (0, 0) 3 [some (.ref 4), some (.int l1), some (.ref 15), some (.int l3), some (.int l4), some (.int ((l5 + 1)))] [] (xof s0 [W_4 o4, W_6 a6, W_7 a7, W_15 a15]) _
            exact ih ((l5 + 1)) _ h hk
          · replace h := xif_n c6 h
            refine x_iload dX8_firstLike_46 rfl ?_
            cases h
            exact x_iret dX8_firstLike_48 (hk.1 l5 rfl)
def f_X8_firstLike_4_15 (n : Nat) (o4 : Nat → Int32) (a6 : Nat → Int32) (a7 : Nat → Int32) (a15 : Nat → Int32) (p1 : Int32) (p3 : Int32) (p4 : Int32) : Option Int32 := (Option.bind (l_X8_firstLike_4_15_3 n o4 a6 a7 a15 p1 p3 p4 n 0) (fun u7 => Sum.elim (fun z8 => some z8) (fun z8 => (some ((-1)))) u7))
set_option maxRecDepth 100000 in
set_option maxHeartbeats 400000 in
theorem v_X8_firstLike_4_15 (s0 : XW) (n : Nat) (o4 : Nat → Int32) (a6 : Nat → Int32) (a7 : Nat → Int32) (a15 : Nat → Int32) (p1 : Int32) (p3 : Int32) (p4 : Int32) (q : Int32) (h : f_X8_firstLike_4_15 n o4 a6 a7 a15 p1 p3 p4 = some q) : C_X8_firstLike 1 61 [.ref 4, .int p1, .ref 15, .int p3, .int p4] (xof s0 [W_4 o4, W_6 a6, W_7 a7, W_15 a15]) (some (.int q)) (xof s0 [W_4 o4, W_6 a6, W_7 a7, W_15 a15]) := by
  unfold f_X8_firstLike_4_15 at h
  show V yX8_firstLike cX8_firstLike (some .int) 1 61 (0, 0) 0 [some (.ref 4), some (.int p1), some (.ref 15), some (.int p3), some (.int p4), none] [] (xof s0 [W_4 o4, W_6 a6, W_7 a7, W_15 a15]) _
  refine x_iconst (v := 0) dX8_firstLike_0 (by decide) ?_
  refine x_istore (ls' := [_, _, _, _, _, _]) dX8_firstLike_1 rfl rfl ?_
  obtain ⟨u7, hu7, h⟩ := Option.bind_eq_some_iff.mp h
  show V yX8_firstLike cX8_firstLike (some .int) 1 61 (0, 0) 3 [some (.ref 4), some (.int p1), some (.ref 15), some (.int p3), some (.int p4), some (.int 0)] [] (xof s0 [W_4 o4, W_6 a6, W_7 a7, W_15 a15]) _
  refine lv_X8_firstLike_4_15_3 s0 _ o4 a6 a7 a15 p1 p3 p4 _ n 0 _ hu7 ⟨fun z8 hz => ?_, fun z8 hz => ?_⟩
  · subst hz
    replace h := xsl h
    cases h
    exact ⟨rfl, rfl, rfl⟩
  subst hz
  replace h := xsr h
  refine x_iconst (v := -1) dX8_firstLike_55 (by decide) ?_
  cases h
  exact x_iret dX8_firstLike_56 ⟨rfl, rfl, rfl⟩
def f_X11_foundOf_0 (n : Nat) (a1 : Nat → Int32) (o4 : Nat → Int32) (a6 : Nat → Int32) (a7 : Nat → Int32) (o9 : Nat → Int32) (a10 : Nat → Int32) (a15 : Nat → Int32) (p1 : Int32) : Option Int32 := (Option.bind (f_X7_entry_9 o9 a10 p1 0) (fun q1 => (Option.bind (f_X5_loadStart_8 o9 p1) (fun q2 => (Option.bind (f_X8_firstLike_4_15 n o4 a6 a7 a15 q1 q2 ((a1 0))) (fun q3 => (some q3)))))))
set_option maxRecDepth 100000 in
set_option maxHeartbeats 400000 in
theorem v_X11_foundOf_0 (s0 : XW) (n : Nat) (a1 : Nat → Int32) (o4 : Nat → Int32) (a6 : Nat → Int32) (a7 : Nat → Int32) (o9 : Nat → Int32) (a10 : Nat → Int32) (a15 : Nat → Int32) (p1 : Int32) (q : Int32) (h : f_X11_foundOf_0 n a1 o4 a6 a7 o9 a10 a15 p1 = some q) : C_X11_foundOf 2 61 [.ref 0, .int p1] (xof s0 [W_0, W_1 a1, W_4 o4, W_6 a6, W_7 a7, W_8, W_9 o9, W_10 a10, W_15 a15]) (some (.int q)) (xof s0 [W_0, W_1 a1, W_4 o4, W_6 a6, W_7 a7, W_8, W_9 o9, W_10 a10, W_15 a15]) := by
  unfold f_X11_foundOf_0 at h
  show V yX11_foundOf cX11_foundOf (some .int) 2 61 (0, 0) 0 [some (.ref 0), some (.int p1)] [] (xof s0 [W_0, W_1 a1, W_4 o4, W_6 a6, W_7 a7, W_8, W_9 o9, W_10 a10, W_15 a15]) _
  refine x_aload_n dX11_foundOf_0 rfl ?_
  refine g_X11_31 rfl dX11_foundOf_1 (by decide) rfl rfl ?_
  refine x_aload_n dX11_foundOf_4 rfl ?_
  refine g_X11_38 rfl dX11_foundOf_5 (by decide) rfl rfl ?_
  refine g_X11_230 rfl dX11_foundOf_8 (by decide) rfl rfl ?_
  refine x_iload_n dX11_foundOf_11 rfl ?_
  refine x_iconst (v := 0) dX11_foundOf_12 (by decide) ?_
  obtain ⟨q1, hq1, h⟩ := Option.bind_eq_some_iff.mp h
  refine y_callVi (L' := [(0, _), (1, _), (4, _), (6, _), (7, _), (8, _), (9, _), (10, _), (15, _)]) mi_X7_entry ml_X11_242 im_X7_entry se_X7_entry (rfl : vwCl[6]? = _) dX11_foundOf_13 (fun s1 => v_X7_entry_9 s1 _ _ _ _ q1 hq1) (by decide) rfl (Nat.le_of_ble_eq_true rfl) rfl (by decide) (Nat.le_of_ble_eq_true rfl) rfl rfl rfl rfl ?_
  refine x_aload_n dX11_foundOf_16 rfl ?_
  refine g_X11_38 rfl dX11_foundOf_17 (by decide) rfl rfl ?_
  refine g_X11_374 rfl dX11_foundOf_20 (by decide) rfl rfl ?_
  refine x_aload_n dX11_foundOf_23 rfl ?_
  refine g_X11_38 rfl dX11_foundOf_24 (by decide) rfl rfl ?_
  refine x_iload_n dX11_foundOf_27 rfl ?_
  obtain ⟨q2, hq2, h⟩ := Option.bind_eq_some_iff.mp h
  refine y_callVi (L' := [(0, _), (1, _), (4, _), (6, _), (7, _), (8, _), (9, _), (10, _), (15, _)]) mi_X5_loadStart ml_X11_378 im_X5_loadStart se_X5_loadStart (rfl : vwCl[4]? = _) dX11_foundOf_28 (fun s1 => v_X5_loadStart_8 s1 _ _ q2 hq2) (by decide) rfl (Nat.le_of_ble_eq_true rfl) rfl (by decide) (Nat.le_of_ble_eq_true rfl) rfl rfl rfl rfl ?_
  refine x_aload_n dX11_foundOf_31 rfl ?_
  refine g_X11_18 rfl dX11_foundOf_32 (by decide) rfl rfl ?_
  refine x_iconst (v := 0) dX11_foundOf_35 (by decide) ?_
  refine x_ialdK (jn := 0) (v := (a1 0)) dX11_foundOf_36 (by decide) rfl (xin_ok (by decide)) (by decide) rfl ?_
  obtain ⟨q3, hq3, h⟩ := Option.bind_eq_some_iff.mp h
  refine y_callVi (L' := [(0, _), (1, _), (4, _), (6, _), (7, _), (8, _), (9, _), (10, _), (15, _)]) mi_X8_firstLike ml_X11_381 im_X8_firstLike se_X8_firstLike (rfl : vwCl[7]? = _) dX11_foundOf_37 (fun s1 => v_X8_firstLike_4_15 s1 n _ _ _ _ _ _ _ q3 hq3) (by decide) rfl (Nat.le_of_ble_eq_true rfl) rfl (by decide) (Nat.le_of_ble_eq_true rfl) rfl rfl rfl rfl ?_
  cases h
  exact x_iret dX11_foundOf_40 ⟨rfl, rfl, rfl⟩
def f_X11_delivered_0 (n : Nat) (a1 : Nat → Int32) (o4 : Nat → Int32) (a6 : Nat → Int32) (a7 : Nat → Int32) (o9 : Nat → Int32) (a10 : Nat → Int32) (a15 : Nat → Int32) (p1 : Int32) (p2 : Int32) : Option Int32 := (Option.bind (f_X11_isWithin p2 0 3) (fun q1 => (if q1 = 0 then (some ((-2))) else (Option.bind (f_X7_keeps_9 o9 p1) (fun q3 => (if q3 = 0 then (some ((-2))) else (if p2 = 3 then (Option.bind (f_X11_foundOf_0 n a1 o4 a6 a7 o9 a10 a15 p1) (fun q7 => (some q7))) else (Option.bind (f_X7_entry_9 o9 a10 p1 p2) (fun q6 => (some q6))))))))))
set_option maxRecDepth 100000 in
set_option maxHeartbeats 400000 in
theorem v_X11_delivered_0 (s0 : XW) (n : Nat) (a1 : Nat → Int32) (o4 : Nat → Int32) (a6 : Nat → Int32) (a7 : Nat → Int32) (o9 : Nat → Int32) (a10 : Nat → Int32) (a15 : Nat → Int32) (p1 : Int32) (p2 : Int32) (q : Int32) (h : f_X11_delivered_0 n a1 o4 a6 a7 o9 a10 a15 p1 p2 = some q) : C_X11_delivered 3 61 [.ref 0, .int p1, .int p2] (xof s0 [W_0, W_1 a1, W_4 o4, W_6 a6, W_7 a7, W_8, W_9 o9, W_10 a10, W_15 a15]) (some (.int q)) (xof s0 [W_0, W_1 a1, W_4 o4, W_6 a6, W_7 a7, W_8, W_9 o9, W_10 a10, W_15 a15]) := by
  unfold f_X11_delivered_0 at h
  show V yX11_delivered cX11_delivered (some .int) 3 61 (0, 0) 0 [some (.ref 0), some (.int p1), some (.int p2)] [] (xof s0 [W_0, W_1 a1, W_4 o4, W_6 a6, W_7 a7, W_8, W_9 o9, W_10 a10, W_15 a15]) _
  refine x_iload_n dX11_delivered_0 rfl ?_
  refine x_iconst (v := 0) dX11_delivered_1 (by decide) ?_
  refine x_iconst (v := 3) dX11_delivered_2 (by decide) ?_
  obtain ⟨q1, hq1, h⟩ := Option.bind_eq_some_iff.mp h
  refine y_callSi (L' := [(0, _), (1, _), (4, _), (6, _), (7, _), (8, _), (9, _), (10, _), (15, _)]) mi_X11_isWithin ml_X11_100 st_X11_isWithin dX11_delivered_3 (fun s1 => v_X11_isWithin 61 s1 _ _ _ q1 hq1) (Nat.le_of_ble_eq_true rfl) rfl (by decide) (Nat.le_of_ble_eq_true rfl) rfl rfl rfl rfl ?_
  refine x_if_eq (tgt := 23) dX11_delivered_6 (by decide) (fun c2 => ?_) (fun c2 => ?_)
  · replace h := xif_p c2 h
    refine x_bipush (v := -2) dX11_delivered_23 (by decide) ?_
    cases h
    exact x_iret dX11_delivered_25 ⟨rfl, rfl, rfl⟩
  · replace h := xif_n c2 h
    refine x_aload_n dX11_delivered_9 rfl ?_
    refine g_X11_38 rfl dX11_delivered_10 (by decide) rfl rfl ?_
    refine g_X11_230 rfl dX11_delivered_13 (by decide) rfl rfl ?_
    refine x_iload_n dX11_delivered_16 rfl ?_
    obtain ⟨q3, hq3, h⟩ := Option.bind_eq_some_iff.mp h
    refine y_callVi (L' := [(0, _), (1, _), (4, _), (6, _), (7, _), (8, _), (9, _), (10, _), (15, _)]) mi_X7_keeps ml_X11_234 im_X7_keeps se_X7_keeps (rfl : vwCl[6]? = _) dX11_delivered_17 (fun s1 => v_X7_keeps_9 s1 _ _ q3 hq3) (by decide) rfl (Nat.le_of_ble_eq_true rfl) rfl (by decide) (Nat.le_of_ble_eq_true rfl) rfl rfl rfl rfl ?_
    refine x_if_ne (tgt := 26) dX11_delivered_20 (by decide) (fun c4 => ?_) (fun c4 => ?_)
    · replace h := xif_n c4 h
      refine x_iload_n dX11_delivered_26 rfl ?_
      refine x_iconst (v := 3) dX11_delivered_27 (by decide) ?_
      refine x_icmp_ne (tgt := 39) dX11_delivered_28 (by decide) (fun c5 => ?_) (fun c5 => ?_)
      · replace h := xif_n c5 h
        refine x_aload_n dX11_delivered_39 rfl ?_
        refine g_X11_38 rfl dX11_delivered_40 (by decide) rfl rfl ?_
        refine g_X11_230 rfl dX11_delivered_43 (by decide) rfl rfl ?_
        refine x_iload_n dX11_delivered_46 rfl ?_
        refine x_iload_n dX11_delivered_47 rfl ?_
        obtain ⟨q6, hq6, h⟩ := Option.bind_eq_some_iff.mp h
        refine y_callVi (L' := [(0, _), (1, _), (4, _), (6, _), (7, _), (8, _), (9, _), (10, _), (15, _)]) mi_X7_entry ml_X11_242 im_X7_entry se_X7_entry (rfl : vwCl[6]? = _) dX11_delivered_48 (fun s1 => v_X7_entry_9 s1 _ _ _ _ q6 hq6) (by decide) rfl (Nat.le_of_ble_eq_true rfl) rfl (by decide) (Nat.le_of_ble_eq_true rfl) rfl rfl rfl rfl ?_
        cases h
        exact x_iret dX11_delivered_51 ⟨rfl, rfl, rfl⟩
      · replace h := xif_p c5 h
        refine x_aload_n dX11_delivered_31 rfl ?_
        refine x_iload_n dX11_delivered_32 rfl ?_
        obtain ⟨q7, hq7, h⟩ := Option.bind_eq_some_iff.mp h
        refine y_callVi (L' := [(0, _), (1, _), (4, _), (6, _), (7, _), (8, _), (9, _), (10, _), (15, _)]) mi_X11_foundOf ml_X11_239 im_X11_foundOf se_X11_foundOf (rfl : vwCl[10]? = _) dX11_delivered_33 (fun s1 => v_X11_foundOf_0 s1 n _ _ _ _ _ _ _ _ q7 hq7) (by decide) rfl (Nat.le_of_ble_eq_true rfl) rfl (by decide) (Nat.le_of_ble_eq_true rfl) rfl rfl rfl rfl ?_
        refine x_goto (tgt := 51) dX11_delivered_36 (by decide) ?_
        cases h
        exact x_iret dX11_delivered_51 ⟨rfl, rfl, rfl⟩
    · replace h := xif_p c4 h
      refine x_bipush (v := -2) dX11_delivered_23 (by decide) ?_
      cases h
      exact x_iret dX11_delivered_25 ⟨rfl, rfl, rfl⟩
def f_X5_loadByte_8 (o9 : Nat → Int32) (a15 : Nat → Int32) (p1 : Int32) (p2 : Int32) : Option Int32 := (Option.bind (f_X5_loadStart_8 o9 p1) (fun q1 => (if (q1 + p2) < 0 then (some 0) else (if 576 ≤ (q1 + p2) then (some 0) else (bif xin (q1 + p2) 576 then (some (((a15 (Int32.toNatClampNeg (q1 + p2))) &&& 255))) else none)))))
set_option maxRecDepth 100000 in
set_option maxHeartbeats 400000 in
theorem v_X5_loadByte_8 (s0 : XW) (o9 : Nat → Int32) (a15 : Nat → Int32) (p1 : Int32) (p2 : Int32) (q : Int32) (h : f_X5_loadByte_8 o9 a15 p1 p2 = some q) : C_X5_loadByte 2 61 [.ref 8, .int p1, .int p2] (xof s0 [W_8, W_9 o9, W_15 a15]) (some (.int q)) (xof s0 [W_8, W_9 o9, W_15 a15]) := by
  unfold f_X5_loadByte_8 at h
  show V yX5_loadByte cX5_loadByte (some .int) 2 61 (0, 0) 0 [some (.ref 8), some (.int p1), some (.int p2), none] [] (xof s0 [W_8, W_9 o9, W_15 a15]) _
  refine x_aload_n dX5_loadByte_0 rfl ?_
  refine x_iload_n dX5_loadByte_1 rfl ?_
  obtain ⟨q1, hq1, h⟩ := Option.bind_eq_some_iff.mp h
  refine y_callVi (L' := [(8, _), (9, _), (15, _)]) mi_X5_loadStart ml_X5_37 im_X5_loadStart se_X5_loadStart (rfl : vwCl[4]? = _) dX5_loadByte_2 (fun s1 => v_X5_loadStart_8 s1 _ _ q1 hq1) (by decide) rfl (Nat.le_of_ble_eq_true rfl) rfl (by decide) (Nat.le_of_ble_eq_true rfl) rfl rfl rfl rfl ?_
  refine x_iload_n dX5_loadByte_5 rfl ?_
  refine x_iadd dX5_loadByte_6 ?_
  refine x_istore_n (ls' := [_, _, _, _]) dX5_loadByte_7 rfl rfl ?_
  refine x_iload_n dX5_loadByte_8 rfl ?_
  refine x_if_lt (tgt := 34) dX5_loadByte_9 (by decide) (fun c2 => ?_) (fun c2 => ?_)
  · replace h := xif_p c2 h
    refine x_iconst (v := 0) dX5_loadByte_34 (by decide) ?_
    cases h
    exact x_iret dX5_loadByte_35 ⟨rfl, rfl, rfl⟩
  · replace h := xif_n c2 h
    refine x_iload_n dX5_loadByte_12 rfl ?_
    refine x_aload_n dX5_loadByte_13 rfl ?_
    refine g_X5_26 rfl dX5_loadByte_14 (by decide) rfl rfl ?_
    refine x_alen (v := 576) dX5_loadByte_17 (by decide) rfl (by decide) rfl ?_
    refine x_icmp_ge (tgt := 34) dX5_loadByte_18 (by decide) (fun c3 => ?_) (fun c3 => ?_)
    · replace h := xif_p c3 h
      refine x_iconst (v := 0) dX5_loadByte_34 (by decide) ?_
      cases h
      exact x_iret dX5_loadByte_35 ⟨rfl, rfl, rfl⟩
    · replace h := xif_n c3 h
      refine x_aload_n dX5_loadByte_21 rfl ?_
      refine g_X5_26 rfl dX5_loadByte_22 (by decide) rfl rfl ?_
      refine x_iload_n dX5_loadByte_25 rfl ?_
      obtain ⟨c4, h⟩ := xck h
      refine x_baldK (jn := (Int32.toNatClampNeg (q1 + p2))) (v := (a15 (Int32.toNatClampNeg (q1 + p2)))) dX5_loadByte_26 (by decide) rfl (xin_ok c4) rfl rfl ?_
      refine x_sipush (v := 255) dX5_loadByte_27 (by decide) ?_
      refine x_iand dX5_loadByte_30 ?_
      refine x_goto (tgt := 35) dX5_loadByte_31 (by decide) ?_
      cases h
      exact x_iret dX5_loadByte_35 ⟨rfl, rfl, rfl⟩
def f_X11_load_0 (a1 : Nat → Int32) (o9 : Nat → Int32) (a15 : Nat → Int32) (p1 : Int32) (p2 : Int32) : Option Int32 := (Option.bind (f_X7_keeps_9 o9 p1) (fun q1 => (if q1 = 0 then (some ((-2))) else (Option.bind (f_X11_isWithin p2 0 (((a1 0) - 1))) (fun q3 => (if q3 = 0 then (some ((-1))) else (Option.bind (f_X5_loadByte_8 o9 a15 p1 p2) (fun q5 => (some q5)))))))))
set_option maxRecDepth 100000 in
set_option maxHeartbeats 400000 in
theorem v_X11_load_0 (s0 : XW) (a1 : Nat → Int32) (o9 : Nat → Int32) (a15 : Nat → Int32) (p1 : Int32) (p2 : Int32) (q : Int32) (h : f_X11_load_0 a1 o9 a15 p1 p2 = some q) : C_X11_load 3 61 [.ref 0, .int p1, .int p2] (xof s0 [W_0, W_1 a1, W_8, W_9 o9, W_15 a15]) (some (.int q)) (xof s0 [W_0, W_1 a1, W_8, W_9 o9, W_15 a15]) := by
  unfold f_X11_load_0 at h
  show V yX11_load cX11_load (some .int) 3 61 (0, 0) 0 [some (.ref 0), some (.int p1), some (.int p2)] [] (xof s0 [W_0, W_1 a1, W_8, W_9 o9, W_15 a15]) _
  refine x_aload_n dX11_load_0 rfl ?_
  refine g_X11_38 rfl dX11_load_1 (by decide) rfl rfl ?_
  refine g_X11_230 rfl dX11_load_4 (by decide) rfl rfl ?_
  refine x_iload_n dX11_load_7 rfl ?_
  obtain ⟨q1, hq1, h⟩ := Option.bind_eq_some_iff.mp h
  refine y_callVi (L' := [(0, _), (1, _), (8, _), (9, _), (15, _)]) mi_X7_keeps ml_X11_234 im_X7_keeps se_X7_keeps (rfl : vwCl[6]? = _) dX11_load_8 (fun s1 => v_X7_keeps_9 s1 _ _ q1 hq1) (by decide) rfl (Nat.le_of_ble_eq_true rfl) rfl (by decide) (Nat.le_of_ble_eq_true rfl) rfl rfl rfl rfl ?_
  refine x_if_ne (tgt := 17) dX11_load_11 (by decide) (fun c2 => ?_) (fun c2 => ?_)
  · replace h := xif_n c2 h
    refine x_iload_n dX11_load_17 rfl ?_
    refine x_iconst (v := 0) dX11_load_18 (by decide) ?_
    refine x_aload_n dX11_load_19 rfl ?_
    refine g_X11_18 rfl dX11_load_20 (by decide) rfl rfl ?_
    refine x_iconst (v := 0) dX11_load_23 (by decide) ?_
    refine x_ialdK (jn := 0) (v := (a1 0)) dX11_load_24 (by decide) rfl (xin_ok (by decide)) (by decide) rfl ?_
    refine x_iconst (v := 1) dX11_load_25 (by decide) ?_
    refine x_isub dX11_load_26 ?_
    obtain ⟨q3, hq3, h⟩ := Option.bind_eq_some_iff.mp h
    refine y_callSi (L' := [(0, _), (1, _), (8, _), (9, _), (15, _)]) mi_X11_isWithin ml_X11_100 st_X11_isWithin dX11_load_27 (fun s1 => v_X11_isWithin 61 s1 _ _ _ q3 hq3) (Nat.le_of_ble_eq_true rfl) rfl (by decide) (Nat.le_of_ble_eq_true rfl) rfl rfl rfl rfl ?_
    refine x_if_eq (tgt := 45) dX11_load_30 (by decide) (fun c4 => ?_) (fun c4 => ?_)
    · replace h := xif_p c4 h
      refine x_iconst (v := -1) dX11_load_45 (by decide) ?_
      cases h
      exact x_iret dX11_load_46 ⟨rfl, rfl, rfl⟩
    · replace h := xif_n c4 h
      refine x_aload_n dX11_load_33 rfl ?_
      refine g_X11_38 rfl dX11_load_34 (by decide) rfl rfl ?_
      refine x_iload_n dX11_load_37 rfl ?_
      refine x_iload_n dX11_load_38 rfl ?_
      obtain ⟨q5, hq5, h⟩ := Option.bind_eq_some_iff.mp h
      refine y_callVi (L' := [(0, _), (1, _), (8, _), (9, _), (15, _)]) mi_X5_loadByte ml_X11_246 im_X5_loadByte se_X5_loadByte (rfl : vwCl[4]? = _) dX11_load_39 (fun s1 => v_X5_loadByte_8 s1 _ _ _ _ q5 hq5) (by decide) rfl (Nat.le_of_ble_eq_true rfl) rfl (by decide) (Nat.le_of_ble_eq_true rfl) rfl rfl rfl rfl ?_
      refine x_goto (tgt := 46) dX11_load_42 (by decide) ?_
      cases h
      exact x_iret dX11_load_46 ⟨rfl, rfl, rfl⟩
  · replace h := xif_p c2 h
    refine x_bipush (v := -2) dX11_load_14 (by decide) ?_
    cases h
    exact x_iret dX11_load_16 ⟨rfl, rfl, rfl⟩
def f_X11_field_0 (o9 : Nat → Int32) (a10 : Nat → Int32) (p1 : Int32) (p2 : Int32) : Option Int32 := (Option.bind (f_X11_isWithin p2 0 4) (fun q1 => (if q1 = 0 then (some ((-2))) else (Option.bind (f_X7_keeps_9 o9 p1) (fun q3 => (if q3 = 0 then (some ((-2))) else (Option.bind (f_X7_entry_9 o9 a10 p1 0) (fun q5 => (if p2 = 0 then (some ((xus q5 28))) else (if p2 = 1 then (some (((xus q5 20) &&& 255))) else (if p2 = 2 then (some (((xus q5 4) &&& 65535))) else (if p2 = 3 then (some (((xus q5 1) &&& 7))) else (some ((q5 &&& 1)))))))))))))))
set_option maxRecDepth 100000 in
set_option maxHeartbeats 400000 in
theorem v_X11_field_0 (s0 : XW) (o9 : Nat → Int32) (a10 : Nat → Int32) (p1 : Int32) (p2 : Int32) (q : Int32) (h : f_X11_field_0 o9 a10 p1 p2 = some q) : C_X11_field 3 61 [.ref 0, .int p1, .int p2] (xof s0 [W_0, W_8, W_9 o9, W_10 a10]) (some (.int q)) (xof s0 [W_0, W_8, W_9 o9, W_10 a10]) := by
  unfold f_X11_field_0 at h
  show V yX11_field cX11_field (some .int) 3 61 (0, 0) 0 [some (.ref 0), some (.int p1), some (.int p2), none] [] (xof s0 [W_0, W_8, W_9 o9, W_10 a10]) _
  refine x_iload_n dX11_field_0 rfl ?_
  refine x_iconst (v := 0) dX11_field_1 (by decide) ?_
  refine x_iconst (v := 4) dX11_field_2 (by decide) ?_
  obtain ⟨q1, hq1, h⟩ := Option.bind_eq_some_iff.mp h
  refine y_callSi (L' := [(0, _), (8, _), (9, _), (10, _)]) mi_X11_isWithin ml_X11_100 st_X11_isWithin dX11_field_3 (fun s1 => v_X11_isWithin 61 s1 _ _ _ q1 hq1) (Nat.le_of_ble_eq_true rfl) rfl (by decide) (Nat.le_of_ble_eq_true rfl) rfl rfl rfl rfl ?_
  refine x_if_eq (tgt := 23) dX11_field_6 (by decide) (fun c2 => ?_) (fun c2 => ?_)
  · replace h := xif_p c2 h
    refine x_bipush (v := -2) dX11_field_23 (by decide) ?_
    cases h
    exact x_iret dX11_field_25 ⟨rfl, rfl, rfl⟩
  · replace h := xif_n c2 h
    refine x_aload_n dX11_field_9 rfl ?_
    refine g_X11_38 rfl dX11_field_10 (by decide) rfl rfl ?_
    refine g_X11_230 rfl dX11_field_13 (by decide) rfl rfl ?_
    refine x_iload_n dX11_field_16 rfl ?_
    obtain ⟨q3, hq3, h⟩ := Option.bind_eq_some_iff.mp h
    refine y_callVi (L' := [(0, _), (8, _), (9, _), (10, _)]) mi_X7_keeps ml_X11_234 im_X7_keeps se_X7_keeps (rfl : vwCl[6]? = _) dX11_field_17 (fun s1 => v_X7_keeps_9 s1 _ _ q3 hq3) (by decide) rfl (Nat.le_of_ble_eq_true rfl) rfl (by decide) (Nat.le_of_ble_eq_true rfl) rfl rfl rfl rfl ?_
    refine x_if_ne (tgt := 26) dX11_field_20 (by decide) (fun c4 => ?_) (fun c4 => ?_)
    · replace h := xif_n c4 h
      refine x_aload_n dX11_field_26 rfl ?_
      refine g_X11_38 rfl dX11_field_27 (by decide) rfl rfl ?_
      refine g_X11_230 rfl dX11_field_30 (by decide) rfl rfl ?_
      refine x_iload_n dX11_field_33 rfl ?_
      refine x_iconst (v := 0) dX11_field_34 (by decide) ?_
      obtain ⟨q5, hq5, h⟩ := Option.bind_eq_some_iff.mp h
      refine y_callVi (L' := [(0, _), (8, _), (9, _), (10, _)]) mi_X7_entry ml_X11_242 im_X7_entry se_X7_entry (rfl : vwCl[6]? = _) dX11_field_35 (fun s1 => v_X7_entry_9 s1 _ _ _ _ q5 hq5) (by decide) rfl (Nat.le_of_ble_eq_true rfl) rfl (by decide) (Nat.le_of_ble_eq_true rfl) rfl rfl rfl rfl ?_
      refine x_istore_n (ls' := [_, _, _, _]) dX11_field_38 rfl rfl ?_
      refine x_iload_n dX11_field_39 rfl ?_
      by_cases c6 : p2 = 0
      · replace h := xif_p c6 h
        refine x_tableIn (tgt := 72) dX11_field_40 (by rw [c6]; decide) (by rw [c6]; decide) (by rw [c6]; rfl) (by decide) ?_
        refine x_iload_n dX11_field_72 rfl ?_
        refine x_bipush (v := 28) dX11_field_73 (by decide) ?_
        refine x_iushr dX11_field_75 ?_
        cases h
        exact x_iret dX11_field_76 ⟨rfl, rfl, rfl⟩
      replace h := xif_n c6 h
      by_cases c7 : p2 = 1
      · replace h := xif_p c7 h
        refine x_tableIn (tgt := 77) dX11_field_40 (by rw [c7]; decide) (by rw [c7]; decide) (by rw [c7]; rfl) (by decide) ?_
        refine x_iload_n dX11_field_77 rfl ?_
        refine x_bipush (v := 20) dX11_field_78 (by decide) ?_
        refine x_iushr dX11_field_80 ?_
        refine x_sipush (v := 255) dX11_field_81 (by decide) ?_
        refine x_iand dX11_field_84 ?_
        cases h
        exact x_iret dX11_field_85 ⟨rfl, rfl, rfl⟩
      replace h := xif_n c7 h
      by_cases c8 : p2 = 2
      · replace h := xif_p c8 h
        refine x_tableIn (tgt := 86) dX11_field_40 (by rw [c8]; decide) (by rw [c8]; decide) (by rw [c8]; rfl) (by decide) ?_
        refine x_iload_n dX11_field_86 rfl ?_
        refine x_iconst (v := 4) dX11_field_87 (by decide) ?_
        refine x_iushr dX11_field_88 ?_
        refine x_ldc dX11_field_89 cn_X11_249 ?_
        refine x_iand dX11_field_91 ?_
        cases h
        exact x_iret dX11_field_92 ⟨rfl, rfl, rfl⟩
      replace h := xif_n c8 h
      by_cases c9 : p2 = 3
      · replace h := xif_p c9 h
        refine x_tableIn (tgt := 93) dX11_field_40 (by rw [c9]; decide) (by rw [c9]; decide) (by rw [c9]; rfl) (by decide) ?_
        refine x_iload_n dX11_field_93 rfl ?_
        refine x_iconst (v := 1) dX11_field_94 (by decide) ?_
        refine x_iushr dX11_field_95 ?_
        refine x_bipush (v := 7) dX11_field_96 (by decide) ?_
        refine x_iand dX11_field_98 ?_
        cases h
        exact x_iret dX11_field_99 ⟨rfl, rfl, rfl⟩
      replace h := xif_n c9 h
      have c6t := lv_neT c6 (show Int32.toInt 0 = 0 from rfl)
      have c7t := lv_neT c7 (show Int32.toInt 1 = 1 from rfl)
      have c8t := lv_neT c8 (show Int32.toInt 2 = 2 from rfl)
      have c9t := lv_neT c9 (show Int32.toInt 3 = 3 from rfl)
      refine x_tableOut (tgt := 100) dX11_field_40 (by omega) (by decide) ?_
      refine x_iload_n dX11_field_100 rfl ?_
      refine x_iconst (v := 1) dX11_field_101 (by decide) ?_
      refine x_iand dX11_field_102 ?_
      cases h
      exact x_iret dX11_field_103 ⟨rfl, rfl, rfl⟩
    · replace h := xif_p c4 h
      refine x_bipush (v := -2) dX11_field_23 (by decide) ?_
      cases h
      exact x_iret dX11_field_25 ⟨rfl, rfl, rfl⟩
def f_X7_firstKept_13 (o13 : Nat → Int32)  : Option Int32 := (some ((if 0 < ((o13 2) - (o13 0)) then ((o13 2) - (o13 0)) else 0)))
set_option maxRecDepth 100000 in
set_option maxHeartbeats 400000 in
theorem v_X7_firstKept_13 (s0 : XW) (o13 : Nat → Int32)  (q : Int32) (h : f_X7_firstKept_13 o13 = some q) : C_X7_firstKept 1 61 [.ref 13] (xof s0 [W_13 o13]) (some (.int q)) (xof s0 [W_13 o13]) := by
  unfold f_X7_firstKept_13 at h
  show V yX7_firstKept cX7_firstKept (some .int) 1 61 (0, 0) 0 [some (.ref 13)] [] (xof s0 [W_13 o13]) _
  refine x_iconst (v := 0) dX7_firstKept_0 (by decide) ?_
  refine x_aload_n dX7_firstKept_1 rfl ?_
  refine g_X7_23 rfl dX7_firstKept_2 (by decide) rfl rfl ?_
  refine x_aload_n dX7_firstKept_5 rfl ?_
  refine g_X7_13 rfl dX7_firstKept_6 (by decide) rfl rfl ?_
  refine x_isub dX7_firstKept_9 ?_
  refine x_mmax dX7_firstKept_10 ml_X7_7 (by decide) (Nat.le_of_ble_eq_true rfl) ?_
  cases h
  exact x_iret dX7_firstKept_13 ⟨rfl, rfl, rfl⟩
def f_X7_keeps_13 (o13 : Nat → Int32) (p1 : Int32) : Option Int32 := (Option.bind (f_X7_firstKept_13 o13) (fun q1 => (if p1 < q1 then (some 0) else (if (o13 2) ≤ p1 then (some 0) else (some 1)))))
set_option maxRecDepth 100000 in
set_option maxHeartbeats 400000 in
theorem v_X7_keeps_13 (s0 : XW) (o13 : Nat → Int32) (p1 : Int32) (q : Int32) (h : f_X7_keeps_13 o13 p1 = some q) : C_X7_keeps 2 61 [.ref 13, .int p1] (xof s0 [W_13 o13]) (some (.int q)) (xof s0 [W_13 o13]) := by
  unfold f_X7_keeps_13 at h
  show V yX7_keeps cX7_keeps (some .boolean) 2 61 (0, 0) 0 [some (.ref 13), some (.int p1)] [] (xof s0 [W_13 o13]) _
  refine x_iload_n dX7_keeps_0 rfl ?_
  refine x_aload_n dX7_keeps_1 rfl ?_
  obtain ⟨q1, hq1, h⟩ := Option.bind_eq_some_iff.mp h
  refine y_callVi (L' := [(13, _)]) mi_X7_firstKept ml_X7_29 im_X7_firstKept se_X7_firstKept (rfl : vwCl[6]? = _) dX7_keeps_2 (fun s1 => v_X7_firstKept_13 s1 _ q1 hq1) (by decide) rfl (Nat.le_of_ble_eq_true rfl) rfl (by decide) (Nat.le_of_ble_eq_true rfl) rfl rfl rfl rfl ?_
  refine x_icmp_lt (tgt := 20) dX7_keeps_5 (by decide) (fun c2 => ?_) (fun c2 => ?_)
  · replace h := xif_p c2 h
    refine x_iconst (v := 0) dX7_keeps_20 (by decide) ?_
    cases h
    exact x_zret dX7_keeps_21 (Or.inl rfl) ⟨rfl, rfl, rfl⟩
  · replace h := xif_n c2 h
    refine x_iload_n dX7_keeps_8 rfl ?_
    refine x_aload_n dX7_keeps_9 rfl ?_
    refine g_X7_23 rfl dX7_keeps_10 (by decide) rfl rfl ?_
    refine x_icmp_ge (tgt := 20) dX7_keeps_13 (by decide) (fun c3 => ?_) (fun c3 => ?_)
    · replace h := xif_p c3 h
      refine x_iconst (v := 0) dX7_keeps_20 (by decide) ?_
      cases h
      exact x_zret dX7_keeps_21 (Or.inl rfl) ⟨rfl, rfl, rfl⟩
    · replace h := xif_n c3 h
      refine x_iconst (v := 1) dX7_keeps_16 (by decide) ?_
      refine x_goto (tgt := 21) dX7_keeps_17 (by decide) ?_
      cases h
      exact x_zret dX7_keeps_21 (Or.inr rfl) ⟨rfl, rfl, rfl⟩
def f_X7_slotOf_13 (o13 : Nat → Int32) (p1 : Int32) : Option Int32 := (if p1 < 0 then (some 0) else (if 1 ≤ (o13 0) then (bif xnz (o13 0) then (some ((p1 - p1 / (o13 0) * (o13 0)))) else none) else (some 0)))
set_option maxRecDepth 100000 in
set_option maxHeartbeats 400000 in
theorem v_X7_slotOf_13 (s0 : XW) (o13 : Nat → Int32) (p1 : Int32) (q : Int32) (h : f_X7_slotOf_13 o13 p1 = some q) : C_X7_slotOf 0 61 [.ref 13, .int p1] (xof s0 [W_13 o13]) (some (.int q)) (xof s0 [W_13 o13]) := by
  unfold f_X7_slotOf_13 at h
  show V yX7_slotOf cX7_slotOf (some .int) 0 61 (0, 0) 0 [some (.ref 13), some (.int p1)] [] (xof s0 [W_13 o13]) _
  refine x_iload_n dX7_slotOf_0 rfl ?_
  refine x_if_lt (tgt := 12) dX7_slotOf_1 (by decide) (fun c1 => ?_) (fun c1 => ?_)
  · replace h := xif_p c1 h
    refine x_iconst (v := 0) dX7_slotOf_12 (by decide) ?_
    refine x_goto (tgt := 22) dX7_slotOf_13 (by decide) ?_
    cases h
    exact x_iret dX7_slotOf_22 ⟨rfl, rfl, rfl⟩
  · replace h := xif_n c1 h
    refine x_aload_n dX7_slotOf_4 rfl ?_
    refine g_X7_13 rfl dX7_slotOf_5 (by decide) rfl rfl ?_
    refine x_iconst (v := 1) dX7_slotOf_8 (by decide) ?_
    refine x_icmp_ge (tgt := 16) dX7_slotOf_9 (by decide) (fun c2 => ?_) (fun c2 => ?_)
    · replace h := xif_p c2 h
      refine x_iload_n dX7_slotOf_16 rfl ?_
      refine x_aload_n dX7_slotOf_17 rfl ?_
      refine g_X7_13 rfl dX7_slotOf_18 (by decide) rfl rfl ?_
      obtain ⟨c3, h⟩ := xck h
      refine x_irem dX7_slotOf_21 (xnz_ok c3) ?_
      cases h
      exact x_iret dX7_slotOf_22 ⟨rfl, rfl, rfl⟩
    · replace h := xif_n c2 h
      refine x_iconst (v := 0) dX7_slotOf_12 (by decide) ?_
      refine x_goto (tgt := 22) dX7_slotOf_13 (by decide) ?_
      cases h
      exact x_iret dX7_slotOf_22 ⟨rfl, rfl, rfl⟩
def f_X7_entry_13 (o13 : Nat → Int32) (a14 : Nat → Int32) (p1 : Int32) (p2 : Int32) : Option Int32 := (Option.bind (f_X7_slotOf_13 o13 p1) (fun q1 => (if ((3 * q1) + p2) < 0 then (some 0) else (if 96 ≤ ((3 * q1) + p2) then (some 0) else (bif xin ((3 * q1) + p2) 96 then (some ((a14 (Int32.toNatClampNeg ((3 * q1) + p2))))) else none)))))
set_option maxRecDepth 100000 in
set_option maxHeartbeats 400000 in
theorem v_X7_entry_13 (s0 : XW) (o13 : Nat → Int32) (a14 : Nat → Int32) (p1 : Int32) (p2 : Int32) (q : Int32) (h : f_X7_entry_13 o13 a14 p1 p2 = some q) : C_X7_entry 1 61 [.ref 13, .int p1, .int p2] (xof s0 [W_13 o13, W_14 a14]) (some (.int q)) (xof s0 [W_13 o13, W_14 a14]) := by
  unfold f_X7_entry_13 at h
  show V yX7_entry cX7_entry (some .int) 1 61 (0, 0) 0 [some (.ref 13), some (.int p1), some (.int p2), none] [] (xof s0 [W_13 o13, W_14 a14]) _
  refine x_iconst (v := 3) dX7_entry_0 (by decide) ?_
  refine x_aload_n dX7_entry_1 rfl ?_
  refine x_iload_n dX7_entry_2 rfl ?_
  obtain ⟨q1, hq1, h⟩ := Option.bind_eq_some_iff.mp h
  refine y_callVi (L' := [(13, _), (14, _)]) mi_X7_slotOf ml_X7_33 im_X7_slotOf se_X7_slotOf (rfl : vwCl[6]? = _) dX7_entry_3 (fun s1 => v_X7_slotOf_13 s1 _ _ q1 hq1) (by decide) rfl (Nat.le_of_ble_eq_true rfl) rfl (by decide) (Nat.le_of_ble_eq_true rfl) rfl rfl rfl rfl ?_
  refine x_imul dX7_entry_6 ?_
  refine x_iload_n dX7_entry_7 rfl ?_
  refine x_iadd dX7_entry_8 ?_
  refine x_istore_n (ls' := [_, _, _, _]) dX7_entry_9 rfl rfl ?_
  refine x_iload_n dX7_entry_10 rfl ?_
  refine x_if_lt (tgt := 32) dX7_entry_11 (by decide) (fun c2 => ?_) (fun c2 => ?_)
  · replace h := xif_p c2 h
    refine x_iconst (v := 0) dX7_entry_32 (by decide) ?_
    cases h
    exact x_iret dX7_entry_33 ⟨rfl, rfl, rfl⟩
  · replace h := xif_n c2 h
    refine x_iload_n dX7_entry_14 rfl ?_
    refine x_aload_n dX7_entry_15 rfl ?_
    refine g_X7_19 rfl dX7_entry_16 (by decide) rfl rfl ?_
    refine x_alen (v := 96) dX7_entry_19 (by decide) rfl (by decide) rfl ?_
    refine x_icmp_ge (tgt := 32) dX7_entry_20 (by decide) (fun c3 => ?_) (fun c3 => ?_)
    · replace h := xif_p c3 h
      refine x_iconst (v := 0) dX7_entry_32 (by decide) ?_
      cases h
      exact x_iret dX7_entry_33 ⟨rfl, rfl, rfl⟩
    · replace h := xif_n c3 h
      refine x_aload_n dX7_entry_23 rfl ?_
      refine g_X7_19 rfl dX7_entry_24 (by decide) rfl rfl ?_
      refine x_iload_n dX7_entry_27 rfl ?_
      obtain ⟨c4, h⟩ := xck h
      refine x_ialdK (jn := (Int32.toNatClampNeg ((3 * q1) + p2))) (v := (a14 (Int32.toNatClampNeg ((3 * q1) + p2)))) dX7_entry_28 (by decide) rfl (xin_ok c4) rfl rfl ?_
      refine x_goto (tgt := 33) dX7_entry_29 (by decide) ?_
      cases h
      exact x_iret dX7_entry_33 ⟨rfl, rfl, rfl⟩
def f_X11_judged_0 (o13 : Nat → Int32) (a14 : Nat → Int32) (p1 : Int32) (p2 : Int32) : Option Int32 := (Option.bind (f_X11_isWithin p2 0 2) (fun q1 => (if q1 = 0 then (some ((-2))) else (Option.bind (f_X7_keeps_13 o13 p1) (fun q3 => (if q3 = 0 then (some ((-2))) else (Option.bind (f_X7_entry_13 o13 a14 p1 p2) (fun q5 => (some q5)))))))))
set_option maxRecDepth 100000 in
set_option maxHeartbeats 400000 in
theorem v_X11_judged_0 (s0 : XW) (o13 : Nat → Int32) (a14 : Nat → Int32) (p1 : Int32) (p2 : Int32) (q : Int32) (h : f_X11_judged_0 o13 a14 p1 p2 = some q) : C_X11_judged 3 61 [.ref 0, .int p1, .int p2] (xof s0 [W_0, W_8, W_13 o13, W_14 a14]) (some (.int q)) (xof s0 [W_0, W_8, W_13 o13, W_14 a14]) := by
  unfold f_X11_judged_0 at h
  show V yX11_judged cX11_judged (some .int) 3 61 (0, 0) 0 [some (.ref 0), some (.int p1), some (.int p2)] [] (xof s0 [W_0, W_8, W_13 o13, W_14 a14]) _
  refine x_iload_n dX11_judged_0 rfl ?_
  refine x_iconst (v := 0) dX11_judged_1 (by decide) ?_
  refine x_iconst (v := 2) dX11_judged_2 (by decide) ?_
  obtain ⟨q1, hq1, h⟩ := Option.bind_eq_some_iff.mp h
  refine y_callSi (L' := [(0, _), (8, _), (13, _), (14, _)]) mi_X11_isWithin ml_X11_100 st_X11_isWithin dX11_judged_3 (fun s1 => v_X11_isWithin 61 s1 _ _ _ q1 hq1) (Nat.le_of_ble_eq_true rfl) rfl (by decide) (Nat.le_of_ble_eq_true rfl) rfl rfl rfl rfl ?_
  refine x_if_eq (tgt := 23) dX11_judged_6 (by decide) (fun c2 => ?_) (fun c2 => ?_)
  · replace h := xif_p c2 h
    refine x_bipush (v := -2) dX11_judged_23 (by decide) ?_
    cases h
    exact x_iret dX11_judged_25 ⟨rfl, rfl, rfl⟩
  · replace h := xif_n c2 h
    refine x_aload_n dX11_judged_9 rfl ?_
    refine g_X11_38 rfl dX11_judged_10 (by decide) rfl rfl ?_
    refine g_X11_250 rfl dX11_judged_13 (by decide) rfl rfl ?_
    refine x_iload_n dX11_judged_16 rfl ?_
    obtain ⟨q3, hq3, h⟩ := Option.bind_eq_some_iff.mp h
    refine y_callVi (L' := [(0, _), (8, _), (13, _), (14, _)]) mi_X7_keeps ml_X11_234 im_X7_keeps se_X7_keeps (rfl : vwCl[6]? = _) dX11_judged_17 (fun s1 => v_X7_keeps_13 s1 _ _ q3 hq3) (by decide) rfl (Nat.le_of_ble_eq_true rfl) rfl (by decide) (Nat.le_of_ble_eq_true rfl) rfl rfl rfl rfl ?_
    refine x_if_ne (tgt := 26) dX11_judged_20 (by decide) (fun c4 => ?_) (fun c4 => ?_)
    · replace h := xif_n c4 h
      refine x_aload_n dX11_judged_26 rfl ?_
      refine g_X11_38 rfl dX11_judged_27 (by decide) rfl rfl ?_
      refine g_X11_250 rfl dX11_judged_30 (by decide) rfl rfl ?_
      refine x_iload_n dX11_judged_33 rfl ?_
      refine x_iload_n dX11_judged_34 rfl ?_
      obtain ⟨q5, hq5, h⟩ := Option.bind_eq_some_iff.mp h
      refine y_callVi (L' := [(0, _), (8, _), (13, _), (14, _)]) mi_X7_entry ml_X11_242 im_X7_entry se_X7_entry (rfl : vwCl[6]? = _) dX11_judged_35 (fun s1 => v_X7_entry_13 s1 _ _ _ _ q5 hq5) (by decide) rfl (Nat.le_of_ble_eq_true rfl) rfl (by decide) (Nat.le_of_ble_eq_true rfl) rfl rfl rfl rfl ?_
      cases h
      exact x_iret dX11_judged_38 ⟨rfl, rfl, rfl⟩
    · replace h := xif_p c4 h
      refine x_bipush (v := -2) dX11_judged_23 (by decide) ?_
      cases h
      exact x_iret dX11_judged_25 ⟨rfl, rfl, rfl⟩
def f_X7_firstKept_11 (o11 : Nat → Int32)  : Option Int32 := (some ((if 0 < ((o11 2) - (o11 0)) then ((o11 2) - (o11 0)) else 0)))
set_option maxRecDepth 100000 in
set_option maxHeartbeats 400000 in
theorem v_X7_firstKept_11 (s0 : XW) (o11 : Nat → Int32)  (q : Int32) (h : f_X7_firstKept_11 o11 = some q) : C_X7_firstKept 1 61 [.ref 11] (xof s0 [W_11 o11]) (some (.int q)) (xof s0 [W_11 o11]) := by
  unfold f_X7_firstKept_11 at h
  show V yX7_firstKept cX7_firstKept (some .int) 1 61 (0, 0) 0 [some (.ref 11)] [] (xof s0 [W_11 o11]) _
  refine x_iconst (v := 0) dX7_firstKept_0 (by decide) ?_
  refine x_aload_n dX7_firstKept_1 rfl ?_
  refine g_X7_23 rfl dX7_firstKept_2 (by decide) rfl rfl ?_
  refine x_aload_n dX7_firstKept_5 rfl ?_
  refine g_X7_13 rfl dX7_firstKept_6 (by decide) rfl rfl ?_
  refine x_isub dX7_firstKept_9 ?_
  refine x_mmax dX7_firstKept_10 ml_X7_7 (by decide) (Nat.le_of_ble_eq_true rfl) ?_
  cases h
  exact x_iret dX7_firstKept_13 ⟨rfl, rfl, rfl⟩
def f_X7_keeps_11 (o11 : Nat → Int32) (p1 : Int32) : Option Int32 := (Option.bind (f_X7_firstKept_11 o11) (fun q1 => (if p1 < q1 then (some 0) else (if (o11 2) ≤ p1 then (some 0) else (some 1)))))
set_option maxRecDepth 100000 in
set_option maxHeartbeats 400000 in
theorem v_X7_keeps_11 (s0 : XW) (o11 : Nat → Int32) (p1 : Int32) (q : Int32) (h : f_X7_keeps_11 o11 p1 = some q) : C_X7_keeps 2 61 [.ref 11, .int p1] (xof s0 [W_11 o11]) (some (.int q)) (xof s0 [W_11 o11]) := by
  unfold f_X7_keeps_11 at h
  show V yX7_keeps cX7_keeps (some .boolean) 2 61 (0, 0) 0 [some (.ref 11), some (.int p1)] [] (xof s0 [W_11 o11]) _
  refine x_iload_n dX7_keeps_0 rfl ?_
  refine x_aload_n dX7_keeps_1 rfl ?_
  obtain ⟨q1, hq1, h⟩ := Option.bind_eq_some_iff.mp h
  refine y_callVi (L' := [(11, _)]) mi_X7_firstKept ml_X7_29 im_X7_firstKept se_X7_firstKept (rfl : vwCl[6]? = _) dX7_keeps_2 (fun s1 => v_X7_firstKept_11 s1 _ q1 hq1) (by decide) rfl (Nat.le_of_ble_eq_true rfl) rfl (by decide) (Nat.le_of_ble_eq_true rfl) rfl rfl rfl rfl ?_
  refine x_icmp_lt (tgt := 20) dX7_keeps_5 (by decide) (fun c2 => ?_) (fun c2 => ?_)
  · replace h := xif_p c2 h
    refine x_iconst (v := 0) dX7_keeps_20 (by decide) ?_
    cases h
    exact x_zret dX7_keeps_21 (Or.inl rfl) ⟨rfl, rfl, rfl⟩
  · replace h := xif_n c2 h
    refine x_iload_n dX7_keeps_8 rfl ?_
    refine x_aload_n dX7_keeps_9 rfl ?_
    refine g_X7_23 rfl dX7_keeps_10 (by decide) rfl rfl ?_
    refine x_icmp_ge (tgt := 20) dX7_keeps_13 (by decide) (fun c3 => ?_) (fun c3 => ?_)
    · replace h := xif_p c3 h
      refine x_iconst (v := 0) dX7_keeps_20 (by decide) ?_
      cases h
      exact x_zret dX7_keeps_21 (Or.inl rfl) ⟨rfl, rfl, rfl⟩
    · replace h := xif_n c3 h
      refine x_iconst (v := 1) dX7_keeps_16 (by decide) ?_
      refine x_goto (tgt := 21) dX7_keeps_17 (by decide) ?_
      cases h
      exact x_zret dX7_keeps_21 (Or.inr rfl) ⟨rfl, rfl, rfl⟩
def f_X7_slotOf_11 (o11 : Nat → Int32) (p1 : Int32) : Option Int32 := (if p1 < 0 then (some 0) else (if 1 ≤ (o11 0) then (bif xnz (o11 0) then (some ((p1 - p1 / (o11 0) * (o11 0)))) else none) else (some 0)))
set_option maxRecDepth 100000 in
set_option maxHeartbeats 400000 in
theorem v_X7_slotOf_11 (s0 : XW) (o11 : Nat → Int32) (p1 : Int32) (q : Int32) (h : f_X7_slotOf_11 o11 p1 = some q) : C_X7_slotOf 0 61 [.ref 11, .int p1] (xof s0 [W_11 o11]) (some (.int q)) (xof s0 [W_11 o11]) := by
  unfold f_X7_slotOf_11 at h
  show V yX7_slotOf cX7_slotOf (some .int) 0 61 (0, 0) 0 [some (.ref 11), some (.int p1)] [] (xof s0 [W_11 o11]) _
  refine x_iload_n dX7_slotOf_0 rfl ?_
  refine x_if_lt (tgt := 12) dX7_slotOf_1 (by decide) (fun c1 => ?_) (fun c1 => ?_)
  · replace h := xif_p c1 h
    refine x_iconst (v := 0) dX7_slotOf_12 (by decide) ?_
    refine x_goto (tgt := 22) dX7_slotOf_13 (by decide) ?_
    cases h
    exact x_iret dX7_slotOf_22 ⟨rfl, rfl, rfl⟩
  · replace h := xif_n c1 h
    refine x_aload_n dX7_slotOf_4 rfl ?_
    refine g_X7_13 rfl dX7_slotOf_5 (by decide) rfl rfl ?_
    refine x_iconst (v := 1) dX7_slotOf_8 (by decide) ?_
    refine x_icmp_ge (tgt := 16) dX7_slotOf_9 (by decide) (fun c2 => ?_) (fun c2 => ?_)
    · replace h := xif_p c2 h
      refine x_iload_n dX7_slotOf_16 rfl ?_
      refine x_aload_n dX7_slotOf_17 rfl ?_
      refine g_X7_13 rfl dX7_slotOf_18 (by decide) rfl rfl ?_
      obtain ⟨c3, h⟩ := xck h
      refine x_irem dX7_slotOf_21 (xnz_ok c3) ?_
      cases h
      exact x_iret dX7_slotOf_22 ⟨rfl, rfl, rfl⟩
    · replace h := xif_n c2 h
      refine x_iconst (v := 0) dX7_slotOf_12 (by decide) ?_
      refine x_goto (tgt := 22) dX7_slotOf_13 (by decide) ?_
      cases h
      exact x_iret dX7_slotOf_22 ⟨rfl, rfl, rfl⟩
def f_X7_entry_11 (o11 : Nat → Int32) (a12 : Nat → Int32) (p1 : Int32) (p2 : Int32) : Option Int32 := (Option.bind (f_X7_slotOf_11 o11 p1) (fun q1 => (if ((3 * q1) + p2) < 0 then (some 0) else (if 72 ≤ ((3 * q1) + p2) then (some 0) else (bif xin ((3 * q1) + p2) 72 then (some ((a12 (Int32.toNatClampNeg ((3 * q1) + p2))))) else none)))))
set_option maxRecDepth 100000 in
set_option maxHeartbeats 400000 in
theorem v_X7_entry_11 (s0 : XW) (o11 : Nat → Int32) (a12 : Nat → Int32) (p1 : Int32) (p2 : Int32) (q : Int32) (h : f_X7_entry_11 o11 a12 p1 p2 = some q) : C_X7_entry 1 61 [.ref 11, .int p1, .int p2] (xof s0 [W_11 o11, W_12 a12]) (some (.int q)) (xof s0 [W_11 o11, W_12 a12]) := by
  unfold f_X7_entry_11 at h
  show V yX7_entry cX7_entry (some .int) 1 61 (0, 0) 0 [some (.ref 11), some (.int p1), some (.int p2), none] [] (xof s0 [W_11 o11, W_12 a12]) _
  refine x_iconst (v := 3) dX7_entry_0 (by decide) ?_
  refine x_aload_n dX7_entry_1 rfl ?_
  refine x_iload_n dX7_entry_2 rfl ?_
  obtain ⟨q1, hq1, h⟩ := Option.bind_eq_some_iff.mp h
  refine y_callVi (L' := [(11, _), (12, _)]) mi_X7_slotOf ml_X7_33 im_X7_slotOf se_X7_slotOf (rfl : vwCl[6]? = _) dX7_entry_3 (fun s1 => v_X7_slotOf_11 s1 _ _ q1 hq1) (by decide) rfl (Nat.le_of_ble_eq_true rfl) rfl (by decide) (Nat.le_of_ble_eq_true rfl) rfl rfl rfl rfl ?_
  refine x_imul dX7_entry_6 ?_
  refine x_iload_n dX7_entry_7 rfl ?_
  refine x_iadd dX7_entry_8 ?_
  refine x_istore_n (ls' := [_, _, _, _]) dX7_entry_9 rfl rfl ?_
  refine x_iload_n dX7_entry_10 rfl ?_
  refine x_if_lt (tgt := 32) dX7_entry_11 (by decide) (fun c2 => ?_) (fun c2 => ?_)
  · replace h := xif_p c2 h
    refine x_iconst (v := 0) dX7_entry_32 (by decide) ?_
    cases h
    exact x_iret dX7_entry_33 ⟨rfl, rfl, rfl⟩
  · replace h := xif_n c2 h
    refine x_iload_n dX7_entry_14 rfl ?_
    refine x_aload_n dX7_entry_15 rfl ?_
    refine g_X7_19 rfl dX7_entry_16 (by decide) rfl rfl ?_
    refine x_alen (v := 72) dX7_entry_19 (by decide) rfl (by decide) rfl ?_
    refine x_icmp_ge (tgt := 32) dX7_entry_20 (by decide) (fun c3 => ?_) (fun c3 => ?_)
    · replace h := xif_p c3 h
      refine x_iconst (v := 0) dX7_entry_32 (by decide) ?_
      cases h
      exact x_iret dX7_entry_33 ⟨rfl, rfl, rfl⟩
    · replace h := xif_n c3 h
      refine x_aload_n dX7_entry_23 rfl ?_
      refine g_X7_19 rfl dX7_entry_24 (by decide) rfl rfl ?_
      refine x_iload_n dX7_entry_27 rfl ?_
      obtain ⟨c4, h⟩ := xck h
      refine x_ialdK (jn := (Int32.toNatClampNeg ((3 * q1) + p2))) (v := (a12 (Int32.toNatClampNeg ((3 * q1) + p2)))) dX7_entry_28 (by decide) rfl (xin_ok c4) rfl rfl ?_
      refine x_goto (tgt := 33) dX7_entry_29 (by decide) ?_
      cases h
      exact x_iret dX7_entry_33 ⟨rfl, rfl, rfl⟩
def f_X11_turn_0 (o11 : Nat → Int32) (a12 : Nat → Int32) (p1 : Int32) (p2 : Int32) : Option Int32 := (Option.bind (f_X11_isWithin p2 0 2) (fun q1 => (if q1 = 0 then (some ((-2))) else (Option.bind (f_X7_keeps_11 o11 p1) (fun q3 => (if q3 = 0 then (some ((-2))) else (Option.bind (f_X7_entry_11 o11 a12 p1 p2) (fun q5 => (some q5)))))))))
set_option maxRecDepth 100000 in
set_option maxHeartbeats 400000 in
theorem v_X11_turn_0 (s0 : XW) (o11 : Nat → Int32) (a12 : Nat → Int32) (p1 : Int32) (p2 : Int32) (q : Int32) (h : f_X11_turn_0 o11 a12 p1 p2 = some q) : C_X11_turn 3 61 [.ref 0, .int p1, .int p2] (xof s0 [W_0, W_8, W_11 o11, W_12 a12]) (some (.int q)) (xof s0 [W_0, W_8, W_11 o11, W_12 a12]) := by
  unfold f_X11_turn_0 at h
  show V yX11_turn cX11_turn (some .int) 3 61 (0, 0) 0 [some (.ref 0), some (.int p1), some (.int p2)] [] (xof s0 [W_0, W_8, W_11 o11, W_12 a12]) _
  refine x_iload_n dX11_turn_0 rfl ?_
  refine x_iconst (v := 0) dX11_turn_1 (by decide) ?_
  refine x_iconst (v := 2) dX11_turn_2 (by decide) ?_
  obtain ⟨q1, hq1, h⟩ := Option.bind_eq_some_iff.mp h
  refine y_callSi (L' := [(0, _), (8, _), (11, _), (12, _)]) mi_X11_isWithin ml_X11_100 st_X11_isWithin dX11_turn_3 (fun s1 => v_X11_isWithin 61 s1 _ _ _ q1 hq1) (Nat.le_of_ble_eq_true rfl) rfl (by decide) (Nat.le_of_ble_eq_true rfl) rfl rfl rfl rfl ?_
  refine x_if_eq (tgt := 23) dX11_turn_6 (by decide) (fun c2 => ?_) (fun c2 => ?_)
  · replace h := xif_p c2 h
    refine x_bipush (v := -2) dX11_turn_23 (by decide) ?_
    cases h
    exact x_iret dX11_turn_25 ⟨rfl, rfl, rfl⟩
  · replace h := xif_n c2 h
    refine x_aload_n dX11_turn_9 rfl ?_
    refine g_X11_38 rfl dX11_turn_10 (by decide) rfl rfl ?_
    refine g_X11_252 rfl dX11_turn_13 (by decide) rfl rfl ?_
    refine x_iload_n dX11_turn_16 rfl ?_
    obtain ⟨q3, hq3, h⟩ := Option.bind_eq_some_iff.mp h
    refine y_callVi (L' := [(0, _), (8, _), (11, _), (12, _)]) mi_X7_keeps ml_X11_234 im_X7_keeps se_X7_keeps (rfl : vwCl[6]? = _) dX11_turn_17 (fun s1 => v_X7_keeps_11 s1 _ _ q3 hq3) (by decide) rfl (Nat.le_of_ble_eq_true rfl) rfl (by decide) (Nat.le_of_ble_eq_true rfl) rfl rfl rfl rfl ?_
    refine x_if_ne (tgt := 26) dX11_turn_20 (by decide) (fun c4 => ?_) (fun c4 => ?_)
    · replace h := xif_n c4 h
      refine x_aload_n dX11_turn_26 rfl ?_
      refine g_X11_38 rfl dX11_turn_27 (by decide) rfl rfl ?_
      refine g_X11_252 rfl dX11_turn_30 (by decide) rfl rfl ?_
      refine x_iload_n dX11_turn_33 rfl ?_
      refine x_iload_n dX11_turn_34 rfl ?_
      obtain ⟨q5, hq5, h⟩ := Option.bind_eq_some_iff.mp h
      refine y_callVi (L' := [(0, _), (8, _), (11, _), (12, _)]) mi_X7_entry ml_X11_242 im_X7_entry se_X7_entry (rfl : vwCl[6]? = _) dX11_turn_35 (fun s1 => v_X7_entry_11 s1 _ _ _ _ q5 hq5) (by decide) rfl (Nat.le_of_ble_eq_true rfl) rfl (by decide) (Nat.le_of_ble_eq_true rfl) rfl rfl rfl rfl ?_
      cases h
      exact x_iret dX11_turn_38 ⟨rfl, rfl, rfl⟩
    · replace h := xif_p c4 h
      refine x_bipush (v := -2) dX11_turn_23 (by decide) ?_
      cases h
      exact x_iret dX11_turn_25 ⟨rfl, rfl, rfl⟩
def l_X11_lost_0_13 (n : Nat) (a1 : Nat → Int32) (o4 : Nat → Int32) (a6 : Nat → Int32) (a7 : Nat → Int32) (o9 : Nat → Int32) (a10 : Nat → Int32) (a15 : Nat → Int32) : Nat → (Int64) → (Int32) → Option (((Int64) × (Int32)))
  | 0, _, _ => none
  | k + 1, l1, l3 => (if (o9 2) ≤ l3 then (some (l1, l3)) else (Option.bind (f_X11_foundOf_0 n a1 o4 a6 a7 o9 a10 a15 l3) (fun q3 => (if q3 = (-1) then (l_X11_lost_0_13 n a1 o4 a6 a7 o9 a10 a15 k l1 ((l3 + 1))) else (l_X11_lost_0_13 n a1 o4 a6 a7 o9 a10 a15 k ((l1 ||| (1 <<< (Int32.toInt64 q3 &&& 63)))) ((l3 + 1)))))))
set_option maxRecDepth 100000 in
set_option maxHeartbeats 400000 in
theorem lv_X11_lost_0_13 (s0 : XW) (n : Nat) (a1 : Nat → Int32) (o4 : Nat → Int32) (a6 : Nat → Int32) (a7 : Nat → Int32) (o9 : Nat → Int32) (a10 : Nat → Int32) (a15 : Nat → Int32) (Q : Nat → Option Value → XW → Prop) : ∀ (k : Nat) (l1 : Int64) (l3 : Int32) (o : ((Int64) × (Int32))), l_X11_lost_0_13 n a1 o4 a6 a7 o9 a10 a15 k l1 l3 = some o → (V yX11_lost cX11_lost (some .int) 3 61 (0, 0) 53 [some (.ref 0), some (.long o.1), none, none, none] [] (xof s0 [W_0, W_1 a1, W_4 o4, W_6 a6, W_7 a7, W_8, W_9 o9, W_10 a10, W_15 a15]) Q) → V yX11_lost cX11_lost (some .int) 3 61 (0, 0) 13 [some (.ref 0), some (.long l1), none, some (.int l3), none] [] (xof s0 [W_0, W_1 a1, W_4 o4, W_6 a6, W_7 a7, W_8, W_9 o9, W_10 a10, W_15 a15]) Q := by
  intro k
  induction k with
  | zero =>
    intro _ _ _ h
    simp [l_X11_lost_0_13] at h
  | succ k ih =>
    intro l1 l3 o h hk
    rw [l_X11_lost_0_13] at h
    refine x_iload_n dX11_lost_13 rfl ?_
    refine x_aload_n dX11_lost_14 rfl ?_
    refine g_X11_38 rfl dX11_lost_15 (by decide) rfl rfl ?_
    refine g_X11_230 rfl dX11_lost_18 (by decide) rfl rfl ?_
    refine g_X11_258 rfl dX11_lost_21 (by decide) rfl rfl ?_
    refine x_icmp_ge (tgt := 53) dX11_lost_24 (by decide) (fun c2 => ?_) (fun c2 => ?_)
    · replace h := xif_p c2 h
      refine V.drop1 (i := 3) (ls' := [_, _, _, _, _]) rfl ?_
      show V yX11_lost cX11_lost (some .int) 3 61 (0, 0) 53 [some (.ref 0), some (.long l1), none, none, none] [] (xof s0 [W_0, W_1 a1, W_4 o4, W_6 a6, W_7 a7, W_8, W_9 o9, W_10 a10, W_15 a15]) _
      cases h
      exact hk
    · replace h := xif_n c2 h
      refine x_aload_n dX11_lost_27 rfl ?_
      refine x_iload_n dX11_lost_28 rfl ?_
      obtain ⟨q3, hq3, h⟩ := Option.bind_eq_some_iff.mp h
      refine y_callVi (L' := [(0, _), (1, _), (4, _), (6, _), (7, _), (8, _), (9, _), (10, _), (15, _)]) mi_X11_foundOf ml_X11_239 im_X11_foundOf se_X11_foundOf (rfl : vwCl[10]? = _) dX11_lost_29 (fun s1 => v_X11_foundOf_0 s1 n _ _ _ _ _ _ _ _ q3 hq3) (by decide) rfl (Nat.le_of_ble_eq_true rfl) rfl (by decide) (Nat.le_of_ble_eq_true rfl) rfl rfl rfl rfl ?_
      refine x_istore (ls' := [_, _, _, _, _]) dX11_lost_32 rfl rfl ?_
      refine x_iload dX11_lost_34 rfl ?_
      refine x_iconst (v := -1) dX11_lost_36 (by decide) ?_
      refine x_icmp_eq (tgt := 47) dX11_lost_37 (by decide) (fun c4 => ?_) (fun c4 => ?_)
      · replace h := xif_p c4 h
        refine x_iinc (v := l3 + 1) (ls' := [_, _, _, _, _]) dX11_lost_47 rfl rfl rfl rfl ?_
        refine x_goto (tgt := 13) dX11_lost_50 (by decide) ?_
        refine V.drop1 (i := 4) (ls' := [_, _, _, _, _]) rfl ?_
        show V yX11_lost cX11_lost (some .int) 3 61 (0, 0) 13 [some (.ref 0), some (.long l1), none, some (.int ((l3 + 1))), none] [] (xof s0 [W_0, W_1 a1, W_4 o4, W_6 a6, W_7 a7, W_8, W_9 o9, W_10 a10, W_15 a15]) _
        exact ih l1 ((l3 + 1)) _ h hk
      · replace h := xif_n c4 h
        refine x_lload_n dX11_lost_40 rfl ?_
        refine x_lconst (v := 1) dX11_lost_41 (by decide) ?_
        refine x_iload dX11_lost_42 rfl ?_
        refine x_lshl dX11_lost_44 ?_
        refine x_lor dX11_lost_45 ?_
        refine x_lstore_n (ls' := [_, _, _, _, _]) dX11_lost_46 rfl rfl ?_
        refine x_iinc (v := l3 + 1) (ls' := [_, _, _, _, _]) dX11_lost_47 rfl rfl rfl rfl ?_
        refine x_goto (tgt := 13) dX11_lost_50 (by decide) ?_
        refine V.drop1 (i := 4) (ls' := [_, _, _, _, _]) rfl ?_
        show V yX11_lost cX11_lost (some .int) 3 61 (0, 0) 13 [some (.ref 0), some (.long ((l1 ||| (1 <<< (Int32.toInt64 q3 &&& 63))))), none, some (.int ((l3 + 1))), none] [] (xof s0 [W_0, W_1 a1, W_4 o4, W_6 a6, W_7 a7, W_8, W_9 o9, W_10 a10, W_15 a15]) _
        exact ih ((l1 ||| (1 <<< (Int32.toInt64 q3 &&& 63)))) ((l3 + 1)) _ h hk
def f_X11_lost_0 (n : Nat) (a1 : Nat → Int32) (o4 : Nat → Int32) (a6 : Nat → Int32) (a7 : Nat → Int32) (o9 : Nat → Int32) (a10 : Nat → Int32) (a15 : Nat → Int32)  : Option Int32 := (Option.bind (f_X7_firstKept_9 o9) (fun q1 => (Option.bind (l_X11_lost_0_13 n a1 o4 a6 a7 o9 a10 a15 n 0 q1) (fun u5 => (Option.bind (f_J13_bitCount_95d88 u5.1) (fun q6 => (some (((o4 3) - q6)))))))))
set_option maxRecDepth 100000 in
set_option maxHeartbeats 400000 in
theorem v_X11_lost_0 (s0 : XW) (n : Nat) (a1 : Nat → Int32) (o4 : Nat → Int32) (a6 : Nat → Int32) (a7 : Nat → Int32) (o9 : Nat → Int32) (a10 : Nat → Int32) (a15 : Nat → Int32)  (q : Int32) (h : f_X11_lost_0 n a1 o4 a6 a7 o9 a10 a15 = some q) : C_X11_lost 3 61 [.ref 0] (xof s0 [W_0, W_1 a1, W_4 o4, W_6 a6, W_7 a7, W_8, W_9 o9, W_10 a10, W_15 a15]) (some (.int q)) (xof s0 [W_0, W_1 a1, W_4 o4, W_6 a6, W_7 a7, W_8, W_9 o9, W_10 a10, W_15 a15]) := by
  unfold f_X11_lost_0 at h
  show V yX11_lost cX11_lost (some .int) 3 61 (0, 0) 0 [some (.ref 0), none, none, none, none] [] (xof s0 [W_0, W_1 a1, W_4 o4, W_6 a6, W_7 a7, W_8, W_9 o9, W_10 a10, W_15 a15]) _
  refine x_lconst (v := 0) dX11_lost_0 (by decide) ?_
  refine x_lstore_n (ls' := [_, _, _, _, _]) dX11_lost_1 rfl rfl ?_
  refine x_aload_n dX11_lost_2 rfl ?_
  refine g_X11_38 rfl dX11_lost_3 (by decide) rfl rfl ?_
  refine g_X11_230 rfl dX11_lost_6 (by decide) rfl rfl ?_
  obtain ⟨q1, hq1, h⟩ := Option.bind_eq_some_iff.mp h
  refine y_callVi (L' := [(0, _), (1, _), (4, _), (6, _), (7, _), (8, _), (9, _), (10, _), (15, _)]) mi_X7_firstKept ml_X11_255 im_X7_firstKept se_X7_firstKept (rfl : vwCl[6]? = _) dX11_lost_9 (fun s1 => v_X7_firstKept_9 s1 _ q1 hq1) (by decide) rfl (Nat.le_of_ble_eq_true rfl) rfl (by decide) (Nat.le_of_ble_eq_true rfl) rfl rfl rfl rfl ?_
  refine x_istore_n (ls' := [_, _, _, _, _]) dX11_lost_12 rfl rfl ?_
  obtain ⟨u5, hu5, h⟩ := Option.bind_eq_some_iff.mp h
  show V yX11_lost cX11_lost (some .int) 3 61 (0, 0) 13 [some (.ref 0), some (.long 0), none, some (.int q1), none] [] (xof s0 [W_0, W_1 a1, W_4 o4, W_6 a6, W_7 a7, W_8, W_9 o9, W_10 a10, W_15 a15]) _
  refine lv_X11_lost_0_13 s0 _ a1 o4 a6 a7 o9 a10 a15 _ n 0 q1 _ hu5 ?_
  refine x_aload_n dX11_lost_53 rfl ?_
  refine g_X11_31 rfl dX11_lost_54 (by decide) rfl rfl ?_
  refine g_X11_115 rfl dX11_lost_57 (by decide) rfl rfl ?_
  refine x_lload_n dX11_lost_60 rfl ?_
  obtain ⟨q6, hq6, h⟩ := Option.bind_eq_some_iff.mp h
  refine y_callSi (L' := [(0, _), (1, _), (4, _), (6, _), (7, _), (8, _), (9, _), (10, _), (15, _)]) mi_J13_bitCount_95d88 ml_X11_261 st_J13_bitCount_95d88 dX11_lost_61 (fun s1 => v_J13_bitCount_95d88 61 s1 _ q6 hq6) (Nat.le_of_ble_eq_true rfl) rfl (by decide) (Nat.le_of_ble_eq_true rfl) rfl rfl rfl rfl ?_
  refine x_isub dX11_lost_64 ?_
  cases h
  exact x_iret dX11_lost_65 ⟨rfl, rfl, rfl⟩
def f_X10_mirror_24_18 (o18 : Nat → Int32) (j18 : Int64) (o24 : Nat → Int32) (j24 : Int64)  : Option (((Nat → Int32) × (Int64))) := (some (upd (upd o24 1 ((o18 1))) 2 ((o18 2)), j18))
set_option maxRecDepth 100000 in
set_option maxHeartbeats 400000 in
theorem v_X10_mirror_24_18 (s0 : XW) (o18 : Nat → Int32) (j18 : Int64) (o24 : Nat → Int32) (j24 : Int64)  (q : ((Nat → Int32) × (Int64))) (h : f_X10_mirror_24_18 o18 j18 o24 j24 = some q) : C_X10_mirror 0 61 [.ref 24, .ref 18] (xof s0 [W_18 o18 j18, W_24 o24 j24]) none (xof s0 [W_18 o18 j18, W_24 q.1 q.2]) := by
  unfold f_X10_mirror_24_18 at h
  show V yX10_mirror cX10_mirror none 0 61 (0, 0) 0 [some (.ref 24), some (.ref 18)] [] (xof s0 [W_18 o18 j18, W_24 o24 j24]) _
  refine x_aload_n dX10_mirror_0 rfl ?_
  refine x_aload_n dX10_mirror_1 rfl ?_
  refine g_X10_9 rfl dX10_mirror_2 (by decide) rfl rfl ?_
  refine p_X10_9 (fs' := [_, _, _]) (L' := [(18, _), (24, _)]) rfl dX10_mirror_5 (by decide) rfl (Nat.le_of_ble_eq_true rfl) rfl rfl ?_
  refine x_aload_n dX10_mirror_8 rfl ?_
  refine x_aload_n dX10_mirror_9 rfl ?_
  refine g_X10_15 rfl dX10_mirror_10 (by decide) rfl rfl ?_
  refine p_X10_15 (fs' := [_, _, _]) (L' := [(18, _), (24, _)]) rfl dX10_mirror_13 (by decide) rfl (Nat.le_of_ble_eq_true rfl) rfl rfl ?_
  refine x_aload_n dX10_mirror_16 rfl ?_
  refine x_aload_n dX10_mirror_17 rfl ?_
  refine g_X10_19 rfl dX10_mirror_18 (by decide) rfl rfl ?_
  refine p_X10_19 (fs' := [_, _, _]) (L' := [(18, _), (24, _)]) rfl dX10_mirror_21 (by decide) rfl (Nat.le_of_ble_eq_true rfl) rfl rfl ?_
  cases h
  exact x_vret dX10_mirror_24 ⟨rfl, rfl, rfl⟩
def f_X2_mirror_25_19 (j19 : Int64) (j25 : Int64)  : Option Int64 := (some j19)
set_option maxRecDepth 100000 in
set_option maxHeartbeats 400000 in
theorem v_X2_mirror_25_19 (s0 : XW) (j19 : Int64) (j25 : Int64)  (q : Int64) (h : f_X2_mirror_25_19 j19 j25 = some q) : C_X2_mirror 0 61 [.ref 25, .ref 19] (xof s0 [W_19 j19, W_25 j25]) none (xof s0 [W_19 j19, W_25 q]) := by
  unfold f_X2_mirror_25_19 at h
  show V yX2_mirror cX2_mirror none 0 61 (0, 0) 0 [some (.ref 25), some (.ref 19)] [] (xof s0 [W_19 j19, W_25 j25]) _
  refine x_aload_n dX2_mirror_0 rfl ?_
  refine x_aload_n dX2_mirror_1 rfl ?_
  refine g_X2_9 rfl dX2_mirror_2 (by decide) rfl rfl ?_
  refine p_X2_9 (fs' := [_]) (L' := [(19, _), (25, _)]) rfl dX2_mirror_5 (by decide) rfl (Nat.le_of_ble_eq_true rfl) rfl rfl ?_
  cases h
  exact x_vret dX2_mirror_8 ⟨rfl, rfl, rfl⟩
def f_X6_mirror_21_16 (a1 : Nat → Int32) (o16 : Nat → Int32) (a17 : Nat → Int32) (o18 : Nat → Int32) (j18 : Int64) (j19 : Int64) (a20 : Nat → Int32) (o21 : Nat → Int32) (a22 : Nat → Int32) (a23 : Nat → Int32) (o24 : Nat → Int32) (j24 : Int64) (j25 : Int64) (a26 : Nat → Int32)  : Option (((Nat → Int32) × (Nat → Int32) × (Nat → Int32) × (Nat → Int32) × (Int64) × (Int64) × (Nat → Int32))) := (bif xcp 0 0 7 7 7 then (bif xcp 0 0 14 14 14 then (bif xcp 0 0 48 48 48 then (bif xfb a20 0 48 then (Option.bind (f_X10_mirror_24_18 o18 j18 o24 j24) (fun q5 => (Option.bind (f_X2_mirror_25_19 j19 j25) (fun q6 => (bif xb (o16 11) then (bif xb (o16 12) then (some (upd (upd (upd (upd (upd (upd (upd (upd (upd (upd (upd (upd o21 7 ((o16 7))) 8 ((o16 8))) 9 ((o16 9))) 10 ((o16 10))) 11 ((o16 11))) 12 ((o16 12))) 13 ((o16 13))) 14 ((o16 14))) 15 ((o16 15))) 16 ((o16 16))) 17 ((o16 17))) 18 ((o16 18)), (va_cpy a1 a22 (Int32.toNatClampNeg 0) (Int32.toNatClampNeg 0) (Int32.toNatClampNeg 7)), (va_cpy a17 a23 (Int32.toNatClampNeg 0) (Int32.toNatClampNeg 0) (Int32.toNatClampNeg 14)), q5.1, q5.2, q6, (va_cpy a20 a26 (Int32.toNatClampNeg 0) (Int32.toNatClampNeg 0) (Int32.toNatClampNeg 48)))) else none) else none))))) else none) else none) else none) else none)
set_option maxRecDepth 100000 in
set_option maxHeartbeats 400000 in
theorem v_X6_mirror_21_16 (s0 : XW) (a1 : Nat → Int32) (o16 : Nat → Int32) (a17 : Nat → Int32) (o18 : Nat → Int32) (j18 : Int64) (j19 : Int64) (a20 : Nat → Int32) (o21 : Nat → Int32) (a22 : Nat → Int32) (a23 : Nat → Int32) (o24 : Nat → Int32) (j24 : Int64) (j25 : Int64) (a26 : Nat → Int32)  (q : ((Nat → Int32) × (Nat → Int32) × (Nat → Int32) × (Nat → Int32) × (Int64) × (Int64) × (Nat → Int32))) (h : f_X6_mirror_21_16 a1 o16 a17 o18 j18 j19 a20 o21 a22 a23 o24 j24 j25 a26 = some q) : C_X6_mirror 1 61 [.ref 21, .ref 16] (xof s0 [W_1 a1, W_16 o16, W_17 a17, W_18 o18 j18, W_19 j19, W_20 a20, W_21 o21, W_22 a22, W_23 a23, W_24 o24 j24, W_25 j25, W_26 a26]) none (xof s0 [W_1 a1, W_16 o16, W_17 a17, W_18 o18 j18, W_19 j19, W_20 a20, W_21 q.1, W_22 q.2.1, W_23 q.2.2.1, W_24 q.2.2.2.1 q.2.2.2.2.1, W_25 q.2.2.2.2.2.1, W_26 q.2.2.2.2.2.2]) := by
  unfold f_X6_mirror_21_16 at h
  show V yX6_mirror cX6_mirror none 1 61 (0, 0) 0 [some (.ref 21), some (.ref 16)] [] (xof s0 [W_1 a1, W_16 o16, W_17 a17, W_18 o18 j18, W_19 j19, W_20 a20, W_21 o21, W_22 a22, W_23 a23, W_24 o24 j24, W_25 j25, W_26 a26]) _
  refine x_aload_n dX6_mirror_0 rfl ?_
  refine g_X6_33 rfl dX6_mirror_1 (by decide) rfl rfl ?_
  refine x_iconst (v := 0) dX6_mirror_4 (by decide) ?_
  refine x_aload_n dX6_mirror_5 rfl ?_
  refine g_X6_33 rfl dX6_mirror_6 (by decide) rfl rfl ?_
  refine x_iconst (v := 0) dX6_mirror_9 (by decide) ?_
  refine x_bipush (v := 7) dX6_mirror_10 (by decide) ?_
  obtain ⟨c1, h⟩ := xck h
  refine x_copyiL (t := 0) (ty := .int) (L' := [(1, _), (16, _), (17, _), (18, _), (19, _), (20, _), (21, _), (22, _), (23, _), (24, _), (25, _), (26, _)]) dX6_mirror_12 ml_X6_83 (by decide) (by decide) (by decide) rfl rfl (fun _ => rfl) rfl (xcp_ok c1).1 (xcp_ok c1).2.1 (xcp_ok c1).2.2.1 (xcp_ok c1).2.2.2.1 (xcp_ok c1).2.2.2.2 (fun _ _ => rfl) (Nat.le_of_ble_eq_true rfl) rfl ?_
  refine x_aload_n dX6_mirror_15 rfl ?_
  refine g_X6_9 rfl dX6_mirror_16 (by decide) rfl rfl ?_
  refine x_iconst (v := 0) dX6_mirror_19 (by decide) ?_
  refine x_aload_n dX6_mirror_20 rfl ?_
  refine g_X6_9 rfl dX6_mirror_21 (by decide) rfl rfl ?_
  refine x_iconst (v := 0) dX6_mirror_24 (by decide) ?_
  refine x_bipush (v := 14) dX6_mirror_25 (by decide) ?_
  obtain ⟨c2, h⟩ := xck h
  refine x_copyiL (t := 0) (ty := .int) (L' := [(1, _), (16, _), (17, _), (18, _), (19, _), (20, _), (21, _), (22, _), (23, _), (24, _), (25, _), (26, _)]) dX6_mirror_27 ml_X6_83 (by decide) (by decide) (by decide) rfl rfl (fun _ => rfl) rfl (xcp_ok c2).1 (xcp_ok c2).2.1 (xcp_ok c2).2.2.1 (xcp_ok c2).2.2.2.1 (xcp_ok c2).2.2.2.2 (fun _ _ => rfl) (Nat.le_of_ble_eq_true rfl) rfl ?_
  refine x_aload_n dX6_mirror_30 rfl ?_
  refine g_X6_29 rfl dX6_mirror_31 (by decide) rfl rfl ?_
  refine x_iconst (v := 0) dX6_mirror_34 (by decide) ?_
  refine x_aload_n dX6_mirror_35 rfl ?_
  refine g_X6_29 rfl dX6_mirror_36 (by decide) rfl rfl ?_
  refine x_iconst (v := 0) dX6_mirror_39 (by decide) ?_
  refine x_bipush (v := 48) dX6_mirror_40 (by decide) ?_
  obtain ⟨c3, h⟩ := xck h
  obtain ⟨c4, h⟩ := xck h
  refine x_copyiL (t := 1) (ty := .byte) (L' := [(1, _), (16, _), (17, _), (18, _), (19, _), (20, _), (21, _), (22, _), (23, _), (24, _), (25, _), (26, _)]) dX6_mirror_42 ml_X6_83 (by decide) (by decide) (by decide) rfl rfl (fun _ => rfl) rfl (xcp_ok c3).1 (xcp_ok c3).2.1 (xcp_ok c3).2.2.1 (xcp_ok c3).2.2.2.1 (xcp_ok c3).2.2.2.2 (xfb_ok c4) (Nat.le_of_ble_eq_true rfl) rfl ?_
  refine x_aload_n dX6_mirror_45 rfl ?_
  refine g_X6_18 rfl dX6_mirror_46 (by decide) rfl rfl ?_
  refine x_aload_n dX6_mirror_49 rfl ?_
  refine g_X6_18 rfl dX6_mirror_50 (by decide) rfl rfl ?_
  obtain ⟨q5, hq5, h⟩ := Option.bind_eq_some_iff.mp h
  refine y_callVv (L' := [(1, _), (16, _), (17, _), (18, _), (19, _), (20, _), (21, _), (22, _), (23, _), (24, _), (25, _), (26, _)]) mi_X10_mirror ml_X6_89 im_X10_mirror se_X10_mirror (rfl : vwCl[9]? = _) dX6_mirror_53 (fun s1 => v_X10_mirror_24_18 s1 _ _ _ _ q5 hq5) (by decide) rfl (Nat.le_of_ble_eq_true rfl) rfl (by decide) (Nat.le_of_ble_eq_true rfl) rfl rfl rfl rfl ?_
  refine x_aload_n dX6_mirror_56 rfl ?_
  refine g_X6_25 rfl dX6_mirror_57 (by decide) rfl rfl ?_
  refine x_aload_n dX6_mirror_60 rfl ?_
  refine g_X6_25 rfl dX6_mirror_61 (by decide) rfl rfl ?_
  obtain ⟨q6, hq6, h⟩ := Option.bind_eq_some_iff.mp h
  refine y_callVv (L' := [(1, _), (16, _), (17, _), (18, _), (19, _), (20, _), (21, _), (22, _), (23, _), (24, _), (25, _), (26, _)]) mi_X2_mirror ml_X6_93 im_X2_mirror se_X2_mirror (rfl : vwCl[1]? = _) dX6_mirror_64 (fun s1 => v_X2_mirror_25_19 s1 _ _ q6 hq6) (by decide) rfl (Nat.le_of_ble_eq_true rfl) rfl (by decide) (Nat.le_of_ble_eq_true rfl) rfl rfl rfl rfl ?_
  refine x_aload_n dX6_mirror_67 rfl ?_
  refine x_aload_n dX6_mirror_68 rfl ?_
  refine g_X6_54 rfl dX6_mirror_69 (by decide) rfl rfl ?_
  refine p_X6_54 (fs' := [_, _, _, _, _, _, _, _, _, _, _, _, _, _, _, _, _, _, _]) (L' := [(1, _), (16, _), (17, _), (18, _), (19, _), (20, _), (21, _), (22, _), (23, _), (24, _), (25, _), (26, _)]) rfl dX6_mirror_72 (by decide) rfl (Nat.le_of_ble_eq_true rfl) rfl rfl ?_
  refine x_aload_n dX6_mirror_75 rfl ?_
  refine x_aload_n dX6_mirror_76 rfl ?_
  refine g_X6_58 rfl dX6_mirror_77 (by decide) rfl rfl ?_
  refine p_X6_58 (fs' := [_, _, _, _, _, _, _, _, _, _, _, _, _, _, _, _, _, _, _]) (L' := [(1, _), (16, _), (17, _), (18, _), (19, _), (20, _), (21, _), (22, _), (23, _), (24, _), (25, _), (26, _)]) rfl dX6_mirror_80 (by decide) rfl (Nat.le_of_ble_eq_true rfl) rfl rfl ?_
  refine x_aload_n dX6_mirror_83 rfl ?_
  refine x_aload_n dX6_mirror_84 rfl ?_
  refine g_X6_61 rfl dX6_mirror_85 (by decide) rfl rfl ?_
  refine p_X6_61 (fs' := [_, _, _, _, _, _, _, _, _, _, _, _, _, _, _, _, _, _, _]) (L' := [(1, _), (16, _), (17, _), (18, _), (19, _), (20, _), (21, _), (22, _), (23, _), (24, _), (25, _), (26, _)]) rfl dX6_mirror_88 (by decide) rfl (Nat.le_of_ble_eq_true rfl) rfl rfl ?_
  refine x_aload_n dX6_mirror_91 rfl ?_
  refine x_aload_n dX6_mirror_92 rfl ?_
  refine g_X6_64 rfl dX6_mirror_93 (by decide) rfl rfl ?_
  refine p_X6_64 (fs' := [_, _, _, _, _, _, _, _, _, _, _, _, _, _, _, _, _, _, _]) (L' := [(1, _), (16, _), (17, _), (18, _), (19, _), (20, _), (21, _), (22, _), (23, _), (24, _), (25, _), (26, _)]) rfl dX6_mirror_96 (by decide) rfl (Nat.le_of_ble_eq_true rfl) rfl rfl ?_
  refine x_aload_n dX6_mirror_99 rfl ?_
  refine x_aload_n dX6_mirror_100 rfl ?_
  refine g_X6_67 rfl dX6_mirror_101 (by decide) rfl rfl ?_
  obtain ⟨c7, h⟩ := xck h
  refine p_X6_67 (fs' := [_, _, _, _, _, _, _, _, _, _, _, _, _, _, _, _, _, _, _]) (L' := [(1, _), (16, _), (17, _), (18, _), (19, _), (20, _), (21, _), (22, _), (23, _), (24, _), (25, _), (26, _)]) rfl dX6_mirror_104 (xb_ok c7) (by decide) rfl (Nat.le_of_ble_eq_true rfl) rfl rfl ?_
  refine x_aload_n dX6_mirror_107 rfl ?_
  refine x_aload_n dX6_mirror_108 rfl ?_
  refine g_X6_71 rfl dX6_mirror_109 (by decide) rfl rfl ?_
  obtain ⟨c8, h⟩ := xck h
  refine p_X6_71 (fs' := [_, _, _, _, _, _, _, _, _, _, _, _, _, _, _, _, _, _, _]) (L' := [(1, _), (16, _), (17, _), (18, _), (19, _), (20, _), (21, _), (22, _), (23, _), (24, _), (25, _), (26, _)]) rfl dX6_mirror_112 (xb_ok c8) (by decide) rfl (Nat.le_of_ble_eq_true rfl) rfl rfl ?_
  refine x_aload_n dX6_mirror_115 rfl ?_
  refine x_aload_n dX6_mirror_116 rfl ?_
  refine g_X6_74 rfl dX6_mirror_117 (by decide) rfl rfl ?_
  refine p_X6_74 (fs' := [_, _, _, _, _, _, _, _, _, _, _, _, _, _, _, _, _, _, _]) (L' := [(1, _), (16, _), (17, _), (18, _), (19, _), (20, _), (21, _), (22, _), (23, _), (24, _), (25, _), (26, _)]) rfl dX6_mirror_120 (by decide) rfl (Nat.le_of_ble_eq_true rfl) rfl rfl ?_
  refine x_aload_n dX6_mirror_123 rfl ?_
  refine x_aload_n dX6_mirror_124 rfl ?_
  refine g_X6_77 rfl dX6_mirror_125 (by decide) rfl rfl ?_
  refine p_X6_77 (fs' := [_, _, _, _, _, _, _, _, _, _, _, _, _, _, _, _, _, _, _]) (L' := [(1, _), (16, _), (17, _), (18, _), (19, _), (20, _), (21, _), (22, _), (23, _), (24, _), (25, _), (26, _)]) rfl dX6_mirror_128 (by decide) rfl (Nat.le_of_ble_eq_true rfl) rfl rfl ?_
  refine x_aload_n dX6_mirror_131 rfl ?_
  refine x_aload_n dX6_mirror_132 rfl ?_
  refine g_X6_80 rfl dX6_mirror_133 (by decide) rfl rfl ?_
  refine p_X6_80 (fs' := [_, _, _, _, _, _, _, _, _, _, _, _, _, _, _, _, _, _, _]) (L' := [(1, _), (16, _), (17, _), (18, _), (19, _), (20, _), (21, _), (22, _), (23, _), (24, _), (25, _), (26, _)]) rfl dX6_mirror_136 (by decide) rfl (Nat.le_of_ble_eq_true rfl) rfl rfl ?_
  refine x_aload_n dX6_mirror_139 rfl ?_
  refine x_aload_n dX6_mirror_140 rfl ?_
  refine g_X6_96 rfl dX6_mirror_141 (by decide) rfl rfl ?_
  refine p_X6_96 (fs' := [_, _, _, _, _, _, _, _, _, _, _, _, _, _, _, _, _, _, _]) (L' := [(1, _), (16, _), (17, _), (18, _), (19, _), (20, _), (21, _), (22, _), (23, _), (24, _), (25, _), (26, _)]) rfl dX6_mirror_144 (by decide) rfl (Nat.le_of_ble_eq_true rfl) rfl rfl ?_
  refine x_aload_n dX6_mirror_147 rfl ?_
  refine x_aload_n dX6_mirror_148 rfl ?_
  refine g_X6_99 rfl dX6_mirror_149 (by decide) rfl rfl ?_
  refine p_X6_99 (fs' := [_, _, _, _, _, _, _, _, _, _, _, _, _, _, _, _, _, _, _]) (L' := [(1, _), (16, _), (17, _), (18, _), (19, _), (20, _), (21, _), (22, _), (23, _), (24, _), (25, _), (26, _)]) rfl dX6_mirror_152 (by decide) rfl (Nat.le_of_ble_eq_true rfl) rfl rfl ?_
  refine x_aload_n dX6_mirror_155 rfl ?_
  refine x_aload_n dX6_mirror_156 rfl ?_
  refine g_X6_102 rfl dX6_mirror_157 (by decide) rfl rfl ?_
  refine p_X6_102 (fs' := [_, _, _, _, _, _, _, _, _, _, _, _, _, _, _, _, _, _, _]) (L' := [(1, _), (16, _), (17, _), (18, _), (19, _), (20, _), (21, _), (22, _), (23, _), (24, _), (25, _), (26, _)]) rfl dX6_mirror_160 (by decide) rfl (Nat.le_of_ble_eq_true rfl) rfl rfl ?_
  cases h
  exact x_vret dX6_mirror_163 ⟨rfl, rfl, rfl⟩
def b_X10_push_24_18  (o24 : Nat → Int32) (j24 : Int64) (l1 : Int32) (t0 : Int32) : Option (((Nat → Int32) × (Int64))) := (Option.bind (f_X1_timesX ((o24 1))) (fun q2 => (some (upd (upd o24 1 (((q2 ^^^ l1) ^^^ t0))) 2 (((o24 2) + 1)), (((j24 <<< (Int32.toInt64 1 &&& 63)) ||| (Int32.toInt64 l1)) &&& 1099511627775)))))
set_option maxRecDepth 100000 in
set_option maxHeartbeats 400000 in
theorem vb_X10_push_24_18 (s0 : XW)  (o24 : Nat → Int32) (j24 : Int64) (l1 : Int32) (t0 : Int32) (q : ((Nat → Int32) × (Int64))) (h : b_X10_push_24_18 o24 j24 l1 t0 = some q) : V yX10_push cX10_push none 1 61 (0, 0) 18 [some (.ref 24), some (.int l1), none] [.int t0] (xof s0 [W_24 o24 j24]) (xq 61 none (xof s0 [W_24 q.1 q.2])) := by
  unfold b_X10_push_24_18 at h
  refine x_istore_n (ls' := [_, _, _]) dX10_push_18 rfl rfl ?_
  refine x_aload_n dX10_push_19 rfl ?_
  refine x_aload_n dX10_push_20 rfl ?_
  refine g_X10_9 rfl dX10_push_21 (by decide) rfl rfl ?_
  refine x_iconst (v := 1) dX10_push_24 (by decide) ?_
  refine x_lshl dX10_push_25 ?_
  refine x_iload_n dX10_push_26 rfl ?_
  refine x_i2l dX10_push_27 ?_
  refine x_lor dX10_push_28 ?_
  refine x_ldc2 dX10_push_29 cn_X10_22 ?_
  refine x_land dX10_push_32 ?_
  refine p_X10_9 (fs' := [_, _, _]) (L' := [(24, _)]) rfl dX10_push_33 (by decide) rfl (Nat.le_of_ble_eq_true rfl) rfl rfl ?_
  refine x_aload_n dX10_push_36 rfl ?_
  refine x_aload_n dX10_push_37 rfl ?_
  refine g_X10_15 rfl dX10_push_38 (by decide) rfl rfl ?_
  obtain ⟨q2, hq2, h⟩ := Option.bind_eq_some_iff.mp h
  refine y_callSi (L' := [(24, _)]) mi_X1_timesX ml_X10_24 st_X1_timesX dX10_push_41 (fun s1 => v_X1_timesX 61 s1 _ q2 hq2) (Nat.le_of_ble_eq_true rfl) rfl (by decide) (Nat.le_of_ble_eq_true rfl) rfl rfl rfl rfl ?_
  refine x_iload_n dX10_push_44 rfl ?_
  refine x_ixor dX10_push_45 ?_
  refine x_iload_n dX10_push_46 rfl ?_
  refine x_ixor dX10_push_47 ?_
  refine p_X10_15 (fs' := [_, _, _]) (L' := [(24, _)]) rfl dX10_push_48 (by decide) rfl (Nat.le_of_ble_eq_true rfl) rfl rfl ?_
  refine x_aload_n dX10_push_51 rfl ?_
  refine x_dup dX10_push_52 rfl ?_
  refine g_X10_19 rfl dX10_push_53 (by decide) rfl rfl ?_
  refine x_iconst (v := 1) dX10_push_56 (by decide) ?_
  refine x_iadd dX10_push_57 ?_
  refine p_X10_19 (fs' := [_, _, _]) (L' := [(24, _)]) rfl dX10_push_58 (by decide) rfl (Nat.le_of_ble_eq_true rfl) rfl rfl ?_
  cases h
  exact x_vret dX10_push_61 ⟨rfl, rfl, rfl⟩
def f_X10_push_24 (o24 : Nat → Int32) (j24 : Int64) (p1 : Int32) : Option (((Nat → Int32) × (Int64))) := (if (lg_cmp (xul j24 39) 0) = 0 then (b_X10_push_24_18 o24 j24 p1 0) else (b_X10_push_24_18 o24 j24 p1 98))
set_option maxRecDepth 100000 in
set_option maxHeartbeats 400000 in
theorem v_X10_push_24 (s0 : XW) (o24 : Nat → Int32) (j24 : Int64) (p1 : Int32) (q : ((Nat → Int32) × (Int64))) (h : f_X10_push_24 o24 j24 p1 = some q) : C_X10_push 1 61 [.ref 24, .int p1] (xof s0 [W_24 o24 j24]) none (xof s0 [W_24 q.1 q.2]) := by
  unfold f_X10_push_24 at h
  show V yX10_push cX10_push none 1 61 (0, 0) 0 [some (.ref 24), some (.int p1), none] [] (xof s0 [W_24 o24 j24]) _
  refine x_aload_n dX10_push_0 rfl ?_
  refine g_X10_9 rfl dX10_push_1 (by decide) rfl rfl ?_
  refine x_bipush (v := 39) dX10_push_4 (by decide) ?_
  refine x_lushr dX10_push_6 ?_
  refine x_lconst (v := 0) dX10_push_7 (by decide) ?_
  refine x_lcmp dX10_push_8 ?_
  refine x_if_ne (tgt := 16) dX10_push_9 (by decide) (fun c1 => ?_) (fun c1 => ?_)
  · replace h := xif_n c1 h
    refine x_bipush (v := 98) dX10_push_16 (by decide) ?_
    show V yX10_push cX10_push none 1 61 (0, 0) 18 [some (.ref 24), some (.int p1), none] [.int 98] (xof s0 [W_24 o24 j24]) _
    exact vb_X10_push_24_18 s0 o24 j24 p1 98 q h
  · replace h := xif_p c1 h
    refine x_iconst (v := 0) dX10_push_12 (by decide) ?_
    refine x_goto (tgt := 18) dX10_push_13 (by decide) ?_
    show V yX10_push cX10_push none 1 61 (0, 0) 18 [some (.ref 24), some (.int p1), none] [.int 0] (xof s0 [W_24 o24 j24]) _
    exact vb_X10_push_24_18 s0 o24 j24 p1 0 q h
def f_X10_looksRight_24 (o24 : Nat → Int32) (j24 : Int64)  : Option Int32 := (if (o24 1) = 85 then (if (o24 2) < 40 then (some 0) else (some 1)) else (some 0))
set_option maxRecDepth 100000 in
set_option maxHeartbeats 400000 in
theorem v_X10_looksRight_24 (s0 : XW) (o24 : Nat → Int32) (j24 : Int64)  (q : Int32) (h : f_X10_looksRight_24 o24 j24 = some q) : C_X10_looksRight 0 61 [.ref 24] (xof s0 [W_24 o24 j24]) (some (.int q)) (xof s0 [W_24 o24 j24]) := by
  unfold f_X10_looksRight_24 at h
  show V yX10_looksRight cX10_looksRight (some .boolean) 0 61 (0, 0) 0 [some (.ref 24)] [] (xof s0 [W_24 o24 j24]) _
  refine x_aload_n dX10_looksRight_0 rfl ?_
  refine g_X10_15 rfl dX10_looksRight_1 (by decide) rfl rfl ?_
  refine x_bipush (v := 85) dX10_looksRight_4 (by decide) ?_
  refine x_icmp_ne (tgt := 22) dX10_looksRight_6 (by decide) (fun c1 => ?_) (fun c1 => ?_)
  · replace h := xif_n c1 h
    refine x_iconst (v := 0) dX10_looksRight_22 (by decide) ?_
    cases h
    exact x_zret dX10_looksRight_23 (Or.inl rfl) ⟨rfl, rfl, rfl⟩
  · replace h := xif_p c1 h
    refine x_aload_n dX10_looksRight_9 rfl ?_
    refine g_X10_19 rfl dX10_looksRight_10 (by decide) rfl rfl ?_
    refine x_bipush (v := 40) dX10_looksRight_13 (by decide) ?_
    refine x_icmp_lt (tgt := 22) dX10_looksRight_15 (by decide) (fun c2 => ?_) (fun c2 => ?_)
    · replace h := xif_p c2 h
      refine x_iconst (v := 0) dX10_looksRight_22 (by decide) ?_
      cases h
      exact x_zret dX10_looksRight_23 (Or.inl rfl) ⟨rfl, rfl, rfl⟩
    · replace h := xif_n c2 h
      refine x_iconst (v := 1) dX10_looksRight_18 (by decide) ?_
      refine x_goto (tgt := 23) dX10_looksRight_19 (by decide) ?_
      cases h
      exact x_zret dX10_looksRight_23 (Or.inr rfl) ⟨rfl, rfl, rfl⟩
def b_X6_become_21_67  (o21 : Nat → Int32) (a23 : Nat → Int32) (l1 : Int32) : Option (((Nat → Int32) × (Nat → Int32))) := (some (upd (upd (upd (upd o21 7 l1) 11 0) 14 0) 15 0, a23))
set_option maxRecDepth 100000 in
set_option maxHeartbeats 400000 in
theorem vb_X6_become_21_67 (s0 : XW)  (o21 : Nat → Int32) (a23 : Nat → Int32) (l1 : Int32) (q : ((Nat → Int32) × (Nat → Int32))) (h : b_X6_become_21_67 o21 a23 l1 = some q) : V yX6_become cX6_become none 0 61 (0, 0) 67 [some (.ref 21), some (.int l1), none] [] (xof s0 [W_21 o21, W_23 a23]) (xq 61 none (xof s0 [W_21 q.1, W_23 q.2])) := by
  unfold b_X6_become_21_67 at h
  refine x_aload_n dX6_become_67 rfl ?_
  refine x_iload_n dX6_become_68 rfl ?_
  refine p_X6_54 (fs' := [_, _, _, _, _, _, _, _, _, _, _, _, _, _, _, _, _, _, _]) (L' := [(21, _), (23, _)]) rfl dX6_become_69 (by decide) rfl (Nat.le_of_ble_eq_true rfl) rfl rfl ?_
  refine x_aload_n dX6_become_72 rfl ?_
  refine x_iconst (v := 0) dX6_become_73 (by decide) ?_
  refine p_X6_77 (fs' := [_, _, _, _, _, _, _, _, _, _, _, _, _, _, _, _, _, _, _]) (L' := [(21, _), (23, _)]) rfl dX6_become_74 (by decide) rfl (Nat.le_of_ble_eq_true rfl) rfl rfl ?_
  refine x_aload_n dX6_become_77 rfl ?_
  refine x_iconst (v := 0) dX6_become_78 (by decide) ?_
  refine p_X6_80 (fs' := [_, _, _, _, _, _, _, _, _, _, _, _, _, _, _, _, _, _, _]) (L' := [(21, _), (23, _)]) rfl dX6_become_79 (by decide) rfl (Nat.le_of_ble_eq_true rfl) rfl rfl ?_
  refine x_aload_n dX6_become_82 rfl ?_
  refine x_iconst (v := 0) dX6_become_83 (by decide) ?_
  refine p_X6_67 (fs' := [_, _, _, _, _, _, _, _, _, _, _, _, _, _, _, _, _, _, _]) (L' := [(21, _), (23, _)]) rfl dX6_become_84 (Or.inl rfl) (by decide) rfl (Nat.le_of_ble_eq_true rfl) rfl rfl ?_
  cases h
  exact x_vret dX6_become_87 ⟨rfl, rfl, rfl⟩
def b_X6_become_21_49  (o21 : Nat → Int32) (a23 : Nat → Int32) (l1 : Int32) : Option (((Nat → Int32) × (Nat → Int32))) := (if (o21 7) = 2 then (b_X6_become_21_67 o21 (upd a23 5 (((a23 5) + 1))) l1) else (b_X6_become_21_67 o21 a23 l1))
set_option maxRecDepth 100000 in
set_option maxHeartbeats 400000 in
theorem vb_X6_become_21_49 (s0 : XW)  (o21 : Nat → Int32) (a23 : Nat → Int32) (l1 : Int32) (q : ((Nat → Int32) × (Nat → Int32))) (h : b_X6_become_21_49 o21 a23 l1 = some q) : V yX6_become cX6_become none 0 61 (0, 0) 49 [some (.ref 21), some (.int l1), none] [] (xof s0 [W_21 o21, W_23 a23]) (xq 61 none (xof s0 [W_21 q.1, W_23 q.2])) := by
  unfold b_X6_become_21_49 at h
  refine x_aload_n dX6_become_49 rfl ?_
  refine g_X6_54 rfl dX6_become_50 (by decide) rfl rfl ?_
  refine x_iconst (v := 2) dX6_become_53 (by decide) ?_
  refine x_icmp_ne (tgt := 67) dX6_become_54 (by decide) (fun c2 => ?_) (fun c2 => ?_)
  · replace h := xif_n c2 h
    show V yX6_become cX6_become none 0 61 (0, 0) 67 [some (.ref 21), some (.int l1), none] [] (xof s0 [W_21 o21, W_23 a23]) _
    exact vb_X6_become_21_67 s0 o21 a23 l1 q h
  · replace h := xif_p c2 h
    refine x_aload_n dX6_become_57 rfl ?_
    refine g_X6_9 rfl dX6_become_58 (by decide) rfl rfl ?_
    refine x_iconst (v := 5) dX6_become_61 (by decide) ?_
    refine x_dup2 dX6_become_62 rfl rfl ?_
    refine x_ialdK (jn := 5) (v := (a23 5)) dX6_become_63 (by decide) rfl (xin_ok (by decide)) (by decide) rfl ?_
    refine x_iconst (v := 1) dX6_become_64 (by decide) ?_
    refine x_iadd dX6_become_65 ?_
    refine x_iastK (jn := 5) (L' := [(21, _), (23, _)]) dX6_become_66 (by decide) rfl (xin_ok (by decide)) (by decide) rfl ?_
    show V yX6_become cX6_become none 0 61 (0, 0) 67 [some (.ref 21), some (.int l1), none] [] (xof s0 [W_21 o21, W_23 (upd a23 5 (((a23 5) + 1)))]) _
    exact vb_X6_become_21_67 s0 o21 (upd a23 5 (((a23 5) + 1))) l1 q h
def f_X6_become_21 (o21 : Nat → Int32) (a23 : Nat → Int32) (p1 : Int32) (p2 : Int32) : Option (((Nat → Int32) × (Nat → Int32))) := (if p1 = 2 then (b_X6_become_21_49 o21 (upd (upd a23 7 (((a23 7) + 1))) 4 (((a23 4) + 1))) p1) else (b_X6_become_21_49 o21 (upd a23 7 (((a23 7) + 1))) p1))
set_option maxRecDepth 100000 in
set_option maxHeartbeats 400000 in
theorem v_X6_become_21 (s0 : XW) (o21 : Nat → Int32) (a23 : Nat → Int32) (p1 : Int32) (p2 : Int32) (q : ((Nat → Int32) × (Nat → Int32))) (h : f_X6_become_21 o21 a23 p1 p2 = some q) : C_X6_become 0 61 [.ref 21, .int p1, .int p2] (xof s0 [W_21 o21, W_23 a23]) none (xof s0 [W_21 q.1, W_23 q.2]) := by
  unfold f_X6_become_21 at h
  show V yX6_become cX6_become none 0 61 (0, 0) 0 [some (.ref 21), some (.int p1), some (.int p2)] [] (xof s0 [W_21 o21, W_23 a23]) _
  refine x_aload_n dX6_become_0 rfl ?_
  refine g_X6_40 rfl dX6_become_1 (by decide) rfl rfl ?_
  refine x_ifnullN (tgt := 23) dX6_become_4 (by decide) ?_
  refine x_aload_n dX6_become_23 rfl ?_
  refine g_X6_9 rfl dX6_become_24 (by decide) rfl rfl ?_
  refine x_bipush (v := 7) dX6_become_27 (by decide) ?_
  refine x_dup2 dX6_become_29 rfl rfl ?_
  refine x_ialdK (jn := 7) (v := (a23 7)) dX6_become_30 (by decide) rfl (xin_ok (by decide)) (by decide) rfl ?_
  refine x_iconst (v := 1) dX6_become_31 (by decide) ?_
  refine x_iadd dX6_become_32 ?_
  refine x_iastK (jn := 7) (L' := [(21, _), (23, _)]) dX6_become_33 (by decide) rfl (xin_ok (by decide)) (by decide) rfl ?_
  refine x_iload_n dX6_become_34 rfl ?_
  refine x_iconst (v := 2) dX6_become_35 (by decide) ?_
  refine x_icmp_ne (tgt := 49) dX6_become_36 (by decide) (fun c1 => ?_) (fun c1 => ?_)
  · replace h := xif_n c1 h
    refine V.drop1 (i := 2) (ls' := [_, _, _]) rfl ?_
    show V yX6_become cX6_become none 0 61 (0, 0) 49 [some (.ref 21), some (.int p1), none] [] (xof s0 [W_21 o21, W_23 (upd a23 7 (((a23 7) + 1)))]) _
    exact vb_X6_become_21_49 s0 o21 (upd a23 7 (((a23 7) + 1))) p1 q h
  · replace h := xif_p c1 h
    refine x_aload_n dX6_become_39 rfl ?_
    refine g_X6_9 rfl dX6_become_40 (by decide) rfl rfl ?_
    refine x_iconst (v := 4) dX6_become_43 (by decide) ?_
    refine x_dup2 dX6_become_44 rfl rfl ?_
    refine x_ialdK (jn := 4) (v := (a23 4)) dX6_become_45 (by decide) rfl (xin_ok (by decide)) (by decide) rfl ?_
    refine x_iconst (v := 1) dX6_become_46 (by decide) ?_
    refine x_iadd dX6_become_47 ?_
    refine x_iastK (jn := 4) (L' := [(21, _), (23, _)]) dX6_become_48 (by decide) rfl (xin_ok (by decide)) (by decide) rfl ?_
    refine V.drop1 (i := 2) (ls' := [_, _, _]) rfl ?_
    show V yX6_become cX6_become none 0 61 (0, 0) 49 [some (.ref 21), some (.int p1), none] [] (xof s0 [W_21 o21, W_23 (upd (upd a23 7 (((a23 7) + 1))) 4 (((a23 4) + 1)))]) _
    exact vb_X6_become_21_49 s0 o21 (upd (upd a23 7 (((a23 7) + 1))) 4 (((a23 4) + 1))) p1 q h
def f_X6_hunt_21 (o21 : Nat → Int32) (a22 : Nat → Int32) (a23 : Nat → Int32) (o24 : Nat → Int32) (j24 : Int64) (p1 : Int32) : Option (((Nat → Int32) × (Nat → Int32))) := (Option.bind (f_X10_looksRight_24 o24 j24) (fun q1 => (if q1 = 0 then (some (upd o21 14 (((o21 14) + 1)), a23)) else (if (a22 6) ≤ 0 then (some (upd o21 14 (((o21 14) + 1)), a23)) else (bif xnz (a22 6) then (if (((o21 14) + 1) - ((o21 14) + 1) / (a22 6) * (a22 6)) = 0 then (Option.bind (f_X6_become_21 (upd (upd o21 8 0) 14 (((o21 14) + 1))) a23 1 p1) (fun q6 => (some (q6.1, q6.2)))) else (some (upd o21 14 (((o21 14) + 1)), a23))) else none)))))
set_option maxRecDepth 100000 in
set_option maxHeartbeats 400000 in
theorem v_X6_hunt_21 (s0 : XW) (o21 : Nat → Int32) (a22 : Nat → Int32) (a23 : Nat → Int32) (o24 : Nat → Int32) (j24 : Int64) (p1 : Int32) (q : ((Nat → Int32) × (Nat → Int32))) (h : f_X6_hunt_21 o21 a22 a23 o24 j24 p1 = some q) : C_X6_hunt 1 61 [.ref 21, .int p1] (xof s0 [W_21 o21, W_22 a22, W_23 a23, W_24 o24 j24]) none (xof s0 [W_21 q.1, W_22 a22, W_23 q.2, W_24 o24 j24]) := by
  unfold f_X6_hunt_21 at h
  show V yX6_hunt cX6_hunt none 1 61 (0, 0) 0 [some (.ref 21), some (.int p1), none] [] (xof s0 [W_21 o21, W_22 a22, W_23 a23, W_24 o24 j24]) _
  refine x_aload_n dX6_hunt_0 rfl ?_
  refine x_dup dX6_hunt_1 rfl ?_
  refine g_X6_77 rfl dX6_hunt_2 (by decide) rfl rfl ?_
  refine x_iconst (v := 1) dX6_hunt_5 (by decide) ?_
  refine x_iadd dX6_hunt_6 ?_
  refine p_X6_77 (fs' := [_, _, _, _, _, _, _, _, _, _, _, _, _, _, _, _, _, _, _]) (L' := [(21, _), (22, _), (23, _), (24, _)]) rfl dX6_hunt_7 (by decide) rfl (Nat.le_of_ble_eq_true rfl) rfl rfl ?_
  refine x_aload_n dX6_hunt_10 rfl ?_
  refine g_X6_33 rfl dX6_hunt_11 (by decide) rfl rfl ?_
  refine x_bipush (v := 6) dX6_hunt_14 (by decide) ?_
  refine x_ialdK (jn := 6) (v := (a22 6)) dX6_hunt_16 (by decide) rfl (xin_ok (by decide)) (by decide) rfl ?_
  refine x_istore_n (ls' := [_, _, _]) dX6_hunt_17 rfl rfl ?_
  refine x_aload_n dX6_hunt_18 rfl ?_
  refine g_X6_18 rfl dX6_hunt_19 (by decide) rfl rfl ?_
  obtain ⟨q1, hq1, h⟩ := Option.bind_eq_some_iff.mp h
  refine y_callVi (L' := [(21, _), (22, _), (23, _), (24, _)]) mi_X10_looksRight ml_X6_129 im_X10_looksRight se_X10_looksRight (rfl : vwCl[9]? = _) dX6_hunt_22 (fun s1 => v_X10_looksRight_24 s1 _ _ q1 hq1) (by decide) rfl (Nat.le_of_ble_eq_true rfl) rfl (by decide) (Nat.le_of_ble_eq_true rfl) rfl rfl rfl rfl ?_
  refine x_if_eq (tgt := 52) dX6_hunt_25 (by decide) (fun c2 => ?_) (fun c2 => ?_)
  · replace h := xif_p c2 h
    cases h
    exact x_vret dX6_hunt_52 ⟨rfl, rfl, rfl⟩
  · replace h := xif_n c2 h
    refine x_iload_n dX6_hunt_28 rfl ?_
    refine x_if_le (tgt := 52) dX6_hunt_29 (by decide) (fun c3 => ?_) (fun c3 => ?_)
    · replace h := xif_p c3 h
      cases h
      exact x_vret dX6_hunt_52 ⟨rfl, rfl, rfl⟩
    · replace h := xif_n c3 h
      refine x_aload_n dX6_hunt_32 rfl ?_
      refine g_X6_77 rfl dX6_hunt_33 (by decide) rfl rfl ?_
      refine x_iload_n dX6_hunt_36 rfl ?_
      obtain ⟨c4, h⟩ := xck h
      refine x_irem dX6_hunt_37 (xnz_ok c4) ?_
      refine x_if_ne (tgt := 52) dX6_hunt_38 (by decide) (fun c5 => ?_) (fun c5 => ?_)
      · replace h := xif_n c5 h
        cases h
        exact x_vret dX6_hunt_52 ⟨rfl, rfl, rfl⟩
      · replace h := xif_p c5 h
        refine x_aload_n dX6_hunt_41 rfl ?_
        refine x_iconst (v := 0) dX6_hunt_42 (by decide) ?_
        refine p_X6_58 (fs' := [_, _, _, _, _, _, _, _, _, _, _, _, _, _, _, _, _, _, _]) (L' := [(21, _), (22, _), (23, _), (24, _)]) rfl dX6_hunt_43 (by decide) rfl (Nat.le_of_ble_eq_true rfl) rfl rfl ?_
        refine x_aload_n dX6_hunt_46 rfl ?_
        refine x_iconst (v := 1) dX6_hunt_47 (by decide) ?_
        refine x_iload_n dX6_hunt_48 rfl ?_
        obtain ⟨q6, hq6, h⟩ := Option.bind_eq_some_iff.mp h
        refine y_callVv (L' := [(21, _), (22, _), (23, _), (24, _)]) mi_X6_become ml_X6_133 im_X6_become se_X6_become (rfl : vwCl[5]? = _) dX6_hunt_49 (fun s1 => v_X6_become_21 s1 _ _ _ _ q6 hq6) (by decide) rfl (Nat.le_of_ble_eq_true rfl) rfl (by decide) (Nat.le_of_ble_eq_true rfl) rfl rfl rfl rfl ?_
        cases h
        exact x_vret dX6_hunt_52 ⟨rfl, rfl, rfl⟩
def b_X6_watch_21_78  (o21 : Nat → Int32) (a22 : Nat → Int32) (a23 : Nat → Int32) (t1 : Int32) : Option (((Nat → Int32) × (Nat → Int32))) := (bif xb t1 then (some (upd o21 12 t1, a23)) else none)
set_option maxRecDepth 100000 in
set_option maxHeartbeats 400000 in
theorem vb_X6_watch_21_78 (s0 : XW)  (o21 : Nat → Int32) (a22 : Nat → Int32) (a23 : Nat → Int32) (t1 : Int32) (q : ((Nat → Int32) × (Nat → Int32))) (h : b_X6_watch_21_78 o21 a22 a23 t1 = some q) : V yX6_watch cX6_watch none 0 61 (0, 0) 78 [none, none, none] [.int t1, .ref 21] (xof s0 [W_21 o21, W_22 a22, W_23 a23]) (xq 61 none (xof s0 [W_21 q.1, W_22 a22, W_23 q.2])) := by
  unfold b_X6_watch_21_78 at h
  obtain ⟨c6, h⟩ := xck h
  refine p_X6_71 (fs' := [_, _, _, _, _, _, _, _, _, _, _, _, _, _, _, _, _, _, _]) (L' := [(21, _), (22, _), (23, _)]) rfl dX6_watch_78 (xb_ok c6) (by decide) rfl (Nat.le_of_ble_eq_true rfl) rfl rfl ?_
  cases h
  exact x_vret dX6_watch_81 ⟨rfl, rfl, rfl⟩
def b_X6_watch_21_68  (o21 : Nat → Int32) (a22 : Nat → Int32) (a23 : Nat → Int32) (l2 : Int32) : Option (((Nat → Int32) × (Nat → Int32))) := (if l2 = 0 then (b_X6_watch_21_78 o21 a22 a23 1) else (b_X6_watch_21_78 o21 a22 a23 0))
set_option maxRecDepth 100000 in
set_option maxHeartbeats 400000 in
theorem vb_X6_watch_21_68 (s0 : XW)  (o21 : Nat → Int32) (a22 : Nat → Int32) (a23 : Nat → Int32) (l2 : Int32) (q : ((Nat → Int32) × (Nat → Int32))) (h : b_X6_watch_21_68 o21 a22 a23 l2 = some q) : V yX6_watch cX6_watch none 0 61 (0, 0) 68 [some (.ref 21), none, some (.int l2)] [] (xof s0 [W_21 o21, W_22 a22, W_23 a23]) (xq 61 none (xof s0 [W_21 q.1, W_22 a22, W_23 q.2])) := by
  unfold b_X6_watch_21_68 at h
  refine x_aload_n dX6_watch_68 rfl ?_
  refine x_iload_n dX6_watch_69 rfl ?_
  refine x_if_ne (tgt := 77) dX6_watch_70 (by decide) (fun c5 => ?_) (fun c5 => ?_)
  · replace h := xif_n c5 h
    refine x_iconst (v := 0) dX6_watch_77 (by decide) ?_
    refine V.drop1 (i := 0) (ls' := [_, _, _]) rfl ?_
    refine V.drop1 (i := 2) (ls' := [_, _, _]) rfl ?_
    show V yX6_watch cX6_watch none 0 61 (0, 0) 78 [none, none, none] [.int 0, .ref 21] (xof s0 [W_21 o21, W_22 a22, W_23 a23]) _
    exact vb_X6_watch_21_78 s0 o21 a22 a23 0 q h
  · replace h := xif_p c5 h
    refine x_iconst (v := 1) dX6_watch_73 (by decide) ?_
    refine x_goto (tgt := 78) dX6_watch_74 (by decide) ?_
    refine V.drop1 (i := 0) (ls' := [_, _, _]) rfl ?_
    refine V.drop1 (i := 2) (ls' := [_, _, _]) rfl ?_
    show V yX6_watch cX6_watch none 0 61 (0, 0) 78 [none, none, none] [.int 1, .ref 21] (xof s0 [W_21 o21, W_22 a22, W_23 a23]) _
    exact vb_X6_watch_21_78 s0 o21 a22 a23 1 q h
def b_X6_watch_21_30  (o21 : Nat → Int32) (a22 : Nat → Int32) (a23 : Nat → Int32) (l2 : Int32) (t1 : Int32) : Option (((Nat → Int32) × (Nat → Int32))) := (if t1 < (a22 4) then (some (upd o21 13 t1, a23)) else (if l2 = 0 then (if (o21 12) = 0 then (b_X6_watch_21_68 (upd o21 13 t1) a22 (upd a23 11 (((a23 11) + 1))) l2) else (b_X6_watch_21_68 (upd o21 13 t1) a22 a23 l2)) else (b_X6_watch_21_68 (upd o21 13 t1) a22 a23 l2)))
set_option maxRecDepth 100000 in
set_option maxHeartbeats 400000 in
theorem vb_X6_watch_21_30 (s0 : XW)  (o21 : Nat → Int32) (a22 : Nat → Int32) (a23 : Nat → Int32) (l2 : Int32) (t1 : Int32) (q : ((Nat → Int32) × (Nat → Int32))) (h : b_X6_watch_21_30 o21 a22 a23 l2 t1 = some q) : V yX6_watch cX6_watch none 0 61 (0, 0) 30 [some (.ref 21), none, some (.int l2)] [.int t1, .ref 21] (xof s0 [W_21 o21, W_22 a22, W_23 a23]) (xq 61 none (xof s0 [W_21 q.1, W_22 a22, W_23 q.2])) := by
  unfold b_X6_watch_21_30 at h
  refine p_X6_74 (fs' := [_, _, _, _, _, _, _, _, _, _, _, _, _, _, _, _, _, _, _]) (L' := [(21, _), (22, _), (23, _)]) rfl dX6_watch_30 (by decide) rfl (Nat.le_of_ble_eq_true rfl) rfl rfl ?_
  refine x_aload_n dX6_watch_33 rfl ?_
  refine g_X6_74 rfl dX6_watch_34 (by decide) rfl rfl ?_
  refine x_aload_n dX6_watch_37 rfl ?_
  refine g_X6_33 rfl dX6_watch_38 (by decide) rfl rfl ?_
  refine x_iconst (v := 4) dX6_watch_41 (by decide) ?_
  refine x_ialdK (jn := 4) (v := (a22 4)) dX6_watch_42 (by decide) rfl (xin_ok (by decide)) (by decide) rfl ?_
  refine x_icmp_lt (tgt := 81) dX6_watch_43 (by decide) (fun c3 => ?_) (fun c3 => ?_)
  · replace h := xif_p c3 h
    cases h
    exact x_vret dX6_watch_81 ⟨rfl, rfl, rfl⟩
  · replace h := xif_n c3 h
    refine x_iload_n dX6_watch_46 rfl ?_
    refine x_if_ne (tgt := 68) dX6_watch_47 (by decide) (fun c4 => ?_) (fun c4 => ?_)
    · replace h := xif_n c4 h
      show V yX6_watch cX6_watch none 0 61 (0, 0) 68 [some (.ref 21), none, some (.int l2)] [] (xof s0 [W_21 (upd o21 13 t1), W_22 a22, W_23 a23]) _
      exact vb_X6_watch_21_68 s0 (upd o21 13 t1) a22 a23 l2 q h
    · replace h := xif_p c4 h
      refine x_aload_n dX6_watch_50 rfl ?_
      refine g_X6_71 rfl dX6_watch_51 (by decide) rfl rfl ?_
      refine x_if_ne (tgt := 68) dX6_watch_54 (by decide) (fun c7 => ?_) (fun c7 => ?_)
      · replace h := xif_n c7 h
        show V yX6_watch cX6_watch none 0 61 (0, 0) 68 [some (.ref 21), none, some (.int l2)] [] (xof s0 [W_21 (upd o21 13 t1), W_22 a22, W_23 a23]) _
        exact vb_X6_watch_21_68 s0 (upd o21 13 t1) a22 a23 l2 q h
      · replace h := xif_p c7 h
        refine x_aload_n dX6_watch_57 rfl ?_
        refine g_X6_9 rfl dX6_watch_58 (by decide) rfl rfl ?_
        refine x_bipush (v := 11) dX6_watch_61 (by decide) ?_
        refine x_dup2 dX6_watch_63 rfl rfl ?_
        refine x_ialdK (jn := 11) (v := (a23 11)) dX6_watch_64 (by decide) rfl (xin_ok (by decide)) (by decide) rfl ?_
        refine x_iconst (v := 1) dX6_watch_65 (by decide) ?_
        refine x_iadd dX6_watch_66 ?_
        refine x_iastK (jn := 11) (L' := [(21, _), (22, _), (23, _)]) dX6_watch_67 (by decide) rfl (xin_ok (by decide)) (by decide) rfl ?_
        show V yX6_watch cX6_watch none 0 61 (0, 0) 68 [some (.ref 21), none, some (.int l2)] [] (xof s0 [W_21 (upd o21 13 t1), W_22 a22, W_23 (upd a23 11 (((a23 11) + 1)))]) _
        exact vb_X6_watch_21_68 s0 (upd o21 13 t1) a22 (upd a23 11 (((a23 11) + 1))) l2 q h
def b_X6_watch_21_13  (o21 : Nat → Int32) (a22 : Nat → Int32) (a23 : Nat → Int32) (l1 : Int32) (t0 : Int32) : Option (((Nat → Int32) × (Nat → Int32))) := (if t0 = l1 then (b_X6_watch_21_30 o21 a22 a23 t0 (((o21 13) + 1))) else (b_X6_watch_21_30 o21 a22 a23 t0 1))
set_option maxRecDepth 100000 in
set_option maxHeartbeats 400000 in
theorem vb_X6_watch_21_13 (s0 : XW)  (o21 : Nat → Int32) (a22 : Nat → Int32) (a23 : Nat → Int32) (l1 : Int32) (t0 : Int32) (q : ((Nat → Int32) × (Nat → Int32))) (h : b_X6_watch_21_13 o21 a22 a23 l1 t0 = some q) : V yX6_watch cX6_watch none 0 61 (0, 0) 13 [some (.ref 21), some (.int l1), none] [.int t0] (xof s0 [W_21 o21, W_22 a22, W_23 a23]) (xq 61 none (xof s0 [W_21 q.1, W_22 a22, W_23 q.2])) := by
  unfold b_X6_watch_21_13 at h
  refine x_istore_n (ls' := [_, _, _]) dX6_watch_13 rfl rfl ?_
  refine x_aload_n dX6_watch_14 rfl ?_
  refine x_iload_n dX6_watch_15 rfl ?_
  refine x_iload_n dX6_watch_16 rfl ?_
  refine x_icmp_ne (tgt := 29) dX6_watch_17 (by decide) (fun c2 => ?_) (fun c2 => ?_)
  · replace h := xif_n c2 h
    refine x_iconst (v := 1) dX6_watch_29 (by decide) ?_
    refine V.drop1 (i := 1) (ls' := [_, _, _]) rfl ?_
    show V yX6_watch cX6_watch none 0 61 (0, 0) 30 [some (.ref 21), none, some (.int t0)] [.int 1, .ref 21] (xof s0 [W_21 o21, W_22 a22, W_23 a23]) _
    exact vb_X6_watch_21_30 s0 o21 a22 a23 t0 1 q h
  · replace h := xif_p c2 h
    refine x_aload_n dX6_watch_20 rfl ?_
    refine g_X6_74 rfl dX6_watch_21 (by decide) rfl rfl ?_
    refine x_iconst (v := 1) dX6_watch_24 (by decide) ?_
    refine x_iadd dX6_watch_25 ?_
    refine x_goto (tgt := 30) dX6_watch_26 (by decide) ?_
    refine V.drop1 (i := 1) (ls' := [_, _, _]) rfl ?_
    show V yX6_watch cX6_watch none 0 61 (0, 0) 30 [some (.ref 21), none, some (.int t0)] [.int (((o21 13) + 1)), .ref 21] (xof s0 [W_21 o21, W_22 a22, W_23 a23]) _
    exact vb_X6_watch_21_30 s0 o21 a22 a23 t0 (((o21 13) + 1)) q h
def f_X6_watch_21 (o21 : Nat → Int32) (a22 : Nat → Int32) (a23 : Nat → Int32) (p1 : Int32) : Option (((Nat → Int32) × (Nat → Int32))) := (if (o21 7) = 2 then (b_X6_watch_21_13 o21 a22 a23 p1 1) else (b_X6_watch_21_13 o21 a22 a23 p1 0))
set_option maxRecDepth 100000 in
set_option maxHeartbeats 400000 in
theorem v_X6_watch_21 (s0 : XW) (o21 : Nat → Int32) (a22 : Nat → Int32) (a23 : Nat → Int32) (p1 : Int32) (q : ((Nat → Int32) × (Nat → Int32))) (h : f_X6_watch_21 o21 a22 a23 p1 = some q) : C_X6_watch 0 61 [.ref 21, .int p1] (xof s0 [W_21 o21, W_22 a22, W_23 a23]) none (xof s0 [W_21 q.1, W_22 a22, W_23 q.2]) := by
  unfold f_X6_watch_21 at h
  show V yX6_watch cX6_watch none 0 61 (0, 0) 0 [some (.ref 21), some (.int p1), none] [] (xof s0 [W_21 o21, W_22 a22, W_23 a23]) _
  refine x_aload_n dX6_watch_0 rfl ?_
  refine g_X6_54 rfl dX6_watch_1 (by decide) rfl rfl ?_
  refine x_iconst (v := 2) dX6_watch_4 (by decide) ?_
  refine x_icmp_ne (tgt := 12) dX6_watch_5 (by decide) (fun c1 => ?_) (fun c1 => ?_)
  · replace h := xif_n c1 h
    refine x_iconst (v := 0) dX6_watch_12 (by decide) ?_
    show V yX6_watch cX6_watch none 0 61 (0, 0) 13 [some (.ref 21), some (.int p1), none] [.int 0] (xof s0 [W_21 o21, W_22 a22, W_23 a23]) _
    exact vb_X6_watch_21_13 s0 o21 a22 a23 p1 0 q h
  · replace h := xif_p c1 h
    refine x_iconst (v := 1) dX6_watch_8 (by decide) ?_
    refine x_goto (tgt := 13) dX6_watch_9 (by decide) ?_
    show V yX6_watch cX6_watch none 0 61 (0, 0) 13 [some (.ref 21), some (.int p1), none] [.int 1] (xof s0 [W_21 o21, W_22 a22, W_23 a23]) _
    exact vb_X6_watch_21_13 s0 o21 a22 a23 p1 1 q h
def f_X6_loadBits_21 (o21 : Nat → Int32) (a22 : Nat → Int32)  : Option Int32 := (some ((8 * (a22 0))))
set_option maxRecDepth 100000 in
set_option maxHeartbeats 400000 in
theorem v_X6_loadBits_21 (s0 : XW) (o21 : Nat → Int32) (a22 : Nat → Int32)  (q : Int32) (h : f_X6_loadBits_21 o21 a22 = some q) : C_X6_loadBits 0 61 [.ref 21] (xof s0 [W_21 o21, W_22 a22]) (some (.int q)) (xof s0 [W_21 o21, W_22 a22]) := by
  unfold f_X6_loadBits_21 at h
  show V yX6_loadBits cX6_loadBits (some .int) 0 61 (0, 0) 0 [some (.ref 21)] [] (xof s0 [W_21 o21, W_22 a22]) _
  refine x_bipush (v := 8) dX6_loadBits_0 (by decide) ?_
  refine x_aload_n dX6_loadBits_2 rfl ?_
  refine g_X6_33 rfl dX6_loadBits_3 (by decide) rfl rfl ?_
  refine x_iconst (v := 0) dX6_loadBits_6 (by decide) ?_
  refine x_ialdK (jn := 0) (v := (a22 0)) dX6_loadBits_7 (by decide) rfl (xin_ok (by decide)) (by decide) rfl ?_
  refine x_imul dX6_loadBits_8 ?_
  cases h
  exact x_iret dX6_loadBits_9 ⟨rfl, rfl, rfl⟩
def f_X2_oldest_25 (j25 : Int64)  : Option Int32 := (some ((Int64.toInt32 (xul j25 42))))
set_option maxRecDepth 100000 in
set_option maxHeartbeats 400000 in
theorem v_X2_oldest_25 (s0 : XW) (j25 : Int64)  (q : Int32) (h : f_X2_oldest_25 j25 = some q) : C_X2_oldest 0 61 [.ref 25] (xof s0 [W_25 j25]) (some (.int q)) (xof s0 [W_25 j25]) := by
  unfold f_X2_oldest_25 at h
  show V yX2_oldest cX2_oldest (some .int) 0 61 (0, 0) 0 [some (.ref 25)] [] (xof s0 [W_25 j25]) _
  refine x_aload_n dX2_oldest_0 rfl ?_
  refine g_X2_9 rfl dX2_oldest_1 (by decide) rfl rfl ?_
  refine x_bipush (v := 42) dX2_oldest_4 (by decide) ?_
  refine x_lushr dX2_oldest_6 ?_
  refine x_l2i dX2_oldest_7 ?_
  cases h
  exact x_iret dX2_oldest_8 ⟨rfl, rfl, rfl⟩
def f_X2_push_25 (j25 : Int64) (p1 : Int32) : Option Int64 := (some ((((j25 <<< (Int32.toInt64 1 &&& 63)) ||| (Int32.toInt64 p1)) &&& 8796093022207)))
set_option maxRecDepth 100000 in
set_option maxHeartbeats 400000 in
theorem v_X2_push_25 (s0 : XW) (j25 : Int64) (p1 : Int32) (q : Int64) (h : f_X2_push_25 j25 p1 = some q) : C_X2_push 0 61 [.ref 25, .int p1] (xof s0 [W_25 j25]) none (xof s0 [W_25 q]) := by
  unfold f_X2_push_25 at h
  show V yX2_push cX2_push none 0 61 (0, 0) 0 [some (.ref 25), some (.int p1)] [] (xof s0 [W_25 j25]) _
  refine x_aload_n dX2_push_0 rfl ?_
  refine x_aload_n dX2_push_1 rfl ?_
  refine g_X2_9 rfl dX2_push_2 (by decide) rfl rfl ?_
  refine x_iconst (v := 1) dX2_push_5 (by decide) ?_
  refine x_lshl dX2_push_6 ?_
  refine x_iload_n dX2_push_7 rfl ?_
  refine x_i2l dX2_push_8 ?_
  refine x_lor dX2_push_9 ?_
  refine x_ldc2 dX2_push_10 cn_X2_17 ?_
  refine x_land dX2_push_13 ?_
  refine p_X2_9 (fs' := [_]) (L' := [(25, _)]) rfl dX2_push_14 (by decide) rfl (Nat.le_of_ble_eq_true rfl) rfl rfl ?_
  cases h
  exact x_vret dX2_push_17 ⟨rfl, rfl, rfl⟩
def l_X8_isLoadLike_4_26_37 (n : Nat) (o4 : Nat → Int32) (a7 : Nat → Int32) (a26 : Nat → Int32) (l3 : Int32) (l4 : Int32) (l5 : Int32) : Nat → (Int32) → Option (Int32 ⊕ Int32)
  | 0, _ => none
  | k + 1, l6 => (if l4 ≤ l6 then (some (Sum.inr l6)) else (bif xin (l5 + l6) 3072 then (bif xin (l3 + l6) 48 then (if (a7 (Int32.toNatClampNeg (l5 + l6))) = (a26 (Int32.toNatClampNeg (l3 + l6))) then (l_X8_isLoadLike_4_26_37 n o4 a7 a26 l3 l4 l5 k ((l6 + 1))) else (some (Sum.inl 0))) else none) else none))
set_option maxRecDepth 100000 in
set_option maxHeartbeats 400000 in
theorem lv_X8_isLoadLike_4_26_37 (s0 : XW) (n : Nat) (o4 : Nat → Int32) (a7 : Nat → Int32) (a26 : Nat → Int32) (l3 : Int32) (l4 : Int32) (l5 : Int32) (Q : Nat → Option Value → XW → Prop) : ∀ (k : Nat) (l6 : Int32) (o : Int32 ⊕ Int32), l_X8_isLoadLike_4_26_37 n o4 a7 a26 l3 l4 l5 k l6 = some o → ((∀ z, o = Sum.inl z → Q 61 (some (.int z)) (xof s0 [W_4 o4, W_7 a7, W_26 a26])) ∧ (∀ z, o = Sum.inr z → V yX8_isLoadLike cX8_isLoadLike (some .boolean) 0 61 (0, 0) 71 [none, none, none, none, none, none, none] [] (xof s0 [W_4 o4, W_7 a7, W_26 a26]) Q)) → V yX8_isLoadLike cX8_isLoadLike (some .boolean) 0 61 (0, 0) 37 [some (.ref 4), none, some (.ref 26), some (.int l3), some (.int l4), some (.int l5), some (.int l6)] [] (xof s0 [W_4 o4, W_7 a7, W_26 a26]) Q := by
  intro k
  induction k with
  | zero =>
    intro _ _ h
    simp [l_X8_isLoadLike_4_26_37] at h
  | succ k ih =>
    intro l6 o h hk
    rw [l_X8_isLoadLike_4_26_37] at h
    refine x_iload dX8_isLoadLike_37 rfl ?_
    refine x_iload dX8_isLoadLike_39 rfl ?_
    refine x_icmp_ge (tgt := 71) dX8_isLoadLike_41 (by decide) (fun c4 => ?_) (fun c4 => ?_)
    · replace h := xif_p c4 h
      refine V.drop1 (i := 0) (ls' := [_, _, _, _, _, _, _]) rfl ?_
      refine V.drop1 (i := 2) (ls' := [_, _, _, _, _, _, _]) rfl ?_
      refine V.drop1 (i := 3) (ls' := [_, _, _, _, _, _, _]) rfl ?_
      refine V.drop1 (i := 4) (ls' := [_, _, _, _, _, _, _]) rfl ?_
      refine V.drop1 (i := 5) (ls' := [_, _, _, _, _, _, _]) rfl ?_
      refine V.drop1 (i := 6) (ls' := [_, _, _, _, _, _, _]) rfl ?_
      show V yX8_isLoadLike cX8_isLoadLike (some .boolean) 0 61 (0, 0) 71 [none, none, none, none, none, none, none] [] (xof s0 [W_4 o4, W_7 a7, W_26 a26]) _
      cases h
      exact hk.2 l6 rfl
    · replace h := xif_n c4 h
      refine x_aload_n dX8_isLoadLike_44 rfl ?_
      refine g_X8_22 rfl dX8_isLoadLike_45 (by decide) rfl rfl ?_
      refine x_iload dX8_isLoadLike_48 rfl ?_
      refine x_iload dX8_isLoadLike_50 rfl ?_
      refine x_iadd dX8_isLoadLike_52 ?_
      obtain ⟨c5, h⟩ := xck h
      refine x_baldK (jn := (Int32.toNatClampNeg (l5 + l6))) (v := (a7 (Int32.toNatClampNeg (l5 + l6)))) dX8_isLoadLike_53 (by decide) rfl (xin_ok c5) rfl rfl ?_
      refine x_aload_n dX8_isLoadLike_54 rfl ?_
      refine x_iload_n dX8_isLoadLike_55 rfl ?_
      refine x_iload dX8_isLoadLike_56 rfl ?_
      refine x_iadd dX8_isLoadLike_58 ?_
      obtain ⟨c6, h⟩ := xck h
      refine x_baldK (jn := (Int32.toNatClampNeg (l3 + l6))) (v := (a26 (Int32.toNatClampNeg (l3 + l6)))) dX8_isLoadLike_59 (by decide) rfl (xin_ok c6) rfl rfl ?_
      refine x_icmp_eq (tgt := 65) dX8_isLoadLike_60 (by decide) (fun c7 => ?_) (fun c7 => ?_)
      · replace h := xif_p c7 h
        refine x_iinc (v := l6 + 1) (ls' := [_, _, _, _, _, _, _]) dX8_isLoadLike_65 rfl rfl rfl rfl ?_
        refine x_goto (tgt := 37) dX8_isLoadLike_68 (by decide) ?_
        show V yX8_isLoadLike cX8_isLoadLike (some .boolean) 0 61 (0, 0) 37 [some (.ref 4), none, some (.ref 26), some (.int l3), some (.int l4), some (.int l5), some (.int ((l6 + 1)))] [] (xof s0 [W_4 o4, W_7 a7, W_26 a26]) _
        exact ih ((l6 + 1)) _ h hk
      · replace h := xif_n c7 h
        refine x_iconst (v := 0) dX8_isLoadLike_63 (by decide) ?_
        cases h
        exact x_zret dX8_isLoadLike_64 (Or.inl rfl) (hk.1 0 rfl)
def f_X8_isLoadLike_4_26 (n : Nat) (o4 : Nat → Int32) (a7 : Nat → Int32) (a26 : Nat → Int32) (p1 : Int32) (p3 : Int32) (p4 : Int32) : Option Int32 := (if p3 < 0 then (some 0) else (if (48 - p3) < p4 then (some 0) else (if p4 ≤ (3072 - (p1 * 48)) then (Option.bind (l_X8_isLoadLike_4_26_37 n o4 a7 a26 p3 p4 ((p1 * 48)) n 0) (fun u8 => Sum.elim (fun z9 => some z9) (fun z9 => (some 1)) u8)) else (some 0))))
set_option maxRecDepth 100000 in
set_option maxHeartbeats 400000 in
theorem v_X8_isLoadLike_4_26 (s0 : XW) (n : Nat) (o4 : Nat → Int32) (a7 : Nat → Int32) (a26 : Nat → Int32) (p1 : Int32) (p3 : Int32) (p4 : Int32) (q : Int32) (h : f_X8_isLoadLike_4_26 n o4 a7 a26 p1 p3 p4 = some q) : C_X8_isLoadLike 0 61 [.ref 4, .int p1, .ref 26, .int p3, .int p4] (xof s0 [W_4 o4, W_7 a7, W_26 a26]) (some (.int q)) (xof s0 [W_4 o4, W_7 a7, W_26 a26]) := by
  unfold f_X8_isLoadLike_4_26 at h
  show V yX8_isLoadLike cX8_isLoadLike (some .boolean) 0 61 (0, 0) 0 [some (.ref 4), some (.int p1), some (.ref 26), some (.int p3), some (.int p4), none, none] [] (xof s0 [W_4 o4, W_7 a7, W_26 a26]) _
  refine x_iload_n dX8_isLoadLike_0 rfl ?_
  refine x_bipush (v := 48) dX8_isLoadLike_1 (by decide) ?_
  refine x_imul dX8_isLoadLike_3 ?_
  refine x_istore (ls' := [_, _, _, _, _, _, _]) dX8_isLoadLike_4 rfl rfl ?_
  refine x_iload_n dX8_isLoadLike_6 rfl ?_
  refine x_if_lt (tgt := 32) dX8_isLoadLike_7 (by decide) (fun c1 => ?_) (fun c1 => ?_)
  · replace h := xif_p c1 h
    refine x_iconst (v := 0) dX8_isLoadLike_32 (by decide) ?_
    cases h
    exact x_zret dX8_isLoadLike_33 (Or.inl rfl) ⟨rfl, rfl, rfl⟩
  · replace h := xif_n c1 h
    refine x_iload dX8_isLoadLike_10 rfl ?_
    refine x_aload_n dX8_isLoadLike_12 rfl ?_
    refine x_alen (v := 48) dX8_isLoadLike_13 (by decide) rfl (by decide) rfl ?_
    refine x_iload_n dX8_isLoadLike_14 rfl ?_
    refine x_isub dX8_isLoadLike_15 ?_
    refine x_icmp_gt (tgt := 32) dX8_isLoadLike_16 (by decide) (fun c2 => ?_) (fun c2 => ?_)
    · replace h := xif_p c2 h
      refine x_iconst (v := 0) dX8_isLoadLike_32 (by decide) ?_
      cases h
      exact x_zret dX8_isLoadLike_33 (Or.inl rfl) ⟨rfl, rfl, rfl⟩
    · replace h := xif_n c2 h
      refine x_iload dX8_isLoadLike_19 rfl ?_
      refine x_aload_n dX8_isLoadLike_21 rfl ?_
      refine g_X8_22 rfl dX8_isLoadLike_22 (by decide) rfl rfl ?_
      refine x_alen (v := 3072) dX8_isLoadLike_25 (by decide) rfl (by decide) rfl ?_
      refine x_iload dX8_isLoadLike_26 rfl ?_
      refine x_isub dX8_isLoadLike_28 ?_
      refine x_icmp_le (tgt := 34) dX8_isLoadLike_29 (by decide) (fun c3 => ?_) (fun c3 => ?_)
      · replace h := xif_p c3 h
        refine x_iconst (v := 0) dX8_isLoadLike_34 (by decide) ?_
        refine x_istore (ls' := [_, _, _, _, _, _, _]) dX8_isLoadLike_35 rfl rfl ?_
        refine V.drop1 (i := 1) (ls' := [_, _, _, _, _, _, _]) rfl ?_
        obtain ⟨u8, hu8, h⟩ := Option.bind_eq_some_iff.mp h
        show V yX8_isLoadLike cX8_isLoadLike (some .boolean) 0 61 (0, 0) 37 [some (.ref 4), none, some (.ref 26), some (.int p3), some (.int p4), some (.int ((p1 * 48))), some (.int 0)] [] (xof s0 [W_4 o4, W_7 a7, W_26 a26]) _
        refine lv_X8_isLoadLike_4_26_37 s0 _ o4 a7 a26 p3 p4 ((p1 * 48)) _ n 0 _ hu8 ⟨fun z9 hz => ?_, fun z9 hz => ?_⟩
        · subst hz
          replace h := xsl h
          cases h
          exact ⟨rfl, rfl, rfl⟩
        subst hz
        replace h := xsr h
        refine x_iconst (v := 1) dX8_isLoadLike_71 (by decide) ?_
        cases h
        exact x_zret dX8_isLoadLike_72 (Or.inr rfl) ⟨rfl, rfl, rfl⟩
      · replace h := xif_n c3 h
        refine x_iconst (v := 0) dX8_isLoadLike_32 (by decide) ?_
        cases h
        exact x_zret dX8_isLoadLike_33 (Or.inl rfl) ⟨rfl, rfl, rfl⟩
def l_X8_firstLike_4_26_3 (n : Nat) (o4 : Nat → Int32) (a6 : Nat → Int32) (a7 : Nat → Int32) (a26 : Nat → Int32) (l1 : Int32) (l3 : Int32) (l4 : Int32) : Nat → (Int32) → Option (Int32 ⊕ Int32)
  | 0, _ => none
  | k + 1, l5 => (if (o4 3) ≤ l5 then (some (Sum.inr l5)) else (if 64 ≤ l5 then (some (Sum.inr l5)) else (bif xin l5 64 then (if (a6 (Int32.toNatClampNeg l5)) = l1 then (Option.bind (f_X8_isLoadLike_4_26 n o4 a7 a26 l5 l3 l4) (fun q5 => (if q5 = 0 then (l_X8_firstLike_4_26_3 n o4 a6 a7 a26 l1 l3 l4 k ((l5 + 1))) else (some (Sum.inl l5))))) else (l_X8_firstLike_4_26_3 n o4 a6 a7 a26 l1 l3 l4 k ((l5 + 1)))) else none)))
set_option maxRecDepth 100000 in
set_option maxHeartbeats 400000 in
theorem lv_X8_firstLike_4_26_3 (s0 : XW) (n : Nat) (o4 : Nat → Int32) (a6 : Nat → Int32) (a7 : Nat → Int32) (a26 : Nat → Int32) (l1 : Int32) (l3 : Int32) (l4 : Int32) (Q : Nat → Option Value → XW → Prop) : ∀ (k : Nat) (l5 : Int32) (o : Int32 ⊕ Int32), l_X8_firstLike_4_26_3 n o4 a6 a7 a26 l1 l3 l4 k l5 = some o → ((∀ z, o = Sum.inl z → Q 61 (some (.int z)) (xof s0 [W_4 o4, W_6 a6, W_7 a7, W_26 a26])) ∧ (∀ z, o = Sum.inr z → V yX8_firstLike cX8_firstLike (some .int) 1 61 (0, 0) 55 [none, none, none, none, none, none] [] (xof s0 [W_4 o4, W_6 a6, W_7 a7, W_26 a26]) Q)) → V yX8_firstLike cX8_firstLike (some .int) 1 61 (0, 0) 3 [some (.ref 4), some (.int l1), some (.ref 26), some (.int l3), some (.int l4), some (.int l5)] [] (xof s0 [W_4 o4, W_6 a6, W_7 a7, W_26 a26]) Q := by
  intro k
  induction k with
  | zero =>
    intro _ _ h
    simp [l_X8_firstLike_4_26_3] at h
  | succ k ih =>
    intro l5 o h hk
    rw [l_X8_firstLike_4_26_3] at h
    refine x_iload dX8_firstLike_3 rfl ?_
    refine x_aload_n dX8_firstLike_5 rfl ?_
    refine g_X8_26 rfl dX8_firstLike_6 (by decide) rfl rfl ?_
    refine x_icmp_ge (tgt := 55) dX8_firstLike_9 (by decide) (fun c1 => ?_) (fun c1 => ?_)
    · replace h := xif_p c1 h
      refine V.drop1 (i := 0) (ls' := [_, _, _, _, _, _]) rfl ?_
      refine V.drop1 (i := 1) (ls' := [_, _, _, _, _, _]) rfl ?_
      refine V.drop1 (i := 2) (ls' := [_, _, _, _, _, _]) rfl ?_
      refine V.drop1 (i := 3) (ls' := [_, _, _, _, _, _]) rfl ?_
      refine V.drop1 (i := 4) (ls' := [_, _, _, _, _, _]) rfl ?_
      refine V.drop1 (i := 5) (ls' := [_, _, _, _, _, _]) rfl ?_
      show V yX8_firstLike cX8_firstLike (some .int) 1 61 (0, 0) 55 [none, none, none, none, none, none] [] (xof s0 [W_4 o4, W_6 a6, W_7 a7, W_26 a26]) _
      cases h
      exact hk.2 l5 rfl
    · replace h := xif_n c1 h
      refine x_iload dX8_firstLike_12 rfl ?_
      refine x_aload_n dX8_firstLike_14 rfl ?_
      refine g_X8_18 rfl dX8_firstLike_15 (by decide) rfl rfl ?_
      refine x_alen (v := 64) dX8_firstLike_18 (by decide) rfl (by decide) rfl ?_
      refine x_icmp_ge (tgt := 55) dX8_firstLike_19 (by decide) (fun c2 => ?_) (fun c2 => ?_)
      · replace h := xif_p c2 h
        refine V.drop1 (i := 0) (ls' := [_, _, _, _, _, _]) rfl ?_
        refine V.drop1 (i := 1) (ls' := [_, _, _, _, _, _]) rfl ?_
        refine V.drop1 (i := 2) (ls' := [_, _, _, _, _, _]) rfl ?_
        refine V.drop1 (i := 3) (ls' := [_, _, _, _, _, _]) rfl ?_
        refine V.drop1 (i := 4) (ls' := [_, _, _, _, _, _]) rfl ?_
        refine V.drop1 (i := 5) (ls' := [_, _, _, _, _, _]) rfl ?_
        show V yX8_firstLike cX8_firstLike (some .int) 1 61 (0, 0) 55 [none, none, none, none, none, none] [] (xof s0 [W_4 o4, W_6 a6, W_7 a7, W_26 a26]) _
        cases h
        exact hk.2 l5 rfl
      · replace h := xif_n c2 h
        refine x_aload_n dX8_firstLike_22 rfl ?_
        refine g_X8_18 rfl dX8_firstLike_23 (by decide) rfl rfl ?_
        refine x_iload dX8_firstLike_26 rfl ?_
        obtain ⟨c3, h⟩ := xck h
        refine x_ialdK (jn := (Int32.toNatClampNeg l5)) (v := (a6 (Int32.toNatClampNeg l5))) dX8_firstLike_28 (by decide) rfl (xin_ok c3) rfl rfl ?_
        refine x_iload_n dX8_firstLike_29 rfl ?_
        refine x_icmp_ne (tgt := 49) dX8_firstLike_30 (by decide) (fun c4 => ?_) (fun c4 => ?_)
        · replace h := xif_n c4 h
          refine x_iinc (v := l5 + 1) (ls' := [_, _, _, _, _, _]) dX8_firstLike_49 rfl rfl rfl rfl ?_
          refine x_goto (tgt := 3) dX8_firstLike_52 (by decide) ?_
          show V yX8_firstLike cX8_firstLike (some .int) 1 61 (0, 0) 3 [some (.ref 4), some (.int l1), some (.ref 26), some (.int l3), some (.int l4), some (.int ((l5 + 1)))] [] (xof s0 [W_4 o4, W_6 a6, W_7 a7, W_26 a26]) _
          exact ih ((l5 + 1)) _ h hk
        · replace h := xif_p c4 h
          refine x_aload_n dX8_firstLike_33 rfl ?_
          refine x_iload dX8_firstLike_34 rfl ?_
          refine x_aload_n dX8_firstLike_36 rfl ?_
          refine x_iload_n dX8_firstLike_37 rfl ?_
          refine x_iload dX8_firstLike_38 rfl ?_
          obtain ⟨q5, hq5, h⟩ := Option.bind_eq_some_iff.mp h
          refine y_callVi (L' := [(4, _), (6, _), (7, _), (26, _)]) mi_X8_isLoadLike ml_X8_60 im_X8_isLoadLike se_X8_isLoadLike (rfl : vwCl[7]? = _) dX8_firstLike_40 (fun s1 => v_X8_isLoadLike_4_26 s1 n _ _ _ _ _ _ q5 hq5) (by decide) rfl (Nat.le_of_ble_eq_true rfl) rfl (by decide) (Nat.le_of_ble_eq_true rfl) rfl rfl rfl rfl ?_
          refine x_if_eq (tgt := 49) dX8_firstLike_43 (by decide) (fun c6 => ?_) (fun c6 => ?_)
          · replace h := xif_p c6 h
            refine x_iinc (v := l5 + 1) (ls' := [_, _, _, _, _, _]) dX8_firstLike_49 rfl rfl rfl rfl ?_
            refine x_goto (tgt := 3) dX8_firstLike_52 (by decide) ?_
            show V yX8_firstLike cX8_firstLike (some .int) 1 61 (0, 0) 3 [some (.ref 4), some (.int l1), some (.ref 26), some (.int l3), some (.int l4), some (.int ((l5 + 1)))] [] (xof s0 [W_4 o4, W_6 a6, W_7 a7, W_26 a26]) _
            exact ih ((l5 + 1)) _ h hk
          · replace h := xif_n c6 h
            refine x_iload dX8_firstLike_46 rfl ?_
            cases h
            exact x_iret dX8_firstLike_48 (hk.1 l5 rfl)
def f_X8_firstLike_4_26 (n : Nat) (o4 : Nat → Int32) (a6 : Nat → Int32) (a7 : Nat → Int32) (a26 : Nat → Int32) (p1 : Int32) (p3 : Int32) (p4 : Int32) : Option Int32 := (Option.bind (l_X8_firstLike_4_26_3 n o4 a6 a7 a26 p1 p3 p4 n 0) (fun u7 => Sum.elim (fun z8 => some z8) (fun z8 => (some ((-1)))) u7))
set_option maxRecDepth 100000 in
set_option maxHeartbeats 400000 in
theorem v_X8_firstLike_4_26 (s0 : XW) (n : Nat) (o4 : Nat → Int32) (a6 : Nat → Int32) (a7 : Nat → Int32) (a26 : Nat → Int32) (p1 : Int32) (p3 : Int32) (p4 : Int32) (q : Int32) (h : f_X8_firstLike_4_26 n o4 a6 a7 a26 p1 p3 p4 = some q) : C_X8_firstLike 1 61 [.ref 4, .int p1, .ref 26, .int p3, .int p4] (xof s0 [W_4 o4, W_6 a6, W_7 a7, W_26 a26]) (some (.int q)) (xof s0 [W_4 o4, W_6 a6, W_7 a7, W_26 a26]) := by
  unfold f_X8_firstLike_4_26 at h
  show V yX8_firstLike cX8_firstLike (some .int) 1 61 (0, 0) 0 [some (.ref 4), some (.int p1), some (.ref 26), some (.int p3), some (.int p4), none] [] (xof s0 [W_4 o4, W_6 a6, W_7 a7, W_26 a26]) _
  refine x_iconst (v := 0) dX8_firstLike_0 (by decide) ?_
  refine x_istore (ls' := [_, _, _, _, _, _]) dX8_firstLike_1 rfl rfl ?_
  obtain ⟨u7, hu7, h⟩ := Option.bind_eq_some_iff.mp h
  show V yX8_firstLike cX8_firstLike (some .int) 1 61 (0, 0) 3 [some (.ref 4), some (.int p1), some (.ref 26), some (.int p3), some (.int p4), some (.int 0)] [] (xof s0 [W_4 o4, W_6 a6, W_7 a7, W_26 a26]) _
  refine lv_X8_firstLike_4_26_3 s0 _ o4 a6 a7 a26 p1 p3 p4 _ n 0 _ hu7 ⟨fun z8 hz => ?_, fun z8 hz => ?_⟩
  · subst hz
    replace h := xsl h
    cases h
    exact ⟨rfl, rfl, rfl⟩
  subst hz
  replace h := xsr h
  refine x_iconst (v := -1) dX8_firstLike_55 (by decide) ?_
  cases h
  exact x_iret dX8_firstLike_56 ⟨rfl, rfl, rfl⟩
def b_X6_endLoad_21_90 (n : Nat) (o4 : Nat → Int32) (a6 : Nat → Int32) (a7 : Nat → Int32) (o21 : Nat → Int32) (a22 : Nat → Int32) (a23 : Nat → Int32) (a26 : Nat → Int32)  : Option (((Nat → Int32) × (Nat → Int32))) := (some (o21, a23))
set_option maxRecDepth 100000 in
set_option maxHeartbeats 400000 in
theorem vb_X6_endLoad_21_90 (s0 : XW) (n : Nat) (o4 : Nat → Int32) (a6 : Nat → Int32) (a7 : Nat → Int32) (o21 : Nat → Int32) (a22 : Nat → Int32) (a23 : Nat → Int32) (a26 : Nat → Int32)  (q : ((Nat → Int32) × (Nat → Int32))) (h : b_X6_endLoad_21_90 n o4 a6 a7 o21 a22 a23 a26 = some q) : V yX6_endLoad cX6_endLoad none 2 61 (0, 0) 90 [some (.ref 21)] [] (xof s0 [W_4 o4, W_6 a6, W_7 a7, W_21 o21, W_22 a22, W_23 a23, W_26 a26]) (xq 61 none (xof s0 [W_4 o4, W_6 a6, W_7 a7, W_21 q.1, W_22 a22, W_23 q.2, W_26 a26])) := by
  unfold b_X6_endLoad_21_90 at h
  refine x_aload_n dX6_endLoad_90 rfl ?_
  refine g_X6_40 rfl dX6_endLoad_91 (by decide) rfl rfl ?_
  refine x_ifnullN (tgt := 120) dX6_endLoad_94 (by decide) ?_
  cases h
  exact x_vret dX6_endLoad_120 ⟨rfl, rfl, rfl⟩
def b_X6_endLoad_21_43 (n : Nat) (o4 : Nat → Int32) (a6 : Nat → Int32) (a7 : Nat → Int32) (o21 : Nat → Int32) (a22 : Nat → Int32) (a23 : Nat → Int32) (a26 : Nat → Int32)  : Option (((Nat → Int32) × (Nat → Int32))) := (Option.bind (f_X8_firstLike_4_26 n o4 a6 a7 a26 ((o21 16)) 0 ((a22 0))) (fun q3 => (if q3 = (-1) then (b_X6_endLoad_21_90 n o4 a6 a7 o21 a22 (upd (upd a23 3 (((a23 3) + 1))) 9 (((a23 9) + 1))) a26) else (b_X6_endLoad_21_90 n o4 a6 a7 o21 a22 (upd a23 3 (((a23 3) + 1))) a26))))
set_option maxRecDepth 100000 in
set_option maxHeartbeats 400000 in
theorem vb_X6_endLoad_21_43 (s0 : XW) (n : Nat) (o4 : Nat → Int32) (a6 : Nat → Int32) (a7 : Nat → Int32) (o21 : Nat → Int32) (a22 : Nat → Int32) (a23 : Nat → Int32) (a26 : Nat → Int32)  (q : ((Nat → Int32) × (Nat → Int32))) (h : b_X6_endLoad_21_43 n o4 a6 a7 o21 a22 a23 a26 = some q) : V yX6_endLoad cX6_endLoad none 2 61 (0, 0) 43 [some (.ref 21)] [] (xof s0 [W_4 o4, W_6 a6, W_7 a7, W_21 o21, W_22 a22, W_23 a23, W_26 a26]) (xq 61 none (xof s0 [W_4 o4, W_6 a6, W_7 a7, W_21 q.1, W_22 a22, W_23 q.2, W_26 a26])) := by
  unfold b_X6_endLoad_21_43 at h
  refine x_aload_n dX6_endLoad_43 rfl ?_
  refine g_X6_9 rfl dX6_endLoad_44 (by decide) rfl rfl ?_
  refine x_iconst (v := 3) dX6_endLoad_47 (by decide) ?_
  refine x_dup2 dX6_endLoad_48 rfl rfl ?_
  refine x_ialdK (jn := 3) (v := (a23 3)) dX6_endLoad_49 (by decide) rfl (xin_ok (by decide)) (by decide) rfl ?_
  refine x_iconst (v := 1) dX6_endLoad_50 (by decide) ?_
  refine x_iadd dX6_endLoad_51 ?_
  refine x_iastK (jn := 3) (L' := [(4, _), (6, _), (7, _), (21, _), (22, _), (23, _), (26, _)]) dX6_endLoad_52 (by decide) rfl (xin_ok (by decide)) (by decide) rfl ?_
  refine x_aload_n dX6_endLoad_53 rfl ?_
  refine g_X6_36 rfl dX6_endLoad_54 (by decide) rfl rfl ?_
  refine x_aload_n dX6_endLoad_57 rfl ?_
  refine g_X6_96 rfl dX6_endLoad_58 (by decide) rfl rfl ?_
  refine x_aload_n dX6_endLoad_61 rfl ?_
  refine g_X6_29 rfl dX6_endLoad_62 (by decide) rfl rfl ?_
  refine x_iconst (v := 0) dX6_endLoad_65 (by decide) ?_
  refine x_aload_n dX6_endLoad_66 rfl ?_
  refine g_X6_33 rfl dX6_endLoad_67 (by decide) rfl rfl ?_
  refine x_iconst (v := 0) dX6_endLoad_70 (by decide) ?_
  refine x_ialdK (jn := 0) (v := (a22 0)) dX6_endLoad_71 (by decide) rfl (xin_ok (by decide)) (by decide) rfl ?_
  obtain ⟨q3, hq3, h⟩ := Option.bind_eq_some_iff.mp h
  refine y_callVi (L' := [(4, _), (6, _), (7, _), (21, _), (22, _), (23, _), (26, _)]) mi_X8_firstLike ml_X6_141 im_X8_firstLike se_X8_firstLike (rfl : vwCl[7]? = _) dX6_endLoad_72 (fun s1 => v_X8_firstLike_4_26 s1 n _ _ _ _ _ _ _ q3 hq3) (by decide) rfl (Nat.le_of_ble_eq_true rfl) rfl (by decide) (Nat.le_of_ble_eq_true rfl) rfl rfl rfl rfl ?_
  refine x_iconst (v := -1) dX6_endLoad_75 (by decide) ?_
  refine x_icmp_ne (tgt := 90) dX6_endLoad_76 (by decide) (fun c4 => ?_) (fun c4 => ?_)
  · replace h := xif_n c4 h
    show V yX6_endLoad cX6_endLoad none 2 61 (0, 0) 90 [some (.ref 21)] [] (xof s0 [W_4 o4, W_6 a6, W_7 a7, W_21 o21, W_22 a22, W_23 (upd a23 3 (((a23 3) + 1))), W_26 a26]) _
    exact vb_X6_endLoad_21_90 s0 n o4 a6 a7 o21 a22 (upd a23 3 (((a23 3) + 1))) a26 q h
  · replace h := xif_p c4 h
    refine x_aload_n dX6_endLoad_79 rfl ?_
    refine g_X6_9 rfl dX6_endLoad_80 (by decide) rfl rfl ?_
    refine x_bipush (v := 9) dX6_endLoad_83 (by decide) ?_
    refine x_dup2 dX6_endLoad_85 rfl rfl ?_
    refine x_ialdK (jn := 9) (v := (a23 9)) dX6_endLoad_86 (by decide) rfl (xin_ok (by decide)) (by decide) rfl ?_
    refine x_iconst (v := 1) dX6_endLoad_87 (by decide) ?_
    refine x_iadd dX6_endLoad_88 ?_
    refine x_iastK (jn := 9) (L' := [(4, _), (6, _), (7, _), (21, _), (22, _), (23, _), (26, _)]) dX6_endLoad_89 (by decide) rfl (xin_ok (by decide)) (by decide) rfl ?_
    show V yX6_endLoad cX6_endLoad none 2 61 (0, 0) 90 [some (.ref 21)] [] (xof s0 [W_4 o4, W_6 a6, W_7 a7, W_21 o21, W_22 a22, W_23 (upd (upd a23 3 (((a23 3) + 1))) 9 (((a23 9) + 1))), W_26 a26]) _
    exact vb_X6_endLoad_21_90 s0 n o4 a6 a7 o21 a22 (upd (upd a23 3 (((a23 3) + 1))) 9 (((a23 9) + 1))) a26 q h
def f_X6_endLoad_21 (n : Nat) (o4 : Nat → Int32) (a6 : Nat → Int32) (a7 : Nat → Int32) (o21 : Nat → Int32) (a22 : Nat → Int32) (a23 : Nat → Int32) (a26 : Nat → Int32)  : Option (((Nat → Int32) × (Nat → Int32))) := (if (o21 11) = 0 then (some (o21, a23)) else (if (a22 5) = 1 then (if (o21 16) = 1 then (some (upd o21 11 0, upd a23 10 (((a23 10) + 1)))) else (b_X6_endLoad_21_43 n o4 a6 a7 (upd o21 11 0) a22 a23 a26)) else (b_X6_endLoad_21_43 n o4 a6 a7 (upd o21 11 0) a22 a23 a26)))
set_option maxRecDepth 100000 in
set_option maxHeartbeats 400000 in
theorem v_X6_endLoad_21 (s0 : XW) (n : Nat) (o4 : Nat → Int32) (a6 : Nat → Int32) (a7 : Nat → Int32) (o21 : Nat → Int32) (a22 : Nat → Int32) (a23 : Nat → Int32) (a26 : Nat → Int32)  (q : ((Nat → Int32) × (Nat → Int32))) (h : f_X6_endLoad_21 n o4 a6 a7 o21 a22 a23 a26 = some q) : C_X6_endLoad 2 61 [.ref 21] (xof s0 [W_4 o4, W_6 a6, W_7 a7, W_21 o21, W_22 a22, W_23 a23, W_26 a26]) none (xof s0 [W_4 o4, W_6 a6, W_7 a7, W_21 q.1, W_22 a22, W_23 q.2, W_26 a26]) := by
  unfold f_X6_endLoad_21 at h
  show V yX6_endLoad cX6_endLoad none 2 61 (0, 0) 0 [some (.ref 21)] [] (xof s0 [W_4 o4, W_6 a6, W_7 a7, W_21 o21, W_22 a22, W_23 a23, W_26 a26]) _
  refine x_aload_n dX6_endLoad_0 rfl ?_
  refine g_X6_67 rfl dX6_endLoad_1 (by decide) rfl rfl ?_
  refine x_if_ne (tgt := 8) dX6_endLoad_4 (by decide) (fun c1 => ?_) (fun c1 => ?_)
  · replace h := xif_n c1 h
    refine x_aload_n dX6_endLoad_8 rfl ?_
    refine x_iconst (v := 0) dX6_endLoad_9 (by decide) ?_
    refine p_X6_67 (fs' := [_, _, _, _, _, _, _, _, _, _, _, _, _, _, _, _, _, _, _]) (L' := [(4, _), (6, _), (7, _), (21, _), (22, _), (23, _), (26, _)]) rfl dX6_endLoad_10 (Or.inl rfl) (by decide) rfl (Nat.le_of_ble_eq_true rfl) rfl rfl ?_
    refine x_aload_n dX6_endLoad_13 rfl ?_
    refine g_X6_33 rfl dX6_endLoad_14 (by decide) rfl rfl ?_
    refine x_iconst (v := 5) dX6_endLoad_17 (by decide) ?_
    refine x_ialdK (jn := 5) (v := (a22 5)) dX6_endLoad_18 (by decide) rfl (xin_ok (by decide)) (by decide) rfl ?_
    refine x_iconst (v := 1) dX6_endLoad_19 (by decide) ?_
    refine x_icmp_ne (tgt := 43) dX6_endLoad_20 (by decide) (fun c2 => ?_) (fun c2 => ?_)
    · replace h := xif_n c2 h
      show V yX6_endLoad cX6_endLoad none 2 61 (0, 0) 43 [some (.ref 21)] [] (xof s0 [W_4 o4, W_6 a6, W_7 a7, W_21 (upd o21 11 0), W_22 a22, W_23 a23, W_26 a26]) _
      exact vb_X6_endLoad_21_43 s0 n o4 a6 a7 (upd o21 11 0) a22 a23 a26 q h
    · replace h := xif_p c2 h
      refine x_aload_n dX6_endLoad_23 rfl ?_
      refine g_X6_96 rfl dX6_endLoad_24 (by decide) rfl rfl ?_
      refine x_iconst (v := 1) dX6_endLoad_27 (by decide) ?_
      refine x_icmp_ne (tgt := 43) dX6_endLoad_28 (by decide) (fun c5 => ?_) (fun c5 => ?_)
      · replace h := xif_n c5 h
        show V yX6_endLoad cX6_endLoad none 2 61 (0, 0) 43 [some (.ref 21)] [] (xof s0 [W_4 o4, W_6 a6, W_7 a7, W_21 (upd o21 11 0), W_22 a22, W_23 a23, W_26 a26]) _
        exact vb_X6_endLoad_21_43 s0 n o4 a6 a7 (upd o21 11 0) a22 a23 a26 q h
      · replace h := xif_p c5 h
        refine x_aload_n dX6_endLoad_31 rfl ?_
        refine g_X6_9 rfl dX6_endLoad_32 (by decide) rfl rfl ?_
        refine x_bipush (v := 10) dX6_endLoad_35 (by decide) ?_
        refine x_dup2 dX6_endLoad_37 rfl rfl ?_
        refine x_ialdK (jn := 10) (v := (a23 10)) dX6_endLoad_38 (by decide) rfl (xin_ok (by decide)) (by decide) rfl ?_
        refine x_iconst (v := 1) dX6_endLoad_39 (by decide) ?_
        refine x_iadd dX6_endLoad_40 ?_
        refine x_iastK (jn := 10) (L' := [(4, _), (6, _), (7, _), (21, _), (22, _), (23, _), (26, _)]) dX6_endLoad_41 (by decide) rfl (xin_ok (by decide)) (by decide) rfl ?_
        cases h
        exact x_vret dX6_endLoad_42 ⟨rfl, rfl, rfl⟩
  · replace h := xif_p c1 h
    cases h
    exact x_vret dX6_endLoad_7 ⟨rfl, rfl, rfl⟩
def b_X6_carry_21_51 (n : Nat) (o4 : Nat → Int32) (a6 : Nat → Int32) (a7 : Nat → Int32) (o21 : Nat → Int32) (a22 : Nat → Int32) (a23 : Nat → Int32) (j25 : Int64) (a26 : Nat → Int32)  : Option (((Nat → Int32) × (Nat → Int32) × (Int64) × (Nat → Int32))) := (Option.bind (f_X6_loadBits_21 (upd o21 15 (((o21 15) + 1))) a22) (fun q4 => (if ((o21 15) + 1) = q4 then (Option.bind (f_X6_endLoad_21 n o4 a6 a7 (upd o21 15 (((o21 15) + 1))) a22 a23 a26) (fun q6 => (some (q6.1, q6.2, j25, a26)))) else (some (upd o21 15 (((o21 15) + 1)), a23, j25, a26)))))
set_option maxRecDepth 100000 in
set_option maxHeartbeats 400000 in
theorem vb_X6_carry_21_51 (s0 : XW) (n : Nat) (o4 : Nat → Int32) (a6 : Nat → Int32) (a7 : Nat → Int32) (o21 : Nat → Int32) (a22 : Nat → Int32) (a23 : Nat → Int32) (j25 : Int64) (a26 : Nat → Int32)  (q : ((Nat → Int32) × (Nat → Int32) × (Int64) × (Nat → Int32))) (h : b_X6_carry_21_51 n o4 a6 a7 o21 a22 a23 j25 a26 = some q) : V yX6_carry cX6_carry none 3 61 (0, 0) 51 [some (.ref 21), none, none, none] [] (xof s0 [W_4 o4, W_6 a6, W_7 a7, W_21 o21, W_22 a22, W_23 a23, W_25 j25, W_26 a26]) (xq 61 none (xof s0 [W_4 o4, W_6 a6, W_7 a7, W_21 q.1, W_22 a22, W_23 q.2.1, W_25 q.2.2.1, W_26 q.2.2.2])) := by
  unfold b_X6_carry_21_51 at h
  refine x_aload_n dX6_carry_51 rfl ?_
  refine x_dup dX6_carry_52 rfl ?_
  refine g_X6_80 rfl dX6_carry_53 (by decide) rfl rfl ?_
  refine x_iconst (v := 1) dX6_carry_56 (by decide) ?_
  refine x_iadd dX6_carry_57 ?_
  refine p_X6_80 (fs' := [_, _, _, _, _, _, _, _, _, _, _, _, _, _, _, _, _, _, _]) (L' := [(4, _), (6, _), (7, _), (21, _), (22, _), (23, _), (25, _), (26, _)]) rfl dX6_carry_58 (by decide) rfl (Nat.le_of_ble_eq_true rfl) rfl rfl ?_
  refine x_aload_n dX6_carry_61 rfl ?_
  refine g_X6_80 rfl dX6_carry_62 (by decide) rfl rfl ?_
  refine x_aload_n dX6_carry_65 rfl ?_
  obtain ⟨q4, hq4, h⟩ := Option.bind_eq_some_iff.mp h
  refine y_callVi (L' := [(4, _), (6, _), (7, _), (21, _), (22, _), (23, _), (25, _), (26, _)]) mi_X6_loadBits ml_X6_105 im_X6_loadBits se_X6_loadBits (rfl : vwCl[5]? = _) dX6_carry_66 (fun s1 => v_X6_loadBits_21 s1 _ _ q4 hq4) (by decide) rfl (Nat.le_of_ble_eq_true rfl) rfl (by decide) (Nat.le_of_ble_eq_true rfl) rfl rfl rfl rfl ?_
  refine x_icmp_ne (tgt := 76) dX6_carry_69 (by decide) (fun c5 => ?_) (fun c5 => ?_)
  · replace h := xif_n c5 h
    cases h
    exact x_vret dX6_carry_76 ⟨rfl, rfl, rfl⟩
  · replace h := xif_p c5 h
    refine x_aload_n dX6_carry_72 rfl ?_
    obtain ⟨q6, hq6, h⟩ := Option.bind_eq_some_iff.mp h
    refine y_callVv (L' := [(4, _), (6, _), (7, _), (21, _), (22, _), (23, _), (25, _), (26, _)]) mi_X6_endLoad ml_X6_138 im_X6_endLoad se_X6_endLoad (rfl : vwCl[5]? = _) dX6_carry_73 (fun s1 => v_X6_endLoad_21 s1 n _ _ _ _ _ _ _ q6 hq6) (by decide) rfl (Nat.le_of_ble_eq_true rfl) rfl (by decide) (Nat.le_of_ble_eq_true rfl) rfl rfl rfl rfl ?_
    cases h
    exact x_vret dX6_carry_76 ⟨rfl, rfl, rfl⟩
