abbrev b_Law_law : ByteArray := code
theorem kd_999 : x_kd 999 = 99 := by decide +kernel
theorem gr_999 : x_gr 999 = false := by decide +kernel
set_option maxRecDepth 100000 in
theorem in_Law : Cond.initialized R_Law ∈ x_T := xmem1 0 rfl rfl
set_option maxRecDepth 100000 in
theorem ml_Law_64 : Cond.methodLink R_Law 64 y_Law_letters ∈ x_T := xmem2 56 rfl rfl
set_option maxRecDepth 100000 in
theorem ml_Law_74 : Cond.methodLink R_Law 74 y_Law_join ∈ x_T := xmem2 164 rfl rfl
set_option maxRecDepth 100000 in
theorem ml_Law_78 : Cond.methodLink R_Law 78 y_Law_turn ∈ x_T := xmem3 75 rfl rfl
set_option maxRecDepth 100000 in
theorem ml_Law_82 : Cond.methodLink R_Law 82 y_Law_derive ∈ x_T := xmem3 90 rfl rfl
set_option maxRecDepth 100000 in
theorem ml_Law_85 : Cond.methodLink R_Law 85 y_Law_similar ∈ x_T := xmem3 119 rfl rfl
set_option maxRecDepth 100000 in
theorem ml_Law_88 : Cond.methodLink R_Law 88 y_Law_has ∈ x_T := xmem3 126 rfl rfl
set_option maxRecDepth 100000 in
theorem ml_Law_91 : Cond.methodLink R_Law 91 y_Law_states ∈ x_T := xmem3 192 rfl rfl
set_option maxRecDepth 100000 in
theorem ml_Law_95 : Cond.methodLink R_Law 95 y_Law_languages ∈ x_T := xmem3 231 rfl rfl
set_option maxRecDepth 100000 in
theorem ml_Law_98 : Cond.methodLink R_Law 98 y_Law_equal ∈ x_T := xmem4 28 rfl rfl
set_option maxRecDepth 100000 in
theorem ml_Law_105 : Cond.methodLink R_Law 105 y_Law_words ∈ x_T := xmem4 66 rfl rfl
set_option maxRecDepth 100000 in
theorem ml_Law_108 : Cond.methodLink R_Law 108 y_Law_ends ∈ x_T := xmem4 85 rfl rfl
set_option maxRecDepth 100000 in
theorem ml_Law_113 : Cond.methodLink R_Law 113 y_Law_find ∈ x_T := xmem4 100 rfl rfl
set_option maxRecDepth 100000 in
theorem ml_Law_117 : Cond.methodLink R_Law 117 y_Law_look ∈ x_T := xmem4 117 rfl rfl
set_option maxRecDepth 100000 in
theorem ml_Law_69 : Cond.methodLink R_Law 69 y_Mo_letters ∈ x_T := xmem4 230 rfl rfl
theorem gl_Law_69 (w0 : Cond) : GoodIn (w0 :: x_T) (wsV R_Law 69 R_Mo y_Mo_letters (Cond.code y_Mo_letters b_Mo_letters 4 (some .int) :: x_T)) := xgoodV ml_Law_69 im_Mo_letters sl_Mo_letters in_Mo cd_Mo_letters
set_option maxRecDepth 100000 in
theorem ml_Law_70 : Cond.methodLink R_Law 70 y_Mo_thrown ∈ x_T := xmem4 226 rfl rfl
theorem gl_Law_70 (w0 : Cond) : GoodIn (w0 :: x_T) (wsV R_Law 70 R_Mo y_Mo_thrown (Cond.code y_Mo_thrown b_Mo_thrown 1 (some .int) :: x_T)) := xgoodV ml_Law_70 im_Mo_thrown sl_Mo_thrown in_Mo cd_Mo_thrown
set_option maxRecDepth 100000 in
theorem ml_Law_77 : Cond.methodLink R_Law 77 y_Mo_join ∈ x_T := xmem5 5 rfl rfl
theorem gl_Law_77 (w0 : Cond) : GoodIn (w0 :: x_T) (wsV R_Law 77 R_Mo y_Mo_join (Cond.code y_Mo_join b_Mo_join 7 (some .int) :: x_T)) := xgoodV ml_Law_77 im_Mo_join sl_Mo_join in_Mo cd_Mo_join
set_option maxRecDepth 100000 in
theorem ml_Law_81 : Cond.methodLink R_Law 81 y_Mo_turn ∈ x_T := xmem5 45 rfl rfl
theorem gl_Law_81 (w0 : Cond) : GoodIn (w0 :: x_T) (wsV R_Law 81 R_Mo y_Mo_turn (Cond.code y_Mo_turn b_Mo_turn 9 (some .int) :: x_T)) := xgoodV ml_Law_81 im_Mo_turn sl_Mo_turn in_Mo cd_Mo_turn
set_option maxRecDepth 100000 in
theorem ml_Law_84 : Cond.methodLink R_Law 84 y_Mo_derive ∈ x_T := xmem5 53 rfl rfl
theorem gl_Law_84 (w0 : Cond) : GoodIn (w0 :: x_T) (wsV R_Law 84 R_Mo y_Mo_derive (Cond.code y_Mo_derive b_Mo_derive 7 (some .int) :: x_T)) := xgoodV ml_Law_84 im_Mo_derive sl_Mo_derive in_Mo cd_Mo_derive
set_option maxRecDepth 100000 in
theorem ml_Law_87 : Cond.methodLink R_Law 87 y_Mo_similar ∈ x_T := xmem5 73 rfl rfl
theorem gl_Law_87 (w0 : Cond) : GoodIn (w0 :: x_T) (wsV R_Law 87 R_Mo y_Mo_similar (Cond.code y_Mo_similar b_Mo_similar 3 (some .boolean) :: x_T)) := xgoodV ml_Law_87 im_Mo_similar sl_Mo_similar in_Mo cd_Mo_similar
set_option maxRecDepth 100000 in
theorem ml_Law_90 : Cond.methodLink R_Law 90 y_Mo_has ∈ x_T := xmem5 80 rfl rfl
theorem gl_Law_90 (w0 : Cond) : GoodIn (w0 :: x_T) (wsV R_Law 90 R_Mo y_Mo_has (Cond.code y_Mo_has b_Mo_has 8 (some .boolean) :: x_T)) := xgoodV ml_Law_90 im_Mo_has sl_Mo_has in_Mo cd_Mo_has
set_option maxRecDepth 100000 in
theorem ml_Law_94 : Cond.methodLink R_Law 94 y_Mo_states ∈ x_T := xmem5 88 rfl rfl
theorem gl_Law_94 (w0 : Cond) : GoodIn (w0 :: x_T) (wsV R_Law 94 R_Mo y_Mo_states (Cond.code y_Mo_states b_Mo_states 2 (some .int) :: x_T)) := xgoodV ml_Law_94 im_Mo_states sl_Mo_states in_Mo cd_Mo_states
set_option maxRecDepth 100000 in
theorem ml_Law_97 : Cond.methodLink R_Law 97 y_Mo_languages ∈ x_T := xmem5 100 rfl rfl
theorem gl_Law_97 (w0 : Cond) : GoodIn (w0 :: x_T) (wsV R_Law 97 R_Mo y_Mo_languages (Cond.code y_Mo_languages b_Mo_languages 7 (some .int) :: x_T)) := xgoodV ml_Law_97 im_Mo_languages sl_Mo_languages in_Mo cd_Mo_languages
set_option maxRecDepth 100000 in
theorem ml_Law_100 : Cond.methodLink R_Law 100 y_Mo_equal ∈ x_T := xmem5 108 rfl rfl
theorem gl_Law_100 (w0 : Cond) : GoodIn (w0 :: x_T) (wsV R_Law 100 R_Mo y_Mo_equal (Cond.code y_Mo_equal b_Mo_equal 9 (some .int) :: x_T)) := xgoodV ml_Law_100 im_Mo_equal sl_Mo_equal in_Mo cd_Mo_equal
set_option maxRecDepth 100000 in
theorem ml_Law_101 : Cond.methodLink R_Law 101 y_D_witness ∈ x_T := xmem2 44 rfl rfl
theorem gl_Law_101 (w0 : Cond) : GoodIn (w0 :: x_T) (wsV R_Law 101 R_D y_D_witness (Cond.code y_D_witness b_D_witness 2 (some .int) :: x_T)) := xgoodV ml_Law_101 im_D_witness sl_D_witness in_D cd_D_witness
set_option maxRecDepth 100000 in
theorem ml_Law_104 : Cond.methodLink R_Law 104 y_Mo_witness ∈ x_T := xmem5 116 rfl rfl
theorem gl_Law_104 (w0 : Cond) : GoodIn (w0 :: x_T) (wsV R_Law 104 R_Mo y_Mo_witness (Cond.code y_Mo_witness b_Mo_witness 2 (some .int) :: x_T)) := xgoodV ml_Law_104 im_Mo_witness sl_Mo_witness in_Mo cd_Mo_witness
set_option maxRecDepth 100000 in
theorem ml_Law_107 : Cond.methodLink R_Law 107 y_Mo_words ∈ x_T := xmem5 120 rfl rfl
theorem gl_Law_107 (w0 : Cond) : GoodIn (w0 :: x_T) (wsV R_Law 107 R_Mo y_Mo_words (Cond.code y_Mo_words b_Mo_words 5 (some .long) :: x_T)) := xgoodV ml_Law_107 im_Mo_words sl_Mo_words in_Mo cd_Mo_words
set_option maxRecDepth 100000 in
theorem ml_Law_110 : Cond.methodLink R_Law 110 y_Mo_ends ∈ x_T := xmem5 129 rfl rfl
theorem gl_Law_110 (w0 : Cond) : GoodIn (w0 :: x_T) (wsV R_Law 110 R_Mo y_Mo_ends (Cond.code y_Mo_ends b_Mo_ends 7 (some .int) :: x_T)) := xgoodV ml_Law_110 im_Mo_ends sl_Mo_ends in_Mo cd_Mo_ends
set_option maxRecDepth 100000 in
theorem ml_Law_116 : Cond.methodLink R_Law 116 y_Mo_find ∈ x_T := xmem5 133 rfl rfl
theorem gl_Law_116 (w0 : Cond) : GoodIn (w0 :: x_T) (wsV R_Law 116 R_Mo y_Mo_find (Cond.code y_Mo_find b_Mo_find 13 (some .long) :: x_T)) := xgoodV ml_Law_116 im_Mo_find sl_Mo_find in_Mo cd_Mo_find
set_option maxRecDepth 100000 in
theorem ml_Law_119 : Cond.methodLink R_Law 119 y_Mo_look ∈ x_T := xmem5 138 rfl rfl
theorem gl_Law_119 (w0 : Cond) : GoodIn (w0 :: x_T) (wsV R_Law 119 R_Mo y_Mo_look (Cond.code y_Mo_look b_Mo_look 4 (some .int) :: x_T)) := xgoodV ml_Law_119 im_Mo_look sl_Mo_look in_Mo cd_Mo_look
set_option maxRecDepth 100000 in
theorem cs_Law_111 : Jvm.Cond.constantLong R_Law 111 (4294967295 : Int64) ∈ x_T := xmem5 142 rfl rfl
def m_Law_law_494 (xs : Nat → Int32) (L : Nat) (k23 : Int32 × MS → Option Unit) (l4 : Int32) (s0 : Int64) (s1 : Int64) (M : MS) : Option Unit :=
  if (lg_cmp s0 s1) = 0 then (k23 ((l4 + (5:Int32)), M)) else (none)
def m_Law_law_581 (xs : Nat → Int32) (L : Nat) (k23 : Int32 × MS → Option Unit) (l4 : Int32) (s0 : Int64) (s1 : Int64) (M : MS) : Option Unit :=
  if (lg_cmp s0 s1) = 0 then (k23 ((l4 + (5:Int32)), M)) else (none)
def m_Law_law_23b (xs : Nat → Int32) (L : Nat) (k23 : Int32 × MS → Option Unit) (l4 : Int32) (M : MS) : Option Unit :=
  if ((Int32.ofNat L) - (5:Int32)) < l4 then (x_lend M) else ((ldS xs L l4).bind fun v1 =>
  if (v1 &&& (15:Int32)) = (0:Int32) then ((ldS xs L (l4 + (1:Int32))).bind fun v2 =>
  (ldS xs L (l4 + (2:Int32))).bind fun v3 =>
  cal cM M (m_Law_letters v2 v3 M) fun r4 =>
  (ldS xs L (l4 + (1:Int32))).bind fun v5 =>
  (ldS xs L (l4 + (2:Int32))).bind fun v6 =>
  cal cM r4.1 (m_Mo_letters v5 v6 r4.1) fun r7 =>
  cal cM r7.1 (m_Mo_thrown r7.1) fun r8 =>
  if r8.2 = r4.2 then (if ¬ r4.2 = 0 then (k23 ((l4 + (5:Int32)), r8.1)) else ((ldJ r8.1 123 (0:Int32)).bind fun v9 =>
  if (lg_cmp v9 r7.2.toInt64) = 0 then (k23 ((l4 + (5:Int32)), r8.1)) else (none))) else (none)) else (if (v1 &&& (15:Int32)) = (1:Int32) then ((ldS xs L (l4 + (1:Int32))).bind fun v10 =>
  (ldS xs L (l4 + (2:Int32))).bind fun v11 =>
  (ldS xs L (l4 + (3:Int32))).bind fun v12 =>
  (ldS xs L (l4 + (4:Int32))).bind fun v13 =>
  cal cM M (m_Law_join v10 v11 v12 v13 M) fun r14 =>
  (ldS xs L (l4 + (1:Int32))).bind fun v15 =>
  (ldS xs L (l4 + (2:Int32))).bind fun v16 =>
  (ldS xs L (l4 + (3:Int32))).bind fun v17 =>
  (ldS xs L (l4 + (4:Int32))).bind fun v18 =>
  cal cM r14.1 (m_Mo_join v15 v16 v17 v18 r14.1) fun r19 =>
  cal cM r19.1 (m_Mo_thrown r19.1) fun r20 =>
  if r20.2 = r14.2 then (if ¬ r14.2 = 0 then (k23 ((l4 + (5:Int32)), r20.1)) else ((ldJ r20.1 123 (0:Int32)).bind fun v21 =>
  if (lg_cmp v21 r19.2.toInt64) = 0 then (k23 ((l4 + (5:Int32)), r20.1)) else (none))) else (none)) else (if (v1 &&& (15:Int32)) = (2:Int32) then ((ldS xs L (l4 + (1:Int32))).bind fun v22 =>
  (ldS xs L (l4 + (2:Int32))).bind fun v23 =>
  (ldS xs L (l4 + (3:Int32))).bind fun v24 =>
  cal cM M (m_Law_turn v22 v23 v24 M) fun r25 =>
  (ldS xs L (l4 + (1:Int32))).bind fun v26 =>
  (ldS xs L (l4 + (2:Int32))).bind fun v27 =>
  (ldS xs L (l4 + (3:Int32))).bind fun v28 =>
  cal cM r25.1 (m_Mo_turn v26 v27 v28 r25.1) fun r29 =>
  cal cM r29.1 (m_Mo_thrown r29.1) fun r30 =>
  if r30.2 = r25.2 then (if ¬ r25.2 = 0 then (k23 ((l4 + (5:Int32)), r30.1)) else ((ldJ r30.1 123 (0:Int32)).bind fun v31 =>
  if (lg_cmp v31 r29.2.toInt64) = 0 then (k23 ((l4 + (5:Int32)), r30.1)) else (none))) else (none)) else (if (v1 &&& (15:Int32)) = (3:Int32) then ((ldS xs L (l4 + (1:Int32))).bind fun v32 =>
  (ldS xs L (l4 + (2:Int32))).bind fun v33 =>
  (ldS xs L (l4 + (3:Int32))).bind fun v34 =>
  cal cM M (m_Law_derive v32 v33 v34 M) fun r35 =>
  (ldS xs L (l4 + (1:Int32))).bind fun v36 =>
  (ldS xs L (l4 + (2:Int32))).bind fun v37 =>
  (ldS xs L (l4 + (3:Int32))).bind fun v38 =>
  cal cM r35.1 (m_Mo_derive v36 v37 v38 r35.1) fun r39 =>
  cal cM r39.1 (m_Mo_thrown r39.1) fun r40 =>
  if r40.2 = r35.2 then (if ¬ r35.2 = 0 then (k23 ((l4 + (5:Int32)), r40.1)) else ((ldJ r40.1 123 (0:Int32)).bind fun v41 =>
  if (lg_cmp v41 r39.2.toInt64) = 0 then (k23 ((l4 + (5:Int32)), r40.1)) else (none))) else (none)) else (if (v1 &&& (15:Int32)) = (4:Int32) then ((ldS xs L (l4 + (1:Int32))).bind fun v42 =>
  (ldS xs L (l4 + (2:Int32))).bind fun v43 =>
  cal cM M (m_Law_similar v42 v43 M) fun r44 =>
  (ldS xs L (l4 + (1:Int32))).bind fun v45 =>
  (ldS xs L (l4 + (2:Int32))).bind fun v46 =>
  cal cM r44.1 (m_Mo_similar v45 v46 r44.1) fun r47 =>
  cal cM r47.1 (m_Mo_thrown r47.1) fun r48 =>
  if r48.2 = r44.2 then (if ¬ r44.2 = 0 then (k23 ((l4 + (5:Int32)), r48.1)) else ((ldJ r48.1 123 (0:Int32)).bind fun v49 =>
  if r47.2 = 0 then (m_Law_law_494 xs L k23 l4 v49 (0:Int64) r48.1) else (m_Law_law_494 xs L k23 l4 v49 (1:Int64) r48.1))) else (none)) else (if (v1 &&& (15:Int32)) = (5:Int32) then ((ldS xs L (l4 + (1:Int32))).bind fun v50 =>
  (ldS xs L (l4 + (2:Int32))).bind fun v51 =>
  (ldS xs L (l4 + (3:Int32))).bind fun v52 =>
  cal cM M (m_Law_has v50 v51 v52 M) fun r53 =>
  (ldS xs L (l4 + (1:Int32))).bind fun v54 =>
  (ldS xs L (l4 + (2:Int32))).bind fun v55 =>
  (ldS xs L (l4 + (3:Int32))).bind fun v56 =>
  cal cM r53.1 (m_Mo_has v54 v55 v56 r53.1) fun r57 =>
  cal cM r57.1 (m_Mo_thrown r57.1) fun r58 =>
  if r58.2 = r53.2 then (if ¬ r53.2 = 0 then (k23 ((l4 + (5:Int32)), r58.1)) else ((ldJ r58.1 123 (0:Int32)).bind fun v59 =>
  if r57.2 = 0 then (m_Law_law_581 xs L k23 l4 v59 (0:Int64) r58.1) else (m_Law_law_581 xs L k23 l4 v59 (1:Int64) r58.1))) else (none)) else (if (v1 &&& (15:Int32)) = (6:Int32) then ((ldS xs L (l4 + (1:Int32))).bind fun v60 =>
  cal cM M (m_Law_states v60 M) fun r61 =>
  (ldS xs L (l4 + (1:Int32))).bind fun v62 =>
  cal cM r61.1 (m_Mo_states v62 r61.1) fun r63 =>
  cal cM r63.1 (m_Mo_thrown r63.1) fun r64 =>
  if r64.2 = r61.2 then (if ¬ r61.2 = 0 then (k23 ((l4 + (5:Int32)), r64.1)) else ((ldJ r64.1 123 (0:Int32)).bind fun v65 =>
  if (lg_cmp v65 r63.2.toInt64) = 0 then (k23 ((l4 + (5:Int32)), r64.1)) else (none))) else (none)) else (if (v1 &&& (15:Int32)) = (7:Int32) then ((ldS xs L (l4 + (1:Int32))).bind fun v66 =>
  cal cM M (m_Law_languages v66 M) fun r67 =>
  (ldS xs L (l4 + (1:Int32))).bind fun v68 =>
  cal cM r67.1 (m_Mo_languages v68 r67.1) fun r69 =>
  cal cM r69.1 (m_Mo_thrown r69.1) fun r70 =>
  if r70.2 = r67.2 then (if ¬ r67.2 = 0 then (k23 ((l4 + (5:Int32)), r70.1)) else ((ldJ r70.1 123 (0:Int32)).bind fun v71 =>
  if (lg_cmp v71 r69.2.toInt64) = 0 then (k23 ((l4 + (5:Int32)), r70.1)) else (none))) else (none)) else (if (v1 &&& (15:Int32)) = (8:Int32) then ((ldS xs L (l4 + (1:Int32))).bind fun v72 =>
  (ldS xs L (l4 + (2:Int32))).bind fun v73 =>
  cal cM M (m_Law_equal v72 v73 M) fun r74 =>
  (ldS xs L (l4 + (1:Int32))).bind fun v75 =>
  (ldS xs L (l4 + (2:Int32))).bind fun v76 =>
  cal cM r74.1 (m_Mo_equal v75 v76 r74.1) fun r77 =>
  cal cM r77.1 (m_Mo_thrown r77.1) fun r78 =>
  if r78.2 = r74.2 then (if ¬ r74.2 = 0 then (k23 ((l4 + (5:Int32)), r78.1)) else ((ldJ r78.1 123 (0:Int32)).bind fun v79 =>
  if (lg_cmp v79 r77.2.toInt64) = 0 then (k23 ((l4 + (5:Int32)), r78.1)) else (none))) else (none)) else (if (v1 &&& (15:Int32)) = (9:Int32) then ((ldS xs L (l4 + (1:Int32))).bind fun v80 =>
  cal cM M (m_D_witness v80 M) fun r81 =>
  (ldS xs L (l4 + (1:Int32))).bind fun v82 =>
  cal cM r81.1 (m_Mo_witness v82 r81.1) fun r83 =>
  if r81.2 = r83.2 then (k23 ((l4 + (5:Int32)), r83.1)) else (none)) else (if (v1 &&& (15:Int32)) = (10:Int32) then ((ldS xs L (l4 + (1:Int32))).bind fun v84 =>
  (ldS xs L (l4 + (2:Int32))).bind fun v85 =>
  cal cM M (m_Law_words v84 v85 M) fun r86 =>
  (ldS xs L (l4 + (1:Int32))).bind fun v87 =>
  (ldS xs L (l4 + (2:Int32))).bind fun v88 =>
  cal cM r86.1 (m_Mo_words v87 v88 r86.1) fun r89 =>
  cal cM r89.1 (m_Mo_thrown r89.1) fun r90 =>
  if r90.2 = r86.2 then (if ¬ r86.2 = 0 then (k23 ((l4 + (5:Int32)), r90.1)) else ((ldJ r90.1 123 (0:Int32)).bind fun v91 =>
  if (lg_cmp v91 r89.2) = 0 then (k23 ((l4 + (5:Int32)), r90.1)) else (none))) else (none)) else (if (v1 &&& (15:Int32)) = (11:Int32) then ((ldS xs L (l4 + (1:Int32))).bind fun v92 =>
  cal cM M (m_Law_ends v92 M) fun r93 =>
  (ldS xs L (l4 + (1:Int32))).bind fun v94 =>
  cal cM r93.1 (m_Mo_ends v94 r93.1) fun r95 =>
  cal cM r95.1 (m_Mo_thrown r95.1) fun r96 =>
  if r96.2 = r93.2 then (if ¬ r93.2 = 0 then (k23 ((l4 + (5:Int32)), r96.1)) else ((ldJ r96.1 123 (0:Int32)).bind fun v97 =>
  if (lg_cmp v97 r95.2.toInt64) = 0 then (k23 ((l4 + (5:Int32)), r96.1)) else (none))) else (none)) else (if (v1 &&& (15:Int32)) = (12:Int32) then ((ldS xs L (l4 + (1:Int32))).bind fun v98 =>
  (ldS xs L (l4 + (2:Int32))).bind fun v99 =>
  (ldS xs L (l4 + (3:Int32))).bind fun v100 =>
  cal cM M (m_Law_find v98 ((v99.toInt64 <<< ((32:Int32).toInt64 &&& 63)) ||| (v100.toInt64 &&& (4294967295:Int64))) M) fun r101 =>
  (ldS xs L (l4 + (1:Int32))).bind fun v102 =>
  (ldS xs L (l4 + (2:Int32))).bind fun v103 =>
  (ldS xs L (l4 + (3:Int32))).bind fun v104 =>
  cal cM r101.1 (m_Mo_find v102 ((v103.toInt64 <<< ((32:Int32).toInt64 &&& 63)) ||| (v104.toInt64 &&& (4294967295:Int64))) r101.1) fun r105 =>
  cal cM r105.1 (m_Mo_thrown r105.1) fun r106 =>
  if r106.2 = r101.2 then (if ¬ r101.2 = 0 then (k23 ((l4 + (5:Int32)), r106.1)) else ((ldJ r106.1 123 (0:Int32)).bind fun v107 =>
  if (lg_cmp v107 r105.2) = 0 then (k23 ((l4 + (5:Int32)), r106.1)) else (none))) else (none)) else (if (v1 &&& (15:Int32)) = (13:Int32) then ((ldS xs L (l4 + (1:Int32))).bind fun v108 =>
  (ldS xs L (l4 + (2:Int32))).bind fun v109 =>
  cal cM M (m_Law_look v108 v109 M) fun r110 =>
  (ldS xs L (l4 + (1:Int32))).bind fun v111 =>
  (ldS xs L (l4 + (2:Int32))).bind fun v112 =>
  cal cM r110.1 (m_Mo_look v111 v112 r110.1) fun r113 =>
  cal cM r113.1 (m_Mo_thrown r113.1) fun r114 =>
  if r114.2 = r110.2 then (if ¬ r110.2 = 0 then (k23 ((l4 + (5:Int32)), r114.1)) else ((ldJ r114.1 123 (0:Int32)).bind fun v115 =>
  if (lg_cmp v115 r113.2.toInt64) = 0 then (k23 ((l4 + (5:Int32)), r114.1)) else (none))) else (none)) else (k23 ((l4 + (5:Int32)), M))))))))))))))))
def m_Law_law_23 (xs : Nat → Int32) (L : Nat)  (i : Int32 × MS) : Option Unit := fx (fun (k : Int32 × MS → Option Unit) (i : Int32 × MS) => m_Law_law_23b xs L k i.1 i.2) FU i
def m_Law_law (xs : Nat → Int32) (L : Nat) (M : MS) : Option Unit :=
  m_Law_law_23 xs L ((0:Int32), M)
theorem d_Law_law_20 : decode code 20 = .ok (.iconst (0), 1) := by decide +kernel
theorem d_Law_law_21 : decode code 21 = .ok (.istore 4, 2) := by decide +kernel
theorem d_Law_law_23 : decode code 23 = .ok (.iload 4, 2) := by decide +kernel
theorem d_Law_law_25 : decode code 25 = .ok (.aload_n 0, 1) := by decide +kernel
theorem d_Law_law_26 : decode code 26 = .ok (.arraylength, 1) := by decide +kernel
theorem d_Law_law_27 : decode code 27 = .ok (.iconst (5), 1) := by decide +kernel
theorem d_Law_law_28 : decode code 28 = .ok (.isub, 1) := by decide +kernel
theorem d_Law_law_29 : decode code 29 = .ok (.if_icmp .gt (1062), 3) := by decide +kernel
theorem d_Law_law_32 : decode code 32 = .ok (.aload_n 0, 1) := by decide +kernel
theorem d_Law_law_33 : decode code 33 = .ok (.iload 4, 2) := by decide +kernel
theorem d_Law_law_35 : decode code 35 = .ok (.iaload, 1) := by decide +kernel
theorem d_Law_law_36 : decode code 36 = .ok (.bipush (15), 2) := by decide +kernel
theorem d_Law_law_38 : decode code 38 = .ok (.iand, 1) := by decide +kernel
theorem d_Law_law_39 : decode code 39 = .ok (.tableswitch (1046) (0) (13) #[69, 137, 229, 309, 389, 464, 551, 607, 663, 731, 756, 823, 879, 978], 69) := by decide +kernel
theorem d_Law_law_108 : decode code 108 = .ok (.aload_n 1, 1) := by decide +kernel
theorem d_Law_law_109 : decode code 109 = .ok (.aload_n 0, 1) := by decide +kernel
theorem d_Law_law_110 : decode code 110 = .ok (.iload 4, 2) := by decide +kernel
theorem d_Law_law_112 : decode code 112 = .ok (.iconst (1), 1) := by decide +kernel
theorem d_Law_law_113 : decode code 113 = .ok (.iadd, 1) := by decide +kernel
theorem d_Law_law_114 : decode code 114 = .ok (.iaload, 1) := by decide +kernel
theorem d_Law_law_115 : decode code 115 = .ok (.aload_n 0, 1) := by decide +kernel
theorem d_Law_law_116 : decode code 116 = .ok (.iload 4, 2) := by decide +kernel
theorem d_Law_law_118 : decode code 118 = .ok (.iconst (2), 1) := by decide +kernel
theorem d_Law_law_119 : decode code 119 = .ok (.iadd, 1) := by decide +kernel
theorem d_Law_law_120 : decode code 120 = .ok (.iaload, 1) := by decide +kernel
theorem d_Law_law_121 : decode code 121 = .ok (.aload_n 3, 1) := by decide +kernel
theorem d_Law_law_122 : decode code 122 = .ok (.invokestatic 64, 3) := by decide +kernel
theorem d_Law_law_125 : decode code 125 = .ok (.istore 5, 2) := by decide +kernel
theorem d_Law_law_127 : decode code 127 = .ok (.aload_n 2, 1) := by decide +kernel
theorem d_Law_law_128 : decode code 128 = .ok (.aload_n 0, 1) := by decide +kernel
theorem d_Law_law_129 : decode code 129 = .ok (.iload 4, 2) := by decide +kernel
theorem d_Law_law_131 : decode code 131 = .ok (.iconst (1), 1) := by decide +kernel
theorem d_Law_law_132 : decode code 132 = .ok (.iadd, 1) := by decide +kernel
theorem d_Law_law_133 : decode code 133 = .ok (.iaload, 1) := by decide +kernel
theorem d_Law_law_134 : decode code 134 = .ok (.aload_n 0, 1) := by decide +kernel
theorem d_Law_law_135 : decode code 135 = .ok (.iload 4, 2) := by decide +kernel
theorem d_Law_law_137 : decode code 137 = .ok (.iconst (2), 1) := by decide +kernel
theorem d_Law_law_138 : decode code 138 = .ok (.iadd, 1) := by decide +kernel
theorem d_Law_law_139 : decode code 139 = .ok (.iaload, 1) := by decide +kernel
theorem d_Law_law_140 : decode code 140 = .ok (.invokevirtual 69, 3) := by decide +kernel
theorem d_Law_law_143 : decode code 143 = .ok (.istore 6, 2) := by decide +kernel
theorem d_Law_law_145 : decode code 145 = .ok (.aload_n 2, 1) := by decide +kernel
theorem d_Law_law_146 : decode code 146 = .ok (.invokevirtual 70, 3) := by decide +kernel
theorem d_Law_law_149 : decode code 149 = .ok (.iload 5, 2) := by decide +kernel
theorem d_Law_law_151 : decode code 151 = .ok (.if_icmp .eq (5), 3) := by decide +kernel
theorem d_Law_law_154 : decode code 154 = .ok (.iconst (0), 1) := by decide +kernel
theorem d_Law_law_155 : decode code 155 = .ok (.ireturn, 1) := by decide +kernel
theorem d_Law_law_156 : decode code 156 = .ok (.iload 5, 2) := by decide +kernel
theorem d_Law_law_158 : decode code 158 = .ok (.ifCond .ne (15), 3) := by decide +kernel
theorem d_Law_law_161 : decode code 161 = .ok (.aload_n 3, 1) := by decide +kernel
theorem d_Law_law_162 : decode code 162 = .ok (.iconst (0), 1) := by decide +kernel
theorem d_Law_law_163 : decode code 163 = .ok (.laload, 1) := by decide +kernel
theorem d_Law_law_164 : decode code 164 = .ok (.iload 6, 2) := by decide +kernel
theorem d_Law_law_166 : decode code 166 = .ok (.i2l, 1) := by decide +kernel
theorem d_Law_law_167 : decode code 167 = .ok (.lcmp, 1) := by decide +kernel
theorem d_Law_law_168 : decode code 168 = .ok (.ifCond .eq (5), 3) := by decide +kernel
theorem d_Law_law_171 : decode code 171 = .ok (.iconst (0), 1) := by decide +kernel
theorem d_Law_law_172 : decode code 172 = .ok (.ireturn, 1) := by decide +kernel
theorem d_Law_law_173 : decode code 173 = .ok (.goto (912), 3) := by decide +kernel
theorem d_Law_law_176 : decode code 176 = .ok (.aload_n 1, 1) := by decide +kernel
theorem d_Law_law_177 : decode code 177 = .ok (.aload_n 0, 1) := by decide +kernel
theorem d_Law_law_178 : decode code 178 = .ok (.iload 4, 2) := by decide +kernel
theorem d_Law_law_180 : decode code 180 = .ok (.iconst (1), 1) := by decide +kernel
theorem d_Law_law_181 : decode code 181 = .ok (.iadd, 1) := by decide +kernel
theorem d_Law_law_182 : decode code 182 = .ok (.iaload, 1) := by decide +kernel
theorem d_Law_law_183 : decode code 183 = .ok (.aload_n 0, 1) := by decide +kernel
theorem d_Law_law_184 : decode code 184 = .ok (.iload 4, 2) := by decide +kernel
theorem d_Law_law_186 : decode code 186 = .ok (.iconst (2), 1) := by decide +kernel
theorem d_Law_law_187 : decode code 187 = .ok (.iadd, 1) := by decide +kernel
theorem d_Law_law_188 : decode code 188 = .ok (.iaload, 1) := by decide +kernel
theorem d_Law_law_189 : decode code 189 = .ok (.aload_n 0, 1) := by decide +kernel
theorem d_Law_law_190 : decode code 190 = .ok (.iload 4, 2) := by decide +kernel
theorem d_Law_law_192 : decode code 192 = .ok (.iconst (3), 1) := by decide +kernel
theorem d_Law_law_193 : decode code 193 = .ok (.iadd, 1) := by decide +kernel
theorem d_Law_law_194 : decode code 194 = .ok (.iaload, 1) := by decide +kernel
theorem d_Law_law_195 : decode code 195 = .ok (.aload_n 0, 1) := by decide +kernel
theorem d_Law_law_196 : decode code 196 = .ok (.iload 4, 2) := by decide +kernel
theorem d_Law_law_198 : decode code 198 = .ok (.iconst (4), 1) := by decide +kernel
theorem d_Law_law_199 : decode code 199 = .ok (.iadd, 1) := by decide +kernel
theorem d_Law_law_200 : decode code 200 = .ok (.iaload, 1) := by decide +kernel
theorem d_Law_law_201 : decode code 201 = .ok (.aload_n 3, 1) := by decide +kernel
theorem d_Law_law_202 : decode code 202 = .ok (.invokestatic 74, 3) := by decide +kernel
theorem d_Law_law_205 : decode code 205 = .ok (.istore 5, 2) := by decide +kernel
theorem d_Law_law_207 : decode code 207 = .ok (.aload_n 2, 1) := by decide +kernel
theorem d_Law_law_208 : decode code 208 = .ok (.aload_n 0, 1) := by decide +kernel
theorem d_Law_law_209 : decode code 209 = .ok (.iload 4, 2) := by decide +kernel
theorem d_Law_law_211 : decode code 211 = .ok (.iconst (1), 1) := by decide +kernel
theorem d_Law_law_212 : decode code 212 = .ok (.iadd, 1) := by decide +kernel
theorem d_Law_law_213 : decode code 213 = .ok (.iaload, 1) := by decide +kernel
theorem d_Law_law_214 : decode code 214 = .ok (.aload_n 0, 1) := by decide +kernel
theorem d_Law_law_215 : decode code 215 = .ok (.iload 4, 2) := by decide +kernel
theorem d_Law_law_217 : decode code 217 = .ok (.iconst (2), 1) := by decide +kernel
theorem d_Law_law_218 : decode code 218 = .ok (.iadd, 1) := by decide +kernel
theorem d_Law_law_219 : decode code 219 = .ok (.iaload, 1) := by decide +kernel
theorem d_Law_law_220 : decode code 220 = .ok (.aload_n 0, 1) := by decide +kernel
theorem d_Law_law_221 : decode code 221 = .ok (.iload 4, 2) := by decide +kernel
theorem d_Law_law_223 : decode code 223 = .ok (.iconst (3), 1) := by decide +kernel
theorem d_Law_law_224 : decode code 224 = .ok (.iadd, 1) := by decide +kernel
theorem d_Law_law_225 : decode code 225 = .ok (.iaload, 1) := by decide +kernel
theorem d_Law_law_226 : decode code 226 = .ok (.aload_n 0, 1) := by decide +kernel
theorem d_Law_law_227 : decode code 227 = .ok (.iload 4, 2) := by decide +kernel
theorem d_Law_law_229 : decode code 229 = .ok (.iconst (4), 1) := by decide +kernel
theorem d_Law_law_230 : decode code 230 = .ok (.iadd, 1) := by decide +kernel
theorem d_Law_law_231 : decode code 231 = .ok (.iaload, 1) := by decide +kernel
theorem d_Law_law_232 : decode code 232 = .ok (.invokevirtual 77, 3) := by decide +kernel
theorem d_Law_law_235 : decode code 235 = .ok (.istore 6, 2) := by decide +kernel
theorem d_Law_law_237 : decode code 237 = .ok (.aload_n 2, 1) := by decide +kernel
theorem d_Law_law_238 : decode code 238 = .ok (.invokevirtual 70, 3) := by decide +kernel
theorem d_Law_law_241 : decode code 241 = .ok (.iload 5, 2) := by decide +kernel
theorem d_Law_law_243 : decode code 243 = .ok (.if_icmp .eq (5), 3) := by decide +kernel
theorem d_Law_law_246 : decode code 246 = .ok (.iconst (0), 1) := by decide +kernel
theorem d_Law_law_247 : decode code 247 = .ok (.ireturn, 1) := by decide +kernel
theorem d_Law_law_248 : decode code 248 = .ok (.iload 5, 2) := by decide +kernel
theorem d_Law_law_250 : decode code 250 = .ok (.ifCond .ne (15), 3) := by decide +kernel
theorem d_Law_law_253 : decode code 253 = .ok (.aload_n 3, 1) := by decide +kernel
theorem d_Law_law_254 : decode code 254 = .ok (.iconst (0), 1) := by decide +kernel
theorem d_Law_law_255 : decode code 255 = .ok (.laload, 1) := by decide +kernel
theorem d_Law_law_256 : decode code 256 = .ok (.iload 6, 2) := by decide +kernel
theorem d_Law_law_258 : decode code 258 = .ok (.i2l, 1) := by decide +kernel
theorem d_Law_law_259 : decode code 259 = .ok (.lcmp, 1) := by decide +kernel
theorem d_Law_law_260 : decode code 260 = .ok (.ifCond .eq (5), 3) := by decide +kernel
theorem d_Law_law_263 : decode code 263 = .ok (.iconst (0), 1) := by decide +kernel
theorem d_Law_law_264 : decode code 264 = .ok (.ireturn, 1) := by decide +kernel
theorem d_Law_law_265 : decode code 265 = .ok (.goto (820), 3) := by decide +kernel
theorem d_Law_law_268 : decode code 268 = .ok (.aload_n 1, 1) := by decide +kernel
theorem d_Law_law_269 : decode code 269 = .ok (.aload_n 0, 1) := by decide +kernel
theorem d_Law_law_270 : decode code 270 = .ok (.iload 4, 2) := by decide +kernel
theorem d_Law_law_272 : decode code 272 = .ok (.iconst (1), 1) := by decide +kernel
theorem d_Law_law_273 : decode code 273 = .ok (.iadd, 1) := by decide +kernel
theorem d_Law_law_274 : decode code 274 = .ok (.iaload, 1) := by decide +kernel
theorem d_Law_law_275 : decode code 275 = .ok (.aload_n 0, 1) := by decide +kernel
theorem d_Law_law_276 : decode code 276 = .ok (.iload 4, 2) := by decide +kernel
theorem d_Law_law_278 : decode code 278 = .ok (.iconst (2), 1) := by decide +kernel
theorem d_Law_law_279 : decode code 279 = .ok (.iadd, 1) := by decide +kernel
theorem d_Law_law_280 : decode code 280 = .ok (.iaload, 1) := by decide +kernel
theorem d_Law_law_281 : decode code 281 = .ok (.aload_n 0, 1) := by decide +kernel
theorem d_Law_law_282 : decode code 282 = .ok (.iload 4, 2) := by decide +kernel
theorem d_Law_law_284 : decode code 284 = .ok (.iconst (3), 1) := by decide +kernel
theorem d_Law_law_285 : decode code 285 = .ok (.iadd, 1) := by decide +kernel
theorem d_Law_law_286 : decode code 286 = .ok (.iaload, 1) := by decide +kernel
theorem d_Law_law_287 : decode code 287 = .ok (.aload_n 3, 1) := by decide +kernel
theorem d_Law_law_288 : decode code 288 = .ok (.invokestatic 78, 3) := by decide +kernel
theorem d_Law_law_291 : decode code 291 = .ok (.istore 5, 2) := by decide +kernel
theorem d_Law_law_293 : decode code 293 = .ok (.aload_n 2, 1) := by decide +kernel
theorem d_Law_law_294 : decode code 294 = .ok (.aload_n 0, 1) := by decide +kernel
theorem d_Law_law_295 : decode code 295 = .ok (.iload 4, 2) := by decide +kernel
theorem d_Law_law_297 : decode code 297 = .ok (.iconst (1), 1) := by decide +kernel
theorem d_Law_law_298 : decode code 298 = .ok (.iadd, 1) := by decide +kernel
theorem d_Law_law_299 : decode code 299 = .ok (.iaload, 1) := by decide +kernel
theorem d_Law_law_300 : decode code 300 = .ok (.aload_n 0, 1) := by decide +kernel
theorem d_Law_law_301 : decode code 301 = .ok (.iload 4, 2) := by decide +kernel
theorem d_Law_law_303 : decode code 303 = .ok (.iconst (2), 1) := by decide +kernel
theorem d_Law_law_304 : decode code 304 = .ok (.iadd, 1) := by decide +kernel
theorem d_Law_law_305 : decode code 305 = .ok (.iaload, 1) := by decide +kernel
theorem d_Law_law_306 : decode code 306 = .ok (.aload_n 0, 1) := by decide +kernel
theorem d_Law_law_307 : decode code 307 = .ok (.iload 4, 2) := by decide +kernel
theorem d_Law_law_309 : decode code 309 = .ok (.iconst (3), 1) := by decide +kernel
theorem d_Law_law_310 : decode code 310 = .ok (.iadd, 1) := by decide +kernel
theorem d_Law_law_311 : decode code 311 = .ok (.iaload, 1) := by decide +kernel
theorem d_Law_law_312 : decode code 312 = .ok (.invokevirtual 81, 3) := by decide +kernel
theorem d_Law_law_315 : decode code 315 = .ok (.istore 6, 2) := by decide +kernel
theorem d_Law_law_317 : decode code 317 = .ok (.aload_n 2, 1) := by decide +kernel
theorem d_Law_law_318 : decode code 318 = .ok (.invokevirtual 70, 3) := by decide +kernel
theorem d_Law_law_321 : decode code 321 = .ok (.iload 5, 2) := by decide +kernel
theorem d_Law_law_323 : decode code 323 = .ok (.if_icmp .eq (5), 3) := by decide +kernel
theorem d_Law_law_326 : decode code 326 = .ok (.iconst (0), 1) := by decide +kernel
theorem d_Law_law_327 : decode code 327 = .ok (.ireturn, 1) := by decide +kernel
theorem d_Law_law_328 : decode code 328 = .ok (.iload 5, 2) := by decide +kernel
theorem d_Law_law_330 : decode code 330 = .ok (.ifCond .ne (15), 3) := by decide +kernel
theorem d_Law_law_333 : decode code 333 = .ok (.aload_n 3, 1) := by decide +kernel
theorem d_Law_law_334 : decode code 334 = .ok (.iconst (0), 1) := by decide +kernel
theorem d_Law_law_335 : decode code 335 = .ok (.laload, 1) := by decide +kernel
theorem d_Law_law_336 : decode code 336 = .ok (.iload 6, 2) := by decide +kernel
theorem d_Law_law_338 : decode code 338 = .ok (.i2l, 1) := by decide +kernel
theorem d_Law_law_339 : decode code 339 = .ok (.lcmp, 1) := by decide +kernel
theorem d_Law_law_340 : decode code 340 = .ok (.ifCond .eq (5), 3) := by decide +kernel
theorem d_Law_law_343 : decode code 343 = .ok (.iconst (0), 1) := by decide +kernel
theorem d_Law_law_344 : decode code 344 = .ok (.ireturn, 1) := by decide +kernel
theorem d_Law_law_345 : decode code 345 = .ok (.goto (740), 3) := by decide +kernel
theorem d_Law_law_348 : decode code 348 = .ok (.aload_n 1, 1) := by decide +kernel
theorem d_Law_law_349 : decode code 349 = .ok (.aload_n 0, 1) := by decide +kernel
theorem d_Law_law_350 : decode code 350 = .ok (.iload 4, 2) := by decide +kernel
theorem d_Law_law_352 : decode code 352 = .ok (.iconst (1), 1) := by decide +kernel
theorem d_Law_law_353 : decode code 353 = .ok (.iadd, 1) := by decide +kernel
theorem d_Law_law_354 : decode code 354 = .ok (.iaload, 1) := by decide +kernel
theorem d_Law_law_355 : decode code 355 = .ok (.aload_n 0, 1) := by decide +kernel
theorem d_Law_law_356 : decode code 356 = .ok (.iload 4, 2) := by decide +kernel
theorem d_Law_law_358 : decode code 358 = .ok (.iconst (2), 1) := by decide +kernel
theorem d_Law_law_359 : decode code 359 = .ok (.iadd, 1) := by decide +kernel
theorem d_Law_law_360 : decode code 360 = .ok (.iaload, 1) := by decide +kernel
theorem d_Law_law_361 : decode code 361 = .ok (.aload_n 0, 1) := by decide +kernel
theorem d_Law_law_362 : decode code 362 = .ok (.iload 4, 2) := by decide +kernel
theorem d_Law_law_364 : decode code 364 = .ok (.iconst (3), 1) := by decide +kernel
theorem d_Law_law_365 : decode code 365 = .ok (.iadd, 1) := by decide +kernel
theorem d_Law_law_366 : decode code 366 = .ok (.iaload, 1) := by decide +kernel
theorem d_Law_law_367 : decode code 367 = .ok (.aload_n 3, 1) := by decide +kernel
theorem d_Law_law_368 : decode code 368 = .ok (.invokestatic 82, 3) := by decide +kernel
theorem d_Law_law_371 : decode code 371 = .ok (.istore 5, 2) := by decide +kernel
theorem d_Law_law_373 : decode code 373 = .ok (.aload_n 2, 1) := by decide +kernel
theorem d_Law_law_374 : decode code 374 = .ok (.aload_n 0, 1) := by decide +kernel
theorem d_Law_law_375 : decode code 375 = .ok (.iload 4, 2) := by decide +kernel
theorem d_Law_law_377 : decode code 377 = .ok (.iconst (1), 1) := by decide +kernel
theorem d_Law_law_378 : decode code 378 = .ok (.iadd, 1) := by decide +kernel
theorem d_Law_law_379 : decode code 379 = .ok (.iaload, 1) := by decide +kernel
theorem d_Law_law_380 : decode code 380 = .ok (.aload_n 0, 1) := by decide +kernel
theorem d_Law_law_381 : decode code 381 = .ok (.iload 4, 2) := by decide +kernel
theorem d_Law_law_383 : decode code 383 = .ok (.iconst (2), 1) := by decide +kernel
theorem d_Law_law_384 : decode code 384 = .ok (.iadd, 1) := by decide +kernel
theorem d_Law_law_385 : decode code 385 = .ok (.iaload, 1) := by decide +kernel
theorem d_Law_law_386 : decode code 386 = .ok (.aload_n 0, 1) := by decide +kernel
theorem d_Law_law_387 : decode code 387 = .ok (.iload 4, 2) := by decide +kernel
theorem d_Law_law_389 : decode code 389 = .ok (.iconst (3), 1) := by decide +kernel
theorem d_Law_law_390 : decode code 390 = .ok (.iadd, 1) := by decide +kernel
theorem d_Law_law_391 : decode code 391 = .ok (.iaload, 1) := by decide +kernel
theorem d_Law_law_392 : decode code 392 = .ok (.invokevirtual 84, 3) := by decide +kernel
theorem d_Law_law_395 : decode code 395 = .ok (.istore 6, 2) := by decide +kernel
theorem d_Law_law_397 : decode code 397 = .ok (.aload_n 2, 1) := by decide +kernel
theorem d_Law_law_398 : decode code 398 = .ok (.invokevirtual 70, 3) := by decide +kernel
theorem d_Law_law_401 : decode code 401 = .ok (.iload 5, 2) := by decide +kernel
theorem d_Law_law_403 : decode code 403 = .ok (.if_icmp .eq (5), 3) := by decide +kernel
theorem d_Law_law_406 : decode code 406 = .ok (.iconst (0), 1) := by decide +kernel
theorem d_Law_law_407 : decode code 407 = .ok (.ireturn, 1) := by decide +kernel
theorem d_Law_law_408 : decode code 408 = .ok (.iload 5, 2) := by decide +kernel
theorem d_Law_law_410 : decode code 410 = .ok (.ifCond .ne (15), 3) := by decide +kernel
theorem d_Law_law_413 : decode code 413 = .ok (.aload_n 3, 1) := by decide +kernel
theorem d_Law_law_414 : decode code 414 = .ok (.iconst (0), 1) := by decide +kernel
theorem d_Law_law_415 : decode code 415 = .ok (.laload, 1) := by decide +kernel
theorem d_Law_law_416 : decode code 416 = .ok (.iload 6, 2) := by decide +kernel
theorem d_Law_law_418 : decode code 418 = .ok (.i2l, 1) := by decide +kernel
theorem d_Law_law_419 : decode code 419 = .ok (.lcmp, 1) := by decide +kernel
theorem d_Law_law_420 : decode code 420 = .ok (.ifCond .eq (5), 3) := by decide +kernel
theorem d_Law_law_423 : decode code 423 = .ok (.iconst (0), 1) := by decide +kernel
theorem d_Law_law_424 : decode code 424 = .ok (.ireturn, 1) := by decide +kernel
theorem d_Law_law_425 : decode code 425 = .ok (.goto (660), 3) := by decide +kernel
theorem d_Law_law_428 : decode code 428 = .ok (.aload_n 1, 1) := by decide +kernel
theorem d_Law_law_429 : decode code 429 = .ok (.aload_n 0, 1) := by decide +kernel
theorem d_Law_law_430 : decode code 430 = .ok (.iload 4, 2) := by decide +kernel
theorem d_Law_law_432 : decode code 432 = .ok (.iconst (1), 1) := by decide +kernel
theorem d_Law_law_433 : decode code 433 = .ok (.iadd, 1) := by decide +kernel
theorem d_Law_law_434 : decode code 434 = .ok (.iaload, 1) := by decide +kernel
theorem d_Law_law_435 : decode code 435 = .ok (.aload_n 0, 1) := by decide +kernel
theorem d_Law_law_436 : decode code 436 = .ok (.iload 4, 2) := by decide +kernel
theorem d_Law_law_438 : decode code 438 = .ok (.iconst (2), 1) := by decide +kernel
theorem d_Law_law_439 : decode code 439 = .ok (.iadd, 1) := by decide +kernel
theorem d_Law_law_440 : decode code 440 = .ok (.iaload, 1) := by decide +kernel
theorem d_Law_law_441 : decode code 441 = .ok (.aload_n 3, 1) := by decide +kernel
theorem d_Law_law_442 : decode code 442 = .ok (.invokestatic 85, 3) := by decide +kernel
theorem d_Law_law_445 : decode code 445 = .ok (.istore 5, 2) := by decide +kernel
theorem d_Law_law_447 : decode code 447 = .ok (.aload_n 2, 1) := by decide +kernel
theorem d_Law_law_448 : decode code 448 = .ok (.aload_n 0, 1) := by decide +kernel
theorem d_Law_law_449 : decode code 449 = .ok (.iload 4, 2) := by decide +kernel
theorem d_Law_law_451 : decode code 451 = .ok (.iconst (1), 1) := by decide +kernel
theorem d_Law_law_452 : decode code 452 = .ok (.iadd, 1) := by decide +kernel
theorem d_Law_law_453 : decode code 453 = .ok (.iaload, 1) := by decide +kernel
theorem d_Law_law_454 : decode code 454 = .ok (.aload_n 0, 1) := by decide +kernel
theorem d_Law_law_455 : decode code 455 = .ok (.iload 4, 2) := by decide +kernel
theorem d_Law_law_457 : decode code 457 = .ok (.iconst (2), 1) := by decide +kernel
theorem d_Law_law_458 : decode code 458 = .ok (.iadd, 1) := by decide +kernel
theorem d_Law_law_459 : decode code 459 = .ok (.iaload, 1) := by decide +kernel
theorem d_Law_law_460 : decode code 460 = .ok (.invokevirtual 87, 3) := by decide +kernel
theorem d_Law_law_463 : decode code 463 = .ok (.istore 6, 2) := by decide +kernel
theorem d_Law_law_465 : decode code 465 = .ok (.aload_n 2, 1) := by decide +kernel
theorem d_Law_law_466 : decode code 466 = .ok (.invokevirtual 70, 3) := by decide +kernel
theorem d_Law_law_469 : decode code 469 = .ok (.iload 5, 2) := by decide +kernel
theorem d_Law_law_471 : decode code 471 = .ok (.if_icmp .eq (5), 3) := by decide +kernel
theorem d_Law_law_474 : decode code 474 = .ok (.iconst (0), 1) := by decide +kernel
theorem d_Law_law_475 : decode code 475 = .ok (.ireturn, 1) := by decide +kernel
theorem d_Law_law_476 : decode code 476 = .ok (.iload 5, 2) := by decide +kernel
theorem d_Law_law_478 : decode code 478 = .ok (.ifCond .ne (22), 3) := by decide +kernel
theorem d_Law_law_481 : decode code 481 = .ok (.aload_n 3, 1) := by decide +kernel
theorem d_Law_law_482 : decode code 482 = .ok (.iconst (0), 1) := by decide +kernel
theorem d_Law_law_483 : decode code 483 = .ok (.laload, 1) := by decide +kernel
theorem d_Law_law_484 : decode code 484 = .ok (.iload 6, 2) := by decide +kernel
theorem d_Law_law_486 : decode code 486 = .ok (.ifCond .eq (7), 3) := by decide +kernel
theorem d_Law_law_489 : decode code 489 = .ok (.lconst 1, 1) := by decide +kernel
theorem d_Law_law_490 : decode code 490 = .ok (.goto (4), 3) := by decide +kernel
theorem d_Law_law_493 : decode code 493 = .ok (.lconst 0, 1) := by decide +kernel
theorem d_Law_law_494 : decode code 494 = .ok (.lcmp, 1) := by decide +kernel
theorem d_Law_law_495 : decode code 495 = .ok (.ifCond .eq (5), 3) := by decide +kernel
theorem d_Law_law_498 : decode code 498 = .ok (.iconst (0), 1) := by decide +kernel
theorem d_Law_law_499 : decode code 499 = .ok (.ireturn, 1) := by decide +kernel
theorem d_Law_law_500 : decode code 500 = .ok (.goto (585), 3) := by decide +kernel
theorem d_Law_law_503 : decode code 503 = .ok (.aload_n 1, 1) := by decide +kernel
theorem d_Law_law_504 : decode code 504 = .ok (.aload_n 0, 1) := by decide +kernel
theorem d_Law_law_505 : decode code 505 = .ok (.iload 4, 2) := by decide +kernel
theorem d_Law_law_507 : decode code 507 = .ok (.iconst (1), 1) := by decide +kernel
theorem d_Law_law_508 : decode code 508 = .ok (.iadd, 1) := by decide +kernel
theorem d_Law_law_509 : decode code 509 = .ok (.iaload, 1) := by decide +kernel
theorem d_Law_law_510 : decode code 510 = .ok (.aload_n 0, 1) := by decide +kernel
theorem d_Law_law_511 : decode code 511 = .ok (.iload 4, 2) := by decide +kernel
theorem d_Law_law_513 : decode code 513 = .ok (.iconst (2), 1) := by decide +kernel
theorem d_Law_law_514 : decode code 514 = .ok (.iadd, 1) := by decide +kernel
theorem d_Law_law_515 : decode code 515 = .ok (.iaload, 1) := by decide +kernel
theorem d_Law_law_516 : decode code 516 = .ok (.aload_n 0, 1) := by decide +kernel
theorem d_Law_law_517 : decode code 517 = .ok (.iload 4, 2) := by decide +kernel
theorem d_Law_law_519 : decode code 519 = .ok (.iconst (3), 1) := by decide +kernel
theorem d_Law_law_520 : decode code 520 = .ok (.iadd, 1) := by decide +kernel
theorem d_Law_law_521 : decode code 521 = .ok (.iaload, 1) := by decide +kernel
theorem d_Law_law_522 : decode code 522 = .ok (.aload_n 3, 1) := by decide +kernel
theorem d_Law_law_523 : decode code 523 = .ok (.invokestatic 88, 3) := by decide +kernel
theorem d_Law_law_526 : decode code 526 = .ok (.istore 5, 2) := by decide +kernel
theorem d_Law_law_528 : decode code 528 = .ok (.aload_n 2, 1) := by decide +kernel
theorem d_Law_law_529 : decode code 529 = .ok (.aload_n 0, 1) := by decide +kernel
theorem d_Law_law_530 : decode code 530 = .ok (.iload 4, 2) := by decide +kernel
theorem d_Law_law_532 : decode code 532 = .ok (.iconst (1), 1) := by decide +kernel
theorem d_Law_law_533 : decode code 533 = .ok (.iadd, 1) := by decide +kernel
theorem d_Law_law_534 : decode code 534 = .ok (.iaload, 1) := by decide +kernel
theorem d_Law_law_535 : decode code 535 = .ok (.aload_n 0, 1) := by decide +kernel
theorem d_Law_law_536 : decode code 536 = .ok (.iload 4, 2) := by decide +kernel
theorem d_Law_law_538 : decode code 538 = .ok (.iconst (2), 1) := by decide +kernel
theorem d_Law_law_539 : decode code 539 = .ok (.iadd, 1) := by decide +kernel
theorem d_Law_law_540 : decode code 540 = .ok (.iaload, 1) := by decide +kernel
theorem d_Law_law_541 : decode code 541 = .ok (.aload_n 0, 1) := by decide +kernel
theorem d_Law_law_542 : decode code 542 = .ok (.iload 4, 2) := by decide +kernel
theorem d_Law_law_544 : decode code 544 = .ok (.iconst (3), 1) := by decide +kernel
theorem d_Law_law_545 : decode code 545 = .ok (.iadd, 1) := by decide +kernel
theorem d_Law_law_546 : decode code 546 = .ok (.iaload, 1) := by decide +kernel
theorem d_Law_law_547 : decode code 547 = .ok (.invokevirtual 90, 3) := by decide +kernel
theorem d_Law_law_550 : decode code 550 = .ok (.istore 6, 2) := by decide +kernel
theorem d_Law_law_552 : decode code 552 = .ok (.aload_n 2, 1) := by decide +kernel
theorem d_Law_law_553 : decode code 553 = .ok (.invokevirtual 70, 3) := by decide +kernel
theorem d_Law_law_556 : decode code 556 = .ok (.iload 5, 2) := by decide +kernel
theorem d_Law_law_558 : decode code 558 = .ok (.if_icmp .eq (5), 3) := by decide +kernel
theorem d_Law_law_561 : decode code 561 = .ok (.iconst (0), 1) := by decide +kernel
theorem d_Law_law_562 : decode code 562 = .ok (.ireturn, 1) := by decide +kernel
theorem d_Law_law_563 : decode code 563 = .ok (.iload 5, 2) := by decide +kernel
theorem d_Law_law_565 : decode code 565 = .ok (.ifCond .ne (22), 3) := by decide +kernel
theorem d_Law_law_568 : decode code 568 = .ok (.aload_n 3, 1) := by decide +kernel
theorem d_Law_law_569 : decode code 569 = .ok (.iconst (0), 1) := by decide +kernel
theorem d_Law_law_570 : decode code 570 = .ok (.laload, 1) := by decide +kernel
theorem d_Law_law_571 : decode code 571 = .ok (.iload 6, 2) := by decide +kernel
theorem d_Law_law_573 : decode code 573 = .ok (.ifCond .eq (7), 3) := by decide +kernel
theorem d_Law_law_576 : decode code 576 = .ok (.lconst 1, 1) := by decide +kernel
theorem d_Law_law_577 : decode code 577 = .ok (.goto (4), 3) := by decide +kernel
theorem d_Law_law_580 : decode code 580 = .ok (.lconst 0, 1) := by decide +kernel
theorem d_Law_law_581 : decode code 581 = .ok (.lcmp, 1) := by decide +kernel
theorem d_Law_law_582 : decode code 582 = .ok (.ifCond .eq (5), 3) := by decide +kernel
theorem d_Law_law_585 : decode code 585 = .ok (.iconst (0), 1) := by decide +kernel
theorem d_Law_law_586 : decode code 586 = .ok (.ireturn, 1) := by decide +kernel
theorem d_Law_law_587 : decode code 587 = .ok (.goto (498), 3) := by decide +kernel
theorem d_Law_law_590 : decode code 590 = .ok (.aload_n 1, 1) := by decide +kernel
theorem d_Law_law_591 : decode code 591 = .ok (.aload_n 0, 1) := by decide +kernel
theorem d_Law_law_592 : decode code 592 = .ok (.iload 4, 2) := by decide +kernel
theorem d_Law_law_594 : decode code 594 = .ok (.iconst (1), 1) := by decide +kernel
theorem d_Law_law_595 : decode code 595 = .ok (.iadd, 1) := by decide +kernel
theorem d_Law_law_596 : decode code 596 = .ok (.iaload, 1) := by decide +kernel
theorem d_Law_law_597 : decode code 597 = .ok (.aload_n 3, 1) := by decide +kernel
theorem d_Law_law_598 : decode code 598 = .ok (.invokestatic 91, 3) := by decide +kernel
theorem d_Law_law_601 : decode code 601 = .ok (.istore 5, 2) := by decide +kernel
theorem d_Law_law_603 : decode code 603 = .ok (.aload_n 2, 1) := by decide +kernel
theorem d_Law_law_604 : decode code 604 = .ok (.aload_n 0, 1) := by decide +kernel
theorem d_Law_law_605 : decode code 605 = .ok (.iload 4, 2) := by decide +kernel
theorem d_Law_law_607 : decode code 607 = .ok (.iconst (1), 1) := by decide +kernel
theorem d_Law_law_608 : decode code 608 = .ok (.iadd, 1) := by decide +kernel
theorem d_Law_law_609 : decode code 609 = .ok (.iaload, 1) := by decide +kernel
theorem d_Law_law_610 : decode code 610 = .ok (.invokevirtual 94, 3) := by decide +kernel
theorem d_Law_law_613 : decode code 613 = .ok (.istore 6, 2) := by decide +kernel
theorem d_Law_law_615 : decode code 615 = .ok (.aload_n 2, 1) := by decide +kernel
theorem d_Law_law_616 : decode code 616 = .ok (.invokevirtual 70, 3) := by decide +kernel
theorem d_Law_law_619 : decode code 619 = .ok (.iload 5, 2) := by decide +kernel
theorem d_Law_law_621 : decode code 621 = .ok (.if_icmp .eq (5), 3) := by decide +kernel
theorem d_Law_law_624 : decode code 624 = .ok (.iconst (0), 1) := by decide +kernel
theorem d_Law_law_625 : decode code 625 = .ok (.ireturn, 1) := by decide +kernel
theorem d_Law_law_626 : decode code 626 = .ok (.iload 5, 2) := by decide +kernel
theorem d_Law_law_628 : decode code 628 = .ok (.ifCond .ne (15), 3) := by decide +kernel
theorem d_Law_law_631 : decode code 631 = .ok (.aload_n 3, 1) := by decide +kernel
theorem d_Law_law_632 : decode code 632 = .ok (.iconst (0), 1) := by decide +kernel
theorem d_Law_law_633 : decode code 633 = .ok (.laload, 1) := by decide +kernel
theorem d_Law_law_634 : decode code 634 = .ok (.iload 6, 2) := by decide +kernel
theorem d_Law_law_636 : decode code 636 = .ok (.i2l, 1) := by decide +kernel
theorem d_Law_law_637 : decode code 637 = .ok (.lcmp, 1) := by decide +kernel
theorem d_Law_law_638 : decode code 638 = .ok (.ifCond .eq (5), 3) := by decide +kernel
theorem d_Law_law_641 : decode code 641 = .ok (.iconst (0), 1) := by decide +kernel
theorem d_Law_law_642 : decode code 642 = .ok (.ireturn, 1) := by decide +kernel
theorem d_Law_law_643 : decode code 643 = .ok (.goto (442), 3) := by decide +kernel
theorem d_Law_law_646 : decode code 646 = .ok (.aload_n 1, 1) := by decide +kernel
theorem d_Law_law_647 : decode code 647 = .ok (.aload_n 0, 1) := by decide +kernel
theorem d_Law_law_648 : decode code 648 = .ok (.iload 4, 2) := by decide +kernel
theorem d_Law_law_650 : decode code 650 = .ok (.iconst (1), 1) := by decide +kernel
theorem d_Law_law_651 : decode code 651 = .ok (.iadd, 1) := by decide +kernel
theorem d_Law_law_652 : decode code 652 = .ok (.iaload, 1) := by decide +kernel
theorem d_Law_law_653 : decode code 653 = .ok (.aload_n 3, 1) := by decide +kernel
theorem d_Law_law_654 : decode code 654 = .ok (.invokestatic 95, 3) := by decide +kernel
theorem d_Law_law_657 : decode code 657 = .ok (.istore 5, 2) := by decide +kernel
theorem d_Law_law_659 : decode code 659 = .ok (.aload_n 2, 1) := by decide +kernel
theorem d_Law_law_660 : decode code 660 = .ok (.aload_n 0, 1) := by decide +kernel
theorem d_Law_law_661 : decode code 661 = .ok (.iload 4, 2) := by decide +kernel
theorem d_Law_law_663 : decode code 663 = .ok (.iconst (1), 1) := by decide +kernel
theorem d_Law_law_664 : decode code 664 = .ok (.iadd, 1) := by decide +kernel
theorem d_Law_law_665 : decode code 665 = .ok (.iaload, 1) := by decide +kernel
theorem d_Law_law_666 : decode code 666 = .ok (.invokevirtual 97, 3) := by decide +kernel
theorem d_Law_law_669 : decode code 669 = .ok (.istore 6, 2) := by decide +kernel
theorem d_Law_law_671 : decode code 671 = .ok (.aload_n 2, 1) := by decide +kernel
theorem d_Law_law_672 : decode code 672 = .ok (.invokevirtual 70, 3) := by decide +kernel
theorem d_Law_law_675 : decode code 675 = .ok (.iload 5, 2) := by decide +kernel
theorem d_Law_law_677 : decode code 677 = .ok (.if_icmp .eq (5), 3) := by decide +kernel
theorem d_Law_law_680 : decode code 680 = .ok (.iconst (0), 1) := by decide +kernel
theorem d_Law_law_681 : decode code 681 = .ok (.ireturn, 1) := by decide +kernel
theorem d_Law_law_682 : decode code 682 = .ok (.iload 5, 2) := by decide +kernel
theorem d_Law_law_684 : decode code 684 = .ok (.ifCond .ne (15), 3) := by decide +kernel
theorem d_Law_law_687 : decode code 687 = .ok (.aload_n 3, 1) := by decide +kernel
theorem d_Law_law_688 : decode code 688 = .ok (.iconst (0), 1) := by decide +kernel
theorem d_Law_law_689 : decode code 689 = .ok (.laload, 1) := by decide +kernel
theorem d_Law_law_690 : decode code 690 = .ok (.iload 6, 2) := by decide +kernel
theorem d_Law_law_692 : decode code 692 = .ok (.i2l, 1) := by decide +kernel
theorem d_Law_law_693 : decode code 693 = .ok (.lcmp, 1) := by decide +kernel
theorem d_Law_law_694 : decode code 694 = .ok (.ifCond .eq (5), 3) := by decide +kernel
theorem d_Law_law_697 : decode code 697 = .ok (.iconst (0), 1) := by decide +kernel
theorem d_Law_law_698 : decode code 698 = .ok (.ireturn, 1) := by decide +kernel
theorem d_Law_law_699 : decode code 699 = .ok (.goto (386), 3) := by decide +kernel
theorem d_Law_law_702 : decode code 702 = .ok (.aload_n 1, 1) := by decide +kernel
theorem d_Law_law_703 : decode code 703 = .ok (.aload_n 0, 1) := by decide +kernel
theorem d_Law_law_704 : decode code 704 = .ok (.iload 4, 2) := by decide +kernel
theorem d_Law_law_706 : decode code 706 = .ok (.iconst (1), 1) := by decide +kernel
theorem d_Law_law_707 : decode code 707 = .ok (.iadd, 1) := by decide +kernel
theorem d_Law_law_708 : decode code 708 = .ok (.iaload, 1) := by decide +kernel
theorem d_Law_law_709 : decode code 709 = .ok (.aload_n 0, 1) := by decide +kernel
theorem d_Law_law_710 : decode code 710 = .ok (.iload 4, 2) := by decide +kernel
theorem d_Law_law_712 : decode code 712 = .ok (.iconst (2), 1) := by decide +kernel
theorem d_Law_law_713 : decode code 713 = .ok (.iadd, 1) := by decide +kernel
theorem d_Law_law_714 : decode code 714 = .ok (.iaload, 1) := by decide +kernel
theorem d_Law_law_715 : decode code 715 = .ok (.aload_n 3, 1) := by decide +kernel
theorem d_Law_law_716 : decode code 716 = .ok (.invokestatic 98, 3) := by decide +kernel
theorem d_Law_law_719 : decode code 719 = .ok (.istore 5, 2) := by decide +kernel
theorem d_Law_law_721 : decode code 721 = .ok (.aload_n 2, 1) := by decide +kernel
theorem d_Law_law_722 : decode code 722 = .ok (.aload_n 0, 1) := by decide +kernel
theorem d_Law_law_723 : decode code 723 = .ok (.iload 4, 2) := by decide +kernel
theorem d_Law_law_725 : decode code 725 = .ok (.iconst (1), 1) := by decide +kernel
theorem d_Law_law_726 : decode code 726 = .ok (.iadd, 1) := by decide +kernel
theorem d_Law_law_727 : decode code 727 = .ok (.iaload, 1) := by decide +kernel
theorem d_Law_law_728 : decode code 728 = .ok (.aload_n 0, 1) := by decide +kernel
theorem d_Law_law_729 : decode code 729 = .ok (.iload 4, 2) := by decide +kernel
theorem d_Law_law_731 : decode code 731 = .ok (.iconst (2), 1) := by decide +kernel
theorem d_Law_law_732 : decode code 732 = .ok (.iadd, 1) := by decide +kernel
theorem d_Law_law_733 : decode code 733 = .ok (.iaload, 1) := by decide +kernel
theorem d_Law_law_734 : decode code 734 = .ok (.invokevirtual 100, 3) := by decide +kernel
theorem d_Law_law_737 : decode code 737 = .ok (.istore 6, 2) := by decide +kernel
theorem d_Law_law_739 : decode code 739 = .ok (.aload_n 2, 1) := by decide +kernel
theorem d_Law_law_740 : decode code 740 = .ok (.invokevirtual 70, 3) := by decide +kernel
theorem d_Law_law_743 : decode code 743 = .ok (.iload 5, 2) := by decide +kernel
theorem d_Law_law_745 : decode code 745 = .ok (.if_icmp .eq (5), 3) := by decide +kernel
theorem d_Law_law_748 : decode code 748 = .ok (.iconst (0), 1) := by decide +kernel
theorem d_Law_law_749 : decode code 749 = .ok (.ireturn, 1) := by decide +kernel
theorem d_Law_law_750 : decode code 750 = .ok (.iload 5, 2) := by decide +kernel
theorem d_Law_law_752 : decode code 752 = .ok (.ifCond .ne (15), 3) := by decide +kernel
theorem d_Law_law_755 : decode code 755 = .ok (.aload_n 3, 1) := by decide +kernel
theorem d_Law_law_756 : decode code 756 = .ok (.iconst (0), 1) := by decide +kernel
theorem d_Law_law_757 : decode code 757 = .ok (.laload, 1) := by decide +kernel
theorem d_Law_law_758 : decode code 758 = .ok (.iload 6, 2) := by decide +kernel
theorem d_Law_law_760 : decode code 760 = .ok (.i2l, 1) := by decide +kernel
theorem d_Law_law_761 : decode code 761 = .ok (.lcmp, 1) := by decide +kernel
theorem d_Law_law_762 : decode code 762 = .ok (.ifCond .eq (5), 3) := by decide +kernel
theorem d_Law_law_765 : decode code 765 = .ok (.iconst (0), 1) := by decide +kernel
theorem d_Law_law_766 : decode code 766 = .ok (.ireturn, 1) := by decide +kernel
theorem d_Law_law_767 : decode code 767 = .ok (.goto (318), 3) := by decide +kernel
theorem d_Law_law_770 : decode code 770 = .ok (.aload_n 1, 1) := by decide +kernel
theorem d_Law_law_771 : decode code 771 = .ok (.aload_n 0, 1) := by decide +kernel
theorem d_Law_law_772 : decode code 772 = .ok (.iload 4, 2) := by decide +kernel
theorem d_Law_law_774 : decode code 774 = .ok (.iconst (1), 1) := by decide +kernel
theorem d_Law_law_775 : decode code 775 = .ok (.iadd, 1) := by decide +kernel
theorem d_Law_law_776 : decode code 776 = .ok (.iaload, 1) := by decide +kernel
theorem d_Law_law_777 : decode code 777 = .ok (.invokevirtual 101, 3) := by decide +kernel
theorem d_Law_law_780 : decode code 780 = .ok (.aload_n 2, 1) := by decide +kernel
theorem d_Law_law_781 : decode code 781 = .ok (.aload_n 0, 1) := by decide +kernel
theorem d_Law_law_782 : decode code 782 = .ok (.iload 4, 2) := by decide +kernel
theorem d_Law_law_784 : decode code 784 = .ok (.iconst (1), 1) := by decide +kernel
theorem d_Law_law_785 : decode code 785 = .ok (.iadd, 1) := by decide +kernel
theorem d_Law_law_786 : decode code 786 = .ok (.iaload, 1) := by decide +kernel
theorem d_Law_law_787 : decode code 787 = .ok (.invokevirtual 104, 3) := by decide +kernel
theorem d_Law_law_790 : decode code 790 = .ok (.if_icmp .eq (295), 3) := by decide +kernel
theorem d_Law_law_793 : decode code 793 = .ok (.iconst (0), 1) := by decide +kernel
theorem d_Law_law_794 : decode code 794 = .ok (.ireturn, 1) := by decide +kernel
theorem d_Law_law_795 : decode code 795 = .ok (.aload_n 1, 1) := by decide +kernel
theorem d_Law_law_796 : decode code 796 = .ok (.aload_n 0, 1) := by decide +kernel
theorem d_Law_law_797 : decode code 797 = .ok (.iload 4, 2) := by decide +kernel
theorem d_Law_law_799 : decode code 799 = .ok (.iconst (1), 1) := by decide +kernel
theorem d_Law_law_800 : decode code 800 = .ok (.iadd, 1) := by decide +kernel
theorem d_Law_law_801 : decode code 801 = .ok (.iaload, 1) := by decide +kernel
theorem d_Law_law_802 : decode code 802 = .ok (.aload_n 0, 1) := by decide +kernel
theorem d_Law_law_803 : decode code 803 = .ok (.iload 4, 2) := by decide +kernel
theorem d_Law_law_805 : decode code 805 = .ok (.iconst (2), 1) := by decide +kernel
theorem d_Law_law_806 : decode code 806 = .ok (.iadd, 1) := by decide +kernel
theorem d_Law_law_807 : decode code 807 = .ok (.iaload, 1) := by decide +kernel
theorem d_Law_law_808 : decode code 808 = .ok (.aload_n 3, 1) := by decide +kernel
theorem d_Law_law_809 : decode code 809 = .ok (.invokestatic 105, 3) := by decide +kernel
theorem d_Law_law_812 : decode code 812 = .ok (.istore 5, 2) := by decide +kernel
theorem d_Law_law_814 : decode code 814 = .ok (.aload_n 2, 1) := by decide +kernel
theorem d_Law_law_815 : decode code 815 = .ok (.aload_n 0, 1) := by decide +kernel
theorem d_Law_law_816 : decode code 816 = .ok (.iload 4, 2) := by decide +kernel
theorem d_Law_law_818 : decode code 818 = .ok (.iconst (1), 1) := by decide +kernel
theorem d_Law_law_819 : decode code 819 = .ok (.iadd, 1) := by decide +kernel
theorem d_Law_law_820 : decode code 820 = .ok (.iaload, 1) := by decide +kernel
theorem d_Law_law_821 : decode code 821 = .ok (.aload_n 0, 1) := by decide +kernel
theorem d_Law_law_822 : decode code 822 = .ok (.iload 4, 2) := by decide +kernel
theorem d_Law_law_824 : decode code 824 = .ok (.iconst (2), 1) := by decide +kernel
theorem d_Law_law_825 : decode code 825 = .ok (.iadd, 1) := by decide +kernel
theorem d_Law_law_826 : decode code 826 = .ok (.iaload, 1) := by decide +kernel
theorem d_Law_law_827 : decode code 827 = .ok (.invokevirtual 107, 3) := by decide +kernel
theorem d_Law_law_830 : decode code 830 = .ok (.lstore 6, 2) := by decide +kernel
theorem d_Law_law_832 : decode code 832 = .ok (.aload_n 2, 1) := by decide +kernel
theorem d_Law_law_833 : decode code 833 = .ok (.invokevirtual 70, 3) := by decide +kernel
theorem d_Law_law_836 : decode code 836 = .ok (.iload 5, 2) := by decide +kernel
theorem d_Law_law_838 : decode code 838 = .ok (.if_icmp .eq (5), 3) := by decide +kernel
theorem d_Law_law_841 : decode code 841 = .ok (.iconst (0), 1) := by decide +kernel
theorem d_Law_law_842 : decode code 842 = .ok (.ireturn, 1) := by decide +kernel
theorem d_Law_law_843 : decode code 843 = .ok (.iload 5, 2) := by decide +kernel
theorem d_Law_law_845 : decode code 845 = .ok (.ifCond .ne (14), 3) := by decide +kernel
theorem d_Law_law_848 : decode code 848 = .ok (.aload_n 3, 1) := by decide +kernel
theorem d_Law_law_849 : decode code 849 = .ok (.iconst (0), 1) := by decide +kernel
theorem d_Law_law_850 : decode code 850 = .ok (.laload, 1) := by decide +kernel
theorem d_Law_law_851 : decode code 851 = .ok (.lload 6, 2) := by decide +kernel
theorem d_Law_law_853 : decode code 853 = .ok (.lcmp, 1) := by decide +kernel
theorem d_Law_law_854 : decode code 854 = .ok (.ifCond .eq (5), 3) := by decide +kernel
theorem d_Law_law_857 : decode code 857 = .ok (.iconst (0), 1) := by decide +kernel
theorem d_Law_law_858 : decode code 858 = .ok (.ireturn, 1) := by decide +kernel
theorem d_Law_law_859 : decode code 859 = .ok (.goto (226), 3) := by decide +kernel
theorem d_Law_law_862 : decode code 862 = .ok (.aload_n 1, 1) := by decide +kernel
theorem d_Law_law_863 : decode code 863 = .ok (.aload_n 0, 1) := by decide +kernel
theorem d_Law_law_864 : decode code 864 = .ok (.iload 4, 2) := by decide +kernel
theorem d_Law_law_866 : decode code 866 = .ok (.iconst (1), 1) := by decide +kernel
theorem d_Law_law_867 : decode code 867 = .ok (.iadd, 1) := by decide +kernel
theorem d_Law_law_868 : decode code 868 = .ok (.iaload, 1) := by decide +kernel
theorem d_Law_law_869 : decode code 869 = .ok (.aload_n 3, 1) := by decide +kernel
theorem d_Law_law_870 : decode code 870 = .ok (.invokestatic 108, 3) := by decide +kernel
theorem d_Law_law_873 : decode code 873 = .ok (.istore 5, 2) := by decide +kernel
theorem d_Law_law_875 : decode code 875 = .ok (.aload_n 2, 1) := by decide +kernel
theorem d_Law_law_876 : decode code 876 = .ok (.aload_n 0, 1) := by decide +kernel
theorem d_Law_law_877 : decode code 877 = .ok (.iload 4, 2) := by decide +kernel
theorem d_Law_law_879 : decode code 879 = .ok (.iconst (1), 1) := by decide +kernel
theorem d_Law_law_880 : decode code 880 = .ok (.iadd, 1) := by decide +kernel
theorem d_Law_law_881 : decode code 881 = .ok (.iaload, 1) := by decide +kernel
theorem d_Law_law_882 : decode code 882 = .ok (.invokevirtual 110, 3) := by decide +kernel
theorem d_Law_law_885 : decode code 885 = .ok (.istore 6, 2) := by decide +kernel
theorem d_Law_law_887 : decode code 887 = .ok (.aload_n 2, 1) := by decide +kernel
theorem d_Law_law_888 : decode code 888 = .ok (.invokevirtual 70, 3) := by decide +kernel
theorem d_Law_law_891 : decode code 891 = .ok (.iload 5, 2) := by decide +kernel
theorem d_Law_law_893 : decode code 893 = .ok (.if_icmp .eq (5), 3) := by decide +kernel
theorem d_Law_law_896 : decode code 896 = .ok (.iconst (0), 1) := by decide +kernel
theorem d_Law_law_897 : decode code 897 = .ok (.ireturn, 1) := by decide +kernel
theorem d_Law_law_898 : decode code 898 = .ok (.iload 5, 2) := by decide +kernel
theorem d_Law_law_900 : decode code 900 = .ok (.ifCond .ne (15), 3) := by decide +kernel
theorem d_Law_law_903 : decode code 903 = .ok (.aload_n 3, 1) := by decide +kernel
theorem d_Law_law_904 : decode code 904 = .ok (.iconst (0), 1) := by decide +kernel
theorem d_Law_law_905 : decode code 905 = .ok (.laload, 1) := by decide +kernel
theorem d_Law_law_906 : decode code 906 = .ok (.iload 6, 2) := by decide +kernel
theorem d_Law_law_908 : decode code 908 = .ok (.i2l, 1) := by decide +kernel
theorem d_Law_law_909 : decode code 909 = .ok (.lcmp, 1) := by decide +kernel
theorem d_Law_law_910 : decode code 910 = .ok (.ifCond .eq (5), 3) := by decide +kernel
theorem d_Law_law_913 : decode code 913 = .ok (.iconst (0), 1) := by decide +kernel
theorem d_Law_law_914 : decode code 914 = .ok (.ireturn, 1) := by decide +kernel
theorem d_Law_law_915 : decode code 915 = .ok (.goto (170), 3) := by decide +kernel
theorem d_Law_law_918 : decode code 918 = .ok (.aload_n 1, 1) := by decide +kernel
theorem d_Law_law_919 : decode code 919 = .ok (.aload_n 0, 1) := by decide +kernel
theorem d_Law_law_920 : decode code 920 = .ok (.iload 4, 2) := by decide +kernel
theorem d_Law_law_922 : decode code 922 = .ok (.iconst (1), 1) := by decide +kernel
theorem d_Law_law_923 : decode code 923 = .ok (.iadd, 1) := by decide +kernel
theorem d_Law_law_924 : decode code 924 = .ok (.iaload, 1) := by decide +kernel
theorem d_Law_law_925 : decode code 925 = .ok (.aload_n 0, 1) := by decide +kernel
theorem d_Law_law_926 : decode code 926 = .ok (.iload 4, 2) := by decide +kernel
theorem d_Law_law_928 : decode code 928 = .ok (.iconst (2), 1) := by decide +kernel
theorem d_Law_law_929 : decode code 929 = .ok (.iadd, 1) := by decide +kernel
theorem d_Law_law_930 : decode code 930 = .ok (.iaload, 1) := by decide +kernel
theorem d_Law_law_931 : decode code 931 = .ok (.i2l, 1) := by decide +kernel
theorem d_Law_law_932 : decode code 932 = .ok (.bipush (32), 2) := by decide +kernel
theorem d_Law_law_934 : decode code 934 = .ok (.lshl, 1) := by decide +kernel
theorem d_Law_law_935 : decode code 935 = .ok (.aload_n 0, 1) := by decide +kernel
theorem d_Law_law_936 : decode code 936 = .ok (.iload 4, 2) := by decide +kernel
theorem d_Law_law_938 : decode code 938 = .ok (.iconst (3), 1) := by decide +kernel
theorem d_Law_law_939 : decode code 939 = .ok (.iadd, 1) := by decide +kernel
theorem d_Law_law_940 : decode code 940 = .ok (.iaload, 1) := by decide +kernel
theorem d_Law_law_941 : decode code 941 = .ok (.i2l, 1) := by decide +kernel
theorem d_Law_law_942 : decode code 942 = .ok (.ldc2_w 111, 3) := by decide +kernel
theorem d_Law_law_945 : decode code 945 = .ok (.land, 1) := by decide +kernel
theorem d_Law_law_946 : decode code 946 = .ok (.lor, 1) := by decide +kernel
theorem d_Law_law_947 : decode code 947 = .ok (.aload_n 3, 1) := by decide +kernel
theorem d_Law_law_948 : decode code 948 = .ok (.invokestatic 113, 3) := by decide +kernel
theorem d_Law_law_951 : decode code 951 = .ok (.istore 5, 2) := by decide +kernel
theorem d_Law_law_953 : decode code 953 = .ok (.aload_n 2, 1) := by decide +kernel
theorem d_Law_law_954 : decode code 954 = .ok (.aload_n 0, 1) := by decide +kernel
theorem d_Law_law_955 : decode code 955 = .ok (.iload 4, 2) := by decide +kernel
theorem d_Law_law_957 : decode code 957 = .ok (.iconst (1), 1) := by decide +kernel
theorem d_Law_law_958 : decode code 958 = .ok (.iadd, 1) := by decide +kernel
theorem d_Law_law_959 : decode code 959 = .ok (.iaload, 1) := by decide +kernel
theorem d_Law_law_960 : decode code 960 = .ok (.aload_n 0, 1) := by decide +kernel
theorem d_Law_law_961 : decode code 961 = .ok (.iload 4, 2) := by decide +kernel
theorem d_Law_law_963 : decode code 963 = .ok (.iconst (2), 1) := by decide +kernel
theorem d_Law_law_964 : decode code 964 = .ok (.iadd, 1) := by decide +kernel
theorem d_Law_law_965 : decode code 965 = .ok (.iaload, 1) := by decide +kernel
theorem d_Law_law_966 : decode code 966 = .ok (.i2l, 1) := by decide +kernel
theorem d_Law_law_967 : decode code 967 = .ok (.bipush (32), 2) := by decide +kernel
theorem d_Law_law_969 : decode code 969 = .ok (.lshl, 1) := by decide +kernel
theorem d_Law_law_970 : decode code 970 = .ok (.aload_n 0, 1) := by decide +kernel
theorem d_Law_law_971 : decode code 971 = .ok (.iload 4, 2) := by decide +kernel
theorem d_Law_law_973 : decode code 973 = .ok (.iconst (3), 1) := by decide +kernel
theorem d_Law_law_974 : decode code 974 = .ok (.iadd, 1) := by decide +kernel
theorem d_Law_law_975 : decode code 975 = .ok (.iaload, 1) := by decide +kernel
theorem d_Law_law_976 : decode code 976 = .ok (.i2l, 1) := by decide +kernel
theorem d_Law_law_977 : decode code 977 = .ok (.ldc2_w 111, 3) := by decide +kernel
theorem d_Law_law_980 : decode code 980 = .ok (.land, 1) := by decide +kernel
theorem d_Law_law_981 : decode code 981 = .ok (.lor, 1) := by decide +kernel
theorem d_Law_law_982 : decode code 982 = .ok (.invokevirtual 116, 3) := by decide +kernel
theorem d_Law_law_985 : decode code 985 = .ok (.lstore 6, 2) := by decide +kernel
theorem d_Law_law_987 : decode code 987 = .ok (.aload_n 2, 1) := by decide +kernel
theorem d_Law_law_988 : decode code 988 = .ok (.invokevirtual 70, 3) := by decide +kernel
theorem d_Law_law_991 : decode code 991 = .ok (.iload 5, 2) := by decide +kernel
theorem d_Law_law_993 : decode code 993 = .ok (.if_icmp .eq (5), 3) := by decide +kernel
theorem d_Law_law_996 : decode code 996 = .ok (.iconst (0), 1) := by decide +kernel
theorem d_Law_law_997 : decode code 997 = .ok (.ireturn, 1) := by decide +kernel
theorem d_Law_law_998 : decode code 998 = .ok (.iload 5, 2) := by decide +kernel
theorem d_Law_law_1000 : decode code 1000 = .ok (.ifCond .ne (14), 3) := by decide +kernel
theorem d_Law_law_1003 : decode code 1003 = .ok (.aload_n 3, 1) := by decide +kernel
theorem d_Law_law_1004 : decode code 1004 = .ok (.iconst (0), 1) := by decide +kernel
theorem d_Law_law_1005 : decode code 1005 = .ok (.laload, 1) := by decide +kernel
theorem d_Law_law_1006 : decode code 1006 = .ok (.lload 6, 2) := by decide +kernel
theorem d_Law_law_1008 : decode code 1008 = .ok (.lcmp, 1) := by decide +kernel
theorem d_Law_law_1009 : decode code 1009 = .ok (.ifCond .eq (5), 3) := by decide +kernel
theorem d_Law_law_1012 : decode code 1012 = .ok (.iconst (0), 1) := by decide +kernel
theorem d_Law_law_1013 : decode code 1013 = .ok (.ireturn, 1) := by decide +kernel
theorem d_Law_law_1014 : decode code 1014 = .ok (.goto (71), 3) := by decide +kernel
theorem d_Law_law_1017 : decode code 1017 = .ok (.aload_n 1, 1) := by decide +kernel
theorem d_Law_law_1018 : decode code 1018 = .ok (.aload_n 0, 1) := by decide +kernel
theorem d_Law_law_1019 : decode code 1019 = .ok (.iload 4, 2) := by decide +kernel
theorem d_Law_law_1021 : decode code 1021 = .ok (.iconst (1), 1) := by decide +kernel
theorem d_Law_law_1022 : decode code 1022 = .ok (.iadd, 1) := by decide +kernel
theorem d_Law_law_1023 : decode code 1023 = .ok (.iaload, 1) := by decide +kernel
theorem d_Law_law_1024 : decode code 1024 = .ok (.aload_n 0, 1) := by decide +kernel
theorem d_Law_law_1025 : decode code 1025 = .ok (.iload 4, 2) := by decide +kernel
theorem d_Law_law_1027 : decode code 1027 = .ok (.iconst (2), 1) := by decide +kernel
theorem d_Law_law_1028 : decode code 1028 = .ok (.iadd, 1) := by decide +kernel
theorem d_Law_law_1029 : decode code 1029 = .ok (.iaload, 1) := by decide +kernel
theorem d_Law_law_1030 : decode code 1030 = .ok (.aload_n 3, 1) := by decide +kernel
theorem d_Law_law_1031 : decode code 1031 = .ok (.invokestatic 117, 3) := by decide +kernel
theorem d_Law_law_1034 : decode code 1034 = .ok (.istore 5, 2) := by decide +kernel
theorem d_Law_law_1036 : decode code 1036 = .ok (.aload_n 2, 1) := by decide +kernel
theorem d_Law_law_1037 : decode code 1037 = .ok (.aload_n 0, 1) := by decide +kernel
theorem d_Law_law_1038 : decode code 1038 = .ok (.iload 4, 2) := by decide +kernel
theorem d_Law_law_1040 : decode code 1040 = .ok (.iconst (1), 1) := by decide +kernel
theorem d_Law_law_1041 : decode code 1041 = .ok (.iadd, 1) := by decide +kernel
theorem d_Law_law_1042 : decode code 1042 = .ok (.iaload, 1) := by decide +kernel
theorem d_Law_law_1043 : decode code 1043 = .ok (.aload_n 0, 1) := by decide +kernel
theorem d_Law_law_1044 : decode code 1044 = .ok (.iload 4, 2) := by decide +kernel
theorem d_Law_law_1046 : decode code 1046 = .ok (.iconst (2), 1) := by decide +kernel
theorem d_Law_law_1047 : decode code 1047 = .ok (.iadd, 1) := by decide +kernel
theorem d_Law_law_1048 : decode code 1048 = .ok (.iaload, 1) := by decide +kernel
theorem d_Law_law_1049 : decode code 1049 = .ok (.invokevirtual 119, 3) := by decide +kernel
theorem d_Law_law_1052 : decode code 1052 = .ok (.istore 6, 2) := by decide +kernel
theorem d_Law_law_1054 : decode code 1054 = .ok (.aload_n 2, 1) := by decide +kernel
theorem d_Law_law_1055 : decode code 1055 = .ok (.invokevirtual 70, 3) := by decide +kernel
theorem d_Law_law_1058 : decode code 1058 = .ok (.iload 5, 2) := by decide +kernel
theorem d_Law_law_1060 : decode code 1060 = .ok (.if_icmp .eq (5), 3) := by decide +kernel
theorem d_Law_law_1063 : decode code 1063 = .ok (.iconst (0), 1) := by decide +kernel
theorem d_Law_law_1064 : decode code 1064 = .ok (.ireturn, 1) := by decide +kernel
theorem d_Law_law_1065 : decode code 1065 = .ok (.iload 5, 2) := by decide +kernel
theorem d_Law_law_1067 : decode code 1067 = .ok (.ifCond .ne (15), 3) := by decide +kernel
theorem d_Law_law_1070 : decode code 1070 = .ok (.aload_n 3, 1) := by decide +kernel
theorem d_Law_law_1071 : decode code 1071 = .ok (.iconst (0), 1) := by decide +kernel
theorem d_Law_law_1072 : decode code 1072 = .ok (.laload, 1) := by decide +kernel
theorem d_Law_law_1073 : decode code 1073 = .ok (.iload 6, 2) := by decide +kernel
theorem d_Law_law_1075 : decode code 1075 = .ok (.i2l, 1) := by decide +kernel
theorem d_Law_law_1076 : decode code 1076 = .ok (.lcmp, 1) := by decide +kernel
theorem d_Law_law_1077 : decode code 1077 = .ok (.ifCond .eq (5), 3) := by decide +kernel
theorem d_Law_law_1080 : decode code 1080 = .ok (.iconst (0), 1) := by decide +kernel
theorem d_Law_law_1081 : decode code 1081 = .ok (.ireturn, 1) := by decide +kernel
theorem d_Law_law_1082 : decode code 1082 = .ok (.goto (3), 3) := by decide +kernel
theorem d_Law_law_1085 : decode code 1085 = .ok (.iinc 4 (5), 3) := by decide +kernel
theorem d_Law_law_1088 : decode code 1088 = .ok (.goto (-1065), 3) := by decide +kernel
theorem d_Law_law_1091 : decode code 1091 = .ok (.iconst (1), 1) := by decide +kernel
theorem d_Law_law_1092 : decode code 1092 = .ok (.ireturn, 1) := by decide +kernel
section
variable {p : Program} {l : Launch} {e : Env} {s : State} {m : MethodId} {below : List Frame} {meth : Method} {c : Code} {D : va_G} {g : Nat → ClassId} {az : Nat → Nat} {b L : Nat} {xs : Nat → Int32}
set_option maxRecDepth 100000 in
set_option maxHeartbeats 4000000 in
theorem t_Law_law_494 {k23 : Int32 × MS → Option Unit} (htr : l.stackTraces = false) (B : xB p room_1 s m #[Value.ref b] meth c code 8 R_Law (Cond.tt :: x_T) ret 12 490 D x_cl (xty g) s.heap.size) (hho : x_ho s.heap.size s) (hX : va_X b L xs s s.heap) (hbl : b < s.heap.size) (h0 : az 999 = b) (hk23 : ∀ (l4 : Int32) (M : MS) , Sn p l e room_1 s m #[Value.ref b] below meth c 8 D x_cl s.heap.size (xwd g) cM x_gr az (0, 0) x_lf (x_lZ below b s) 23 [] [(0, .ref 999), (1, .ref 0), (2, .ref 97), (3, .ref 123), (4, .int l4)] M (k23 (l4, M))) (l4 : Int32) (s0 : Int64) (s1 : Int64) (M : MS)  : Sn p l e room_1 s m #[Value.ref b] below meth c 8 D x_cl s.heap.size (xwd g) cM x_gr az (0, 0) x_lf (x_lZ below b s) 494 [.long s1, .long s0] [(0, .ref 999), (1, .ref 0), (2, .ref 97), (3, .ref 123), (4, .int l4)] M (m_Law_law_494 xs L k23 l4 s0 s1 M) := by
  unfold m_Law_law_494
  refine s_lcmp B d_Law_law_494 ?_
  refine s_if_eq B d_Law_law_495 rfl (fun _ => ?_) (fun _ => ?_)
  · refine s_goto B d_Law_law_500 rfl ?_
    refine s_iinc (w := (5:Int32)) B d_Law_law_1085 rfl (by decide) (by decide) ?_
    refine s_goto B d_Law_law_1088 rfl ?_
    refine s_pick (lv1 := [(0, .ref 999), (1, .ref 0), (2, .ref 97), (3, .ref 123), (4, .int (l4 + (5:Int32)))]) [0, 1, 2, 3, 4] rfl ?_
    exact hk23 (l4 + (5:Int32)) M
  · refine s_iconst (v := (0:Int32)) B d_Law_law_498 (by decide) ?_
    exact s_none
set_option maxRecDepth 100000 in
set_option maxHeartbeats 4000000 in
theorem t_Law_law_581 {k23 : Int32 × MS → Option Unit} (htr : l.stackTraces = false) (B : xB p room_1 s m #[Value.ref b] meth c code 8 R_Law (Cond.tt :: x_T) ret 12 490 D x_cl (xty g) s.heap.size) (hho : x_ho s.heap.size s) (hX : va_X b L xs s s.heap) (hbl : b < s.heap.size) (h0 : az 999 = b) (hk23 : ∀ (l4 : Int32) (M : MS) , Sn p l e room_1 s m #[Value.ref b] below meth c 8 D x_cl s.heap.size (xwd g) cM x_gr az (0, 0) x_lf (x_lZ below b s) 23 [] [(0, .ref 999), (1, .ref 0), (2, .ref 97), (3, .ref 123), (4, .int l4)] M (k23 (l4, M))) (l4 : Int32) (s0 : Int64) (s1 : Int64) (M : MS)  : Sn p l e room_1 s m #[Value.ref b] below meth c 8 D x_cl s.heap.size (xwd g) cM x_gr az (0, 0) x_lf (x_lZ below b s) 581 [.long s1, .long s0] [(0, .ref 999), (1, .ref 0), (2, .ref 97), (3, .ref 123), (4, .int l4)] M (m_Law_law_581 xs L k23 l4 s0 s1 M) := by
  unfold m_Law_law_581
  refine s_lcmp B d_Law_law_581 ?_
  refine s_if_eq B d_Law_law_582 rfl (fun _ => ?_) (fun _ => ?_)
  · refine s_goto B d_Law_law_587 rfl ?_
    refine s_iinc (w := (5:Int32)) B d_Law_law_1085 rfl (by decide) (by decide) ?_
    refine s_goto B d_Law_law_1088 rfl ?_
    refine s_pick (lv1 := [(0, .ref 999), (1, .ref 0), (2, .ref 97), (3, .ref 123), (4, .int (l4 + (5:Int32)))]) [0, 1, 2, 3, 4] rfl ?_
    exact hk23 (l4 + (5:Int32)) M
  · refine s_iconst (v := (0:Int32)) B d_Law_law_585 (by decide) ?_
    exact s_none
set_option maxRecDepth 100000 in
set_option maxHeartbeats 4000000 in
theorem t_Law_law_23b {k23 : Int32 × MS → Option Unit} (htr : l.stackTraces = false) (B : xB p room_1 s m #[Value.ref b] meth c code 8 R_Law (Cond.tt :: x_T) ret 12 490 D x_cl (xty g) s.heap.size) (hho : x_ho s.heap.size s) (hX : va_X b L xs s s.heap) (hbl : b < s.heap.size) (h0 : az 999 = b) (hk23 : ∀ (l4 : Int32) (M : MS) , Sn p l e room_1 s m #[Value.ref b] below meth c 8 D x_cl s.heap.size (xwd g) cM x_gr az (0, 0) x_lf (x_lZ below b s) 23 [] [(0, .ref 999), (1, .ref 0), (2, .ref 97), (3, .ref 123), (4, .int l4)] M (k23 (l4, M))) (l4 : Int32) (M : MS)  : Sn p l e room_1 s m #[Value.ref b] below meth c 8 D x_cl s.heap.size (xwd g) cM x_gr az (0, 0) x_lf (x_lZ below b s) 23 [] [(0, .ref 999), (1, .ref 0), (2, .ref 97), (3, .ref 123), (4, .int l4)] M (m_Law_law_23b xs L k23 l4 M) := by
  unfold m_Law_law_23b
  refine s_iload B d_Law_law_23 rfl ?_
  refine s_aload_n B d_Law_law_25 rfl ?_
  refine s_slen B hX hbl hbl h0 gr_999 d_Law_law_26 ?_
  refine s_iconst (v := (5:Int32)) B d_Law_law_27 (by decide) ?_
  refine s_isub B d_Law_law_28 ?_
  refine s_icmp_gt B d_Law_law_29 rfl (fun _ => ?_) (fun _ => ?_)
  · refine s_iconst (v := (1:Int32)) B d_Law_law_1091 (by decide) ?_
    exact s_lend B d_Law_law_1092
  · refine s_aload_n B d_Law_law_32 rfl ?_
    refine s_iload B d_Law_law_33 rfl ?_
    refine s_sld B hX hbl hbl h0 gr_999 d_Law_law_35 (fun v1 _ => ?_)
    refine s_bipush (v := (15:Int32)) B d_Law_law_36 (by decide) ?_
    refine s_iand B d_Law_law_38 ?_
    refine s_if (fun h0_ => ?_) (fun h0_ => ?_)
    · refine s_tabIn B d_Law_law_39 (by rw [h0_]; decide) (by rw [h0_]; decide) (by rw [h0_]; rfl) rfl ?_
      refine s_aload_n B d_Law_law_108 rfl ?_
      refine s_aload_n B d_Law_law_109 rfl ?_
      refine s_iload B d_Law_law_110 rfl ?_
      refine s_iconst (v := (1:Int32)) B d_Law_law_112 (by decide) ?_
      refine s_iadd B d_Law_law_113 ?_
      refine s_sld B hX hbl hbl h0 gr_999 d_Law_law_114 (fun v2 _ => ?_)
      refine s_aload_n B d_Law_law_115 rfl ?_
      refine s_iload B d_Law_law_116 rfl ?_
      refine s_iconst (v := (2:Int32)) B d_Law_law_118 (by decide) ?_
      refine s_iadd B d_Law_law_119 ?_
      refine s_sld B hX hbl hbl h0 gr_999 d_Law_law_120 (fun v3 _ => ?_)
      refine s_aload_n B d_Law_law_121 rfl ?_
      refine s_pick (lv1 := [(0, .ref 999), (1, .ref 0), (2, .ref 97), (3, .ref 123), (4, .int l4)]) [0, 1, 2, 3, 4] rfl ?_
      refine s_callH (av := [.ref 0, .int v2, .int v3, .ref 123]) (rest := []) B hho (lk_SW B d_Law_law_122 cd_Law_letters st_Law_letters in_Law ml_Law_64 hs_Law_letters (by decide) (by decide)) rfl rfl (by simp [xng, x_gr, kd_0, kd_123, kd_97, kd_999]) (by simp [Value.category]) rfl (fun r4 e9 => ct_Law_letters htr _ _ _ r4 e9) (fun r4 _ => ?_)
      refine s_istore B d_Law_law_125 (by decide) ?_
      refine s_aload_n B d_Law_law_127 rfl ?_
      refine s_aload_n B d_Law_law_128 rfl ?_
      refine s_iload B d_Law_law_129 rfl ?_
      refine s_iconst (v := (1:Int32)) B d_Law_law_131 (by decide) ?_
      refine s_iadd B d_Law_law_132 ?_
      refine s_sld B hX hbl hbl h0 gr_999 d_Law_law_133 (fun v5 _ => ?_)
      refine s_aload_n B d_Law_law_134 rfl ?_
      refine s_iload B d_Law_law_135 rfl ?_
      refine s_iconst (v := (2:Int32)) B d_Law_law_137 (by decide) ?_
      refine s_iadd B d_Law_law_138 ?_
      refine s_sld B hX hbl hbl h0 gr_999 d_Law_law_139 (fun v6 _ => ?_)
      refine s_pick (lv1 := [(0, .ref 999), (1, .ref 0), (2, .ref 97), (3, .ref 123), (4, .int l4), (5, .int r4.2)]) [0, 1, 2, 3, 4, 5] rfl ?_
      refine s_callI (av := [.ref 97, .int v5, .int v6]) (rest := []) B (lk_V B d_Law_law_140 (gl_Law_69 _) rfl hv_Mo_letters (by decide) (by decide)) rfl (x_rcV B xc_Mo kd_97) (fun _ _ => rfl) rfl rfl (by simp [Value.category]) rfl (fun r7 e9 => ct_Mo_letters _ _ _ r7 e9) (fun r7 _ => ?_)
      refine s_istore B d_Law_law_143 (by decide) ?_
      refine s_aload_n B d_Law_law_145 rfl ?_
      refine s_pick (lv1 := [(0, .ref 999), (1, .ref 0), (2, .ref 97), (3, .ref 123), (4, .int l4), (5, .int r4.2), (6, .int r7.2)]) [0, 1, 2, 3, 4, 5, 6] rfl ?_
      refine s_callI (av := [.ref 97]) (rest := []) B (lk_V B d_Law_law_146 (gl_Law_70 _) rfl hv_Mo_thrown (by decide) (by decide)) rfl (x_rcV B xc_Mo kd_97) (fun _ _ => rfl) rfl rfl (by simp [Value.category]) rfl (fun r8 e9 => ct_Mo_thrown  _ r8 e9) (fun r8 _ => ?_)
      refine s_iload B d_Law_law_149 rfl ?_
      refine s_icmp_eq B d_Law_law_151 rfl (fun _ => ?_) (fun _ => ?_)
      · refine s_iload B d_Law_law_156 rfl ?_
        refine s_if_ne B d_Law_law_158 rfl (fun _ => ?_) (fun _ => ?_)
        · refine s_goto B d_Law_law_173 rfl ?_
          refine s_iinc (w := (5:Int32)) B d_Law_law_1085 rfl (by decide) (by decide) ?_
          refine s_goto B d_Law_law_1088 rfl ?_
          refine s_pick (lv1 := [(0, .ref 999), (1, .ref 0), (2, .ref 97), (3, .ref 123), (4, .int (l4 + (5:Int32)))]) [0, 1, 2, 3, 4] rfl ?_
          exact hk23 (l4 + (5:Int32)) r8.1
        · refine s_aload_n B d_Law_law_161 rfl ?_
          refine s_iconst (v := (0:Int32)) B d_Law_law_162 (by decide) ?_
          refine s_lald B kd_123 d_Law_law_163 (fun v9 _ => ?_)
          refine s_iload B d_Law_law_164 rfl ?_
          refine s_i2l B d_Law_law_166 ?_
          refine s_lcmp B d_Law_law_167 ?_
          refine s_if_eq B d_Law_law_168 rfl (fun _ => ?_) (fun _ => ?_)
          · refine s_goto B d_Law_law_173 rfl ?_
            refine s_iinc (w := (5:Int32)) B d_Law_law_1085 rfl (by decide) (by decide) ?_
            refine s_goto B d_Law_law_1088 rfl ?_
            refine s_pick (lv1 := [(0, .ref 999), (1, .ref 0), (2, .ref 97), (3, .ref 123), (4, .int (l4 + (5:Int32)))]) [0, 1, 2, 3, 4] rfl ?_
            exact hk23 (l4 + (5:Int32)) r8.1
          · refine s_iconst (v := (0:Int32)) B d_Law_law_171 (by decide) ?_
            exact s_none
      · refine s_iconst (v := (0:Int32)) B d_Law_law_154 (by decide) ?_
        exact s_none
    · refine s_if (fun h1_ => ?_) (fun h1_ => ?_)
      · refine s_tabIn B d_Law_law_39 (by rw [h1_]; decide) (by rw [h1_]; decide) (by rw [h1_]; rfl) rfl ?_
        refine s_aload_n B d_Law_law_176 rfl ?_
        refine s_aload_n B d_Law_law_177 rfl ?_
        refine s_iload B d_Law_law_178 rfl ?_
        refine s_iconst (v := (1:Int32)) B d_Law_law_180 (by decide) ?_
        refine s_iadd B d_Law_law_181 ?_
        refine s_sld B hX hbl hbl h0 gr_999 d_Law_law_182 (fun v10 _ => ?_)
        refine s_aload_n B d_Law_law_183 rfl ?_
        refine s_iload B d_Law_law_184 rfl ?_
        refine s_iconst (v := (2:Int32)) B d_Law_law_186 (by decide) ?_
        refine s_iadd B d_Law_law_187 ?_
        refine s_sld B hX hbl hbl h0 gr_999 d_Law_law_188 (fun v11 _ => ?_)
        refine s_aload_n B d_Law_law_189 rfl ?_
        refine s_iload B d_Law_law_190 rfl ?_
        refine s_iconst (v := (3:Int32)) B d_Law_law_192 (by decide) ?_
        refine s_iadd B d_Law_law_193 ?_
        refine s_sld B hX hbl hbl h0 gr_999 d_Law_law_194 (fun v12 _ => ?_)
        refine s_aload_n B d_Law_law_195 rfl ?_
        refine s_iload B d_Law_law_196 rfl ?_
        refine s_iconst (v := (4:Int32)) B d_Law_law_198 (by decide) ?_
        refine s_iadd B d_Law_law_199 ?_
        refine s_sld B hX hbl hbl h0 gr_999 d_Law_law_200 (fun v13 _ => ?_)
        refine s_aload_n B d_Law_law_201 rfl ?_
        refine s_pick (lv1 := [(0, .ref 999), (1, .ref 0), (2, .ref 97), (3, .ref 123), (4, .int l4)]) [0, 1, 2, 3, 4] rfl ?_
        refine s_callH (av := [.ref 0, .int v10, .int v11, .int v12, .int v13, .ref 123]) (rest := []) B hho (lk_SW B d_Law_law_202 cd_Law_join st_Law_join in_Law ml_Law_74 hs_Law_join (by decide) (by decide)) rfl rfl (by simp [xng, x_gr, kd_0, kd_123, kd_97, kd_999]) (by simp [Value.category]) rfl (fun r14 e9 => ct_Law_join htr _ _ _ _ _ r14 e9) (fun r14 _ => ?_)
        refine s_istore B d_Law_law_205 (by decide) ?_
        refine s_aload_n B d_Law_law_207 rfl ?_
        refine s_aload_n B d_Law_law_208 rfl ?_
        refine s_iload B d_Law_law_209 rfl ?_
        refine s_iconst (v := (1:Int32)) B d_Law_law_211 (by decide) ?_
        refine s_iadd B d_Law_law_212 ?_
        refine s_sld B hX hbl hbl h0 gr_999 d_Law_law_213 (fun v15 _ => ?_)
        refine s_aload_n B d_Law_law_214 rfl ?_
        refine s_iload B d_Law_law_215 rfl ?_
        refine s_iconst (v := (2:Int32)) B d_Law_law_217 (by decide) ?_
        refine s_iadd B d_Law_law_218 ?_
        refine s_sld B hX hbl hbl h0 gr_999 d_Law_law_219 (fun v16 _ => ?_)
        refine s_aload_n B d_Law_law_220 rfl ?_
        refine s_iload B d_Law_law_221 rfl ?_
        refine s_iconst (v := (3:Int32)) B d_Law_law_223 (by decide) ?_
        refine s_iadd B d_Law_law_224 ?_
        refine s_sld B hX hbl hbl h0 gr_999 d_Law_law_225 (fun v17 _ => ?_)
        refine s_aload_n B d_Law_law_226 rfl ?_
        refine s_iload B d_Law_law_227 rfl ?_
        refine s_iconst (v := (4:Int32)) B d_Law_law_229 (by decide) ?_
        refine s_iadd B d_Law_law_230 ?_
        refine s_sld B hX hbl hbl h0 gr_999 d_Law_law_231 (fun v18 _ => ?_)
        refine s_pick (lv1 := [(0, .ref 999), (1, .ref 0), (2, .ref 97), (3, .ref 123), (4, .int l4), (5, .int r14.2)]) [0, 1, 2, 3, 4, 5] rfl ?_
        refine s_callI (av := [.ref 97, .int v15, .int v16, .int v17, .int v18]) (rest := []) B (lk_V B d_Law_law_232 (gl_Law_77 _) rfl hv_Mo_join (by decide) (by decide)) rfl (x_rcV B xc_Mo kd_97) (fun _ _ => rfl) rfl rfl (by simp [Value.category]) rfl (fun r19 e9 => ct_Mo_join _ _ _ _ _ r19 e9) (fun r19 _ => ?_)
        refine s_istore B d_Law_law_235 (by decide) ?_
        refine s_aload_n B d_Law_law_237 rfl ?_
        refine s_pick (lv1 := [(0, .ref 999), (1, .ref 0), (2, .ref 97), (3, .ref 123), (4, .int l4), (5, .int r14.2), (6, .int r19.2)]) [0, 1, 2, 3, 4, 5, 6] rfl ?_
        refine s_callI (av := [.ref 97]) (rest := []) B (lk_V B d_Law_law_238 (gl_Law_70 _) rfl hv_Mo_thrown (by decide) (by decide)) rfl (x_rcV B xc_Mo kd_97) (fun _ _ => rfl) rfl rfl (by simp [Value.category]) rfl (fun r20 e9 => ct_Mo_thrown  _ r20 e9) (fun r20 _ => ?_)
        refine s_iload B d_Law_law_241 rfl ?_
        refine s_icmp_eq B d_Law_law_243 rfl (fun _ => ?_) (fun _ => ?_)
        · refine s_iload B d_Law_law_248 rfl ?_
          refine s_if_ne B d_Law_law_250 rfl (fun _ => ?_) (fun _ => ?_)
          · refine s_goto B d_Law_law_265 rfl ?_
            refine s_iinc (w := (5:Int32)) B d_Law_law_1085 rfl (by decide) (by decide) ?_
            refine s_goto B d_Law_law_1088 rfl ?_
            refine s_pick (lv1 := [(0, .ref 999), (1, .ref 0), (2, .ref 97), (3, .ref 123), (4, .int (l4 + (5:Int32)))]) [0, 1, 2, 3, 4] rfl ?_
            exact hk23 (l4 + (5:Int32)) r20.1
          · refine s_aload_n B d_Law_law_253 rfl ?_
            refine s_iconst (v := (0:Int32)) B d_Law_law_254 (by decide) ?_
            refine s_lald B kd_123 d_Law_law_255 (fun v21 _ => ?_)
            refine s_iload B d_Law_law_256 rfl ?_
            refine s_i2l B d_Law_law_258 ?_
            refine s_lcmp B d_Law_law_259 ?_
            refine s_if_eq B d_Law_law_260 rfl (fun _ => ?_) (fun _ => ?_)
            · refine s_goto B d_Law_law_265 rfl ?_
              refine s_iinc (w := (5:Int32)) B d_Law_law_1085 rfl (by decide) (by decide) ?_
              refine s_goto B d_Law_law_1088 rfl ?_
              refine s_pick (lv1 := [(0, .ref 999), (1, .ref 0), (2, .ref 97), (3, .ref 123), (4, .int (l4 + (5:Int32)))]) [0, 1, 2, 3, 4] rfl ?_
              exact hk23 (l4 + (5:Int32)) r20.1
            · refine s_iconst (v := (0:Int32)) B d_Law_law_263 (by decide) ?_
              exact s_none
        · refine s_iconst (v := (0:Int32)) B d_Law_law_246 (by decide) ?_
          exact s_none
      · refine s_if (fun h2_ => ?_) (fun h2_ => ?_)
        · refine s_tabIn B d_Law_law_39 (by rw [h2_]; decide) (by rw [h2_]; decide) (by rw [h2_]; rfl) rfl ?_
          refine s_aload_n B d_Law_law_268 rfl ?_
          refine s_aload_n B d_Law_law_269 rfl ?_
          refine s_iload B d_Law_law_270 rfl ?_
          refine s_iconst (v := (1:Int32)) B d_Law_law_272 (by decide) ?_
          refine s_iadd B d_Law_law_273 ?_
          refine s_sld B hX hbl hbl h0 gr_999 d_Law_law_274 (fun v22 _ => ?_)
          refine s_aload_n B d_Law_law_275 rfl ?_
          refine s_iload B d_Law_law_276 rfl ?_
          refine s_iconst (v := (2:Int32)) B d_Law_law_278 (by decide) ?_
          refine s_iadd B d_Law_law_279 ?_
          refine s_sld B hX hbl hbl h0 gr_999 d_Law_law_280 (fun v23 _ => ?_)
          refine s_aload_n B d_Law_law_281 rfl ?_
          refine s_iload B d_Law_law_282 rfl ?_
          refine s_iconst (v := (3:Int32)) B d_Law_law_284 (by decide) ?_
          refine s_iadd B d_Law_law_285 ?_
          refine s_sld B hX hbl hbl h0 gr_999 d_Law_law_286 (fun v24 _ => ?_)
          refine s_aload_n B d_Law_law_287 rfl ?_
          refine s_pick (lv1 := [(0, .ref 999), (1, .ref 0), (2, .ref 97), (3, .ref 123), (4, .int l4)]) [0, 1, 2, 3, 4] rfl ?_
          refine s_callH (av := [.ref 0, .int v22, .int v23, .int v24, .ref 123]) (rest := []) B hho (lk_SW B d_Law_law_288 cd_Law_turn st_Law_turn in_Law ml_Law_78 hs_Law_turn (by decide) (by decide)) rfl rfl (by simp [xng, x_gr, kd_0, kd_123, kd_97, kd_999]) (by simp [Value.category]) rfl (fun r25 e9 => ct_Law_turn htr _ _ _ _ r25 e9) (fun r25 _ => ?_)
          refine s_istore B d_Law_law_291 (by decide) ?_
          refine s_aload_n B d_Law_law_293 rfl ?_
          refine s_aload_n B d_Law_law_294 rfl ?_
          refine s_iload B d_Law_law_295 rfl ?_
          refine s_iconst (v := (1:Int32)) B d_Law_law_297 (by decide) ?_
          refine s_iadd B d_Law_law_298 ?_
          refine s_sld B hX hbl hbl h0 gr_999 d_Law_law_299 (fun v26 _ => ?_)
          refine s_aload_n B d_Law_law_300 rfl ?_
          refine s_iload B d_Law_law_301 rfl ?_
          refine s_iconst (v := (2:Int32)) B d_Law_law_303 (by decide) ?_
          refine s_iadd B d_Law_law_304 ?_
          refine s_sld B hX hbl hbl h0 gr_999 d_Law_law_305 (fun v27 _ => ?_)
          refine s_aload_n B d_Law_law_306 rfl ?_
          refine s_iload B d_Law_law_307 rfl ?_
          refine s_iconst (v := (3:Int32)) B d_Law_law_309 (by decide) ?_
          refine s_iadd B d_Law_law_310 ?_
          refine s_sld B hX hbl hbl h0 gr_999 d_Law_law_311 (fun v28 _ => ?_)
          refine s_pick (lv1 := [(0, .ref 999), (1, .ref 0), (2, .ref 97), (3, .ref 123), (4, .int l4), (5, .int r25.2)]) [0, 1, 2, 3, 4, 5] rfl ?_
          refine s_callI (av := [.ref 97, .int v26, .int v27, .int v28]) (rest := []) B (lk_V B d_Law_law_312 (gl_Law_81 _) rfl hv_Mo_turn (by decide) (by decide)) rfl (x_rcV B xc_Mo kd_97) (fun _ _ => rfl) rfl rfl (by simp [Value.category]) rfl (fun r29 e9 => ct_Mo_turn _ _ _ _ r29 e9) (fun r29 _ => ?_)
          refine s_istore B d_Law_law_315 (by decide) ?_
          refine s_aload_n B d_Law_law_317 rfl ?_
          refine s_pick (lv1 := [(0, .ref 999), (1, .ref 0), (2, .ref 97), (3, .ref 123), (4, .int l4), (5, .int r25.2), (6, .int r29.2)]) [0, 1, 2, 3, 4, 5, 6] rfl ?_
          refine s_callI (av := [.ref 97]) (rest := []) B (lk_V B d_Law_law_318 (gl_Law_70 _) rfl hv_Mo_thrown (by decide) (by decide)) rfl (x_rcV B xc_Mo kd_97) (fun _ _ => rfl) rfl rfl (by simp [Value.category]) rfl (fun r30 e9 => ct_Mo_thrown  _ r30 e9) (fun r30 _ => ?_)
          refine s_iload B d_Law_law_321 rfl ?_
          refine s_icmp_eq B d_Law_law_323 rfl (fun _ => ?_) (fun _ => ?_)
          · refine s_iload B d_Law_law_328 rfl ?_
            refine s_if_ne B d_Law_law_330 rfl (fun _ => ?_) (fun _ => ?_)
            · refine s_goto B d_Law_law_345 rfl ?_
              refine s_iinc (w := (5:Int32)) B d_Law_law_1085 rfl (by decide) (by decide) ?_
              refine s_goto B d_Law_law_1088 rfl ?_
              refine s_pick (lv1 := [(0, .ref 999), (1, .ref 0), (2, .ref 97), (3, .ref 123), (4, .int (l4 + (5:Int32)))]) [0, 1, 2, 3, 4] rfl ?_
              exact hk23 (l4 + (5:Int32)) r30.1
            · refine s_aload_n B d_Law_law_333 rfl ?_
              refine s_iconst (v := (0:Int32)) B d_Law_law_334 (by decide) ?_
              refine s_lald B kd_123 d_Law_law_335 (fun v31 _ => ?_)
              refine s_iload B d_Law_law_336 rfl ?_
              refine s_i2l B d_Law_law_338 ?_
              refine s_lcmp B d_Law_law_339 ?_
              refine s_if_eq B d_Law_law_340 rfl (fun _ => ?_) (fun _ => ?_)
              · refine s_goto B d_Law_law_345 rfl ?_
                refine s_iinc (w := (5:Int32)) B d_Law_law_1085 rfl (by decide) (by decide) ?_
                refine s_goto B d_Law_law_1088 rfl ?_
                refine s_pick (lv1 := [(0, .ref 999), (1, .ref 0), (2, .ref 97), (3, .ref 123), (4, .int (l4 + (5:Int32)))]) [0, 1, 2, 3, 4] rfl ?_
                exact hk23 (l4 + (5:Int32)) r30.1
              · refine s_iconst (v := (0:Int32)) B d_Law_law_343 (by decide) ?_
                exact s_none
          · refine s_iconst (v := (0:Int32)) B d_Law_law_326 (by decide) ?_
            exact s_none
        · refine s_if (fun h3_ => ?_) (fun h3_ => ?_)
          · refine s_tabIn B d_Law_law_39 (by rw [h3_]; decide) (by rw [h3_]; decide) (by rw [h3_]; rfl) rfl ?_
            refine s_aload_n B d_Law_law_348 rfl ?_
            refine s_aload_n B d_Law_law_349 rfl ?_
            refine s_iload B d_Law_law_350 rfl ?_
            refine s_iconst (v := (1:Int32)) B d_Law_law_352 (by decide) ?_
            refine s_iadd B d_Law_law_353 ?_
            refine s_sld B hX hbl hbl h0 gr_999 d_Law_law_354 (fun v32 _ => ?_)
            refine s_aload_n B d_Law_law_355 rfl ?_
            refine s_iload B d_Law_law_356 rfl ?_
            refine s_iconst (v := (2:Int32)) B d_Law_law_358 (by decide) ?_
            refine s_iadd B d_Law_law_359 ?_
            refine s_sld B hX hbl hbl h0 gr_999 d_Law_law_360 (fun v33 _ => ?_)
            refine s_aload_n B d_Law_law_361 rfl ?_
            refine s_iload B d_Law_law_362 rfl ?_
            refine s_iconst (v := (3:Int32)) B d_Law_law_364 (by decide) ?_
            refine s_iadd B d_Law_law_365 ?_
            refine s_sld B hX hbl hbl h0 gr_999 d_Law_law_366 (fun v34 _ => ?_)
            refine s_aload_n B d_Law_law_367 rfl ?_
            refine s_pick (lv1 := [(0, .ref 999), (1, .ref 0), (2, .ref 97), (3, .ref 123), (4, .int l4)]) [0, 1, 2, 3, 4] rfl ?_
            refine s_callH (av := [.ref 0, .int v32, .int v33, .int v34, .ref 123]) (rest := []) B hho (lk_SW B d_Law_law_368 cd_Law_derive st_Law_derive in_Law ml_Law_82 hs_Law_derive (by decide) (by decide)) rfl rfl (by simp [xng, x_gr, kd_0, kd_123, kd_97, kd_999]) (by simp [Value.category]) rfl (fun r35 e9 => ct_Law_derive htr _ _ _ _ r35 e9) (fun r35 _ => ?_)
            refine s_istore B d_Law_law_371 (by decide) ?_
            refine s_aload_n B d_Law_law_373 rfl ?_
            refine s_aload_n B d_Law_law_374 rfl ?_
            refine s_iload B d_Law_law_375 rfl ?_
            refine s_iconst (v := (1:Int32)) B d_Law_law_377 (by decide) ?_
            refine s_iadd B d_Law_law_378 ?_
            refine s_sld B hX hbl hbl h0 gr_999 d_Law_law_379 (fun v36 _ => ?_)
            refine s_aload_n B d_Law_law_380 rfl ?_
            refine s_iload B d_Law_law_381 rfl ?_
            refine s_iconst (v := (2:Int32)) B d_Law_law_383 (by decide) ?_
            refine s_iadd B d_Law_law_384 ?_
            refine s_sld B hX hbl hbl h0 gr_999 d_Law_law_385 (fun v37 _ => ?_)
            refine s_aload_n B d_Law_law_386 rfl ?_
            refine s_iload B d_Law_law_387 rfl ?_
            refine s_iconst (v := (3:Int32)) B d_Law_law_389 (by decide) ?_
            refine s_iadd B d_Law_law_390 ?_
            refine s_sld B hX hbl hbl h0 gr_999 d_Law_law_391 (fun v38 _ => ?_)
            refine s_pick (lv1 := [(0, .ref 999), (1, .ref 0), (2, .ref 97), (3, .ref 123), (4, .int l4), (5, .int r35.2)]) [0, 1, 2, 3, 4, 5] rfl ?_
            refine s_callI (av := [.ref 97, .int v36, .int v37, .int v38]) (rest := []) B (lk_V B d_Law_law_392 (gl_Law_84 _) rfl hv_Mo_derive (by decide) (by decide)) rfl (x_rcV B xc_Mo kd_97) (fun _ _ => rfl) rfl rfl (by simp [Value.category]) rfl (fun r39 e9 => ct_Mo_derive _ _ _ _ r39 e9) (fun r39 _ => ?_)
            refine s_istore B d_Law_law_395 (by decide) ?_
            refine s_aload_n B d_Law_law_397 rfl ?_
            refine s_pick (lv1 := [(0, .ref 999), (1, .ref 0), (2, .ref 97), (3, .ref 123), (4, .int l4), (5, .int r35.2), (6, .int r39.2)]) [0, 1, 2, 3, 4, 5, 6] rfl ?_
            refine s_callI (av := [.ref 97]) (rest := []) B (lk_V B d_Law_law_398 (gl_Law_70 _) rfl hv_Mo_thrown (by decide) (by decide)) rfl (x_rcV B xc_Mo kd_97) (fun _ _ => rfl) rfl rfl (by simp [Value.category]) rfl (fun r40 e9 => ct_Mo_thrown  _ r40 e9) (fun r40 _ => ?_)
            refine s_iload B d_Law_law_401 rfl ?_
            refine s_icmp_eq B d_Law_law_403 rfl (fun _ => ?_) (fun _ => ?_)
            · refine s_iload B d_Law_law_408 rfl ?_
              refine s_if_ne B d_Law_law_410 rfl (fun _ => ?_) (fun _ => ?_)
              · refine s_goto B d_Law_law_425 rfl ?_
                refine s_iinc (w := (5:Int32)) B d_Law_law_1085 rfl (by decide) (by decide) ?_
                refine s_goto B d_Law_law_1088 rfl ?_
                refine s_pick (lv1 := [(0, .ref 999), (1, .ref 0), (2, .ref 97), (3, .ref 123), (4, .int (l4 + (5:Int32)))]) [0, 1, 2, 3, 4] rfl ?_
                exact hk23 (l4 + (5:Int32)) r40.1
              · refine s_aload_n B d_Law_law_413 rfl ?_
                refine s_iconst (v := (0:Int32)) B d_Law_law_414 (by decide) ?_
                refine s_lald B kd_123 d_Law_law_415 (fun v41 _ => ?_)
                refine s_iload B d_Law_law_416 rfl ?_
                refine s_i2l B d_Law_law_418 ?_
                refine s_lcmp B d_Law_law_419 ?_
                refine s_if_eq B d_Law_law_420 rfl (fun _ => ?_) (fun _ => ?_)
                · refine s_goto B d_Law_law_425 rfl ?_
                  refine s_iinc (w := (5:Int32)) B d_Law_law_1085 rfl (by decide) (by decide) ?_
                  refine s_goto B d_Law_law_1088 rfl ?_
                  refine s_pick (lv1 := [(0, .ref 999), (1, .ref 0), (2, .ref 97), (3, .ref 123), (4, .int (l4 + (5:Int32)))]) [0, 1, 2, 3, 4] rfl ?_
                  exact hk23 (l4 + (5:Int32)) r40.1
                · refine s_iconst (v := (0:Int32)) B d_Law_law_423 (by decide) ?_
                  exact s_none
            · refine s_iconst (v := (0:Int32)) B d_Law_law_406 (by decide) ?_
              exact s_none
          · refine s_if (fun h4_ => ?_) (fun h4_ => ?_)
            · refine s_tabIn B d_Law_law_39 (by rw [h4_]; decide) (by rw [h4_]; decide) (by rw [h4_]; rfl) rfl ?_
              refine s_aload_n B d_Law_law_428 rfl ?_
              refine s_aload_n B d_Law_law_429 rfl ?_
              refine s_iload B d_Law_law_430 rfl ?_
              refine s_iconst (v := (1:Int32)) B d_Law_law_432 (by decide) ?_
              refine s_iadd B d_Law_law_433 ?_
              refine s_sld B hX hbl hbl h0 gr_999 d_Law_law_434 (fun v42 _ => ?_)
              refine s_aload_n B d_Law_law_435 rfl ?_
              refine s_iload B d_Law_law_436 rfl ?_
              refine s_iconst (v := (2:Int32)) B d_Law_law_438 (by decide) ?_
              refine s_iadd B d_Law_law_439 ?_
              refine s_sld B hX hbl hbl h0 gr_999 d_Law_law_440 (fun v43 _ => ?_)
              refine s_aload_n B d_Law_law_441 rfl ?_
              refine s_pick (lv1 := [(0, .ref 999), (1, .ref 0), (2, .ref 97), (3, .ref 123), (4, .int l4)]) [0, 1, 2, 3, 4] rfl ?_
              refine s_callH (av := [.ref 0, .int v42, .int v43, .ref 123]) (rest := []) B hho (lk_SW B d_Law_law_442 cd_Law_similar st_Law_similar in_Law ml_Law_85 hs_Law_similar (by decide) (by decide)) rfl rfl (by simp [xng, x_gr, kd_0, kd_123, kd_97, kd_999]) (by simp [Value.category]) rfl (fun r44 e9 => ct_Law_similar htr _ _ _ r44 e9) (fun r44 _ => ?_)
              refine s_istore B d_Law_law_445 (by decide) ?_
              refine s_aload_n B d_Law_law_447 rfl ?_
              refine s_aload_n B d_Law_law_448 rfl ?_
              refine s_iload B d_Law_law_449 rfl ?_
              refine s_iconst (v := (1:Int32)) B d_Law_law_451 (by decide) ?_
              refine s_iadd B d_Law_law_452 ?_
              refine s_sld B hX hbl hbl h0 gr_999 d_Law_law_453 (fun v45 _ => ?_)
              refine s_aload_n B d_Law_law_454 rfl ?_
              refine s_iload B d_Law_law_455 rfl ?_
              refine s_iconst (v := (2:Int32)) B d_Law_law_457 (by decide) ?_
              refine s_iadd B d_Law_law_458 ?_
              refine s_sld B hX hbl hbl h0 gr_999 d_Law_law_459 (fun v46 _ => ?_)
              refine s_pick (lv1 := [(0, .ref 999), (1, .ref 0), (2, .ref 97), (3, .ref 123), (4, .int l4), (5, .int r44.2)]) [0, 1, 2, 3, 4, 5] rfl ?_
              refine s_callI (av := [.ref 97, .int v45, .int v46]) (rest := []) B (lk_V B d_Law_law_460 (gl_Law_87 _) rfl hv_Mo_similar (by decide) (by decide)) rfl (x_rcV B xc_Mo kd_97) (fun _ _ => rfl) rfl rfl (by simp [Value.category]) rfl (fun r47 e9 => ct_Mo_similar _ _ _ r47 e9) (fun r47 _ => ?_)
              refine s_istore B d_Law_law_463 (by decide) ?_
              refine s_aload_n B d_Law_law_465 rfl ?_
              refine s_pick (lv1 := [(0, .ref 999), (1, .ref 0), (2, .ref 97), (3, .ref 123), (4, .int l4), (5, .int r44.2), (6, .int r47.2)]) [0, 1, 2, 3, 4, 5, 6] rfl ?_
              refine s_callI (av := [.ref 97]) (rest := []) B (lk_V B d_Law_law_466 (gl_Law_70 _) rfl hv_Mo_thrown (by decide) (by decide)) rfl (x_rcV B xc_Mo kd_97) (fun _ _ => rfl) rfl rfl (by simp [Value.category]) rfl (fun r48 e9 => ct_Mo_thrown  _ r48 e9) (fun r48 _ => ?_)
              refine s_iload B d_Law_law_469 rfl ?_
              refine s_icmp_eq B d_Law_law_471 rfl (fun _ => ?_) (fun _ => ?_)
              · refine s_iload B d_Law_law_476 rfl ?_
                refine s_if_ne B d_Law_law_478 rfl (fun _ => ?_) (fun _ => ?_)
                · refine s_goto B d_Law_law_500 rfl ?_
                  refine s_iinc (w := (5:Int32)) B d_Law_law_1085 rfl (by decide) (by decide) ?_
                  refine s_goto B d_Law_law_1088 rfl ?_
                  refine s_pick (lv1 := [(0, .ref 999), (1, .ref 0), (2, .ref 97), (3, .ref 123), (4, .int (l4 + (5:Int32)))]) [0, 1, 2, 3, 4] rfl ?_
                  exact hk23 (l4 + (5:Int32)) r48.1
                · refine s_aload_n B d_Law_law_481 rfl ?_
                  refine s_iconst (v := (0:Int32)) B d_Law_law_482 (by decide) ?_
                  refine s_lald B kd_123 d_Law_law_483 (fun v49 _ => ?_)
                  refine s_iload B d_Law_law_484 rfl ?_
                  refine s_if_eq B d_Law_law_486 rfl (fun _ => ?_) (fun _ => ?_)
                  · refine s_lconst (v := (0:Int64)) B d_Law_law_493 (by decide) ?_
                    refine s_pick (lv1 := [(0, .ref 999), (1, .ref 0), (2, .ref 97), (3, .ref 123), (4, .int l4)]) [0, 1, 2, 3, 4] rfl ?_
                    exact t_Law_law_494 htr B hho hX hbl h0 hk23 l4 v49 (0:Int64) r48.1
                  · refine s_lconst (v := (1:Int64)) B d_Law_law_489 (by decide) ?_
                    refine s_goto B d_Law_law_490 rfl ?_
                    refine s_pick (lv1 := [(0, .ref 999), (1, .ref 0), (2, .ref 97), (3, .ref 123), (4, .int l4)]) [0, 1, 2, 3, 4] rfl ?_
                    exact t_Law_law_494 htr B hho hX hbl h0 hk23 l4 v49 (1:Int64) r48.1
              · refine s_iconst (v := (0:Int32)) B d_Law_law_474 (by decide) ?_
                exact s_none
            · refine s_if (fun h5_ => ?_) (fun h5_ => ?_)
              · refine s_tabIn B d_Law_law_39 (by rw [h5_]; decide) (by rw [h5_]; decide) (by rw [h5_]; rfl) rfl ?_
                refine s_aload_n B d_Law_law_503 rfl ?_
                refine s_aload_n B d_Law_law_504 rfl ?_
                refine s_iload B d_Law_law_505 rfl ?_
                refine s_iconst (v := (1:Int32)) B d_Law_law_507 (by decide) ?_
                refine s_iadd B d_Law_law_508 ?_
                refine s_sld B hX hbl hbl h0 gr_999 d_Law_law_509 (fun v50 _ => ?_)
                refine s_aload_n B d_Law_law_510 rfl ?_
                refine s_iload B d_Law_law_511 rfl ?_
                refine s_iconst (v := (2:Int32)) B d_Law_law_513 (by decide) ?_
                refine s_iadd B d_Law_law_514 ?_
                refine s_sld B hX hbl hbl h0 gr_999 d_Law_law_515 (fun v51 _ => ?_)
                refine s_aload_n B d_Law_law_516 rfl ?_
                refine s_iload B d_Law_law_517 rfl ?_
                refine s_iconst (v := (3:Int32)) B d_Law_law_519 (by decide) ?_
                refine s_iadd B d_Law_law_520 ?_
                refine s_sld B hX hbl hbl h0 gr_999 d_Law_law_521 (fun v52 _ => ?_)
                refine s_aload_n B d_Law_law_522 rfl ?_
                refine s_pick (lv1 := [(0, .ref 999), (1, .ref 0), (2, .ref 97), (3, .ref 123), (4, .int l4)]) [0, 1, 2, 3, 4] rfl ?_
                refine s_callH (av := [.ref 0, .int v50, .int v51, .int v52, .ref 123]) (rest := []) B hho (lk_SW B d_Law_law_523 cd_Law_has st_Law_has in_Law ml_Law_88 hs_Law_has (by decide) (by decide)) rfl rfl (by simp [xng, x_gr, kd_0, kd_123, kd_97, kd_999]) (by simp [Value.category]) rfl (fun r53 e9 => ct_Law_has htr _ _ _ _ r53 e9) (fun r53 _ => ?_)
                refine s_istore B d_Law_law_526 (by decide) ?_
                refine s_aload_n B d_Law_law_528 rfl ?_
                refine s_aload_n B d_Law_law_529 rfl ?_
                refine s_iload B d_Law_law_530 rfl ?_
                refine s_iconst (v := (1:Int32)) B d_Law_law_532 (by decide) ?_
                refine s_iadd B d_Law_law_533 ?_
                refine s_sld B hX hbl hbl h0 gr_999 d_Law_law_534 (fun v54 _ => ?_)
                refine s_aload_n B d_Law_law_535 rfl ?_
                refine s_iload B d_Law_law_536 rfl ?_
                refine s_iconst (v := (2:Int32)) B d_Law_law_538 (by decide) ?_
                refine s_iadd B d_Law_law_539 ?_
                refine s_sld B hX hbl hbl h0 gr_999 d_Law_law_540 (fun v55 _ => ?_)
                refine s_aload_n B d_Law_law_541 rfl ?_
                refine s_iload B d_Law_law_542 rfl ?_
                refine s_iconst (v := (3:Int32)) B d_Law_law_544 (by decide) ?_
                refine s_iadd B d_Law_law_545 ?_
                refine s_sld B hX hbl hbl h0 gr_999 d_Law_law_546 (fun v56 _ => ?_)
                refine s_pick (lv1 := [(0, .ref 999), (1, .ref 0), (2, .ref 97), (3, .ref 123), (4, .int l4), (5, .int r53.2)]) [0, 1, 2, 3, 4, 5] rfl ?_
                refine s_callI (av := [.ref 97, .int v54, .int v55, .int v56]) (rest := []) B (lk_V B d_Law_law_547 (gl_Law_90 _) rfl hv_Mo_has (by decide) (by decide)) rfl (x_rcV B xc_Mo kd_97) (fun _ _ => rfl) rfl rfl (by simp [Value.category]) rfl (fun r57 e9 => ct_Mo_has _ _ _ _ r57 e9) (fun r57 _ => ?_)
                refine s_istore B d_Law_law_550 (by decide) ?_
                refine s_aload_n B d_Law_law_552 rfl ?_
                refine s_pick (lv1 := [(0, .ref 999), (1, .ref 0), (2, .ref 97), (3, .ref 123), (4, .int l4), (5, .int r53.2), (6, .int r57.2)]) [0, 1, 2, 3, 4, 5, 6] rfl ?_
                refine s_callI (av := [.ref 97]) (rest := []) B (lk_V B d_Law_law_553 (gl_Law_70 _) rfl hv_Mo_thrown (by decide) (by decide)) rfl (x_rcV B xc_Mo kd_97) (fun _ _ => rfl) rfl rfl (by simp [Value.category]) rfl (fun r58 e9 => ct_Mo_thrown  _ r58 e9) (fun r58 _ => ?_)
                refine s_iload B d_Law_law_556 rfl ?_
                refine s_icmp_eq B d_Law_law_558 rfl (fun _ => ?_) (fun _ => ?_)
                · refine s_iload B d_Law_law_563 rfl ?_
                  refine s_if_ne B d_Law_law_565 rfl (fun _ => ?_) (fun _ => ?_)
                  · refine s_goto B d_Law_law_587 rfl ?_
                    refine s_iinc (w := (5:Int32)) B d_Law_law_1085 rfl (by decide) (by decide) ?_
                    refine s_goto B d_Law_law_1088 rfl ?_
                    refine s_pick (lv1 := [(0, .ref 999), (1, .ref 0), (2, .ref 97), (3, .ref 123), (4, .int (l4 + (5:Int32)))]) [0, 1, 2, 3, 4] rfl ?_
                    exact hk23 (l4 + (5:Int32)) r58.1
                  · refine s_aload_n B d_Law_law_568 rfl ?_
                    refine s_iconst (v := (0:Int32)) B d_Law_law_569 (by decide) ?_
                    refine s_lald B kd_123 d_Law_law_570 (fun v59 _ => ?_)
                    refine s_iload B d_Law_law_571 rfl ?_
                    refine s_if_eq B d_Law_law_573 rfl (fun _ => ?_) (fun _ => ?_)
                    · refine s_lconst (v := (0:Int64)) B d_Law_law_580 (by decide) ?_
                      refine s_pick (lv1 := [(0, .ref 999), (1, .ref 0), (2, .ref 97), (3, .ref 123), (4, .int l4)]) [0, 1, 2, 3, 4] rfl ?_
                      exact t_Law_law_581 htr B hho hX hbl h0 hk23 l4 v59 (0:Int64) r58.1
                    · refine s_lconst (v := (1:Int64)) B d_Law_law_576 (by decide) ?_
                      refine s_goto B d_Law_law_577 rfl ?_
                      refine s_pick (lv1 := [(0, .ref 999), (1, .ref 0), (2, .ref 97), (3, .ref 123), (4, .int l4)]) [0, 1, 2, 3, 4] rfl ?_
                      exact t_Law_law_581 htr B hho hX hbl h0 hk23 l4 v59 (1:Int64) r58.1
                · refine s_iconst (v := (0:Int32)) B d_Law_law_561 (by decide) ?_
                  exact s_none
              · refine s_if (fun h6_ => ?_) (fun h6_ => ?_)
                · refine s_tabIn B d_Law_law_39 (by rw [h6_]; decide) (by rw [h6_]; decide) (by rw [h6_]; rfl) rfl ?_
                  refine s_aload_n B d_Law_law_590 rfl ?_
                  refine s_aload_n B d_Law_law_591 rfl ?_
                  refine s_iload B d_Law_law_592 rfl ?_
                  refine s_iconst (v := (1:Int32)) B d_Law_law_594 (by decide) ?_
                  refine s_iadd B d_Law_law_595 ?_
                  refine s_sld B hX hbl hbl h0 gr_999 d_Law_law_596 (fun v60 _ => ?_)
                  refine s_aload_n B d_Law_law_597 rfl ?_
                  refine s_pick (lv1 := [(0, .ref 999), (1, .ref 0), (2, .ref 97), (3, .ref 123), (4, .int l4)]) [0, 1, 2, 3, 4] rfl ?_
                  refine s_callH (av := [.ref 0, .int v60, .ref 123]) (rest := []) B hho (lk_SW B d_Law_law_598 cd_Law_states st_Law_states in_Law ml_Law_91 hs_Law_states (by decide) (by decide)) rfl rfl (by simp [xng, x_gr, kd_0, kd_123, kd_97, kd_999]) (by simp [Value.category]) rfl (fun r61 e9 => ct_Law_states htr _ _ r61 e9) (fun r61 _ => ?_)
                  refine s_istore B d_Law_law_601 (by decide) ?_
                  refine s_aload_n B d_Law_law_603 rfl ?_
                  refine s_aload_n B d_Law_law_604 rfl ?_
                  refine s_iload B d_Law_law_605 rfl ?_
                  refine s_iconst (v := (1:Int32)) B d_Law_law_607 (by decide) ?_
                  refine s_iadd B d_Law_law_608 ?_
                  refine s_sld B hX hbl hbl h0 gr_999 d_Law_law_609 (fun v62 _ => ?_)
                  refine s_pick (lv1 := [(0, .ref 999), (1, .ref 0), (2, .ref 97), (3, .ref 123), (4, .int l4), (5, .int r61.2)]) [0, 1, 2, 3, 4, 5] rfl ?_
                  refine s_callI (av := [.ref 97, .int v62]) (rest := []) B (lk_V B d_Law_law_610 (gl_Law_94 _) rfl hv_Mo_states (by decide) (by decide)) rfl (x_rcV B xc_Mo kd_97) (fun _ _ => rfl) rfl rfl (by simp [Value.category]) rfl (fun r63 e9 => ct_Mo_states _ _ r63 e9) (fun r63 _ => ?_)
                  refine s_istore B d_Law_law_613 (by decide) ?_
                  refine s_aload_n B d_Law_law_615 rfl ?_
                  refine s_pick (lv1 := [(0, .ref 999), (1, .ref 0), (2, .ref 97), (3, .ref 123), (4, .int l4), (5, .int r61.2), (6, .int r63.2)]) [0, 1, 2, 3, 4, 5, 6] rfl ?_
                  refine s_callI (av := [.ref 97]) (rest := []) B (lk_V B d_Law_law_616 (gl_Law_70 _) rfl hv_Mo_thrown (by decide) (by decide)) rfl (x_rcV B xc_Mo kd_97) (fun _ _ => rfl) rfl rfl (by simp [Value.category]) rfl (fun r64 e9 => ct_Mo_thrown  _ r64 e9) (fun r64 _ => ?_)
                  refine s_iload B d_Law_law_619 rfl ?_
                  refine s_icmp_eq B d_Law_law_621 rfl (fun _ => ?_) (fun _ => ?_)
                  · refine s_iload B d_Law_law_626 rfl ?_
                    refine s_if_ne B d_Law_law_628 rfl (fun _ => ?_) (fun _ => ?_)
                    · refine s_goto B d_Law_law_643 rfl ?_
                      refine s_iinc (w := (5:Int32)) B d_Law_law_1085 rfl (by decide) (by decide) ?_
                      refine s_goto B d_Law_law_1088 rfl ?_
                      refine s_pick (lv1 := [(0, .ref 999), (1, .ref 0), (2, .ref 97), (3, .ref 123), (4, .int (l4 + (5:Int32)))]) [0, 1, 2, 3, 4] rfl ?_
                      exact hk23 (l4 + (5:Int32)) r64.1
                    · refine s_aload_n B d_Law_law_631 rfl ?_
                      refine s_iconst (v := (0:Int32)) B d_Law_law_632 (by decide) ?_
                      refine s_lald B kd_123 d_Law_law_633 (fun v65 _ => ?_)
                      refine s_iload B d_Law_law_634 rfl ?_
                      refine s_i2l B d_Law_law_636 ?_
                      refine s_lcmp B d_Law_law_637 ?_
                      refine s_if_eq B d_Law_law_638 rfl (fun _ => ?_) (fun _ => ?_)
                      · refine s_goto B d_Law_law_643 rfl ?_
                        refine s_iinc (w := (5:Int32)) B d_Law_law_1085 rfl (by decide) (by decide) ?_
                        refine s_goto B d_Law_law_1088 rfl ?_
                        refine s_pick (lv1 := [(0, .ref 999), (1, .ref 0), (2, .ref 97), (3, .ref 123), (4, .int (l4 + (5:Int32)))]) [0, 1, 2, 3, 4] rfl ?_
                        exact hk23 (l4 + (5:Int32)) r64.1
                      · refine s_iconst (v := (0:Int32)) B d_Law_law_641 (by decide) ?_
                        exact s_none
                  · refine s_iconst (v := (0:Int32)) B d_Law_law_624 (by decide) ?_
                    exact s_none
                · refine s_if (fun h7_ => ?_) (fun h7_ => ?_)
                  · refine s_tabIn B d_Law_law_39 (by rw [h7_]; decide) (by rw [h7_]; decide) (by rw [h7_]; rfl) rfl ?_
                    refine s_aload_n B d_Law_law_646 rfl ?_
                    refine s_aload_n B d_Law_law_647 rfl ?_
                    refine s_iload B d_Law_law_648 rfl ?_
                    refine s_iconst (v := (1:Int32)) B d_Law_law_650 (by decide) ?_
                    refine s_iadd B d_Law_law_651 ?_
                    refine s_sld B hX hbl hbl h0 gr_999 d_Law_law_652 (fun v66 _ => ?_)
                    refine s_aload_n B d_Law_law_653 rfl ?_
                    refine s_pick (lv1 := [(0, .ref 999), (1, .ref 0), (2, .ref 97), (3, .ref 123), (4, .int l4)]) [0, 1, 2, 3, 4] rfl ?_
                    refine s_callH (av := [.ref 0, .int v66, .ref 123]) (rest := []) B hho (lk_SW B d_Law_law_654 cd_Law_languages st_Law_languages in_Law ml_Law_95 hs_Law_languages (by decide) (by decide)) rfl rfl (by simp [xng, x_gr, kd_0, kd_123, kd_97, kd_999]) (by simp [Value.category]) rfl (fun r67 e9 => ct_Law_languages htr _ _ r67 e9) (fun r67 _ => ?_)
                    refine s_istore B d_Law_law_657 (by decide) ?_
                    refine s_aload_n B d_Law_law_659 rfl ?_
                    refine s_aload_n B d_Law_law_660 rfl ?_
                    refine s_iload B d_Law_law_661 rfl ?_
                    refine s_iconst (v := (1:Int32)) B d_Law_law_663 (by decide) ?_
                    refine s_iadd B d_Law_law_664 ?_
                    refine s_sld B hX hbl hbl h0 gr_999 d_Law_law_665 (fun v68 _ => ?_)
                    refine s_pick (lv1 := [(0, .ref 999), (1, .ref 0), (2, .ref 97), (3, .ref 123), (4, .int l4), (5, .int r67.2)]) [0, 1, 2, 3, 4, 5] rfl ?_
                    refine s_callI (av := [.ref 97, .int v68]) (rest := []) B (lk_V B d_Law_law_666 (gl_Law_97 _) rfl hv_Mo_languages (by decide) (by decide)) rfl (x_rcV B xc_Mo kd_97) (fun _ _ => rfl) rfl rfl (by simp [Value.category]) rfl (fun r69 e9 => ct_Mo_languages _ _ r69 e9) (fun r69 _ => ?_)
                    refine s_istore B d_Law_law_669 (by decide) ?_
                    refine s_aload_n B d_Law_law_671 rfl ?_
                    refine s_pick (lv1 := [(0, .ref 999), (1, .ref 0), (2, .ref 97), (3, .ref 123), (4, .int l4), (5, .int r67.2), (6, .int r69.2)]) [0, 1, 2, 3, 4, 5, 6] rfl ?_
                    refine s_callI (av := [.ref 97]) (rest := []) B (lk_V B d_Law_law_672 (gl_Law_70 _) rfl hv_Mo_thrown (by decide) (by decide)) rfl (x_rcV B xc_Mo kd_97) (fun _ _ => rfl) rfl rfl (by simp [Value.category]) rfl (fun r70 e9 => ct_Mo_thrown  _ r70 e9) (fun r70 _ => ?_)
                    refine s_iload B d_Law_law_675 rfl ?_
                    refine s_icmp_eq B d_Law_law_677 rfl (fun _ => ?_) (fun _ => ?_)
                    · refine s_iload B d_Law_law_682 rfl ?_
                      refine s_if_ne B d_Law_law_684 rfl (fun _ => ?_) (fun _ => ?_)
                      · refine s_goto B d_Law_law_699 rfl ?_
                        refine s_iinc (w := (5:Int32)) B d_Law_law_1085 rfl (by decide) (by decide) ?_
                        refine s_goto B d_Law_law_1088 rfl ?_
                        refine s_pick (lv1 := [(0, .ref 999), (1, .ref 0), (2, .ref 97), (3, .ref 123), (4, .int (l4 + (5:Int32)))]) [0, 1, 2, 3, 4] rfl ?_
                        exact hk23 (l4 + (5:Int32)) r70.1
                      · refine s_aload_n B d_Law_law_687 rfl ?_
                        refine s_iconst (v := (0:Int32)) B d_Law_law_688 (by decide) ?_
                        refine s_lald B kd_123 d_Law_law_689 (fun v71 _ => ?_)
                        refine s_iload B d_Law_law_690 rfl ?_
                        refine s_i2l B d_Law_law_692 ?_
                        refine s_lcmp B d_Law_law_693 ?_
                        refine s_if_eq B d_Law_law_694 rfl (fun _ => ?_) (fun _ => ?_)
                        · refine s_goto B d_Law_law_699 rfl ?_
                          refine s_iinc (w := (5:Int32)) B d_Law_law_1085 rfl (by decide) (by decide) ?_
                          refine s_goto B d_Law_law_1088 rfl ?_
                          refine s_pick (lv1 := [(0, .ref 999), (1, .ref 0), (2, .ref 97), (3, .ref 123), (4, .int (l4 + (5:Int32)))]) [0, 1, 2, 3, 4] rfl ?_
                          exact hk23 (l4 + (5:Int32)) r70.1
                        · refine s_iconst (v := (0:Int32)) B d_Law_law_697 (by decide) ?_
                          exact s_none
                    · refine s_iconst (v := (0:Int32)) B d_Law_law_680 (by decide) ?_
                      exact s_none
                  · refine s_if (fun h8_ => ?_) (fun h8_ => ?_)
                    · refine s_tabIn B d_Law_law_39 (by rw [h8_]; decide) (by rw [h8_]; decide) (by rw [h8_]; rfl) rfl ?_
                      refine s_aload_n B d_Law_law_702 rfl ?_
                      refine s_aload_n B d_Law_law_703 rfl ?_
                      refine s_iload B d_Law_law_704 rfl ?_
                      refine s_iconst (v := (1:Int32)) B d_Law_law_706 (by decide) ?_
                      refine s_iadd B d_Law_law_707 ?_
                      refine s_sld B hX hbl hbl h0 gr_999 d_Law_law_708 (fun v72 _ => ?_)
                      refine s_aload_n B d_Law_law_709 rfl ?_
                      refine s_iload B d_Law_law_710 rfl ?_
                      refine s_iconst (v := (2:Int32)) B d_Law_law_712 (by decide) ?_
                      refine s_iadd B d_Law_law_713 ?_
                      refine s_sld B hX hbl hbl h0 gr_999 d_Law_law_714 (fun v73 _ => ?_)
                      refine s_aload_n B d_Law_law_715 rfl ?_
                      refine s_pick (lv1 := [(0, .ref 999), (1, .ref 0), (2, .ref 97), (3, .ref 123), (4, .int l4)]) [0, 1, 2, 3, 4] rfl ?_
                      refine s_callH (av := [.ref 0, .int v72, .int v73, .ref 123]) (rest := []) B hho (lk_SW B d_Law_law_716 cd_Law_equal st_Law_equal in_Law ml_Law_98 hs_Law_equal (by decide) (by decide)) rfl rfl (by simp [xng, x_gr, kd_0, kd_123, kd_97, kd_999]) (by simp [Value.category]) rfl (fun r74 e9 => ct_Law_equal htr _ _ _ r74 e9) (fun r74 _ => ?_)
                      refine s_istore B d_Law_law_719 (by decide) ?_
                      refine s_aload_n B d_Law_law_721 rfl ?_
                      refine s_aload_n B d_Law_law_722 rfl ?_
                      refine s_iload B d_Law_law_723 rfl ?_
                      refine s_iconst (v := (1:Int32)) B d_Law_law_725 (by decide) ?_
                      refine s_iadd B d_Law_law_726 ?_
                      refine s_sld B hX hbl hbl h0 gr_999 d_Law_law_727 (fun v75 _ => ?_)
                      refine s_aload_n B d_Law_law_728 rfl ?_
                      refine s_iload B d_Law_law_729 rfl ?_
                      refine s_iconst (v := (2:Int32)) B d_Law_law_731 (by decide) ?_
                      refine s_iadd B d_Law_law_732 ?_
                      refine s_sld B hX hbl hbl h0 gr_999 d_Law_law_733 (fun v76 _ => ?_)
                      refine s_pick (lv1 := [(0, .ref 999), (1, .ref 0), (2, .ref 97), (3, .ref 123), (4, .int l4), (5, .int r74.2)]) [0, 1, 2, 3, 4, 5] rfl ?_
                      refine s_callI (av := [.ref 97, .int v75, .int v76]) (rest := []) B (lk_V B d_Law_law_734 (gl_Law_100 _) rfl hv_Mo_equal (by decide) (by decide)) rfl (x_rcV B xc_Mo kd_97) (fun _ _ => rfl) rfl rfl (by simp [Value.category]) rfl (fun r77 e9 => ct_Mo_equal _ _ _ r77 e9) (fun r77 _ => ?_)
                      refine s_istore B d_Law_law_737 (by decide) ?_
                      refine s_aload_n B d_Law_law_739 rfl ?_
                      refine s_pick (lv1 := [(0, .ref 999), (1, .ref 0), (2, .ref 97), (3, .ref 123), (4, .int l4), (5, .int r74.2), (6, .int r77.2)]) [0, 1, 2, 3, 4, 5, 6] rfl ?_
                      refine s_callI (av := [.ref 97]) (rest := []) B (lk_V B d_Law_law_740 (gl_Law_70 _) rfl hv_Mo_thrown (by decide) (by decide)) rfl (x_rcV B xc_Mo kd_97) (fun _ _ => rfl) rfl rfl (by simp [Value.category]) rfl (fun r78 e9 => ct_Mo_thrown  _ r78 e9) (fun r78 _ => ?_)
                      refine s_iload B d_Law_law_743 rfl ?_
                      refine s_icmp_eq B d_Law_law_745 rfl (fun _ => ?_) (fun _ => ?_)
                      · refine s_iload B d_Law_law_750 rfl ?_
                        refine s_if_ne B d_Law_law_752 rfl (fun _ => ?_) (fun _ => ?_)
                        · refine s_goto B d_Law_law_767 rfl ?_
                          refine s_iinc (w := (5:Int32)) B d_Law_law_1085 rfl (by decide) (by decide) ?_
                          refine s_goto B d_Law_law_1088 rfl ?_
                          refine s_pick (lv1 := [(0, .ref 999), (1, .ref 0), (2, .ref 97), (3, .ref 123), (4, .int (l4 + (5:Int32)))]) [0, 1, 2, 3, 4] rfl ?_
                          exact hk23 (l4 + (5:Int32)) r78.1
                        · refine s_aload_n B d_Law_law_755 rfl ?_
                          refine s_iconst (v := (0:Int32)) B d_Law_law_756 (by decide) ?_
                          refine s_lald B kd_123 d_Law_law_757 (fun v79 _ => ?_)
                          refine s_iload B d_Law_law_758 rfl ?_
                          refine s_i2l B d_Law_law_760 ?_
                          refine s_lcmp B d_Law_law_761 ?_
                          refine s_if_eq B d_Law_law_762 rfl (fun _ => ?_) (fun _ => ?_)
                          · refine s_goto B d_Law_law_767 rfl ?_
                            refine s_iinc (w := (5:Int32)) B d_Law_law_1085 rfl (by decide) (by decide) ?_
                            refine s_goto B d_Law_law_1088 rfl ?_
                            refine s_pick (lv1 := [(0, .ref 999), (1, .ref 0), (2, .ref 97), (3, .ref 123), (4, .int (l4 + (5:Int32)))]) [0, 1, 2, 3, 4] rfl ?_
                            exact hk23 (l4 + (5:Int32)) r78.1
                          · refine s_iconst (v := (0:Int32)) B d_Law_law_765 (by decide) ?_
                            exact s_none
                      · refine s_iconst (v := (0:Int32)) B d_Law_law_748 (by decide) ?_
                        exact s_none
                    · refine s_if (fun h9_ => ?_) (fun h9_ => ?_)
                      · refine s_tabIn B d_Law_law_39 (by rw [h9_]; decide) (by rw [h9_]; decide) (by rw [h9_]; rfl) rfl ?_
                        refine s_aload_n B d_Law_law_770 rfl ?_
                        refine s_aload_n B d_Law_law_771 rfl ?_
                        refine s_iload B d_Law_law_772 rfl ?_
                        refine s_iconst (v := (1:Int32)) B d_Law_law_774 (by decide) ?_
                        refine s_iadd B d_Law_law_775 ?_
                        refine s_sld B hX hbl hbl h0 gr_999 d_Law_law_776 (fun v80 _ => ?_)
                        refine s_pick (lv1 := [(0, .ref 999), (1, .ref 0), (2, .ref 97), (3, .ref 123), (4, .int l4)]) [0, 1, 2, 3, 4] rfl ?_
                        refine s_callI (av := [.ref 0, .int v80]) (rest := []) B (lk_V B d_Law_law_777 (gl_Law_101 _) rfl hv_D_witness (by decide) (by decide)) rfl (x_rcV B xc_D kd_0) (fun _ _ => rfl) rfl rfl (by simp [Value.category]) rfl (fun r81 e9 => ct_D_witness _ _ r81 e9) (fun r81 _ => ?_)
                        refine s_aload_n B d_Law_law_780 rfl ?_
                        refine s_aload_n B d_Law_law_781 rfl ?_
                        refine s_iload B d_Law_law_782 rfl ?_
                        refine s_iconst (v := (1:Int32)) B d_Law_law_784 (by decide) ?_
                        refine s_iadd B d_Law_law_785 ?_
                        refine s_sld B hX hbl hbl h0 gr_999 d_Law_law_786 (fun v82 _ => ?_)
                        refine s_pick (lv1 := [(0, .ref 999), (1, .ref 0), (2, .ref 97), (3, .ref 123), (4, .int l4)]) [0, 1, 2, 3, 4] rfl ?_
                        refine s_callI (av := [.ref 97, .int v82]) (rest := [.int r81.2]) B (lk_V B d_Law_law_787 (gl_Law_104 _) rfl hv_Mo_witness (by decide) (by decide)) rfl (x_rcV B xc_Mo kd_97) (fun _ _ => rfl) rfl rfl (by simp [Value.category]) rfl (fun r83 e9 => ct_Mo_witness _ _ r83 e9) (fun r83 _ => ?_)
                        refine s_icmp_eq B d_Law_law_790 rfl (fun _ => ?_) (fun _ => ?_)
                        · refine s_iinc (w := (5:Int32)) B d_Law_law_1085 rfl (by decide) (by decide) ?_
                          refine s_goto B d_Law_law_1088 rfl ?_
                          refine s_pick (lv1 := [(0, .ref 999), (1, .ref 0), (2, .ref 97), (3, .ref 123), (4, .int (l4 + (5:Int32)))]) [0, 1, 2, 3, 4] rfl ?_
                          exact hk23 (l4 + (5:Int32)) r83.1
                        · refine s_iconst (v := (0:Int32)) B d_Law_law_793 (by decide) ?_
                          exact s_none
                      · refine s_if (fun h10_ => ?_) (fun h10_ => ?_)
                        · refine s_tabIn B d_Law_law_39 (by rw [h10_]; decide) (by rw [h10_]; decide) (by rw [h10_]; rfl) rfl ?_
                          refine s_aload_n B d_Law_law_795 rfl ?_
                          refine s_aload_n B d_Law_law_796 rfl ?_
                          refine s_iload B d_Law_law_797 rfl ?_
                          refine s_iconst (v := (1:Int32)) B d_Law_law_799 (by decide) ?_
                          refine s_iadd B d_Law_law_800 ?_
                          refine s_sld B hX hbl hbl h0 gr_999 d_Law_law_801 (fun v84 _ => ?_)
                          refine s_aload_n B d_Law_law_802 rfl ?_
                          refine s_iload B d_Law_law_803 rfl ?_
                          refine s_iconst (v := (2:Int32)) B d_Law_law_805 (by decide) ?_
                          refine s_iadd B d_Law_law_806 ?_
                          refine s_sld B hX hbl hbl h0 gr_999 d_Law_law_807 (fun v85 _ => ?_)
                          refine s_aload_n B d_Law_law_808 rfl ?_
                          refine s_pick (lv1 := [(0, .ref 999), (1, .ref 0), (2, .ref 97), (3, .ref 123), (4, .int l4)]) [0, 1, 2, 3, 4] rfl ?_
                          refine s_callH (av := [.ref 0, .int v84, .int v85, .ref 123]) (rest := []) B hho (lk_SW B d_Law_law_809 cd_Law_words st_Law_words in_Law ml_Law_105 hs_Law_words (by decide) (by decide)) rfl rfl (by simp [xng, x_gr, kd_0, kd_123, kd_97, kd_999]) (by simp [Value.category]) rfl (fun r86 e9 => ct_Law_words htr _ _ _ r86 e9) (fun r86 _ => ?_)
                          refine s_istore B d_Law_law_812 (by decide) ?_
                          refine s_aload_n B d_Law_law_814 rfl ?_
                          refine s_aload_n B d_Law_law_815 rfl ?_
                          refine s_iload B d_Law_law_816 rfl ?_
                          refine s_iconst (v := (1:Int32)) B d_Law_law_818 (by decide) ?_
                          refine s_iadd B d_Law_law_819 ?_
                          refine s_sld B hX hbl hbl h0 gr_999 d_Law_law_820 (fun v87 _ => ?_)
                          refine s_aload_n B d_Law_law_821 rfl ?_
                          refine s_iload B d_Law_law_822 rfl ?_
                          refine s_iconst (v := (2:Int32)) B d_Law_law_824 (by decide) ?_
                          refine s_iadd B d_Law_law_825 ?_
                          refine s_sld B hX hbl hbl h0 gr_999 d_Law_law_826 (fun v88 _ => ?_)
                          refine s_pick (lv1 := [(0, .ref 999), (1, .ref 0), (2, .ref 97), (3, .ref 123), (4, .int l4), (5, .int r86.2)]) [0, 1, 2, 3, 4, 5] rfl ?_
                          refine s_callL (av := [.ref 97, .int v87, .int v88]) (rest := []) B (lk_V B d_Law_law_827 (gl_Law_107 _) rfl hv_Mo_words (by decide) (by decide)) rfl (x_rcV B xc_Mo kd_97) (fun _ _ => rfl) rfl rfl (by simp [Value.category]) rfl (fun r89 e9 => ct_Mo_words _ _ _ r89 e9) (fun r89 _ => ?_)
                          refine s_lstore B d_Law_law_830 (by decide) ?_
                          refine s_aload_n B d_Law_law_832 rfl ?_
                          refine s_pick (lv1 := [(0, .ref 999), (1, .ref 0), (2, .ref 97), (3, .ref 123), (4, .int l4), (5, .int r86.2), (6, .long r89.2)]) [0, 1, 2, 3, 4, 5, 6] rfl ?_
                          refine s_callI (av := [.ref 97]) (rest := []) B (lk_V B d_Law_law_833 (gl_Law_70 _) rfl hv_Mo_thrown (by decide) (by decide)) rfl (x_rcV B xc_Mo kd_97) (fun _ _ => rfl) rfl rfl (by simp [Value.category]) rfl (fun r90 e9 => ct_Mo_thrown  _ r90 e9) (fun r90 _ => ?_)
                          refine s_iload B d_Law_law_836 rfl ?_
                          refine s_icmp_eq B d_Law_law_838 rfl (fun _ => ?_) (fun _ => ?_)
                          · refine s_iload B d_Law_law_843 rfl ?_
                            refine s_if_ne B d_Law_law_845 rfl (fun _ => ?_) (fun _ => ?_)
                            · refine s_goto B d_Law_law_859 rfl ?_
                              refine s_iinc (w := (5:Int32)) B d_Law_law_1085 rfl (by decide) (by decide) ?_
                              refine s_goto B d_Law_law_1088 rfl ?_
                              refine s_pick (lv1 := [(0, .ref 999), (1, .ref 0), (2, .ref 97), (3, .ref 123), (4, .int (l4 + (5:Int32)))]) [0, 1, 2, 3, 4] rfl ?_
                              exact hk23 (l4 + (5:Int32)) r90.1
                            · refine s_aload_n B d_Law_law_848 rfl ?_
                              refine s_iconst (v := (0:Int32)) B d_Law_law_849 (by decide) ?_
                              refine s_lald B kd_123 d_Law_law_850 (fun v91 _ => ?_)
                              refine s_lload B d_Law_law_851 rfl ?_
                              refine s_lcmp B d_Law_law_853 ?_
                              refine s_if_eq B d_Law_law_854 rfl (fun _ => ?_) (fun _ => ?_)
                              · refine s_goto B d_Law_law_859 rfl ?_
                                refine s_iinc (w := (5:Int32)) B d_Law_law_1085 rfl (by decide) (by decide) ?_
                                refine s_goto B d_Law_law_1088 rfl ?_
                                refine s_pick (lv1 := [(0, .ref 999), (1, .ref 0), (2, .ref 97), (3, .ref 123), (4, .int (l4 + (5:Int32)))]) [0, 1, 2, 3, 4] rfl ?_
                                exact hk23 (l4 + (5:Int32)) r90.1
                              · refine s_iconst (v := (0:Int32)) B d_Law_law_857 (by decide) ?_
                                exact s_none
                          · refine s_iconst (v := (0:Int32)) B d_Law_law_841 (by decide) ?_
                            exact s_none
                        · refine s_if (fun h11_ => ?_) (fun h11_ => ?_)
                          · refine s_tabIn B d_Law_law_39 (by rw [h11_]; decide) (by rw [h11_]; decide) (by rw [h11_]; rfl) rfl ?_
                            refine s_aload_n B d_Law_law_862 rfl ?_
                            refine s_aload_n B d_Law_law_863 rfl ?_
                            refine s_iload B d_Law_law_864 rfl ?_
                            refine s_iconst (v := (1:Int32)) B d_Law_law_866 (by decide) ?_
                            refine s_iadd B d_Law_law_867 ?_
                            refine s_sld B hX hbl hbl h0 gr_999 d_Law_law_868 (fun v92 _ => ?_)
                            refine s_aload_n B d_Law_law_869 rfl ?_
                            refine s_pick (lv1 := [(0, .ref 999), (1, .ref 0), (2, .ref 97), (3, .ref 123), (4, .int l4)]) [0, 1, 2, 3, 4] rfl ?_
                            refine s_callH (av := [.ref 0, .int v92, .ref 123]) (rest := []) B hho (lk_SW B d_Law_law_870 cd_Law_ends st_Law_ends in_Law ml_Law_108 hs_Law_ends (by decide) (by decide)) rfl rfl (by simp [xng, x_gr, kd_0, kd_123, kd_97, kd_999]) (by simp [Value.category]) rfl (fun r93 e9 => ct_Law_ends htr _ _ r93 e9) (fun r93 _ => ?_)
                            refine s_istore B d_Law_law_873 (by decide) ?_
                            refine s_aload_n B d_Law_law_875 rfl ?_
                            refine s_aload_n B d_Law_law_876 rfl ?_
                            refine s_iload B d_Law_law_877 rfl ?_
                            refine s_iconst (v := (1:Int32)) B d_Law_law_879 (by decide) ?_
                            refine s_iadd B d_Law_law_880 ?_
                            refine s_sld B hX hbl hbl h0 gr_999 d_Law_law_881 (fun v94 _ => ?_)
                            refine s_pick (lv1 := [(0, .ref 999), (1, .ref 0), (2, .ref 97), (3, .ref 123), (4, .int l4), (5, .int r93.2)]) [0, 1, 2, 3, 4, 5] rfl ?_
                            refine s_callI (av := [.ref 97, .int v94]) (rest := []) B (lk_V B d_Law_law_882 (gl_Law_110 _) rfl hv_Mo_ends (by decide) (by decide)) rfl (x_rcV B xc_Mo kd_97) (fun _ _ => rfl) rfl rfl (by simp [Value.category]) rfl (fun r95 e9 => ct_Mo_ends _ _ r95 e9) (fun r95 _ => ?_)
                            refine s_istore B d_Law_law_885 (by decide) ?_
                            refine s_aload_n B d_Law_law_887 rfl ?_
                            refine s_pick (lv1 := [(0, .ref 999), (1, .ref 0), (2, .ref 97), (3, .ref 123), (4, .int l4), (5, .int r93.2), (6, .int r95.2)]) [0, 1, 2, 3, 4, 5, 6] rfl ?_
                            refine s_callI (av := [.ref 97]) (rest := []) B (lk_V B d_Law_law_888 (gl_Law_70 _) rfl hv_Mo_thrown (by decide) (by decide)) rfl (x_rcV B xc_Mo kd_97) (fun _ _ => rfl) rfl rfl (by simp [Value.category]) rfl (fun r96 e9 => ct_Mo_thrown  _ r96 e9) (fun r96 _ => ?_)
                            refine s_iload B d_Law_law_891 rfl ?_
                            refine s_icmp_eq B d_Law_law_893 rfl (fun _ => ?_) (fun _ => ?_)
                            · refine s_iload B d_Law_law_898 rfl ?_
                              refine s_if_ne B d_Law_law_900 rfl (fun _ => ?_) (fun _ => ?_)
                              · refine s_goto B d_Law_law_915 rfl ?_
                                refine s_iinc (w := (5:Int32)) B d_Law_law_1085 rfl (by decide) (by decide) ?_
                                refine s_goto B d_Law_law_1088 rfl ?_
                                refine s_pick (lv1 := [(0, .ref 999), (1, .ref 0), (2, .ref 97), (3, .ref 123), (4, .int (l4 + (5:Int32)))]) [0, 1, 2, 3, 4] rfl ?_
                                exact hk23 (l4 + (5:Int32)) r96.1
                              · refine s_aload_n B d_Law_law_903 rfl ?_
                                refine s_iconst (v := (0:Int32)) B d_Law_law_904 (by decide) ?_
                                refine s_lald B kd_123 d_Law_law_905 (fun v97 _ => ?_)
                                refine s_iload B d_Law_law_906 rfl ?_
                                refine s_i2l B d_Law_law_908 ?_
                                refine s_lcmp B d_Law_law_909 ?_
                                refine s_if_eq B d_Law_law_910 rfl (fun _ => ?_) (fun _ => ?_)
                                · refine s_goto B d_Law_law_915 rfl ?_
                                  refine s_iinc (w := (5:Int32)) B d_Law_law_1085 rfl (by decide) (by decide) ?_
                                  refine s_goto B d_Law_law_1088 rfl ?_
                                  refine s_pick (lv1 := [(0, .ref 999), (1, .ref 0), (2, .ref 97), (3, .ref 123), (4, .int (l4 + (5:Int32)))]) [0, 1, 2, 3, 4] rfl ?_
                                  exact hk23 (l4 + (5:Int32)) r96.1
                                · refine s_iconst (v := (0:Int32)) B d_Law_law_913 (by decide) ?_
                                  exact s_none
                            · refine s_iconst (v := (0:Int32)) B d_Law_law_896 (by decide) ?_
                              exact s_none
                          · refine s_if (fun h12_ => ?_) (fun h12_ => ?_)
                            · refine s_tabIn B d_Law_law_39 (by rw [h12_]; decide) (by rw [h12_]; decide) (by rw [h12_]; rfl) rfl ?_
                              refine s_aload_n B d_Law_law_918 rfl ?_
                              refine s_aload_n B d_Law_law_919 rfl ?_
                              refine s_iload B d_Law_law_920 rfl ?_
                              refine s_iconst (v := (1:Int32)) B d_Law_law_922 (by decide) ?_
                              refine s_iadd B d_Law_law_923 ?_
                              refine s_sld B hX hbl hbl h0 gr_999 d_Law_law_924 (fun v98 _ => ?_)
                              refine s_aload_n B d_Law_law_925 rfl ?_
                              refine s_iload B d_Law_law_926 rfl ?_
                              refine s_iconst (v := (2:Int32)) B d_Law_law_928 (by decide) ?_
                              refine s_iadd B d_Law_law_929 ?_
                              refine s_sld B hX hbl hbl h0 gr_999 d_Law_law_930 (fun v99 _ => ?_)
                              refine s_i2l B d_Law_law_931 ?_
                              refine s_bipush (v := (32:Int32)) B d_Law_law_932 (by decide) ?_
                              refine s_lshl B d_Law_law_934 ?_
                              refine s_aload_n B d_Law_law_935 rfl ?_
                              refine s_iload B d_Law_law_936 rfl ?_
                              refine s_iconst (v := (3:Int32)) B d_Law_law_938 (by decide) ?_
                              refine s_iadd B d_Law_law_939 ?_
                              refine s_sld B hX hbl hbl h0 gr_999 d_Law_law_940 (fun v100 _ => ?_)
                              refine s_i2l B d_Law_law_941 ?_
                              refine s_ldc2 (v := (4294967295:Int64)) B d_Law_law_942 (List.mem_cons_of_mem _ cs_Law_111) ?_
                              refine s_land B d_Law_law_945 ?_
                              refine s_lor B d_Law_law_946 ?_
                              refine s_aload_n B d_Law_law_947 rfl ?_
                              refine s_pick (lv1 := [(0, .ref 999), (1, .ref 0), (2, .ref 97), (3, .ref 123), (4, .int l4)]) [0, 1, 2, 3, 4] rfl ?_
                              refine s_callH (av := [.ref 0, .int v98, .long ((v99.toInt64 <<< ((32:Int32).toInt64 &&& 63)) ||| (v100.toInt64 &&& (4294967295:Int64))), .ref 123]) (rest := []) B hho (lk_SW B d_Law_law_948 cd_Law_find st_Law_find in_Law ml_Law_113 hs_Law_find (by decide) (by decide)) rfl rfl (by simp [xng, x_gr, kd_0, kd_123, kd_97, kd_999]) (by simp [Value.category]) rfl (fun r101 e9 => ct_Law_find htr _ _ _ r101 e9) (fun r101 _ => ?_)
                              refine s_istore B d_Law_law_951 (by decide) ?_
                              refine s_aload_n B d_Law_law_953 rfl ?_
                              refine s_aload_n B d_Law_law_954 rfl ?_
                              refine s_iload B d_Law_law_955 rfl ?_
                              refine s_iconst (v := (1:Int32)) B d_Law_law_957 (by decide) ?_
                              refine s_iadd B d_Law_law_958 ?_
                              refine s_sld B hX hbl hbl h0 gr_999 d_Law_law_959 (fun v102 _ => ?_)
                              refine s_aload_n B d_Law_law_960 rfl ?_
                              refine s_iload B d_Law_law_961 rfl ?_
                              refine s_iconst (v := (2:Int32)) B d_Law_law_963 (by decide) ?_
                              refine s_iadd B d_Law_law_964 ?_
                              refine s_sld B hX hbl hbl h0 gr_999 d_Law_law_965 (fun v103 _ => ?_)
                              refine s_i2l B d_Law_law_966 ?_
                              refine s_bipush (v := (32:Int32)) B d_Law_law_967 (by decide) ?_
                              refine s_lshl B d_Law_law_969 ?_
                              refine s_aload_n B d_Law_law_970 rfl ?_
                              refine s_iload B d_Law_law_971 rfl ?_
                              refine s_iconst (v := (3:Int32)) B d_Law_law_973 (by decide) ?_
                              refine s_iadd B d_Law_law_974 ?_
                              refine s_sld B hX hbl hbl h0 gr_999 d_Law_law_975 (fun v104 _ => ?_)
                              refine s_i2l B d_Law_law_976 ?_
                              refine s_ldc2 (v := (4294967295:Int64)) B d_Law_law_977 (List.mem_cons_of_mem _ cs_Law_111) ?_
                              refine s_land B d_Law_law_980 ?_
                              refine s_lor B d_Law_law_981 ?_
                              refine s_pick (lv1 := [(0, .ref 999), (1, .ref 0), (2, .ref 97), (3, .ref 123), (4, .int l4), (5, .int r101.2)]) [0, 1, 2, 3, 4, 5] rfl ?_
                              refine s_callL (av := [.ref 97, .int v102, .long ((v103.toInt64 <<< ((32:Int32).toInt64 &&& 63)) ||| (v104.toInt64 &&& (4294967295:Int64)))]) (rest := []) B (lk_V B d_Law_law_982 (gl_Law_116 _) rfl hv_Mo_find (by decide) (by decide)) rfl (x_rcV B xc_Mo kd_97) (fun _ _ => rfl) rfl rfl (by simp [Value.category]) rfl (fun r105 e9 => ct_Mo_find _ _ _ r105 e9) (fun r105 _ => ?_)
                              refine s_lstore B d_Law_law_985 (by decide) ?_
                              refine s_aload_n B d_Law_law_987 rfl ?_
                              refine s_pick (lv1 := [(0, .ref 999), (1, .ref 0), (2, .ref 97), (3, .ref 123), (4, .int l4), (5, .int r101.2), (6, .long r105.2)]) [0, 1, 2, 3, 4, 5, 6] rfl ?_
                              refine s_callI (av := [.ref 97]) (rest := []) B (lk_V B d_Law_law_988 (gl_Law_70 _) rfl hv_Mo_thrown (by decide) (by decide)) rfl (x_rcV B xc_Mo kd_97) (fun _ _ => rfl) rfl rfl (by simp [Value.category]) rfl (fun r106 e9 => ct_Mo_thrown  _ r106 e9) (fun r106 _ => ?_)
                              refine s_iload B d_Law_law_991 rfl ?_
                              refine s_icmp_eq B d_Law_law_993 rfl (fun _ => ?_) (fun _ => ?_)
                              · refine s_iload B d_Law_law_998 rfl ?_
                                refine s_if_ne B d_Law_law_1000 rfl (fun _ => ?_) (fun _ => ?_)
                                · refine s_goto B d_Law_law_1014 rfl ?_
                                  refine s_iinc (w := (5:Int32)) B d_Law_law_1085 rfl (by decide) (by decide) ?_
                                  refine s_goto B d_Law_law_1088 rfl ?_
                                  refine s_pick (lv1 := [(0, .ref 999), (1, .ref 0), (2, .ref 97), (3, .ref 123), (4, .int (l4 + (5:Int32)))]) [0, 1, 2, 3, 4] rfl ?_
                                  exact hk23 (l4 + (5:Int32)) r106.1
                                · refine s_aload_n B d_Law_law_1003 rfl ?_
                                  refine s_iconst (v := (0:Int32)) B d_Law_law_1004 (by decide) ?_
                                  refine s_lald B kd_123 d_Law_law_1005 (fun v107 _ => ?_)
                                  refine s_lload B d_Law_law_1006 rfl ?_
                                  refine s_lcmp B d_Law_law_1008 ?_
                                  refine s_if_eq B d_Law_law_1009 rfl (fun _ => ?_) (fun _ => ?_)
                                  · refine s_goto B d_Law_law_1014 rfl ?_
                                    refine s_iinc (w := (5:Int32)) B d_Law_law_1085 rfl (by decide) (by decide) ?_
                                    refine s_goto B d_Law_law_1088 rfl ?_
                                    refine s_pick (lv1 := [(0, .ref 999), (1, .ref 0), (2, .ref 97), (3, .ref 123), (4, .int (l4 + (5:Int32)))]) [0, 1, 2, 3, 4] rfl ?_
                                    exact hk23 (l4 + (5:Int32)) r106.1
                                  · refine s_iconst (v := (0:Int32)) B d_Law_law_1012 (by decide) ?_
                                    exact s_none
                              · refine s_iconst (v := (0:Int32)) B d_Law_law_996 (by decide) ?_
                                exact s_none
                            · refine s_if (fun h13_ => ?_) (fun h13_ => ?_)
                              · refine s_tabIn B d_Law_law_39 (by rw [h13_]; decide) (by rw [h13_]; decide) (by rw [h13_]; rfl) rfl ?_
                                refine s_aload_n B d_Law_law_1017 rfl ?_
                                refine s_aload_n B d_Law_law_1018 rfl ?_
                                refine s_iload B d_Law_law_1019 rfl ?_
                                refine s_iconst (v := (1:Int32)) B d_Law_law_1021 (by decide) ?_
                                refine s_iadd B d_Law_law_1022 ?_
                                refine s_sld B hX hbl hbl h0 gr_999 d_Law_law_1023 (fun v108 _ => ?_)
                                refine s_aload_n B d_Law_law_1024 rfl ?_
                                refine s_iload B d_Law_law_1025 rfl ?_
                                refine s_iconst (v := (2:Int32)) B d_Law_law_1027 (by decide) ?_
                                refine s_iadd B d_Law_law_1028 ?_
                                refine s_sld B hX hbl hbl h0 gr_999 d_Law_law_1029 (fun v109 _ => ?_)
                                refine s_aload_n B d_Law_law_1030 rfl ?_
                                refine s_pick (lv1 := [(0, .ref 999), (1, .ref 0), (2, .ref 97), (3, .ref 123), (4, .int l4)]) [0, 1, 2, 3, 4] rfl ?_
                                refine s_callH (av := [.ref 0, .int v108, .int v109, .ref 123]) (rest := []) B hho (lk_SW B d_Law_law_1031 cd_Law_look st_Law_look in_Law ml_Law_117 hs_Law_look (by decide) (by decide)) rfl rfl (by simp [xng, x_gr, kd_0, kd_123, kd_97, kd_999]) (by simp [Value.category]) rfl (fun r110 e9 => ct_Law_look htr _ _ _ r110 e9) (fun r110 _ => ?_)
                                refine s_istore B d_Law_law_1034 (by decide) ?_
                                refine s_aload_n B d_Law_law_1036 rfl ?_
                                refine s_aload_n B d_Law_law_1037 rfl ?_
                                refine s_iload B d_Law_law_1038 rfl ?_
                                refine s_iconst (v := (1:Int32)) B d_Law_law_1040 (by decide) ?_
                                refine s_iadd B d_Law_law_1041 ?_
                                refine s_sld B hX hbl hbl h0 gr_999 d_Law_law_1042 (fun v111 _ => ?_)
                                refine s_aload_n B d_Law_law_1043 rfl ?_
                                refine s_iload B d_Law_law_1044 rfl ?_
                                refine s_iconst (v := (2:Int32)) B d_Law_law_1046 (by decide) ?_
                                refine s_iadd B d_Law_law_1047 ?_
                                refine s_sld B hX hbl hbl h0 gr_999 d_Law_law_1048 (fun v112 _ => ?_)
                                refine s_pick (lv1 := [(0, .ref 999), (1, .ref 0), (2, .ref 97), (3, .ref 123), (4, .int l4), (5, .int r110.2)]) [0, 1, 2, 3, 4, 5] rfl ?_
                                refine s_callI (av := [.ref 97, .int v111, .int v112]) (rest := []) B (lk_V B d_Law_law_1049 (gl_Law_119 _) rfl hv_Mo_look (by decide) (by decide)) rfl (x_rcV B xc_Mo kd_97) (fun _ _ => rfl) rfl rfl (by simp [Value.category]) rfl (fun r113 e9 => ct_Mo_look _ _ _ r113 e9) (fun r113 _ => ?_)
                                refine s_istore B d_Law_law_1052 (by decide) ?_
                                refine s_aload_n B d_Law_law_1054 rfl ?_
                                refine s_pick (lv1 := [(0, .ref 999), (1, .ref 0), (2, .ref 97), (3, .ref 123), (4, .int l4), (5, .int r110.2), (6, .int r113.2)]) [0, 1, 2, 3, 4, 5, 6] rfl ?_
                                refine s_callI (av := [.ref 97]) (rest := []) B (lk_V B d_Law_law_1055 (gl_Law_70 _) rfl hv_Mo_thrown (by decide) (by decide)) rfl (x_rcV B xc_Mo kd_97) (fun _ _ => rfl) rfl rfl (by simp [Value.category]) rfl (fun r114 e9 => ct_Mo_thrown  _ r114 e9) (fun r114 _ => ?_)
                                refine s_iload B d_Law_law_1058 rfl ?_
                                refine s_icmp_eq B d_Law_law_1060 rfl (fun _ => ?_) (fun _ => ?_)
                                · refine s_iload B d_Law_law_1065 rfl ?_
                                  refine s_if_ne B d_Law_law_1067 rfl (fun _ => ?_) (fun _ => ?_)
                                  · refine s_goto B d_Law_law_1082 rfl ?_
                                    refine s_iinc (w := (5:Int32)) B d_Law_law_1085 rfl (by decide) (by decide) ?_
                                    refine s_goto B d_Law_law_1088 rfl ?_
                                    refine s_pick (lv1 := [(0, .ref 999), (1, .ref 0), (2, .ref 97), (3, .ref 123), (4, .int (l4 + (5:Int32)))]) [0, 1, 2, 3, 4] rfl ?_
                                    exact hk23 (l4 + (5:Int32)) r114.1
                                  · refine s_aload_n B d_Law_law_1070 rfl ?_
                                    refine s_iconst (v := (0:Int32)) B d_Law_law_1071 (by decide) ?_
                                    refine s_lald B kd_123 d_Law_law_1072 (fun v115 _ => ?_)
                                    refine s_iload B d_Law_law_1073 rfl ?_
                                    refine s_i2l B d_Law_law_1075 ?_
                                    refine s_lcmp B d_Law_law_1076 ?_
                                    refine s_if_eq B d_Law_law_1077 rfl (fun _ => ?_) (fun _ => ?_)
                                    · refine s_goto B d_Law_law_1082 rfl ?_
                                      refine s_iinc (w := (5:Int32)) B d_Law_law_1085 rfl (by decide) (by decide) ?_
                                      refine s_goto B d_Law_law_1088 rfl ?_
                                      refine s_pick (lv1 := [(0, .ref 999), (1, .ref 0), (2, .ref 97), (3, .ref 123), (4, .int (l4 + (5:Int32)))]) [0, 1, 2, 3, 4] rfl ?_
                                      exact hk23 (l4 + (5:Int32)) r114.1
                                    · refine s_iconst (v := (0:Int32)) B d_Law_law_1080 (by decide) ?_
                                      exact s_none
                                · refine s_iconst (v := (0:Int32)) B d_Law_law_1063 (by decide) ?_
                                  exact s_none
                              · refine s_tabOut B d_Law_law_39 (by have q0 := lv_neT h0_ (by decide : (0:Int32).toInt = 0); have q1 := lv_neT h1_ (by decide : (1:Int32).toInt = 1); have q2 := lv_neT h2_ (by decide : (2:Int32).toInt = 2); have q3 := lv_neT h3_ (by decide : (3:Int32).toInt = 3); have q4 := lv_neT h4_ (by decide : (4:Int32).toInt = 4); have q5 := lv_neT h5_ (by decide : (5:Int32).toInt = 5); have q6 := lv_neT h6_ (by decide : (6:Int32).toInt = 6); have q7 := lv_neT h7_ (by decide : (7:Int32).toInt = 7); have q8 := lv_neT h8_ (by decide : (8:Int32).toInt = 8); have q9 := lv_neT h9_ (by decide : (9:Int32).toInt = 9); have q10 := lv_neT h10_ (by decide : (10:Int32).toInt = 10); have q11 := lv_neT h11_ (by decide : (11:Int32).toInt = 11); have q12 := lv_neT h12_ (by decide : (12:Int32).toInt = 12); have q13 := lv_neT h13_ (by decide : (13:Int32).toInt = 13); omega) rfl ?_
                                refine s_iinc (w := (5:Int32)) B d_Law_law_1085 rfl (by decide) (by decide) ?_
                                refine s_goto B d_Law_law_1088 rfl ?_
                                refine s_pick (lv1 := [(0, .ref 999), (1, .ref 0), (2, .ref 97), (3, .ref 123), (4, .int (l4 + (5:Int32)))]) [0, 1, 2, 3, 4] rfl ?_
                                exact hk23 (l4 + (5:Int32)) M
set_option maxRecDepth 100000 in
set_option maxHeartbeats 4000000 in
theorem t_Law_law_23  (htr : l.stackTraces = false) (B : xB p room_1 s m #[Value.ref b] meth c code 8 R_Law (Cond.tt :: x_T) ret 12 490 D x_cl (xty g) s.heap.size) (hho : x_ho s.heap.size s) (hX : va_X b L xs s s.heap) (hbl : b < s.heap.size) (h0 : az 999 = b)  (l4 : Int32) (M : MS)  : Sn p l e room_1 s m #[Value.ref b] below meth c 8 D x_cl s.heap.size (xwd g) cM x_gr az (0, 0) x_lf (x_lZ below b s) 23 [] [(0, .ref 999), (1, .ref 0), (2, .ref 97), (3, .ref 123), (4, .int l4)] M (m_Law_law_23 xs L (l4, M)) := by
  have q : ∀ (F : Nat) (i : Int32 × MS), Sn p l e room_1 s m #[Value.ref b] below meth c 8 D x_cl s.heap.size (xwd g) cM x_gr az (0, 0) x_lf (x_lZ below b s) 23 [] [(0, .ref 999), (1, .ref 0), (2, .ref 97), (3, .ref 123), (4, .int i.1)] i.2 (fx (fun (k : Int32 × MS → Option Unit) (i : Int32 × MS) => m_Law_law_23b xs L k i.1 i.2) F i) := by
    intro F
    induction F with
    | zero => intro i ; exact s_none
    | succ F ih => intro i ; exact t_Law_law_23b htr B hho hX hbl h0  (fun l4 M  => ih (l4, M) ) i.1 i.2 
  exact q FU (l4, M) 
set_option maxRecDepth 100000 in
set_option maxHeartbeats 4000000 in
theorem t_Law_law (htr : l.stackTraces = false) (B : xB p room_1 s m #[Value.ref b] meth c code 8 R_Law (Cond.tt :: x_T) ret 12 490 D x_cl (xty g) s.heap.size) (hho : x_ho s.heap.size s) (hX : va_X b L xs s s.heap) (hbl : b < s.heap.size) (h0 : az 999 = b) (M : MS) : Sn p l e room_1 s m #[Value.ref b] below meth c 8 D x_cl s.heap.size (xwd g) cM x_gr az (0, 0) x_lf (x_lZ below b s) 20 [] [(0, .ref 999), (1, .ref 0), (2, .ref 97), (3, .ref 123)] M (m_Law_law xs L M) := by
  unfold m_Law_law
  refine s_iconst (v := (0:Int32)) B d_Law_law_20 (by decide) ?_
  refine s_istore B d_Law_law_21 (by decide) ?_
  refine s_pick (lv1 := [(0, .ref 999), (1, .ref 0), (2, .ref 97), (3, .ref 123), (4, .int (0:Int32))]) [0, 1, 2, 3, 4] rfl ?_
  exact t_Law_law_23 htr B hho hX hbl h0 (0:Int32) M
end
