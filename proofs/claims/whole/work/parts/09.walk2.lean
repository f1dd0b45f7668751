theorem d_Terms_cat_0 : decode b_Terms_cat 0 = .ok (.iload_n 1, 1) := by decide +kernel
theorem d_Terms_cat_1 : decode b_Terms_cat 1 = .ok (.ifCond .eq (7), 3) := by decide +kernel
theorem d_Terms_cat_4 : decode b_Terms_cat 4 = .ok (.iload_n 2, 1) := by decide +kernel
theorem d_Terms_cat_5 : decode b_Terms_cat 5 = .ok (.ifCond .ne (5), 3) := by decide +kernel
theorem d_Terms_cat_8 : decode b_Terms_cat 8 = .ok (.iconst (0), 1) := by decide +kernel
theorem d_Terms_cat_9 : decode b_Terms_cat 9 = .ok (.ireturn, 1) := by decide +kernel
theorem d_Terms_cat_10 : decode b_Terms_cat 10 = .ok (.iload_n 1, 1) := by decide +kernel
theorem d_Terms_cat_11 : decode b_Terms_cat 11 = .ok (.bipush (16), 2) := by decide +kernel
theorem d_Terms_cat_13 : decode b_Terms_cat 13 = .ok (.if_icmp .ne (5), 3) := by decide +kernel
theorem d_Terms_cat_16 : decode b_Terms_cat 16 = .ok (.iload_n 2, 1) := by decide +kernel
theorem d_Terms_cat_17 : decode b_Terms_cat 17 = .ok (.ireturn, 1) := by decide +kernel
theorem d_Terms_cat_18 : decode b_Terms_cat 18 = .ok (.iload_n 2, 1) := by decide +kernel
theorem d_Terms_cat_19 : decode b_Terms_cat 19 = .ok (.bipush (16), 2) := by decide +kernel
theorem d_Terms_cat_21 : decode b_Terms_cat 21 = .ok (.if_icmp .ne (5), 3) := by decide +kernel
theorem d_Terms_cat_24 : decode b_Terms_cat 24 = .ok (.iload_n 1, 1) := by decide +kernel
theorem d_Terms_cat_25 : decode b_Terms_cat 25 = .ok (.ireturn, 1) := by decide +kernel
theorem d_Terms_cat_26 : decode b_Terms_cat 26 = .ok (.aload_n 0, 1) := by decide +kernel
theorem d_Terms_cat_27 : decode b_Terms_cat 27 = .ok (.getfield 55, 3) := by decide +kernel
theorem d_Terms_cat_30 : decode b_Terms_cat 30 = .ok (.invokevirtual 87, 3) := by decide +kernel
theorem d_Terms_cat_33 : decode b_Terms_cat 33 = .ok (.iload_n 1, 1) := by decide +kernel
theorem d_Terms_cat_34 : decode b_Terms_cat 34 = .ok (.istore_n 3, 1) := by decide +kernel
theorem d_Terms_cat_35 : decode b_Terms_cat 35 = .ok (.iconst (0), 1) := by decide +kernel
theorem d_Terms_cat_36 : decode b_Terms_cat 36 = .ok (.istore 4, 2) := by decide +kernel
theorem d_Terms_cat_38 : decode b_Terms_cat 38 = .ok (.iload 4, 2) := by decide +kernel
theorem d_Terms_cat_40 : decode b_Terms_cat 40 = .ok (.ldc 90, 2) := by decide +kernel
theorem d_Terms_cat_42 : decode b_Terms_cat 42 = .ok (.if_icmp .ge (39), 3) := by decide +kernel
theorem d_Terms_cat_45 : decode b_Terms_cat 45 = .ok (.aload_n 0, 1) := by decide +kernel
theorem d_Terms_cat_46 : decode b_Terms_cat 46 = .ok (.getfield 11, 3) := by decide +kernel
theorem d_Terms_cat_49 : decode b_Terms_cat 49 = .ok (.iload_n 3, 1) := by decide +kernel
theorem d_Terms_cat_50 : decode b_Terms_cat 50 = .ok (.iaload, 1) := by decide +kernel
theorem d_Terms_cat_51 : decode b_Terms_cat 51 = .ok (.iconst (3), 1) := by decide +kernel
theorem d_Terms_cat_52 : decode b_Terms_cat 52 = .ok (.if_icmp .ne (29), 3) := by decide +kernel
theorem d_Terms_cat_55 : decode b_Terms_cat 55 = .ok (.aload_n 0, 1) := by decide +kernel
theorem d_Terms_cat_56 : decode b_Terms_cat 56 = .ok (.getfield 55, 3) := by decide +kernel
theorem d_Terms_cat_59 : decode b_Terms_cat 59 = .ok (.aload_n 0, 1) := by decide +kernel
theorem d_Terms_cat_60 : decode b_Terms_cat 60 = .ok (.iload_n 3, 1) := by decide +kernel
theorem d_Terms_cat_61 : decode b_Terms_cat 61 = .ok (.iconst (0), 1) := by decide +kernel
theorem d_Terms_cat_62 : decode b_Terms_cat 62 = .ok (.invokevirtual 91, 3) := by decide +kernel
theorem d_Terms_cat_65 : decode b_Terms_cat 65 = .ok (.invokevirtual 95, 3) := by decide +kernel
theorem d_Terms_cat_68 : decode b_Terms_cat 68 = .ok (.aload_n 0, 1) := by decide +kernel
theorem d_Terms_cat_69 : decode b_Terms_cat 69 = .ok (.iload_n 3, 1) := by decide +kernel
theorem d_Terms_cat_70 : decode b_Terms_cat 70 = .ok (.iconst (1), 1) := by decide +kernel
theorem d_Terms_cat_71 : decode b_Terms_cat 71 = .ok (.invokevirtual 91, 3) := by decide +kernel
theorem d_Terms_cat_74 : decode b_Terms_cat 74 = .ok (.istore_n 3, 1) := by decide +kernel
theorem d_Terms_cat_75 : decode b_Terms_cat 75 = .ok (.iinc 4 (1), 3) := by decide +kernel
theorem d_Terms_cat_78 : decode b_Terms_cat 78 = .ok (.goto (-40), 3) := by decide +kernel
theorem d_Terms_cat_81 : decode b_Terms_cat 81 = .ok (.aload_n 0, 1) := by decide +kernel
theorem d_Terms_cat_82 : decode b_Terms_cat 82 = .ok (.getfield 55, 3) := by decide +kernel
theorem d_Terms_cat_85 : decode b_Terms_cat 85 = .ok (.iload_n 3, 1) := by decide +kernel
theorem d_Terms_cat_86 : decode b_Terms_cat 86 = .ok (.invokevirtual 95, 3) := by decide +kernel
theorem d_Terms_cat_89 : decode b_Terms_cat 89 = .ok (.iload_n 2, 1) := by decide +kernel
theorem d_Terms_cat_90 : decode b_Terms_cat 90 = .ok (.istore 4, 2) := by decide +kernel
theorem d_Terms_cat_92 : decode b_Terms_cat 92 = .ok (.aload_n 0, 1) := by decide +kernel
theorem d_Terms_cat_93 : decode b_Terms_cat 93 = .ok (.getfield 55, 3) := by decide +kernel
theorem d_Terms_cat_96 : decode b_Terms_cat 96 = .ok (.invokevirtual 99, 3) := by decide +kernel
theorem d_Terms_cat_99 : decode b_Terms_cat 99 = .ok (.iconst (1), 1) := by decide +kernel
theorem d_Terms_cat_100 : decode b_Terms_cat 100 = .ok (.isub, 1) := by decide +kernel
theorem d_Terms_cat_101 : decode b_Terms_cat 101 = .ok (.istore 5, 2) := by decide +kernel
theorem d_Terms_cat_103 : decode b_Terms_cat 103 = .ok (.iload 5, 2) := by decide +kernel
theorem d_Terms_cat_105 : decode b_Terms_cat 105 = .ok (.ifCond .lt (52), 3) := by decide +kernel
theorem d_Terms_cat_108 : decode b_Terms_cat 108 = .ok (.aload_n 0, 1) := by decide +kernel
theorem d_Terms_cat_109 : decode b_Terms_cat 109 = .ok (.getfield 51, 3) := by decide +kernel
theorem d_Terms_cat_112 : decode b_Terms_cat 112 = .ok (.invokevirtual 87, 3) := by decide +kernel
theorem d_Terms_cat_115 : decode b_Terms_cat 115 = .ok (.aload_n 0, 1) := by decide +kernel
theorem d_Terms_cat_116 : decode b_Terms_cat 116 = .ok (.getfield 51, 3) := by decide +kernel
theorem d_Terms_cat_119 : decode b_Terms_cat 119 = .ok (.aload_n 0, 1) := by decide +kernel
theorem d_Terms_cat_120 : decode b_Terms_cat 120 = .ok (.getfield 55, 3) := by decide +kernel
theorem d_Terms_cat_123 : decode b_Terms_cat 123 = .ok (.iload 5, 2) := by decide +kernel
theorem d_Terms_cat_125 : decode b_Terms_cat 125 = .ok (.invokevirtual 102, 3) := by decide +kernel
theorem d_Terms_cat_128 : decode b_Terms_cat 128 = .ok (.invokevirtual 95, 3) := by decide +kernel
theorem d_Terms_cat_131 : decode b_Terms_cat 131 = .ok (.aload_n 0, 1) := by decide +kernel
theorem d_Terms_cat_132 : decode b_Terms_cat 132 = .ok (.getfield 51, 3) := by decide +kernel
theorem d_Terms_cat_135 : decode b_Terms_cat 135 = .ok (.iload 4, 2) := by decide +kernel
theorem d_Terms_cat_137 : decode b_Terms_cat 137 = .ok (.invokevirtual 95, 3) := by decide +kernel
theorem d_Terms_cat_140 : decode b_Terms_cat 140 = .ok (.aload_n 0, 1) := by decide +kernel
theorem d_Terms_cat_141 : decode b_Terms_cat 141 = .ok (.iconst (3), 1) := by decide +kernel
theorem d_Terms_cat_142 : decode b_Terms_cat 142 = .ok (.aload_n 0, 1) := by decide +kernel
theorem d_Terms_cat_143 : decode b_Terms_cat 143 = .ok (.getfield 51, 3) := by decide +kernel
theorem d_Terms_cat_146 : decode b_Terms_cat 146 = .ok (.invokevirtual 106, 3) := by decide +kernel
theorem d_Terms_cat_149 : decode b_Terms_cat 149 = .ok (.istore 4, 2) := by decide +kernel
theorem d_Terms_cat_151 : decode b_Terms_cat 151 = .ok (.iinc 5 (-1), 3) := by decide +kernel
theorem d_Terms_cat_154 : decode b_Terms_cat 154 = .ok (.goto (-51), 3) := by decide +kernel
theorem d_Terms_cat_157 : decode b_Terms_cat 157 = .ok (.iload 4, 2) := by decide +kernel
theorem d_Terms_cat_159 : decode b_Terms_cat 159 = .ok (.ireturn, 1) := by decide +kernel
section
variable {p : Program} {l : Launch} {e : Env} {R : Room} {s : State} {m : MethodId} {args : Array Value} {below : List Frame} {meth : Method} {c : Code} {D : va_G} {base : Nat} {g : Nat → ClassId} {az : Nat → Nat} {kz : Nat × Nat}
set_option maxRecDepth 100000 in
set_option maxHeartbeats 4000000 in
theorem t_Terms_cat_103b {k103 : Int32 × Int32 × MS → Option (MS × Int32)} (B : xB p R s m args meth c b_Terms_cat 6 R_Terms (Cond.code y_Terms_cat b_Terms_cat 6 (some .int) :: x_T) (some .int) 6 137 D x_cl (xty g) base) (hk103 : ∀ (l4 : Int32) (l5 : Int32) (M : MS) , Sn p l e R s m args below meth c 6 D x_cl base (xwd g) cM x_gr az kz (xfc cM) (xZ below args s D x_cl (xty g) base (xwd g) cM x_gr az kz ovI) 103 [] [(0, .ref 2), (4, .int l4), (5, .int l5)] M (k103 (l4, l5, M))) (l4 : Int32) (l5 : Int32) (M : MS)  : Sn p l e R s m args below meth c 6 D x_cl base (xwd g) cM x_gr az kz (xfc cM) (xZ below args s D x_cl (xty g) base (xwd g) cM x_gr az kz ovI) 103 [] [(0, .ref 2), (4, .int l4), (5, .int l5)] M (m_Terms_cat_103b k103 l4 l5 M) := by
  unfold m_Terms_cat_103b
  refine s_iload B d_Terms_cat_103 rfl ?_
  refine s_if_lt B d_Terms_cat_105 rfl (fun _ => ?_) (fun _ => ?_)
  · refine s_iload B d_Terms_cat_157 rfl ?_
    exact s_iret B d_Terms_cat_159
  · refine s_aload_n B d_Terms_cat_108 rfl ?_
    refine s_getS (k := 12) (n := 15) B xc_Terms kd_2 (by decide) rfl rfl fl_Terms_51 sr_2_12 d_Terms_cat_109 ?_
    refine s_pick (lv1 := [(0, .ref 2), (4, .int l4), (5, .int l5)]) [0, 4, 5] rfl ?_
    refine s_callU (av := [.ref 15]) (rest := []) B (lk_V B d_Terms_cat_112 (gl_Terms_87 _) rfl hv_Row_clear (by decide) (by decide)) rfl (x_rcV B xc_Row kd_15) (fun _ _ => rfl) rfl rfl (by simp [Value.category]) rfl (fun r1 e9 => ct_Row_clear _ _ r1 e9) (fun r1 _ => ?_)
    refine s_aload_n B d_Terms_cat_115 rfl ?_
    refine s_getS (k := 12) (n := 15) B xc_Terms kd_2 (by decide) rfl rfl fl_Terms_51 sr_2_12 d_Terms_cat_116 ?_
    refine s_aload_n B d_Terms_cat_119 rfl ?_
    refine s_getS (k := 13) (n := 17) B xc_Terms kd_2 (by decide) rfl rfl fl_Terms_55 sr_2_13 d_Terms_cat_120 ?_
    refine s_iload B d_Terms_cat_123 rfl ?_
    refine s_pick (lv1 := [(0, .ref 2), (4, .int l4), (5, .int l5)]) [0, 4, 5] rfl ?_
    refine s_callI (av := [.ref 17, .int l5]) (rest := [.ref 15]) B (lk_V B d_Terms_cat_125 (gl_Terms_102 _) rfl hv_Row_get (by decide) (by decide)) rfl (x_rcV B xc_Row kd_17) (fun _ _ => rfl) rfl rfl (by simp [Value.category]) rfl (fun r2 e9 => ct_Row_get _ _ _ r2 e9) (fun r2 _ => ?_)
    refine s_pick (lv1 := [(0, .ref 2), (4, .int l4), (5, .int l5)]) [0, 4, 5] rfl ?_
    refine s_callU (av := [.ref 15, .int r2.2]) (rest := []) B (lk_V B d_Terms_cat_128 (gl_Terms_95 _) rfl hv_Row_add (by decide) (by decide)) rfl (x_rcV B xc_Row kd_15) (fun _ h => h) rfl (by simp [xng, x_gr, kd_2]) (by simp [Value.category]) rfl (fun r3 e9 => ct_Row_add _ _ _ r3 e9) (fun r3 _ => ?_)
    refine s_aload_n B d_Terms_cat_131 rfl ?_
    refine s_getS (k := 12) (n := 15) B xc_Terms kd_2 (by decide) rfl rfl fl_Terms_51 sr_2_12 d_Terms_cat_132 ?_
    refine s_iload B d_Terms_cat_135 rfl ?_
    refine s_pick (lv1 := [(0, .ref 2), (5, .int l5)]) [0, 5] rfl ?_
    refine s_callU (av := [.ref 15, .int l4]) (rest := []) B (lk_V B d_Terms_cat_137 (gl_Terms_95 _) rfl hv_Row_add (by decide) (by decide)) rfl (x_rcV B xc_Row kd_15) (fun _ h => h) rfl (by simp [xng, x_gr, kd_2]) (by simp [Value.category]) rfl (fun r4 e9 => ct_Row_add _ _ _ r4 e9) (fun r4 _ => ?_)
    refine s_aload_n B d_Terms_cat_140 rfl ?_
    refine s_iconst (v := (3:Int32)) B d_Terms_cat_141 (by decide) ?_
    refine s_aload_n B d_Terms_cat_142 rfl ?_
    refine s_getS (k := 12) (n := 15) B xc_Terms kd_2 (by decide) rfl rfl fl_Terms_51 sr_2_12 d_Terms_cat_143 ?_
    refine s_pick (lv1 := [(0, .ref 2), (5, .int l5)]) [0, 5] rfl ?_
    refine s_callI (av := [.ref 2, .int (3:Int32), .ref 15]) (rest := []) B (lk_V B d_Terms_cat_146 (gl_Terms_106 _) rfl hv_Terms_node (by decide) (by decide)) rfl (x_rcV B xc_Terms kd_2) (fun _ h => h) rfl (by simp [xng, x_gr, kd_2]) (by simp [Value.category]) rfl (fun r5 e9 => ct_Terms_node _ _ _ r5 e9) (fun r5 _ => ?_)
    refine s_istore B d_Terms_cat_149 (by decide) ?_
    refine s_iinc (w := (-1:Int32)) B d_Terms_cat_151 rfl (by decide) (by decide) ?_
    refine s_goto B d_Terms_cat_154 rfl ?_
    refine s_pick (lv1 := [(0, .ref 2), (4, .int r5.2), (5, .int (l5 + (-1:Int32)))]) [0, 4, 5] rfl ?_
    exact hk103 r5.2 (l5 + (-1:Int32)) r5.1
set_option maxRecDepth 100000 in
set_option maxHeartbeats 4000000 in
theorem t_Terms_cat_103  (B : xB p R s m args meth c b_Terms_cat 6 R_Terms (Cond.code y_Terms_cat b_Terms_cat 6 (some .int) :: x_T) (some .int) 6 137 D x_cl (xty g) base)  (l4 : Int32) (l5 : Int32) (M : MS)  : Sn p l e R s m args below meth c 6 D x_cl base (xwd g) cM x_gr az kz (xfc cM) (xZ below args s D x_cl (xty g) base (xwd g) cM x_gr az kz ovI) 103 [] [(0, .ref 2), (4, .int l4), (5, .int l5)] M (m_Terms_cat_103 (l4, l5, M)) := by
  have q : ∀ (F : Nat) (i : Int32 × Int32 × MS), Sn p l e R s m args below meth c 6 D x_cl base (xwd g) cM x_gr az kz (xfc cM) (xZ below args s D x_cl (xty g) base (xwd g) cM x_gr az kz ovI) 103 [] [(0, .ref 2), (4, .int i.1), (5, .int i.2.1)] i.2.2 (fx (fun (k : Int32 × Int32 × MS → Option (MS × Int32)) (i : Int32 × Int32 × MS) => m_Terms_cat_103b k i.1 i.2.1 i.2.2) F i) := by
    intro F
    induction F with
    | zero => intro i ; exact s_none
    | succ F ih => intro i ; exact t_Terms_cat_103b B  (fun l4 l5 M  => ih (l4, l5, M) ) i.1 i.2.1 i.2.2 
  exact q FU (l4, l5, M) 
set_option maxRecDepth 100000 in
set_option maxHeartbeats 4000000 in
theorem t_Terms_cat_81  (B : xB p R s m args meth c b_Terms_cat 6 R_Terms (Cond.code y_Terms_cat b_Terms_cat 6 (some .int) :: x_T) (some .int) 6 137 D x_cl (xty g) base)  (l2 : Int32) (l3 : Int32) (M : MS)  : Sn p l e R s m args below meth c 6 D x_cl base (xwd g) cM x_gr az kz (xfc cM) (xZ below args s D x_cl (xty g) base (xwd g) cM x_gr az kz ovI) 81 [] [(0, .ref 2), (2, .int l2), (3, .int l3)] M (m_Terms_cat_81 l2 l3 M) := by
  unfold m_Terms_cat_81
  refine s_aload_n B d_Terms_cat_81 rfl ?_
  refine s_getS (k := 13) (n := 17) B xc_Terms kd_2 (by decide) rfl rfl fl_Terms_55 sr_2_13 d_Terms_cat_82 ?_
  refine s_iload_n B d_Terms_cat_85 rfl ?_
  refine s_pick (lv1 := [(0, .ref 2), (2, .int l2)]) [0, 2] rfl ?_
  refine s_callU (av := [.ref 17, .int l3]) (rest := []) B (lk_V B d_Terms_cat_86 (gl_Terms_95 _) rfl hv_Row_add (by decide) (by decide)) rfl (x_rcV B xc_Row kd_17) (fun _ h => h) rfl (by simp [xng, x_gr, kd_2]) (by simp [Value.category]) rfl (fun r1 e9 => ct_Row_add _ _ _ r1 e9) (fun r1 _ => ?_)
  refine s_iload_n B d_Terms_cat_89 rfl ?_
  refine s_istore B d_Terms_cat_90 (by decide) ?_
  refine s_aload_n B d_Terms_cat_92 rfl ?_
  refine s_getS (k := 13) (n := 17) B xc_Terms kd_2 (by decide) rfl rfl fl_Terms_55 sr_2_13 d_Terms_cat_93 ?_
  refine s_pick (lv1 := [(0, .ref 2), (4, .int l2)]) [0, 4] rfl ?_
  refine s_callI (av := [.ref 17]) (rest := []) B (lk_V B d_Terms_cat_96 (gl_Terms_99 _) rfl hv_Row_size (by decide) (by decide)) rfl (x_rcV B xc_Row kd_17) (fun _ _ => rfl) rfl rfl (by simp [Value.category]) rfl (fun r2 e9 => ct_Row_size _ _ r2 e9) (fun r2 _ => ?_)
  refine s_iconst (v := (1:Int32)) B d_Terms_cat_99 (by decide) ?_
  refine s_isub B d_Terms_cat_100 ?_
  refine s_istore B d_Terms_cat_101 (by decide) ?_
  refine s_pick (lv1 := [(0, .ref 2), (4, .int l2), (5, .int (r2.2 - (1:Int32)))]) [0, 4, 5] rfl ?_
  exact t_Terms_cat_103 B l2 (r2.2 - (1:Int32)) r2.1
set_option maxRecDepth 100000 in
set_option maxHeartbeats 4000000 in
theorem t_Terms_cat_38b {k38 : Int32 × Int32 × Int32 × MS → Option (MS × Int32)} (B : xB p R s m args meth c b_Terms_cat 6 R_Terms (Cond.code y_Terms_cat b_Terms_cat 6 (some .int) :: x_T) (some .int) 6 137 D x_cl (xty g) base) (hk38 : ∀ (l2 : Int32) (l3 : Int32) (l4 : Int32) (M : MS) , Sn p l e R s m args below meth c 6 D x_cl base (xwd g) cM x_gr az kz (xfc cM) (xZ below args s D x_cl (xty g) base (xwd g) cM x_gr az kz ovI) 38 [] [(0, .ref 2), (2, .int l2), (3, .int l3), (4, .int l4)] M (k38 (l2, l3, l4, M))) (l2 : Int32) (l3 : Int32) (l4 : Int32) (M : MS)  : Sn p l e R s m args below meth c 6 D x_cl base (xwd g) cM x_gr az kz (xfc cM) (xZ below args s D x_cl (xty g) base (xwd g) cM x_gr az kz ovI) 38 [] [(0, .ref 2), (2, .int l2), (3, .int l3), (4, .int l4)] M (m_Terms_cat_38b k38 l2 l3 l4 M) := by
  unfold m_Terms_cat_38b
  refine s_iload B d_Terms_cat_38 rfl ?_
  refine s_ldc (v := (1000000:Int32)) B d_Terms_cat_40 (List.mem_cons_of_mem _ cs_Terms_90) ?_
  refine s_icmp_ge B d_Terms_cat_42 rfl (fun _ => ?_) (fun _ => ?_)
  · refine s_pick (lv1 := [(0, .ref 2), (2, .int l2), (3, .int l3)]) [0, 2, 3] rfl ?_
    exact t_Terms_cat_81 B l2 l3 M
  · refine s_aload_n B d_Terms_cat_45 rfl ?_
    refine s_getS (k := 0) (n := 3) B xc_Terms kd_2 (by decide) rfl rfl fl_Terms_11 sr_2_0 d_Terms_cat_46 ?_
    refine s_iload_n B d_Terms_cat_49 rfl ?_
    refine s_iald B (Or.inr kd_3) d_Terms_cat_50 (fun v1 _ => ?_)
    refine s_iconst (v := (3:Int32)) B d_Terms_cat_51 (by decide) ?_
    refine s_icmp_ne B d_Terms_cat_52 rfl (fun _ => ?_) (fun _ => ?_)
    · refine s_pick (lv1 := [(0, .ref 2), (2, .int l2), (3, .int l3)]) [0, 2, 3] rfl ?_
      exact t_Terms_cat_81 B l2 l3 M
    · refine s_aload_n B d_Terms_cat_55 rfl ?_
      refine s_getS (k := 13) (n := 17) B xc_Terms kd_2 (by decide) rfl rfl fl_Terms_55 sr_2_13 d_Terms_cat_56 ?_
      refine s_aload_n B d_Terms_cat_59 rfl ?_
      refine s_iload_n B d_Terms_cat_60 rfl ?_
      refine s_iconst (v := (0:Int32)) B d_Terms_cat_61 (by decide) ?_
      refine s_pick (lv1 := [(0, .ref 2), (2, .int l2), (3, .int l3), (4, .int l4)]) [0, 2, 3, 4] rfl ?_
      refine s_callI (av := [.ref 2, .int l3, .int (0:Int32)]) (rest := [.ref 17]) B (lk_V B d_Terms_cat_62 (gl_Terms_91 _) rfl hv_Terms_kid (by decide) (by decide)) rfl (x_rcV B xc_Terms kd_2) (fun _ _ => rfl) rfl rfl (by simp [Value.category]) rfl (fun r2 e9 => ct_Terms_kid _ _ _ r2 e9) (fun r2 _ => ?_)
      refine s_pick (lv1 := [(0, .ref 2), (2, .int l2), (3, .int l3), (4, .int l4)]) [0, 2, 3, 4] rfl ?_
      refine s_callU (av := [.ref 17, .int r2.2]) (rest := []) B (lk_V B d_Terms_cat_65 (gl_Terms_95 _) rfl hv_Row_add (by decide) (by decide)) rfl (x_rcV B xc_Row kd_17) (fun _ h => h) rfl (by simp [xng, x_gr, kd_2]) (by simp [Value.category]) rfl (fun r3 e9 => ct_Row_add _ _ _ r3 e9) (fun r3 _ => ?_)
      refine s_aload_n B d_Terms_cat_68 rfl ?_
      refine s_iload_n B d_Terms_cat_69 rfl ?_
      refine s_iconst (v := (1:Int32)) B d_Terms_cat_70 (by decide) ?_
      refine s_pick (lv1 := [(0, .ref 2), (2, .int l2), (4, .int l4)]) [0, 2, 4] rfl ?_
      refine s_callI (av := [.ref 2, .int l3, .int (1:Int32)]) (rest := []) B (lk_V B d_Terms_cat_71 (gl_Terms_91 _) rfl hv_Terms_kid (by decide) (by decide)) rfl (x_rcV B xc_Terms kd_2) (fun _ _ => rfl) rfl rfl (by simp [Value.category]) rfl (fun r4 e9 => ct_Terms_kid _ _ _ r4 e9) (fun r4 _ => ?_)
      refine s_istore_n B d_Terms_cat_74 (by decide) ?_
      refine s_iinc (w := (1:Int32)) B d_Terms_cat_75 rfl (by decide) (by decide) ?_
      refine s_goto B d_Terms_cat_78 rfl ?_
      refine s_pick (lv1 := [(0, .ref 2), (2, .int l2), (3, .int r4.2), (4, .int (l4 + (1:Int32)))]) [0, 2, 3, 4] rfl ?_
      exact hk38 l2 r4.2 (l4 + (1:Int32)) r4.1
set_option maxRecDepth 100000 in
set_option maxHeartbeats 4000000 in
theorem t_Terms_cat_38  (B : xB p R s m args meth c b_Terms_cat 6 R_Terms (Cond.code y_Terms_cat b_Terms_cat 6 (some .int) :: x_T) (some .int) 6 137 D x_cl (xty g) base)  (l2 : Int32) (l3 : Int32) (l4 : Int32) (M : MS)  : Sn p l e R s m args below meth c 6 D x_cl base (xwd g) cM x_gr az kz (xfc cM) (xZ below args s D x_cl (xty g) base (xwd g) cM x_gr az kz ovI) 38 [] [(0, .ref 2), (2, .int l2), (3, .int l3), (4, .int l4)] M (m_Terms_cat_38 (l2, l3, l4, M)) := by
  have q : ∀ (F : Nat) (i : Int32 × Int32 × Int32 × MS), Sn p l e R s m args below meth c 6 D x_cl base (xwd g) cM x_gr az kz (xfc cM) (xZ below args s D x_cl (xty g) base (xwd g) cM x_gr az kz ovI) 38 [] [(0, .ref 2), (2, .int i.1), (3, .int i.2.1), (4, .int i.2.2.1)] i.2.2.2 (fx (fun (k : Int32 × Int32 × Int32 × MS → Option (MS × Int32)) (i : Int32 × Int32 × Int32 × MS) => m_Terms_cat_38b k i.1 i.2.1 i.2.2.1 i.2.2.2) F i) := by
    intro F
    induction F with
    | zero => intro i ; exact s_none
    | succ F ih => intro i ; exact t_Terms_cat_38b B  (fun l2 l3 l4 M  => ih (l2, l3, l4, M) ) i.1 i.2.1 i.2.2.1 i.2.2.2 
  exact q FU (l2, l3, l4, M) 
set_option maxRecDepth 100000 in
set_option maxHeartbeats 4000000 in
theorem t_Terms_cat (B : xB p R s m args meth c b_Terms_cat 6 R_Terms (Cond.code y_Terms_cat b_Terms_cat 6 (some .int) :: x_T) (some .int) 6 137 D x_cl (xty g) base) (a1 : Int32) (a2 : Int32) (M : MS) : Sn p l e R s m args below meth c 6 D x_cl base (xwd g) cM x_gr az kz (xfc cM) (xZ below args s D x_cl (xty g) base (xwd g) cM x_gr az kz ovI) 0 [] [(0, .ref 2), (1, .int a1), (2, .int a2)] M (m_Terms_cat a1 a2 M) := by
  unfold m_Terms_cat
  refine s_iload_n B d_Terms_cat_0 rfl ?_
  refine s_if_eq B d_Terms_cat_1 rfl (fun _ => ?_) (fun _ => ?_)
  · refine s_iconst (v := (0:Int32)) B d_Terms_cat_8 (by decide) ?_
    exact s_iret B d_Terms_cat_9
  · refine s_iload_n B d_Terms_cat_4 rfl ?_
    refine s_if_ne B d_Terms_cat_5 rfl (fun _ => ?_) (fun _ => ?_)
    · refine s_iload_n B d_Terms_cat_10 rfl ?_
      refine s_bipush (v := (16:Int32)) B d_Terms_cat_11 (by decide) ?_
      refine s_icmp_ne B d_Terms_cat_13 rfl (fun _ => ?_) (fun _ => ?_)
      · refine s_iload_n B d_Terms_cat_18 rfl ?_
        refine s_bipush (v := (16:Int32)) B d_Terms_cat_19 (by decide) ?_
        refine s_icmp_ne B d_Terms_cat_21 rfl (fun _ => ?_) (fun _ => ?_)
        · refine s_aload_n B d_Terms_cat_26 rfl ?_
          refine s_getS (k := 13) (n := 17) B xc_Terms kd_2 (by decide) rfl rfl fl_Terms_55 sr_2_13 d_Terms_cat_27 ?_
          refine s_pick (lv1 := [(0, .ref 2), (1, .int a1), (2, .int a2)]) [0, 1, 2] rfl ?_
          refine s_callU (av := [.ref 17]) (rest := []) B (lk_V B d_Terms_cat_30 (gl_Terms_87 _) rfl hv_Row_clear (by decide) (by decide)) rfl (x_rcV B xc_Row kd_17) (fun _ _ => rfl) rfl rfl (by simp [Value.category]) rfl (fun r1 e9 => ct_Row_clear _ _ r1 e9) (fun r1 _ => ?_)
          refine s_iload_n B d_Terms_cat_33 rfl ?_
          refine s_istore_n B d_Terms_cat_34 (by decide) ?_
          refine s_iconst (v := (0:Int32)) B d_Terms_cat_35 (by decide) ?_
          refine s_istore B d_Terms_cat_36 (by decide) ?_
          refine s_pick (lv1 := [(0, .ref 2), (2, .int a2), (3, .int a1), (4, .int (0:Int32))]) [0, 2, 3, 4] rfl ?_
          exact t_Terms_cat_38 B a2 a1 (0:Int32) r1.1
        · refine s_iload_n B d_Terms_cat_24 rfl ?_
          exact s_iret B d_Terms_cat_25
      · refine s_iload_n B d_Terms_cat_16 rfl ?_
        exact s_iret B d_Terms_cat_17
    · refine s_iconst (v := (0:Int32)) B d_Terms_cat_8 (by decide) ?_
      exact s_iret B d_Terms_cat_9
set_option maxRecDepth 100000 in
set_option maxHeartbeats 4000000 in
theorem ct_Terms_cat {l : Launch} {D : va_G} {base : Nat} {g : Nat → ClassId} (a1 : Int32) (a2 : Int32) (M : MS) (r : MS × Int32) (hr : m_Terms_cat a1 a2 M = some r) : Ct l y_Terms_cat (Cond.code y_Terms_cat b_Terms_cat 6 (some .int) :: x_T) 6 137 D x_cl (xty g) base (xwd g) cM x_gr [.ref 2, .int a1, .int a2] M r.1 (ovI r.2) :=
  x_met (ov := ovI) (by decide) (Nat.le_of_ble_eq_true rfl) (fun p e R s m args below meth c az B => t_Terms_cat B a1 a2 M) r hr
end
theorem d_Gathering_begin_0 : decode b_Gathering_begin 0 = .ok (.aload_n 0, 1) := by decide +kernel
theorem d_Gathering_begin_1 : decode b_Gathering_begin 1 = .ok (.getfield 12, 3) := by decide +kernel
theorem d_Gathering_begin_4 : decode b_Gathering_begin 4 = .ok (.invokevirtual 29, 3) := by decide +kernel
theorem d_Gathering_begin_7 : decode b_Gathering_begin 7 = .ok (.aload_n 0, 1) := by decide +kernel
theorem d_Gathering_begin_8 : decode b_Gathering_begin 8 = .ok (.iload_n 1, 1) := by decide +kernel
theorem d_Gathering_begin_9 : decode b_Gathering_begin 9 = .ok (.putfield 18, 3) := by decide +kernel
theorem d_Gathering_begin_12 : decode b_Gathering_begin 12 = .ok (.aload_n 0, 1) := by decide +kernel
theorem d_Gathering_begin_13 : decode b_Gathering_begin 13 = .ok (.iconst (-1), 1) := by decide +kernel
theorem d_Gathering_begin_14 : decode b_Gathering_begin 14 = .ok (.putfield 22, 3) := by decide +kernel
theorem d_Gathering_begin_17 : decode b_Gathering_begin 17 = .ok (.aload_n 0, 1) := by decide +kernel
theorem d_Gathering_begin_18 : decode b_Gathering_begin 18 = .ok (.iconst (0), 1) := by decide +kernel
theorem d_Gathering_begin_19 : decode b_Gathering_begin 19 = .ok (.putfield 25, 3) := by decide +kernel
theorem d_Gathering_begin_22 : decode b_Gathering_begin 22 = .ok (.return_, 1) := by decide +kernel
section
variable {p : Program} {l : Launch} {e : Env} {R : Room} {s : State} {m : MethodId} {args : Array Value} {below : List Frame} {meth : Method} {c : Code} {D : va_G} {base : Nat} {g : Nat → ClassId} {az : Nat → Nat} {kz : Nat × Nat}
set_option maxRecDepth 100000 in
set_option maxHeartbeats 4000000 in
theorem t_Gathering_begin (B : xB p R s m args meth c b_Gathering_begin 2 R_Gathering (Cond.code y_Gathering_begin b_Gathering_begin 2 none :: x_T) none 1 20 D x_cl (xty g) base) (a1 : Int32) (M : MS) : Sn p l e R s m args below meth c 2 D x_cl base (xwd g) cM x_g0 az kz (xfc cM) (xZ below args s D x_cl (xty g) base (xwd g) cM x_g0 az kz ovU) 0 [] [(0, .ref 21), (1, .int a1)] M (m_Gathering_begin a1 M) := by
  unfold m_Gathering_begin
  refine s_aload_n B d_Gathering_begin_0 rfl ?_
  refine s_getS (k := 0) (n := 22) B xc_Gathering kd_21 (by decide) rfl rfl fl_Gathering_12 sr_21_0 d_Gathering_begin_1 ?_
  refine s_pick (lv1 := [(0, .ref 21), (1, .int a1)]) [0, 1] rfl ?_
  refine s_callU (av := [.ref 22]) (rest := []) B (lk_V B d_Gathering_begin_4 (gl_Gathering_29 _) rfl hv_Row_clear (by decide) (by decide)) rfl (x_rcV B xc_Row kd_22) (fun _ _ => rfl) rfl rfl (by simp [Value.category]) rfl (fun r1 e9 => ct_Row_clear _ _ r1 e9) (fun r1 _ => ?_)
  refine s_aload_n B d_Gathering_begin_7 rfl ?_
  refine s_iload_n B d_Gathering_begin_8 rfl ?_
  refine s_putI (k := 1) (ty := .int) B xc_Gathering kd_21 (by decide) rfl rfl fl_Gathering_18 rfl rfl rfl rfl d_Gathering_begin_9 (fun M2 _ => ?_)
  refine s_aload_n B d_Gathering_begin_12 rfl ?_
  refine s_iconst (v := (-1:Int32)) B d_Gathering_begin_13 (by decide) ?_
  refine s_putI (k := 2) (ty := .int) B xc_Gathering kd_21 (by decide) rfl rfl fl_Gathering_22 rfl rfl rfl rfl d_Gathering_begin_14 (fun M3 _ => ?_)
  refine s_aload_n B d_Gathering_begin_17 rfl ?_
  refine s_iconst (v := (0:Int32)) B d_Gathering_begin_18 (by decide) ?_
  refine s_putI (k := 3) (ty := .boolean) B xc_Gathering kd_21 (by decide) rfl rfl fl_Gathering_25 rfl rfl rfl rfl d_Gathering_begin_19 (fun M4 _ => ?_)
  exact s_vret B d_Gathering_begin_22
set_option maxRecDepth 100000 in
set_option maxHeartbeats 4000000 in
theorem ct_Gathering_begin {l : Launch} {D : va_G} {base : Nat} {g : Nat → ClassId} (a1 : Int32) (M : MS) (r : MS × Unit) (hr : m_Gathering_begin a1 M = some r) : Ct l y_Gathering_begin (Cond.code y_Gathering_begin b_Gathering_begin 2 none :: x_T) 1 20 D x_cl (xty g) base (xwd g) cM x_g0 [.ref 21, .int a1] M r.1 (ovU r.2) :=
  x_met (ov := ovU) (by decide) (Nat.le_of_ble_eq_true rfl) (fun p e R s m args below meth c az B => t_Gathering_begin B a1 M) r hr
end
theorem d_Gathering_swallower_0 : decode b_Gathering_swallower 0 = .ok (.aload_n 0, 1) := by decide +kernel
theorem d_Gathering_swallower_1 : decode b_Gathering_swallower 1 = .ok (.getfield 18, 3) := by decide +kernel
theorem d_Gathering_swallower_4 : decode b_Gathering_swallower 4 = .ok (.iconst (4), 1) := by decide +kernel
theorem d_Gathering_swallower_5 : decode b_Gathering_swallower 5 = .ok (.if_icmp .ne (8), 3) := by decide +kernel
theorem d_Gathering_swallower_8 : decode b_Gathering_swallower 8 = .ok (.bipush (17), 2) := by decide +kernel
theorem d_Gathering_swallower_10 : decode b_Gathering_swallower 10 = .ok (.goto (4), 3) := by decide +kernel
theorem d_Gathering_swallower_13 : decode b_Gathering_swallower 13 = .ok (.iconst (0), 1) := by decide +kernel
theorem d_Gathering_swallower_14 : decode b_Gathering_swallower 14 = .ok (.ireturn, 1) := by decide +kernel
section
variable {p : Program} {l : Launch} {e : Env} {R : Room} {s : State} {m : MethodId} {args : Array Value} {below : List Frame} {meth : Method} {c : Code} {D : va_G} {base : Nat} {g : Nat → ClassId} {az : Nat → Nat} {kz : Nat × Nat}
set_option maxRecDepth 100000 in
set_option maxHeartbeats 4000000 in
theorem t_Gathering_swallower (B : xB p R s m args meth c b_Gathering_swallower 1 R_Gathering (Cond.code y_Gathering_swallower b_Gathering_swallower 1 (some .int) :: x_T) (some .int) 0 0 D x_cl (xty g) base)  (M : MS) : Sn p l e R s m args below meth c 1 D x_cl base (xwd g) cM x_g0 az kz (xfc cM) (xZ below args s D x_cl (xty g) base (xwd g) cM x_g0 az kz ovI) 0 [] [(0, .ref 21)] M (m_Gathering_swallower M) := by
  unfold m_Gathering_swallower
  refine s_aload_n B d_Gathering_swallower_0 rfl ?_
  refine s_getI (k := 1) B xc_Gathering kd_21 (by decide) rfl rfl fl_Gathering_18 d_Gathering_swallower_1 ?_
  refine s_iconst (v := (4:Int32)) B d_Gathering_swallower_4 (by decide) ?_
  refine s_icmp_ne B d_Gathering_swallower_5 rfl (fun _ => ?_) (fun _ => ?_)
  · refine s_iconst (v := (0:Int32)) B d_Gathering_swallower_13 (by decide) ?_
    exact s_iret B d_Gathering_swallower_14
  · refine s_bipush (v := (17:Int32)) B d_Gathering_swallower_8 (by decide) ?_
    refine s_goto B d_Gathering_swallower_10 rfl ?_
    exact s_iret B d_Gathering_swallower_14
set_option maxRecDepth 100000 in
set_option maxHeartbeats 4000000 in
theorem ct_Gathering_swallower {l : Launch} {D : va_G} {base : Nat} {g : Nat → ClassId}  (M : MS) (r : MS × Int32) (hr : m_Gathering_swallower M = some r) : Ct l y_Gathering_swallower (Cond.code y_Gathering_swallower b_Gathering_swallower 1 (some .int) :: x_T) 0 0 D x_cl (xty g) base (xwd g) cM x_g0 [.ref 21] M r.1 (ovI r.2) :=
  x_met (ov := ovI) (by decide) (Nat.le_of_ble_eq_true rfl) (fun p e R s m args below meth c az B => t_Gathering_swallower B  M) r hr
end
theorem d_Gathering_takeClass_0 : decode b_Gathering_takeClass 0 = .ok (.aload_n 0, 1) := by decide +kernel
theorem d_Gathering_takeClass_1 : decode b_Gathering_takeClass 1 = .ok (.getfield 22, 3) := by decide +kernel
theorem d_Gathering_takeClass_4 : decode b_Gathering_takeClass 4 = .ok (.iconst (-1), 1) := by decide +kernel
theorem d_Gathering_takeClass_5 : decode b_Gathering_takeClass 5 = .ok (.if_icmp .ne (11), 3) := by decide +kernel
theorem d_Gathering_takeClass_8 : decode b_Gathering_takeClass 8 = .ok (.aload_n 0, 1) := by decide +kernel
theorem d_Gathering_takeClass_9 : decode b_Gathering_takeClass 9 = .ok (.iload_n 1, 1) := by decide +kernel
theorem d_Gathering_takeClass_10 : decode b_Gathering_takeClass 10 = .ok (.putfield 22, 3) := by decide +kernel
theorem d_Gathering_takeClass_13 : decode b_Gathering_takeClass 13 = .ok (.goto (30), 3) := by decide +kernel
theorem d_Gathering_takeClass_16 : decode b_Gathering_takeClass 16 = .ok (.aload_n 0, 1) := by decide +kernel
theorem d_Gathering_takeClass_17 : decode b_Gathering_takeClass 17 = .ok (.aload_n 0, 1) := by decide +kernel
theorem d_Gathering_takeClass_18 : decode b_Gathering_takeClass 18 = .ok (.getfield 18, 3) := by decide +kernel
theorem d_Gathering_takeClass_21 : decode b_Gathering_takeClass 21 = .ok (.iconst (4), 1) := by decide +kernel
theorem d_Gathering_takeClass_22 : decode b_Gathering_takeClass 22 = .ok (.if_icmp .ne (12), 3) := by decide +kernel
theorem d_Gathering_takeClass_25 : decode b_Gathering_takeClass 25 = .ok (.aload_n 0, 1) := by decide +kernel
theorem d_Gathering_takeClass_26 : decode b_Gathering_takeClass 26 = .ok (.getfield 22, 3) := by decide +kernel
theorem d_Gathering_takeClass_29 : decode b_Gathering_takeClass 29 = .ok (.iload_n 1, 1) := by decide +kernel
theorem d_Gathering_takeClass_30 : decode b_Gathering_takeClass 30 = .ok (.ior, 1) := by decide +kernel
theorem d_Gathering_takeClass_31 : decode b_Gathering_takeClass 31 = .ok (.goto (9), 3) := by decide +kernel
theorem d_Gathering_takeClass_34 : decode b_Gathering_takeClass 34 = .ok (.aload_n 0, 1) := by decide +kernel
theorem d_Gathering_takeClass_35 : decode b_Gathering_takeClass 35 = .ok (.getfield 22, 3) := by decide +kernel
theorem d_Gathering_takeClass_38 : decode b_Gathering_takeClass 38 = .ok (.iload_n 1, 1) := by decide +kernel
theorem d_Gathering_takeClass_39 : decode b_Gathering_takeClass 39 = .ok (.iand, 1) := by decide +kernel
theorem d_Gathering_takeClass_40 : decode b_Gathering_takeClass 40 = .ok (.putfield 22, 3) := by decide +kernel
theorem d_Gathering_takeClass_43 : decode b_Gathering_takeClass 43 = .ok (.return_, 1) := by decide +kernel
section
variable {p : Program} {l : Launch} {e : Env} {R : Room} {s : State} {m : MethodId} {args : Array Value} {below : List Frame} {meth : Method} {c : Code} {D : va_G} {base : Nat} {g : Nat → ClassId} {az : Nat → Nat} {kz : Nat × Nat}
set_option maxRecDepth 100000 in
set_option maxHeartbeats 4000000 in
theorem t_Gathering_takeClass_40  (B : xB p R s m args meth c b_Gathering_takeClass 2 R_Gathering (Cond.code y_Gathering_takeClass b_Gathering_takeClass 2 none :: x_T) none 0 0 D x_cl (xty g) base)  (s1 : Int32) (M : MS)  : Sn p l e R s m args below meth c 2 D x_cl base (xwd g) cM x_g0 az kz (xfc cM) (xZ below args s D x_cl (xty g) base (xwd g) cM x_g0 az kz ovU) 40 [.int s1, .ref 21] [] M (m_Gathering_takeClass_40 s1 M) := by
  unfold m_Gathering_takeClass_40
  refine s_putI (k := 2) (ty := .int) B xc_Gathering kd_21 (by decide) rfl rfl fl_Gathering_22 rfl rfl rfl rfl d_Gathering_takeClass_40 (fun M1 _ => ?_)
  exact s_vret B d_Gathering_takeClass_43
set_option maxRecDepth 100000 in
set_option maxHeartbeats 4000000 in
theorem t_Gathering_takeClass (B : xB p R s m args meth c b_Gathering_takeClass 2 R_Gathering (Cond.code y_Gathering_takeClass b_Gathering_takeClass 2 none :: x_T) none 0 0 D x_cl (xty g) base) (a1 : Int32) (M : MS) : Sn p l e R s m args below meth c 2 D x_cl base (xwd g) cM x_g0 az kz (xfc cM) (xZ below args s D x_cl (xty g) base (xwd g) cM x_g0 az kz ovU) 0 [] [(0, .ref 21), (1, .int a1)] M (m_Gathering_takeClass a1 M) := by
  unfold m_Gathering_takeClass
  refine s_aload_n B d_Gathering_takeClass_0 rfl ?_
  refine s_getI (k := 2) B xc_Gathering kd_21 (by decide) rfl rfl fl_Gathering_22 d_Gathering_takeClass_1 ?_
  refine s_iconst (v := (-1:Int32)) B d_Gathering_takeClass_4 (by decide) ?_
  refine s_icmp_ne B d_Gathering_takeClass_5 rfl (fun _ => ?_) (fun _ => ?_)
  · refine s_aload_n B d_Gathering_takeClass_16 rfl ?_
    refine s_aload_n B d_Gathering_takeClass_17 rfl ?_
    refine s_getI (k := 1) B xc_Gathering kd_21 (by decide) rfl rfl fl_Gathering_18 d_Gathering_takeClass_18 ?_
    refine s_iconst (v := (4:Int32)) B d_Gathering_takeClass_21 (by decide) ?_
    refine s_icmp_ne B d_Gathering_takeClass_22 rfl (fun _ => ?_) (fun _ => ?_)
    · refine s_aload_n B d_Gathering_takeClass_34 rfl ?_
      refine s_getI (k := 2) B xc_Gathering kd_21 (by decide) rfl rfl fl_Gathering_22 d_Gathering_takeClass_35 ?_
      refine s_iload_n B d_Gathering_takeClass_38 rfl ?_
      refine s_iand B d_Gathering_takeClass_39 ?_
      refine s_pick (lv1 := []) [] rfl ?_
      exact t_Gathering_takeClass_40 B ((gI M 21 2) &&& a1) M
    · refine s_aload_n B d_Gathering_takeClass_25 rfl ?_
      refine s_getI (k := 2) B xc_Gathering kd_21 (by decide) rfl rfl fl_Gathering_22 d_Gathering_takeClass_26 ?_
      refine s_iload_n B d_Gathering_takeClass_29 rfl ?_
      refine s_ior B d_Gathering_takeClass_30 ?_
      refine s_goto B d_Gathering_takeClass_31 rfl ?_
      refine s_pick (lv1 := []) [] rfl ?_
      exact t_Gathering_takeClass_40 B ((gI M 21 2) ||| a1) M
  · refine s_aload_n B d_Gathering_takeClass_8 rfl ?_
    refine s_iload_n B d_Gathering_takeClass_9 rfl ?_
    refine s_putI (k := 2) (ty := .int) B xc_Gathering kd_21 (by decide) rfl rfl fl_Gathering_22 rfl rfl rfl rfl d_Gathering_takeClass_10 (fun M1 _ => ?_)
    refine s_goto B d_Gathering_takeClass_13 rfl ?_
    exact s_vret B d_Gathering_takeClass_43
set_option maxRecDepth 100000 in
set_option maxHeartbeats 4000000 in
theorem ct_Gathering_takeClass {l : Launch} {D : va_G} {base : Nat} {g : Nat → ClassId} (a1 : Int32) (M : MS) (r : MS × Unit) (hr : m_Gathering_takeClass a1 M = some r) : Ct l y_Gathering_takeClass (Cond.code y_Gathering_takeClass b_Gathering_takeClass 2 none :: x_T) 0 0 D x_cl (xty g) base (xwd g) cM x_g0 [.ref 21, .int a1] M r.1 (ovU r.2) :=
  x_met (ov := ovU) (by decide) (Nat.le_of_ble_eq_true rfl) (fun p e R s m args below meth c az B => t_Gathering_takeClass B a1 M) r hr
end
theorem d_Gathering_neutral_0 : decode b_Gathering_neutral 0 = .ok (.aload_n 0, 1) := by decide +kernel
theorem d_Gathering_neutral_1 : decode b_Gathering_neutral 1 = .ok (.getfield 18, 3) := by decide +kernel
theorem d_Gathering_neutral_4 : decode b_Gathering_neutral 4 = .ok (.iconst (4), 1) := by decide +kernel
theorem d_Gathering_neutral_5 : decode b_Gathering_neutral 5 = .ok (.if_icmp .ne (7), 3) := by decide +kernel
theorem d_Gathering_neutral_8 : decode b_Gathering_neutral 8 = .ok (.iconst (0), 1) := by decide +kernel
theorem d_Gathering_neutral_9 : decode b_Gathering_neutral 9 = .ok (.goto (5), 3) := by decide +kernel
theorem d_Gathering_neutral_12 : decode b_Gathering_neutral 12 = .ok (.bipush (17), 2) := by decide +kernel
theorem d_Gathering_neutral_14 : decode b_Gathering_neutral 14 = .ok (.ireturn, 1) := by decide +kernel
section
variable {p : Program} {l : Launch} {e : Env} {R : Room} {s : State} {m : MethodId} {args : Array Value} {below : List Frame} {meth : Method} {c : Code} {D : va_G} {base : Nat} {g : Nat → ClassId} {az : Nat → Nat} {kz : Nat × Nat}
set_option maxRecDepth 100000 in
set_option maxHeartbeats 4000000 in
theorem t_Gathering_neutral (B : xB p R s m args meth c b_Gathering_neutral 1 R_Gathering (Cond.code y_Gathering_neutral b_Gathering_neutral 1 (some .int) :: x_T) (some .int) 0 0 D x_cl (xty g) base)  (M : MS) : Sn p l e R s m args below meth c 1 D x_cl base (xwd g) cM x_g0 az kz (xfc cM) (xZ below args s D x_cl (xty g) base (xwd g) cM x_g0 az kz ovI) 0 [] [(0, .ref 21)] M (m_Gathering_neutral M) := by
  unfold m_Gathering_neutral
  refine s_aload_n B d_Gathering_neutral_0 rfl ?_
  refine s_getI (k := 1) B xc_Gathering kd_21 (by decide) rfl rfl fl_Gathering_18 d_Gathering_neutral_1 ?_
  refine s_iconst (v := (4:Int32)) B d_Gathering_neutral_4 (by decide) ?_
  refine s_icmp_ne B d_Gathering_neutral_5 rfl (fun _ => ?_) (fun _ => ?_)
  · refine s_bipush (v := (17:Int32)) B d_Gathering_neutral_12 (by decide) ?_
    exact s_iret B d_Gathering_neutral_14
  · refine s_iconst (v := (0:Int32)) B d_Gathering_neutral_8 (by decide) ?_
    refine s_goto B d_Gathering_neutral_9 rfl ?_
    exact s_iret B d_Gathering_neutral_14
set_option maxRecDepth 100000 in
set_option maxHeartbeats 4000000 in
theorem ct_Gathering_neutral {l : Launch} {D : va_G} {base : Nat} {g : Nat → ClassId}  (M : MS) (r : MS × Int32) (hr : m_Gathering_neutral M = some r) : Ct l y_Gathering_neutral (Cond.code y_Gathering_neutral b_Gathering_neutral 1 (some .int) :: x_T) 0 0 D x_cl (xty g) base (xwd g) cM x_g0 [.ref 21] M r.1 (ovI r.2) :=
  x_met (ov := ovI) (by decide) (Nat.le_of_ble_eq_true rfl) (fun p e R s m args below meth c az B => t_Gathering_neutral B  M) r hr
end
theorem d_Row_addInOrder_0 : decode b_Row_addInOrder 0 = .ok (.aload_n 0, 1) := by decide +kernel
theorem d_Row_addInOrder_1 : decode b_Row_addInOrder 1 = .ok (.getfield 13, 3) := by decide +kernel
theorem d_Row_addInOrder_4 : decode b_Row_addInOrder 4 = .ok (.istore_n 2, 1) := by decide +kernel
theorem d_Row_addInOrder_5 : decode b_Row_addInOrder 5 = .ok (.iload_n 2, 1) := by decide +kernel
theorem d_Row_addInOrder_6 : decode b_Row_addInOrder 6 = .ok (.ifCond .le (21), 3) := by decide +kernel
theorem d_Row_addInOrder_9 : decode b_Row_addInOrder 9 = .ok (.aload_n 0, 1) := by decide +kernel
theorem d_Row_addInOrder_10 : decode b_Row_addInOrder 10 = .ok (.getfield 7, 3) := by decide +kernel
theorem d_Row_addInOrder_13 : decode b_Row_addInOrder 13 = .ok (.iload_n 2, 1) := by decide +kernel
theorem d_Row_addInOrder_14 : decode b_Row_addInOrder 14 = .ok (.iconst (1), 1) := by decide +kernel
theorem d_Row_addInOrder_15 : decode b_Row_addInOrder 15 = .ok (.isub, 1) := by decide +kernel
theorem d_Row_addInOrder_16 : decode b_Row_addInOrder 16 = .ok (.iaload, 1) := by decide +kernel
theorem d_Row_addInOrder_17 : decode b_Row_addInOrder 17 = .ok (.iload_n 1, 1) := by decide +kernel
theorem d_Row_addInOrder_18 : decode b_Row_addInOrder 18 = .ok (.if_icmp .le (9), 3) := by decide +kernel
theorem d_Row_addInOrder_21 : decode b_Row_addInOrder 21 = .ok (.iinc 2 (-1), 3) := by decide +kernel
theorem d_Row_addInOrder_24 : decode b_Row_addInOrder 24 = .ok (.goto (-19), 3) := by decide +kernel
theorem d_Row_addInOrder_27 : decode b_Row_addInOrder 27 = .ok (.iload_n 2, 1) := by decide +kernel
theorem d_Row_addInOrder_28 : decode b_Row_addInOrder 28 = .ok (.ifCond .le (16), 3) := by decide +kernel
theorem d_Row_addInOrder_31 : decode b_Row_addInOrder 31 = .ok (.aload_n 0, 1) := by decide +kernel
theorem d_Row_addInOrder_32 : decode b_Row_addInOrder 32 = .ok (.getfield 7, 3) := by decide +kernel
theorem d_Row_addInOrder_35 : decode b_Row_addInOrder 35 = .ok (.iload_n 2, 1) := by decide +kernel
theorem d_Row_addInOrder_36 : decode b_Row_addInOrder 36 = .ok (.iconst (1), 1) := by decide +kernel
theorem d_Row_addInOrder_37 : decode b_Row_addInOrder 37 = .ok (.isub, 1) := by decide +kernel
theorem d_Row_addInOrder_38 : decode b_Row_addInOrder 38 = .ok (.iaload, 1) := by decide +kernel
theorem d_Row_addInOrder_39 : decode b_Row_addInOrder 39 = .ok (.iload_n 1, 1) := by decide +kernel
theorem d_Row_addInOrder_40 : decode b_Row_addInOrder 40 = .ok (.if_icmp .ne (4), 3) := by decide +kernel
theorem d_Row_addInOrder_43 : decode b_Row_addInOrder 43 = .ok (.return_, 1) := by decide +kernel
theorem d_Row_addInOrder_44 : decode b_Row_addInOrder 44 = .ok (.aload_n 0, 1) := by decide +kernel
theorem d_Row_addInOrder_45 : decode b_Row_addInOrder 45 = .ok (.getfield 13, 3) := by decide +kernel
theorem d_Row_addInOrder_48 : decode b_Row_addInOrder 48 = .ok (.aload_n 0, 1) := by decide +kernel
theorem d_Row_addInOrder_49 : decode b_Row_addInOrder 49 = .ok (.getfield 7, 3) := by decide +kernel
theorem d_Row_addInOrder_52 : decode b_Row_addInOrder 52 = .ok (.arraylength, 1) := by decide +kernel
theorem d_Row_addInOrder_53 : decode b_Row_addInOrder 53 = .ok (.if_icmp .ne (20), 3) := by decide +kernel
theorem d_Row_addInOrder_56 : decode b_Row_addInOrder 56 = .ok (.aload_n 0, 1) := by decide +kernel
theorem d_Row_addInOrder_57 : decode b_Row_addInOrder 57 = .ok (.aload_n 0, 1) := by decide +kernel
theorem d_Row_addInOrder_58 : decode b_Row_addInOrder 58 = .ok (.getfield 7, 3) := by decide +kernel
theorem d_Row_addInOrder_61 : decode b_Row_addInOrder 61 = .ok (.aload_n 0, 1) := by decide +kernel
theorem d_Row_addInOrder_62 : decode b_Row_addInOrder 62 = .ok (.getfield 13, 3) := by decide +kernel
theorem d_Row_addInOrder_65 : decode b_Row_addInOrder 65 = .ok (.iconst (2), 1) := by decide +kernel
theorem d_Row_addInOrder_66 : decode b_Row_addInOrder 66 = .ok (.imul, 1) := by decide +kernel
theorem d_Row_addInOrder_67 : decode b_Row_addInOrder 67 = .ok (.invokestatic 17, 3) := by decide +kernel
theorem d_Row_addInOrder_70 : decode b_Row_addInOrder 70 = .ok (.putfield 7, 3) := by decide +kernel
theorem d_Row_addInOrder_73 : decode b_Row_addInOrder 73 = .ok (.aload_n 0, 1) := by decide +kernel
theorem d_Row_addInOrder_74 : decode b_Row_addInOrder 74 = .ok (.getfield 13, 3) := by decide +kernel
theorem d_Row_addInOrder_77 : decode b_Row_addInOrder 77 = .ok (.istore_n 3, 1) := by decide +kernel
theorem d_Row_addInOrder_78 : decode b_Row_addInOrder 78 = .ok (.iload_n 3, 1) := by decide +kernel
theorem d_Row_addInOrder_79 : decode b_Row_addInOrder 79 = .ok (.iload_n 2, 1) := by decide +kernel
theorem d_Row_addInOrder_80 : decode b_Row_addInOrder 80 = .ok (.if_icmp .le (23), 3) := by decide +kernel
theorem d_Row_addInOrder_83 : decode b_Row_addInOrder 83 = .ok (.aload_n 0, 1) := by decide +kernel
theorem d_Row_addInOrder_84 : decode b_Row_addInOrder 84 = .ok (.getfield 7, 3) := by decide +kernel
theorem d_Row_addInOrder_87 : decode b_Row_addInOrder 87 = .ok (.iload_n 3, 1) := by decide +kernel
theorem d_Row_addInOrder_88 : decode b_Row_addInOrder 88 = .ok (.aload_n 0, 1) := by decide +kernel
theorem d_Row_addInOrder_89 : decode b_Row_addInOrder 89 = .ok (.getfield 7, 3) := by decide +kernel
theorem d_Row_addInOrder_92 : decode b_Row_addInOrder 92 = .ok (.iload_n 3, 1) := by decide +kernel
theorem d_Row_addInOrder_93 : decode b_Row_addInOrder 93 = .ok (.iconst (1), 1) := by decide +kernel
theorem d_Row_addInOrder_94 : decode b_Row_addInOrder 94 = .ok (.isub, 1) := by decide +kernel
theorem d_Row_addInOrder_95 : decode b_Row_addInOrder 95 = .ok (.iaload, 1) := by decide +kernel
theorem d_Row_addInOrder_96 : decode b_Row_addInOrder 96 = .ok (.iastore, 1) := by decide +kernel
theorem d_Row_addInOrder_97 : decode b_Row_addInOrder 97 = .ok (.iinc 3 (-1), 3) := by decide +kernel
theorem d_Row_addInOrder_100 : decode b_Row_addInOrder 100 = .ok (.goto (-22), 3) := by decide +kernel
theorem d_Row_addInOrder_103 : decode b_Row_addInOrder 103 = .ok (.aload_n 0, 1) := by decide +kernel
theorem d_Row_addInOrder_104 : decode b_Row_addInOrder 104 = .ok (.getfield 7, 3) := by decide +kernel
theorem d_Row_addInOrder_107 : decode b_Row_addInOrder 107 = .ok (.iload_n 2, 1) := by decide +kernel
theorem d_Row_addInOrder_108 : decode b_Row_addInOrder 108 = .ok (.iload_n 1, 1) := by decide +kernel
theorem d_Row_addInOrder_109 : decode b_Row_addInOrder 109 = .ok (.iastore, 1) := by decide +kernel
theorem d_Row_addInOrder_110 : decode b_Row_addInOrder 110 = .ok (.aload_n 0, 1) := by decide +kernel
theorem d_Row_addInOrder_111 : decode b_Row_addInOrder 111 = .ok (.dup, 1) := by decide +kernel
theorem d_Row_addInOrder_112 : decode b_Row_addInOrder 112 = .ok (.getfield 13, 3) := by decide +kernel
theorem d_Row_addInOrder_115 : decode b_Row_addInOrder 115 = .ok (.iconst (1), 1) := by decide +kernel
theorem d_Row_addInOrder_116 : decode b_Row_addInOrder 116 = .ok (.iadd, 1) := by decide +kernel
theorem d_Row_addInOrder_117 : decode b_Row_addInOrder 117 = .ok (.putfield 13, 3) := by decide +kernel
theorem d_Row_addInOrder_120 : decode b_Row_addInOrder 120 = .ok (.return_, 1) := by decide +kernel
section
variable {p : Program} {l : Launch} {e : Env} {R : Room} {s : State} {m : MethodId} {args : Array Value} {below : List Frame} {meth : Method} {c : Code} {D : va_G} {base : Nat} {g : Nat → ClassId} {az : Nat → Nat} {kz : Nat × Nat}
set_option maxRecDepth 100000 in
set_option maxHeartbeats 4000000 in
theorem t_Row_addInOrder_103  (B : xB p R s m args meth c b_Row_addInOrder 4 R_Row (Cond.code y_Row_addInOrder b_Row_addInOrder 4 none :: x_T) none 4 90 D x_cl (xty g) base)  (l1 : Int32) (l2 : Int32) (M : MS)  : Sn p l e R s m args below meth c 4 D x_cl base (xwd g) cM x_gr az kz (xfc cM) (xZ below args s D x_cl (xty g) base (xwd g) cM x_gr az kz ovU) 103 [] [(0, .ref 22), (1, .int l1), (2, .int l2)] M (m_Row_addInOrder_103 l1 l2 M) := by
  unfold m_Row_addInOrder_103
  refine s_aload_n B d_Row_addInOrder_103 rfl ?_
  refine s_getS (k := 0) (n := 23) B xc_Row kd_22 (by decide) rfl rfl fl_Row_7 sr_22_0 d_Row_addInOrder_104 ?_
  refine s_iload_n B d_Row_addInOrder_107 rfl ?_
  refine s_iload_n B d_Row_addInOrder_108 rfl ?_
  refine s_iast B (Or.inr kd_23) d_Row_addInOrder_109 (fun M1 _ => ?_)
  refine s_aload_n B d_Row_addInOrder_110 rfl ?_
  refine s_dup B d_Row_addInOrder_111 rfl ?_
  refine s_getI (k := 1) B xc_Row kd_22 (by decide) rfl rfl fl_Row_13 d_Row_addInOrder_112 ?_
  refine s_iconst (v := (1:Int32)) B d_Row_addInOrder_115 (by decide) ?_
  refine s_iadd B d_Row_addInOrder_116 ?_
  refine s_putI (k := 1) (ty := .int) B xc_Row kd_22 (by decide) rfl rfl fl_Row_13 rfl rfl rfl rfl d_Row_addInOrder_117 (fun M2 _ => ?_)
  exact s_vret B d_Row_addInOrder_120
set_option maxRecDepth 100000 in
set_option maxHeartbeats 4000000 in
theorem t_Row_addInOrder_78b {k78 : Int32 × Int32 × Int32 × MS → Option (MS × Unit)} (B : xB p R s m args meth c b_Row_addInOrder 4 R_Row (Cond.code y_Row_addInOrder b_Row_addInOrder 4 none :: x_T) none 4 90 D x_cl (xty g) base) (hk78 : ∀ (l1 : Int32) (l2 : Int32) (l3 : Int32) (M : MS) , Sn p l e R s m args below meth c 4 D x_cl base (xwd g) cM x_gr az kz (xfc cM) (xZ below args s D x_cl (xty g) base (xwd g) cM x_gr az kz ovU) 78 [] [(0, .ref 22), (1, .int l1), (2, .int l2), (3, .int l3)] M (k78 (l1, l2, l3, M))) (l1 : Int32) (l2 : Int32) (l3 : Int32) (M : MS)  : Sn p l e R s m args below meth c 4 D x_cl base (xwd g) cM x_gr az kz (xfc cM) (xZ below args s D x_cl (xty g) base (xwd g) cM x_gr az kz ovU) 78 [] [(0, .ref 22), (1, .int l1), (2, .int l2), (3, .int l3)] M (m_Row_addInOrder_78b k78 l1 l2 l3 M) := by
  unfold m_Row_addInOrder_78b
  refine s_iload_n B d_Row_addInOrder_78 rfl ?_
  refine s_iload_n B d_Row_addInOrder_79 rfl ?_
  refine s_icmp_le B d_Row_addInOrder_80 rfl (fun _ => ?_) (fun _ => ?_)
  · refine s_pick (lv1 := [(0, .ref 22), (1, .int l1), (2, .int l2)]) [0, 1, 2] rfl ?_
    exact t_Row_addInOrder_103 B l1 l2 M
  · refine s_aload_n B d_Row_addInOrder_83 rfl ?_
    refine s_getS (k := 0) (n := 23) B xc_Row kd_22 (by decide) rfl rfl fl_Row_7 sr_22_0 d_Row_addInOrder_84 ?_
    refine s_iload_n B d_Row_addInOrder_87 rfl ?_
    refine s_aload_n B d_Row_addInOrder_88 rfl ?_
    refine s_getS (k := 0) (n := 23) B xc_Row kd_22 (by decide) rfl rfl fl_Row_7 sr_22_0 d_Row_addInOrder_89 ?_
    refine s_iload_n B d_Row_addInOrder_92 rfl ?_
    refine s_iconst (v := (1:Int32)) B d_Row_addInOrder_93 (by decide) ?_
    refine s_isub B d_Row_addInOrder_94 ?_
    refine s_iald B (Or.inr kd_23) d_Row_addInOrder_95 (fun v1 _ => ?_)
    refine s_iast B (Or.inr kd_23) d_Row_addInOrder_96 (fun M2 _ => ?_)
    refine s_iinc (w := (-1:Int32)) B d_Row_addInOrder_97 rfl (by decide) (by decide) ?_
    refine s_goto B d_Row_addInOrder_100 rfl ?_
    refine s_pick (lv1 := [(0, .ref 22), (1, .int l1), (2, .int l2), (3, .int (l3 + (-1:Int32)))]) [0, 1, 2, 3] rfl ?_
    exact hk78 l1 l2 (l3 + (-1:Int32)) M2
set_option maxRecDepth 100000 in
set_option maxHeartbeats 4000000 in
theorem t_Row_addInOrder_78  (B : xB p R s m args meth c b_Row_addInOrder 4 R_Row (Cond.code y_Row_addInOrder b_Row_addInOrder 4 none :: x_T) none 4 90 D x_cl (xty g) base)  (l1 : Int32) (l2 : Int32) (l3 : Int32) (M : MS)  : Sn p l e R s m args below meth c 4 D x_cl base (xwd g) cM x_gr az kz (xfc cM) (xZ below args s D x_cl (xty g) base (xwd g) cM x_gr az kz ovU) 78 [] [(0, .ref 22), (1, .int l1), (2, .int l2), (3, .int l3)] M (m_Row_addInOrder_78 (l1, l2, l3, M)) := by
  have q : ∀ (F : Nat) (i : Int32 × Int32 × Int32 × MS), Sn p l e R s m args below meth c 4 D x_cl base (xwd g) cM x_gr az kz (xfc cM) (xZ below args s D x_cl (xty g) base (xwd g) cM x_gr az kz ovU) 78 [] [(0, .ref 22), (1, .int i.1), (2, .int i.2.1), (3, .int i.2.2.1)] i.2.2.2 (fx (fun (k : Int32 × Int32 × Int32 × MS → Option (MS × Unit)) (i : Int32 × Int32 × Int32 × MS) => m_Row_addInOrder_78b k i.1 i.2.1 i.2.2.1 i.2.2.2) F i) := by
    intro F
    induction F with
    | zero => intro i ; exact s_none
    | succ F ih => intro i ; exact t_Row_addInOrder_78b B  (fun l1 l2 l3 M  => ih (l1, l2, l3, M) ) i.1 i.2.1 i.2.2.1 i.2.2.2 
  exact q FU (l1, l2, l3, M) 
set_option maxRecDepth 100000 in
set_option maxHeartbeats 4000000 in
theorem t_Row_addInOrder_44  (B : xB p R s m args meth c b_Row_addInOrder 4 R_Row (Cond.code y_Row_addInOrder b_Row_addInOrder 4 none :: x_T) none 4 90 D x_cl (xty g) base)  (l1 : Int32) (l2 : Int32) (M : MS)  : Sn p l e R s m args below meth c 4 D x_cl base (xwd g) cM x_gr az kz (xfc cM) (xZ below args s D x_cl (xty g) base (xwd g) cM x_gr az kz ovU) 44 [] [(0, .ref 22), (1, .int l1), (2, .int l2)] M (m_Row_addInOrder_44 l1 l2 M) := by
  unfold m_Row_addInOrder_44
  refine s_aload_n B d_Row_addInOrder_44 rfl ?_
  refine s_getI (k := 1) B xc_Row kd_22 (by decide) rfl rfl fl_Row_13 d_Row_addInOrder_45 ?_
  refine s_aload_n B d_Row_addInOrder_48 rfl ?_
  refine s_getS (k := 0) (n := 23) B xc_Row kd_22 (by decide) rfl rfl fl_Row_7 sr_22_0 d_Row_addInOrder_49 ?_
  refine s_alen B (Or.inr kd_23) d_Row_addInOrder_52 ?_
  refine s_icmp_ne B d_Row_addInOrder_53 rfl (fun _ => ?_) (fun _ => ?_)
  · refine s_aload_n B d_Row_addInOrder_73 rfl ?_
    refine s_getI (k := 1) B xc_Row kd_22 (by decide) rfl rfl fl_Row_13 d_Row_addInOrder_74 ?_
    refine s_istore_n B d_Row_addInOrder_77 (by decide) ?_
    refine s_pick (lv1 := [(0, .ref 22), (1, .int l1), (2, .int l2), (3, .int (gI M 22 1))]) [0, 1, 2, 3] rfl ?_
    exact t_Row_addInOrder_78 B l1 l2 (gI M 22 1) M
  · refine s_aload_n B d_Row_addInOrder_56 rfl ?_
    refine s_aload_n B d_Row_addInOrder_57 rfl ?_
    refine s_getS (k := 0) (n := 23) B xc_Row kd_22 (by decide) rfl rfl fl_Row_7 sr_22_0 d_Row_addInOrder_58 ?_
    refine s_aload_n B d_Row_addInOrder_61 rfl ?_
    refine s_getI (k := 1) B xc_Row kd_22 (by decide) rfl rfl fl_Row_13 d_Row_addInOrder_62 ?_
    refine s_iconst (v := (2:Int32)) B d_Row_addInOrder_65 (by decide) ?_
    refine s_imul B d_Row_addInOrder_66 ?_
    refine s_pick (lv1 := [(0, .ref 22), (1, .int l1), (2, .int l2)]) [0, 1, 2] rfl ?_
    refine s_grow (k := 0) B xc_Row kd_22 (by decide) rfl rfl (List.mem_cons_of_mem _ ml_Row_17) fl_Row_7 rfl rfl sr_22_0 kd_23 d_Row_addInOrder_67 d_Row_addInOrder_70 rfl (by simp [xng, x_gr, kd_22]) (by decide) (by decide) (by decide) (fun M1 _ => ?_)
    refine s_aload_n B d_Row_addInOrder_73 rfl ?_
    refine s_getI (k := 1) B xc_Row kd_22 (by decide) rfl rfl fl_Row_13 d_Row_addInOrder_74 ?_
    refine s_istore_n B d_Row_addInOrder_77 (by decide) ?_
    refine s_pick (lv1 := [(0, .ref 22), (1, .int l1), (2, .int l2), (3, .int (gI M1 22 1))]) [0, 1, 2, 3] rfl ?_
    exact t_Row_addInOrder_78 B l1 l2 (gI M1 22 1) M1
set_option maxRecDepth 100000 in
set_option maxHeartbeats 4000000 in
theorem t_Row_addInOrder_27  (B : xB p R s m args meth c b_Row_addInOrder 4 R_Row (Cond.code y_Row_addInOrder b_Row_addInOrder 4 none :: x_T) none 4 90 D x_cl (xty g) base)  (l1 : Int32) (l2 : Int32) (M : MS)  : Sn p l e R s m args below meth c 4 D x_cl base (xwd g) cM x_gr az kz (xfc cM) (xZ below args s D x_cl (xty g) base (xwd g) cM x_gr az kz ovU) 27 [] [(0, .ref 22), (1, .int l1), (2, .int l2)] M (m_Row_addInOrder_27 l1 l2 M) := by
  unfold m_Row_addInOrder_27
  refine s_iload_n B d_Row_addInOrder_27 rfl ?_
  refine s_if_le B d_Row_addInOrder_28 rfl (fun _ => ?_) (fun _ => ?_)
  · refine s_pick (lv1 := [(0, .ref 22), (1, .int l1), (2, .int l2)]) [0, 1, 2] rfl ?_
    exact t_Row_addInOrder_44 B l1 l2 M
  · refine s_aload_n B d_Row_addInOrder_31 rfl ?_
    refine s_getS (k := 0) (n := 23) B xc_Row kd_22 (by decide) rfl rfl fl_Row_7 sr_22_0 d_Row_addInOrder_32 ?_
    refine s_iload_n B d_Row_addInOrder_35 rfl ?_
    refine s_iconst (v := (1:Int32)) B d_Row_addInOrder_36 (by decide) ?_
    refine s_isub B d_Row_addInOrder_37 ?_
    refine s_iald B (Or.inr kd_23) d_Row_addInOrder_38 (fun v1 _ => ?_)
    refine s_iload_n B d_Row_addInOrder_39 rfl ?_
    refine s_icmp_ne B d_Row_addInOrder_40 rfl (fun _ => ?_) (fun _ => ?_)
    · refine s_pick (lv1 := [(0, .ref 22), (1, .int l1), (2, .int l2)]) [0, 1, 2] rfl ?_
      exact t_Row_addInOrder_44 B l1 l2 M
    · exact s_vret B d_Row_addInOrder_43
set_option maxRecDepth 100000 in
set_option maxHeartbeats 4000000 in
theorem t_Row_addInOrder_5b {k5 : Int32 × Int32 × MS → Option (MS × Unit)} (B : xB p R s m args meth c b_Row_addInOrder 4 R_Row (Cond.code y_Row_addInOrder b_Row_addInOrder 4 none :: x_T) none 4 90 D x_cl (xty g) base) (hk5 : ∀ (l1 : Int32) (l2 : Int32) (M : MS) , Sn p l e R s m args below meth c 4 D x_cl base (xwd g) cM x_gr az kz (xfc cM) (xZ below args s D x_cl (xty g) base (xwd g) cM x_gr az kz ovU) 5 [] [(0, .ref 22), (1, .int l1), (2, .int l2)] M (k5 (l1, l2, M))) (l1 : Int32) (l2 : Int32) (M : MS)  : Sn p l e R s m args below meth c 4 D x_cl base (xwd g) cM x_gr az kz (xfc cM) (xZ below args s D x_cl (xty g) base (xwd g) cM x_gr az kz ovU) 5 [] [(0, .ref 22), (1, .int l1), (2, .int l2)] M (m_Row_addInOrder_5b k5 l1 l2 M) := by
  unfold m_Row_addInOrder_5b
  refine s_iload_n B d_Row_addInOrder_5 rfl ?_
  refine s_if_le B d_Row_addInOrder_6 rfl (fun _ => ?_) (fun _ => ?_)
  · refine s_pick (lv1 := [(0, .ref 22), (1, .int l1), (2, .int l2)]) [0, 1, 2] rfl ?_
    exact t_Row_addInOrder_27 B l1 l2 M
  · refine s_aload_n B d_Row_addInOrder_9 rfl ?_
    refine s_getS (k := 0) (n := 23) B xc_Row kd_22 (by decide) rfl rfl fl_Row_7 sr_22_0 d_Row_addInOrder_10 ?_
    refine s_iload_n B d_Row_addInOrder_13 rfl ?_
    refine s_iconst (v := (1:Int32)) B d_Row_addInOrder_14 (by decide) ?_
    refine s_isub B d_Row_addInOrder_15 ?_
    refine s_iald B (Or.inr kd_23) d_Row_addInOrder_16 (fun v1 _ => ?_)
    refine s_iload_n B d_Row_addInOrder_17 rfl ?_
    refine s_icmp_le B d_Row_addInOrder_18 rfl (fun _ => ?_) (fun _ => ?_)
    · refine s_pick (lv1 := [(0, .ref 22), (1, .int l1), (2, .int l2)]) [0, 1, 2] rfl ?_
      exact t_Row_addInOrder_27 B l1 l2 M
    · refine s_iinc (w := (-1:Int32)) B d_Row_addInOrder_21 rfl (by decide) (by decide) ?_
      refine s_goto B d_Row_addInOrder_24 rfl ?_
      refine s_pick (lv1 := [(0, .ref 22), (1, .int l1), (2, .int (l2 + (-1:Int32)))]) [0, 1, 2] rfl ?_
      exact hk5 l1 (l2 + (-1:Int32)) M
set_option maxRecDepth 100000 in
set_option maxHeartbeats 4000000 in
theorem t_Row_addInOrder_5  (B : xB p R s m args meth c b_Row_addInOrder 4 R_Row (Cond.code y_Row_addInOrder b_Row_addInOrder 4 none :: x_T) none 4 90 D x_cl (xty g) base)  (l1 : Int32) (l2 : Int32) (M : MS)  : Sn p l e R s m args below meth c 4 D x_cl base (xwd g) cM x_gr az kz (xfc cM) (xZ below args s D x_cl (xty g) base (xwd g) cM x_gr az kz ovU) 5 [] [(0, .ref 22), (1, .int l1), (2, .int l2)] M (m_Row_addInOrder_5 (l1, l2, M)) := by
  have q : ∀ (F : Nat) (i : Int32 × Int32 × MS), Sn p l e R s m args below meth c 4 D x_cl base (xwd g) cM x_gr az kz (xfc cM) (xZ below args s D x_cl (xty g) base (xwd g) cM x_gr az kz ovU) 5 [] [(0, .ref 22), (1, .int i.1), (2, .int i.2.1)] i.2.2 (fx (fun (k : Int32 × Int32 × MS → Option (MS × Unit)) (i : Int32 × Int32 × MS) => m_Row_addInOrder_5b k i.1 i.2.1 i.2.2) F i) := by
    intro F
    induction F with
    | zero => intro i ; exact s_none
    | succ F ih => intro i ; exact t_Row_addInOrder_5b B  (fun l1 l2 M  => ih (l1, l2, M) ) i.1 i.2.1 i.2.2 
  exact q FU (l1, l2, M) 
set_option maxRecDepth 100000 in
set_option maxHeartbeats 4000000 in
theorem t_Row_addInOrder (B : xB p R s m args meth c b_Row_addInOrder 4 R_Row (Cond.code y_Row_addInOrder b_Row_addInOrder 4 none :: x_T) none 4 90 D x_cl (xty g) base) (a1 : Int32) (M : MS) : Sn p l e R s m args below meth c 4 D x_cl base (xwd g) cM x_gr az kz (xfc cM) (xZ below args s D x_cl (xty g) base (xwd g) cM x_gr az kz ovU) 0 [] [(0, .ref 22), (1, .int a1)] M (m_Row_addInOrder a1 M) := by
  unfold m_Row_addInOrder
  refine s_aload_n B d_Row_addInOrder_0 rfl ?_
  refine s_getI (k := 1) B xc_Row kd_22 (by decide) rfl rfl fl_Row_13 d_Row_addInOrder_1 ?_
  refine s_istore_n B d_Row_addInOrder_4 (by decide) ?_
  refine s_pick (lv1 := [(0, .ref 22), (1, .int a1), (2, .int (gI M 22 1))]) [0, 1, 2] rfl ?_
  exact t_Row_addInOrder_5 B a1 (gI M 22 1) M
set_option maxRecDepth 100000 in
set_option maxHeartbeats 4000000 in
theorem ct_Row_addInOrder {l : Launch} {D : va_G} {base : Nat} {g : Nat → ClassId} (a1 : Int32) (M : MS) (r : MS × Unit) (hr : m_Row_addInOrder a1 M = some r) : Ct l y_Row_addInOrder (Cond.code y_Row_addInOrder b_Row_addInOrder 4 none :: x_T) 4 90 D x_cl (xty g) base (xwd g) cM x_gr [.ref 22, .int a1] M r.1 (ovU r.2) :=
  x_met (ov := ovU) (by decide) (Nat.le_of_ble_eq_true rfl) (fun p e R s m args below meth c az B => t_Row_addInOrder B a1 M) r hr
end
theorem d_Gathering_take_0 : decode b_Gathering_take 0 = .ok (.iload_n 1, 1) := by decide +kernel
theorem d_Gathering_take_1 : decode b_Gathering_take 1 = .ok (.aload_n 0, 1) := by decide +kernel
theorem d_Gathering_take_2 : decode b_Gathering_take 2 = .ok (.invokevirtual 32, 3) := by decide +kernel
theorem d_Gathering_take_5 : decode b_Gathering_take 5 = .ok (.if_icmp .ne (11), 3) := by decide +kernel
theorem d_Gathering_take_8 : decode b_Gathering_take 8 = .ok (.aload_n 0, 1) := by decide +kernel
theorem d_Gathering_take_9 : decode b_Gathering_take 9 = .ok (.iconst (1), 1) := by decide +kernel
theorem d_Gathering_take_10 : decode b_Gathering_take 10 = .ok (.putfield 25, 3) := by decide +kernel
theorem d_Gathering_take_13 : decode b_Gathering_take 13 = .ok (.goto (37), 3) := by decide +kernel
theorem d_Gathering_take_16 : decode b_Gathering_take 16 = .ok (.iload_n 1, 1) := by decide +kernel
theorem d_Gathering_take_17 : decode b_Gathering_take 17 = .ok (.bipush (16), 2) := by decide +kernel
theorem d_Gathering_take_19 : decode b_Gathering_take 19 = .ok (.if_icmp .ge (15), 3) := by decide +kernel
theorem d_Gathering_take_22 : decode b_Gathering_take 22 = .ok (.iload_n 1, 1) := by decide +kernel
theorem d_Gathering_take_23 : decode b_Gathering_take 23 = .ok (.ifCond .eq (11), 3) := by decide +kernel
theorem d_Gathering_take_26 : decode b_Gathering_take 26 = .ok (.aload_n 0, 1) := by decide +kernel
theorem d_Gathering_take_27 : decode b_Gathering_take 27 = .ok (.iload_n 1, 1) := by decide +kernel
theorem d_Gathering_take_28 : decode b_Gathering_take 28 = .ok (.invokevirtual 36, 3) := by decide +kernel
theorem d_Gathering_take_31 : decode b_Gathering_take 31 = .ok (.goto (19), 3) := by decide +kernel
theorem d_Gathering_take_34 : decode b_Gathering_take 34 = .ok (.iload_n 1, 1) := by decide +kernel
theorem d_Gathering_take_35 : decode b_Gathering_take 35 = .ok (.aload_n 0, 1) := by decide +kernel
theorem d_Gathering_take_36 : decode b_Gathering_take 36 = .ok (.invokevirtual 40, 3) := by decide +kernel
theorem d_Gathering_take_39 : decode b_Gathering_take 39 = .ok (.if_icmp .eq (11), 3) := by decide +kernel
theorem d_Gathering_take_42 : decode b_Gathering_take 42 = .ok (.aload_n 0, 1) := by decide +kernel
theorem d_Gathering_take_43 : decode b_Gathering_take 43 = .ok (.getfield 12, 3) := by decide +kernel
theorem d_Gathering_take_46 : decode b_Gathering_take 46 = .ok (.iload_n 1, 1) := by decide +kernel
theorem d_Gathering_take_47 : decode b_Gathering_take 47 = .ok (.invokevirtual 43, 3) := by decide +kernel
theorem d_Gathering_take_50 : decode b_Gathering_take 50 = .ok (.return_, 1) := by decide +kernel
section
variable {p : Program} {l : Launch} {e : Env} {R : Room} {s : State} {m : MethodId} {args : Array Value} {below : List Frame} {meth : Method} {c : Code} {D : va_G} {base : Nat} {g : Nat → ClassId} {az : Nat → Nat} {kz : Nat × Nat}
set_option maxRecDepth 100000 in
set_option maxHeartbeats 4000000 in
theorem t_Gathering_take_34  (B : xB p R s m args meth c b_Gathering_take 2 R_Gathering (Cond.code y_Gathering_take b_Gathering_take 2 none :: x_T) none 5 113 D x_cl (xty g) base)  (l1 : Int32) (M : MS)  : Sn p l e R s m args below meth c 2 D x_cl base (xwd g) cM x_gr az kz (xfc cM) (xZ below args s D x_cl (xty g) base (xwd g) cM x_gr az kz ovU) 34 [] [(0, .ref 21), (1, .int l1)] M (m_Gathering_take_34 l1 M) := by
  unfold m_Gathering_take_34
  refine s_iload_n B d_Gathering_take_34 rfl ?_
  refine s_aload_n B d_Gathering_take_35 rfl ?_
  refine s_pick (lv1 := [(0, .ref 21), (1, .int l1)]) [0, 1] rfl ?_
  refine s_callI (av := [.ref 21]) (rest := [.int l1]) B (lk_V B d_Gathering_take_36 (gl_Gathering_40 _) rfl hv_Gathering_neutral (by decide) (by decide)) rfl (x_rcV B xc_Gathering kd_21) (fun _ _ => rfl) rfl rfl (by simp [Value.category]) rfl (fun r1 e9 => ct_Gathering_neutral  _ r1 e9) (fun r1 _ => ?_)
  refine s_icmp_eq B d_Gathering_take_39 rfl (fun _ => ?_) (fun _ => ?_)
  · exact s_vret B d_Gathering_take_50
  · refine s_aload_n B d_Gathering_take_42 rfl ?_
    refine s_getS (k := 0) (n := 22) B xc_Gathering kd_21 (by decide) rfl rfl fl_Gathering_12 sr_21_0 d_Gathering_take_43 ?_
    refine s_iload_n B d_Gathering_take_46 rfl ?_
    refine s_pick (lv1 := []) [] rfl ?_
    refine s_callU (av := [.ref 22, .int l1]) (rest := []) B (lk_V B d_Gathering_take_47 (gl_Gathering_43 _) rfl hv_Row_addInOrder (by decide) (by decide)) rfl (x_rcV B xc_Row kd_22) (fun _ h => h) rfl rfl (by simp [Value.category]) rfl (fun r2 e9 => ct_Row_addInOrder _ _ r2 e9) (fun r2 _ => ?_)
    exact s_vret B d_Gathering_take_50
set_option maxRecDepth 100000 in
set_option maxHeartbeats 4000000 in
theorem t_Gathering_take (B : xB p R s m args meth c b_Gathering_take 2 R_Gathering (Cond.code y_Gathering_take b_Gathering_take 2 none :: x_T) none 5 113 D x_cl (xty g) base) (a1 : Int32) (M : MS) : Sn p l e R s m args below meth c 2 D x_cl base (xwd g) cM x_gr az kz (xfc cM) (xZ below args s D x_cl (xty g) base (xwd g) cM x_gr az kz ovU) 0 [] [(0, .ref 21), (1, .int a1)] M (m_Gathering_take a1 M) := by
  unfold m_Gathering_take
  refine s_iload_n B d_Gathering_take_0 rfl ?_
  refine s_aload_n B d_Gathering_take_1 rfl ?_
  refine s_pick (lv1 := [(0, .ref 21), (1, .int a1)]) [0, 1] rfl ?_
  refine s_callI (av := [.ref 21]) (rest := [.int a1]) B (lk_V B d_Gathering_take_2 (gl_Gathering_32 _) rfl hv_Gathering_swallower (by decide) (by decide)) rfl (x_rcV B xc_Gathering kd_21) (fun _ _ => rfl) rfl rfl (by simp [Value.category]) rfl (fun r1 e9 => ct_Gathering_swallower  _ r1 e9) (fun r1 _ => ?_)
  refine s_icmp_ne B d_Gathering_take_5 rfl (fun _ => ?_) (fun _ => ?_)
  · refine s_iload_n B d_Gathering_take_16 rfl ?_
    refine s_bipush (v := (16:Int32)) B d_Gathering_take_17 (by decide) ?_
    refine s_icmp_ge B d_Gathering_take_19 rfl (fun _ => ?_) (fun _ => ?_)
    · refine s_pick (lv1 := [(0, .ref 21), (1, .int a1)]) [0, 1] rfl ?_
      exact t_Gathering_take_34 B a1 r1.1
    · refine s_iload_n B d_Gathering_take_22 rfl ?_
      refine s_if_eq B d_Gathering_take_23 rfl (fun _ => ?_) (fun _ => ?_)
      · refine s_pick (lv1 := [(0, .ref 21), (1, .int a1)]) [0, 1] rfl ?_
        exact t_Gathering_take_34 B a1 r1.1
      · refine s_aload_n B d_Gathering_take_26 rfl ?_
        refine s_iload_n B d_Gathering_take_27 rfl ?_
        refine s_pick (lv1 := []) [] rfl ?_
        refine s_callU (av := [.ref 21, .int a1]) (rest := []) B (lk_V B d_Gathering_take_28 (gl_Gathering_36 _) rfl hv_Gathering_takeClass (by decide) (by decide)) rfl (x_rcV B xc_Gathering kd_21) (fun _ _ => rfl) rfl rfl (by simp [Value.category]) rfl (fun r2 e9 => ct_Gathering_takeClass _ _ r2 e9) (fun r2 _ => ?_)
        refine s_goto B d_Gathering_take_31 rfl ?_
        exact s_vret B d_Gathering_take_50
  · refine s_aload_n B d_Gathering_take_8 rfl ?_
    refine s_iconst (v := (1:Int32)) B d_Gathering_take_9 (by decide) ?_
    refine s_putI (k := 3) (ty := .boolean) B xc_Gathering kd_21 (by decide) rfl rfl fl_Gathering_25 rfl rfl rfl rfl d_Gathering_take_10 (fun M3 _ => ?_)
    refine s_goto B d_Gathering_take_13 rfl ?_
    exact s_vret B d_Gathering_take_50
set_option maxRecDepth 100000 in
set_option maxHeartbeats 4000000 in
theorem ct_Gathering_take {l : Launch} {D : va_G} {base : Nat} {g : Nat → ClassId} (a1 : Int32) (M : MS) (r : MS × Unit) (hr : m_Gathering_take a1 M = some r) : Ct l y_Gathering_take (Cond.code y_Gathering_take b_Gathering_take 2 none :: x_T) 5 113 D x_cl (xty g) base (xwd g) cM x_gr [.ref 21, .int a1] M r.1 (ovU r.2) :=
  x_met (ov := ovU) (by decide) (Nat.le_of_ble_eq_true rfl) (fun p e R s m args below meth c az B => t_Gathering_take B a1 M) r hr
end
theorem d_Terms_gather_0 : decode b_Terms_gather 0 = .ok (.aload_n 0, 1) := by decide +kernel
theorem d_Terms_gather_1 : decode b_Terms_gather 1 = .ok (.getfield 11, 3) := by decide +kernel
theorem d_Terms_gather_4 : decode b_Terms_gather 4 = .ok (.iload_n 2, 1) := by decide +kernel
theorem d_Terms_gather_5 : decode b_Terms_gather 5 = .ok (.iaload, 1) := by decide +kernel
theorem d_Terms_gather_6 : decode b_Terms_gather 6 = .ok (.iload_n 1, 1) := by decide +kernel
theorem d_Terms_gather_7 : decode b_Terms_gather 7 = .ok (.if_icmp .eq (12), 3) := by decide +kernel
theorem d_Terms_gather_10 : decode b_Terms_gather 10 = .ok (.aload_n 0, 1) := by decide +kernel
theorem d_Terms_gather_11 : decode b_Terms_gather 11 = .ok (.getfield 64, 3) := by decide +kernel
theorem d_Terms_gather_14 : decode b_Terms_gather 14 = .ok (.iload_n 2, 1) := by decide +kernel
theorem d_Terms_gather_15 : decode b_Terms_gather 15 = .ok (.invokevirtual 140, 3) := by decide +kernel
theorem d_Terms_gather_18 : decode b_Terms_gather 18 = .ok (.return_, 1) := by decide +kernel
theorem d_Terms_gather_19 : decode b_Terms_gather 19 = .ok (.iconst (0), 1) := by decide +kernel
theorem d_Terms_gather_20 : decode b_Terms_gather 20 = .ok (.istore_n 3, 1) := by decide +kernel
theorem d_Terms_gather_21 : decode b_Terms_gather 21 = .ok (.iload_n 3, 1) := by decide +kernel
theorem d_Terms_gather_22 : decode b_Terms_gather 22 = .ok (.aload_n 0, 1) := by decide +kernel
theorem d_Terms_gather_23 : decode b_Terms_gather 23 = .ok (.getfield 24, 3) := by decide +kernel
theorem d_Terms_gather_26 : decode b_Terms_gather 26 = .ok (.iload_n 2, 1) := by decide +kernel
theorem d_Terms_gather_27 : decode b_Terms_gather 27 = .ok (.iaload, 1) := by decide +kernel
theorem d_Terms_gather_28 : decode b_Terms_gather 28 = .ok (.if_icmp .ge (22), 3) := by decide +kernel
theorem d_Terms_gather_31 : decode b_Terms_gather 31 = .ok (.aload_n 0, 1) := by decide +kernel
theorem d_Terms_gather_32 : decode b_Terms_gather 32 = .ok (.getfield 64, 3) := by decide +kernel
theorem d_Terms_gather_35 : decode b_Terms_gather 35 = .ok (.aload_n 0, 1) := by decide +kernel
theorem d_Terms_gather_36 : decode b_Terms_gather 36 = .ok (.iload_n 2, 1) := by decide +kernel
theorem d_Terms_gather_37 : decode b_Terms_gather 37 = .ok (.iload_n 3, 1) := by decide +kernel
theorem d_Terms_gather_38 : decode b_Terms_gather 38 = .ok (.invokevirtual 91, 3) := by decide +kernel
theorem d_Terms_gather_41 : decode b_Terms_gather 41 = .ok (.invokevirtual 140, 3) := by decide +kernel
theorem d_Terms_gather_44 : decode b_Terms_gather 44 = .ok (.iinc 3 (1), 3) := by decide +kernel
theorem d_Terms_gather_47 : decode b_Terms_gather 47 = .ok (.goto (-26), 3) := by decide +kernel
theorem d_Terms_gather_50 : decode b_Terms_gather 50 = .ok (.return_, 1) := by decide +kernel
section
variable {p : Program} {l : Launch} {e : Env} {R : Room} {s : State} {m : MethodId} {args : Array Value} {below : List Frame} {meth : Method} {c : Code} {D : va_G} {base : Nat} {g : Nat → ClassId} {az : Nat → Nat} {kz : Nat × Nat}
set_option maxRecDepth 100000 in
set_option maxHeartbeats 4000000 in
theorem t_Terms_gather_21b {k21 : Int32 × Int32 × MS → Option (MS × Unit)} (B : xB p R s m args meth c b_Terms_gather 4 R_Terms (Cond.code y_Terms_gather b_Terms_gather 4 none :: x_T) none 6 134 D x_cl (xty g) base) (hk21 : ∀ (l2 : Int32) (l3 : Int32) (M : MS) , Sn p l e R s m args below meth c 4 D x_cl base (xwd g) cM x_gr az kz (xfc cM) (xZ below args s D x_cl (xty g) base (xwd g) cM x_gr az kz ovU) 21 [] [(0, .ref 2), (2, .int l2), (3, .int l3)] M (k21 (l2, l3, M))) (l2 : Int32) (l3 : Int32) (M : MS)  : Sn p l e R s m args below meth c 4 D x_cl base (xwd g) cM x_gr az kz (xfc cM) (xZ below args s D x_cl (xty g) base (xwd g) cM x_gr az kz ovU) 21 [] [(0, .ref 2), (2, .int l2), (3, .int l3)] M (m_Terms_gather_21b k21 l2 l3 M) := by
  unfold m_Terms_gather_21b
  refine s_iload_n B d_Terms_gather_21 rfl ?_
  refine s_aload_n B d_Terms_gather_22 rfl ?_
  refine s_getS (k := 4) (n := 7) B xc_Terms kd_2 (by decide) rfl rfl fl_Terms_24 sr_2_4 d_Terms_gather_23 ?_
  refine s_iload_n B d_Terms_gather_26 rfl ?_
  refine s_iald B (Or.inr kd_7) d_Terms_gather_27 (fun v1 _ => ?_)
  refine s_icmp_ge B d_Terms_gather_28 rfl (fun _ => ?_) (fun _ => ?_)
  · exact s_vret B d_Terms_gather_50
  · refine s_aload_n B d_Terms_gather_31 rfl ?_
    refine s_getS (k := 15) (n := 21) B xc_Terms kd_2 (by decide) rfl rfl fl_Terms_64 sr_2_15 d_Terms_gather_32 ?_
    refine s_aload_n B d_Terms_gather_35 rfl ?_
    refine s_iload_n B d_Terms_gather_36 rfl ?_
    refine s_iload_n B d_Terms_gather_37 rfl ?_
    refine s_pick (lv1 := [(0, .ref 2), (2, .int l2), (3, .int l3)]) [0, 2, 3] rfl ?_
    refine s_callI (av := [.ref 2, .int l2, .int l3]) (rest := [.ref 21]) B (lk_V B d_Terms_gather_38 (gl_Terms_91 _) rfl hv_Terms_kid (by decide) (by decide)) rfl (x_rcV B xc_Terms kd_2) (fun _ _ => rfl) rfl rfl (by simp [Value.category]) rfl (fun r2 e9 => ct_Terms_kid _ _ _ r2 e9) (fun r2 _ => ?_)
    refine s_pick (lv1 := [(0, .ref 2), (2, .int l2), (3, .int l3)]) [0, 2, 3] rfl ?_
    refine s_callU (av := [.ref 21, .int r2.2]) (rest := []) B (lk_V B d_Terms_gather_41 (gl_Terms_140 _) rfl hv_Gathering_take (by decide) (by decide)) rfl (x_rcV B xc_Gathering kd_21) (fun _ h => h) rfl (by simp [xng, x_gr, kd_2]) (by simp [Value.category]) rfl (fun r3 e9 => ct_Gathering_take _ _ r3 e9) (fun r3 _ => ?_)
    refine s_iinc (w := (1:Int32)) B d_Terms_gather_44 rfl (by decide) (by decide) ?_
    refine s_goto B d_Terms_gather_47 rfl ?_
    refine s_pick (lv1 := [(0, .ref 2), (2, .int l2), (3, .int (l3 + (1:Int32)))]) [0, 2, 3] rfl ?_
    exact hk21 l2 (l3 + (1:Int32)) r3.1
set_option maxRecDepth 100000 in
set_option maxHeartbeats 4000000 in
theorem t_Terms_gather_21  (B : xB p R s m args meth c b_Terms_gather 4 R_Terms (Cond.code y_Terms_gather b_Terms_gather 4 none :: x_T) none 6 134 D x_cl (xty g) base)  (l2 : Int32) (l3 : Int32) (M : MS)  : Sn p l e R s m args below meth c 4 D x_cl base (xwd g) cM x_gr az kz (xfc cM) (xZ below args s D x_cl (xty g) base (xwd g) cM x_gr az kz ovU) 21 [] [(0, .ref 2), (2, .int l2), (3, .int l3)] M (m_Terms_gather_21 (l2, l3, M)) := by
  have q : ∀ (F : Nat) (i : Int32 × Int32 × MS), Sn p l e R s m args below meth c 4 D x_cl base (xwd g) cM x_gr az kz (xfc cM) (xZ below args s D x_cl (xty g) base (xwd g) cM x_gr az kz ovU) 21 [] [(0, .ref 2), (2, .int i.1), (3, .int i.2.1)] i.2.2 (fx (fun (k : Int32 × Int32 × MS → Option (MS × Unit)) (i : Int32 × Int32 × MS) => m_Terms_gather_21b k i.1 i.2.1 i.2.2) F i) := by
    intro F
    induction F with
    | zero => intro i ; exact s_none
    | succ F ih => intro i ; exact t_Terms_gather_21b B  (fun l2 l3 M  => ih (l2, l3, M) ) i.1 i.2.1 i.2.2 
  exact q FU (l2, l3, M) 
set_option maxRecDepth 100000 in
set_option maxHeartbeats 4000000 in
theorem t_Terms_gather (B : xB p R s m args meth c b_Terms_gather 4 R_Terms (Cond.code y_Terms_gather b_Terms_gather 4 none :: x_T) none 6 134 D x_cl (xty g) base) (a1 : Int32) (a2 : Int32) (M : MS) : Sn p l e R s m args below meth c 4 D x_cl base (xwd g) cM x_gr az kz (xfc cM) (xZ below args s D x_cl (xty g) base (xwd g) cM x_gr az kz ovU) 0 [] [(0, .ref 2), (1, .int a1), (2, .int a2)] M (m_Terms_gather a1 a2 M) := by
  unfold m_Terms_gather
  refine s_aload_n B d_Terms_gather_0 rfl ?_
  refine s_getS (k := 0) (n := 3) B xc_Terms kd_2 (by decide) rfl rfl fl_Terms_11 sr_2_0 d_Terms_gather_1 ?_
  refine s_iload_n B d_Terms_gather_4 rfl ?_
  refine s_iald B (Or.inr kd_3) d_Terms_gather_5 (fun v1 _ => ?_)
  refine s_iload_n B d_Terms_gather_6 rfl ?_
  refine s_icmp_eq B d_Terms_gather_7 rfl (fun _ => ?_) (fun _ => ?_)
  · refine s_iconst (v := (0:Int32)) B d_Terms_gather_19 (by decide) ?_
    refine s_istore_n B d_Terms_gather_20 (by decide) ?_
    refine s_pick (lv1 := [(0, .ref 2), (2, .int a2), (3, .int (0:Int32))]) [0, 2, 3] rfl ?_
    exact t_Terms_gather_21 B a2 (0:Int32) M
  · refine s_aload_n B d_Terms_gather_10 rfl ?_
    refine s_getS (k := 15) (n := 21) B xc_Terms kd_2 (by decide) rfl rfl fl_Terms_64 sr_2_15 d_Terms_gather_11 ?_
    refine s_iload_n B d_Terms_gather_14 rfl ?_
    refine s_pick (lv1 := []) [] rfl ?_
    refine s_callU (av := [.ref 21, .int a2]) (rest := []) B (lk_V B d_Terms_gather_15 (gl_Terms_140 _) rfl hv_Gathering_take (by decide) (by decide)) rfl (x_rcV B xc_Gathering kd_21) (fun _ h => h) rfl rfl (by simp [Value.category]) rfl (fun r2 e9 => ct_Gathering_take _ _ r2 e9) (fun r2 _ => ?_)
    exact s_vret B d_Terms_gather_18
set_option maxRecDepth 100000 in
set_option maxHeartbeats 4000000 in
theorem ct_Terms_gather {l : Launch} {D : va_G} {base : Nat} {g : Nat → ClassId} (a1 : Int32) (a2 : Int32) (M : MS) (r : MS × Unit) (hr : m_Terms_gather a1 a2 M = some r) : Ct l y_Terms_gather (Cond.code y_Terms_gather b_Terms_gather 4 none :: x_T) 6 134 D x_cl (xty g) base (xwd g) cM x_gr [.ref 2, .int a1, .int a2] M r.1 (ovU r.2) :=
  x_met (ov := ovU) (by decide) (Nat.le_of_ble_eq_true rfl) (fun p e R s m args below meth c az B => t_Terms_gather B a1 a2 M) r hr
end
theorem d_Gathering_single_0 : decode b_Gathering_single 0 = .ok (.aload_n 0, 1) := by decide +kernel
theorem d_Gathering_single_1 : decode b_Gathering_single 1 = .ok (.getfield 25, 3) := by decide +kernel
theorem d_Gathering_single_4 : decode b_Gathering_single 4 = .ok (.ifCond .ne (10), 3) := by decide +kernel
theorem d_Gathering_single_7 : decode b_Gathering_single 7 = .ok (.aload_n 0, 1) := by decide +kernel
theorem d_Gathering_single_8 : decode b_Gathering_single 8 = .ok (.getfield 22, 3) := by decide +kernel
theorem d_Gathering_single_11 : decode b_Gathering_single 11 = .ok (.ifCond .ne (8), 3) := by decide +kernel
theorem d_Gathering_single_14 : decode b_Gathering_single 14 = .ok (.aload_n 0, 1) := by decide +kernel
theorem d_Gathering_single_15 : decode b_Gathering_single 15 = .ok (.invokevirtual 32, 3) := by decide +kernel
theorem d_Gathering_single_18 : decode b_Gathering_single 18 = .ok (.ireturn, 1) := by decide +kernel
theorem d_Gathering_single_19 : decode b_Gathering_single 19 = .ok (.aload_n 0, 1) := by decide +kernel
theorem d_Gathering_single_20 : decode b_Gathering_single 20 = .ok (.getfield 22, 3) := by decide +kernel
theorem d_Gathering_single_23 : decode b_Gathering_single 23 = .ok (.iconst (-1), 1) := by decide +kernel
theorem d_Gathering_single_24 : decode b_Gathering_single 24 = .ok (.if_icmp .eq (14), 3) := by decide +kernel
theorem d_Gathering_single_27 : decode b_Gathering_single 27 = .ok (.aload_n 0, 1) := by decide +kernel
theorem d_Gathering_single_28 : decode b_Gathering_single 28 = .ok (.getfield 12, 3) := by decide +kernel
theorem d_Gathering_single_31 : decode b_Gathering_single 31 = .ok (.aload_n 0, 1) := by decide +kernel
theorem d_Gathering_single_32 : decode b_Gathering_single 32 = .ok (.getfield 22, 3) := by decide +kernel
theorem d_Gathering_single_35 : decode b_Gathering_single 35 = .ok (.invokevirtual 43, 3) := by decide +kernel
theorem d_Gathering_single_38 : decode b_Gathering_single 38 = .ok (.aload_n 0, 1) := by decide +kernel
theorem d_Gathering_single_39 : decode b_Gathering_single 39 = .ok (.getfield 12, 3) := by decide +kernel
theorem d_Gathering_single_42 : decode b_Gathering_single 42 = .ok (.invokevirtual 46, 3) := by decide +kernel
theorem d_Gathering_single_45 : decode b_Gathering_single 45 = .ok (.ifCond .ne (8), 3) := by decide +kernel
theorem d_Gathering_single_48 : decode b_Gathering_single 48 = .ok (.aload_n 0, 1) := by decide +kernel
theorem d_Gathering_single_49 : decode b_Gathering_single 49 = .ok (.invokevirtual 40, 3) := by decide +kernel
theorem d_Gathering_single_52 : decode b_Gathering_single 52 = .ok (.ireturn, 1) := by decide +kernel
theorem d_Gathering_single_53 : decode b_Gathering_single 53 = .ok (.aload_n 0, 1) := by decide +kernel
theorem d_Gathering_single_54 : decode b_Gathering_single 54 = .ok (.getfield 12, 3) := by decide +kernel
theorem d_Gathering_single_57 : decode b_Gathering_single 57 = .ok (.invokevirtual 46, 3) := by decide +kernel
theorem d_Gathering_single_60 : decode b_Gathering_single 60 = .ok (.iconst (1), 1) := by decide +kernel
theorem d_Gathering_single_61 : decode b_Gathering_single 61 = .ok (.if_icmp .ne (14), 3) := by decide +kernel
theorem d_Gathering_single_64 : decode b_Gathering_single 64 = .ok (.aload_n 0, 1) := by decide +kernel
theorem d_Gathering_single_65 : decode b_Gathering_single 65 = .ok (.getfield 12, 3) := by decide +kernel
theorem d_Gathering_single_68 : decode b_Gathering_single 68 = .ok (.iconst (0), 1) := by decide +kernel
theorem d_Gathering_single_69 : decode b_Gathering_single 69 = .ok (.invokevirtual 49, 3) := by decide +kernel
theorem d_Gathering_single_72 : decode b_Gathering_single 72 = .ok (.goto (4), 3) := by decide +kernel
theorem d_Gathering_single_75 : decode b_Gathering_single 75 = .ok (.iconst (-1), 1) := by decide +kernel
theorem d_Gathering_single_76 : decode b_Gathering_single 76 = .ok (.ireturn, 1) := by decide +kernel
section
variable {p : Program} {l : Launch} {e : Env} {R : Room} {s : State} {m : MethodId} {args : Array Value} {below : List Frame} {meth : Method} {c : Code} {D : va_G} {base : Nat} {g : Nat → ClassId} {az : Nat → Nat} {kz : Nat × Nat}
set_option maxRecDepth 100000 in
set_option maxHeartbeats 4000000 in
theorem t_Gathering_single_14  (B : xB p R s m args meth c b_Gathering_single 1 R_Gathering (Cond.code y_Gathering_single b_Gathering_single 1 (some .int) :: x_T) (some .int) 5 113 D x_cl (xty g) base)   (M : MS)  : Sn p l e R s m args below meth c 1 D x_cl base (xwd g) cM x_gr az kz (xfc cM) (xZ below args s D x_cl (xty g) base (xwd g) cM x_gr az kz ovI) 14 [] [(0, .ref 21)] M (m_Gathering_single_14 M) := by
  unfold m_Gathering_single_14
  refine s_aload_n B d_Gathering_single_14 rfl ?_
  refine s_pick (lv1 := []) [] rfl ?_
  refine s_callI (av := [.ref 21]) (rest := []) B (lk_V B d_Gathering_single_15 (gl_Gathering_32 _) rfl hv_Gathering_swallower (by decide) (by decide)) rfl (x_rcV B xc_Gathering kd_21) (fun _ _ => rfl) rfl rfl (by simp [Value.category]) rfl (fun r1 e9 => ct_Gathering_swallower  _ r1 e9) (fun r1 _ => ?_)
  exact s_iret B d_Gathering_single_18
set_option maxRecDepth 100000 in
set_option maxHeartbeats 4000000 in
theorem t_Gathering_single_38  (B : xB p R s m args meth c b_Gathering_single 1 R_Gathering (Cond.code y_Gathering_single b_Gathering_single 1 (some .int) :: x_T) (some .int) 5 113 D x_cl (xty g) base)   (M : MS)  : Sn p l e R s m args below meth c 1 D x_cl base (xwd g) cM x_gr az kz (xfc cM) (xZ below args s D x_cl (xty g) base (xwd g) cM x_gr az kz ovI) 38 [] [(0, .ref 21)] M (m_Gathering_single_38 M) := by
  unfold m_Gathering_single_38
  refine s_aload_n B d_Gathering_single_38 rfl ?_
  refine s_getS (k := 0) (n := 22) B xc_Gathering kd_21 (by decide) rfl rfl fl_Gathering_12 sr_21_0 d_Gathering_single_39 ?_
  refine s_pick (lv1 := [(0, .ref 21)]) [0] rfl ?_
  refine s_callI (av := [.ref 22]) (rest := []) B (lk_V B d_Gathering_single_42 (gl_Gathering_46 _) rfl hv_Row_size (by decide) (by decide)) rfl (x_rcV B xc_Row kd_22) (fun _ _ => rfl) rfl rfl (by simp [Value.category]) rfl (fun r1 e9 => ct_Row_size _ _ r1 e9) (fun r1 _ => ?_)
  refine s_if_ne B d_Gathering_single_45 rfl (fun _ => ?_) (fun _ => ?_)
  · refine s_aload_n B d_Gathering_single_53 rfl ?_
    refine s_getS (k := 0) (n := 22) B xc_Gathering kd_21 (by decide) rfl rfl fl_Gathering_12 sr_21_0 d_Gathering_single_54 ?_
    refine s_pick (lv1 := [(0, .ref 21)]) [0] rfl ?_
    refine s_callI (av := [.ref 22]) (rest := []) B (lk_V B d_Gathering_single_57 (gl_Gathering_46 _) rfl hv_Row_size (by decide) (by decide)) rfl (x_rcV B xc_Row kd_22) (fun _ _ => rfl) rfl rfl (by simp [Value.category]) rfl (fun r2 e9 => ct_Row_size _ _ r2 e9) (fun r2 _ => ?_)
    refine s_iconst (v := (1:Int32)) B d_Gathering_single_60 (by decide) ?_
    refine s_icmp_ne B d_Gathering_single_61 rfl (fun _ => ?_) (fun _ => ?_)
    · refine s_iconst (v := (-1:Int32)) B d_Gathering_single_75 (by decide) ?_
      exact s_iret B d_Gathering_single_76
    · refine s_aload_n B d_Gathering_single_64 rfl ?_
      refine s_getS (k := 0) (n := 22) B xc_Gathering kd_21 (by decide) rfl rfl fl_Gathering_12 sr_21_0 d_Gathering_single_65 ?_
      refine s_iconst (v := (0:Int32)) B d_Gathering_single_68 (by decide) ?_
      refine s_pick (lv1 := []) [] rfl ?_
      refine s_callI (av := [.ref 22, .int (0:Int32)]) (rest := []) B (lk_V B d_Gathering_single_69 (gl_Gathering_49 _) rfl hv_Row_get (by decide) (by decide)) rfl (x_rcV B xc_Row kd_22) (fun _ _ => rfl) rfl rfl (by simp [Value.category]) rfl (fun r3 e9 => ct_Row_get _ _ _ r3 e9) (fun r3 _ => ?_)
      refine s_goto B d_Gathering_single_72 rfl ?_
      exact s_iret B d_Gathering_single_76
  · refine s_aload_n B d_Gathering_single_48 rfl ?_
    refine s_pick (lv1 := []) [] rfl ?_
    refine s_callI (av := [.ref 21]) (rest := []) B (lk_V B d_Gathering_single_49 (gl_Gathering_40 _) rfl hv_Gathering_neutral (by decide) (by decide)) rfl (x_rcV B xc_Gathering kd_21) (fun _ _ => rfl) rfl rfl (by simp [Value.category]) rfl (fun r4 e9 => ct_Gathering_neutral  _ r4 e9) (fun r4 _ => ?_)
    exact s_iret B d_Gathering_single_52
set_option maxRecDepth 100000 in
set_option maxHeartbeats 4000000 in
theorem t_Gathering_single (B : xB p R s m args meth c b_Gathering_single 1 R_Gathering (Cond.code y_Gathering_single b_Gathering_single 1 (some .int) :: x_T) (some .int) 5 113 D x_cl (xty g) base)  (M : MS) : Sn p l e R s m args below meth c 1 D x_cl base (xwd g) cM x_gr az kz (xfc cM) (xZ below args s D x_cl (xty g) base (xwd g) cM x_gr az kz ovI) 0 [] [(0, .ref 21)] M (m_Gathering_single M) := by
  unfold m_Gathering_single
  refine s_aload_n B d_Gathering_single_0 rfl ?_
  refine s_getI (k := 3) B xc_Gathering kd_21 (by decide) rfl rfl fl_Gathering_25 d_Gathering_single_1 ?_
  refine s_if_ne B d_Gathering_single_4 rfl (fun _ => ?_) (fun _ => ?_)
  · refine s_pick (lv1 := [(0, .ref 21)]) [0] rfl ?_
    exact t_Gathering_single_14 B M
  · refine s_aload_n B d_Gathering_single_7 rfl ?_
    refine s_getI (k := 2) B xc_Gathering kd_21 (by decide) rfl rfl fl_Gathering_22 d_Gathering_single_8 ?_
    refine s_if_ne B d_Gathering_single_11 rfl (fun _ => ?_) (fun _ => ?_)
    · refine s_aload_n B d_Gathering_single_19 rfl ?_
      refine s_getI (k := 2) B xc_Gathering kd_21 (by decide) rfl rfl fl_Gathering_22 d_Gathering_single_20 ?_
      refine s_iconst (v := (-1:Int32)) B d_Gathering_single_23 (by decide) ?_
      refine s_icmp_eq B d_Gathering_single_24 rfl (fun _ => ?_) (fun _ => ?_)
      · refine s_pick (lv1 := [(0, .ref 21)]) [0] rfl ?_
        exact t_Gathering_single_38 B M
      · refine s_aload_n B d_Gathering_single_27 rfl ?_
        refine s_getS (k := 0) (n := 22) B xc_Gathering kd_21 (by decide) rfl rfl fl_Gathering_12 sr_21_0 d_Gathering_single_28 ?_
        refine s_aload_n B d_Gathering_single_31 rfl ?_
        refine s_getI (k := 2) B xc_Gathering kd_21 (by decide) rfl rfl fl_Gathering_22 d_Gathering_single_32 ?_
        refine s_pick (lv1 := [(0, .ref 21)]) [0] rfl ?_
        refine s_callU (av := [.ref 22, .int (gI M 21 2)]) (rest := []) B (lk_V B d_Gathering_single_35 (gl_Gathering_43 _) rfl hv_Row_addInOrder (by decide) (by decide)) rfl (x_rcV B xc_Row kd_22) (fun _ h => h) rfl (by simp [xng, x_gr, kd_21]) (by simp [Value.category]) rfl (fun r1 e9 => ct_Row_addInOrder _ _ r1 e9) (fun r1 _ => ?_)
        refine s_pick (lv1 := [(0, .ref 21)]) [0] rfl ?_
        exact t_Gathering_single_38 B r1.1
    · refine s_pick (lv1 := [(0, .ref 21)]) [0] rfl ?_
      exact t_Gathering_single_14 B M
set_option maxRecDepth 100000 in
set_option maxHeartbeats 4000000 in
theorem ct_Gathering_single {l : Launch} {D : va_G} {base : Nat} {g : Nat → ClassId}  (M : MS) (r : MS × Int32) (hr : m_Gathering_single M = some r) : Ct l y_Gathering_single (Cond.code y_Gathering_single b_Gathering_single 1 (some .int) :: x_T) 5 113 D x_cl (xty g) base (xwd g) cM x_gr [.ref 21] M r.1 (ovI r.2) :=
  x_met (ov := ovI) (by decide) (Nat.le_of_ble_eq_true rfl) (fun p e R s m args below meth c az B => t_Gathering_single B  M) r hr
end
theorem d_Gathering_own_0 : decode b_Gathering_own 0 = .ok (.aload_n 0, 1) := by decide +kernel
theorem d_Gathering_own_1 : decode b_Gathering_own 1 = .ok (.getfield 12, 3) := by decide +kernel
theorem d_Gathering_own_4 : decode b_Gathering_own 4 = .ok (.areturn, 1) := by decide +kernel
section
variable {p : Program} {l : Launch} {e : Env} {R : Room} {s : State} {m : MethodId} {args : Array Value} {below : List Frame} {meth : Method} {c : Code} {D : va_G} {base : Nat} {g : Nat → ClassId} {az : Nat → Nat} {kz : Nat × Nat}
set_option maxRecDepth 100000 in
set_option maxHeartbeats 4000000 in
theorem t_Gathering_own (B : xB p R s m args meth c b_Gathering_own 1 R_Gathering (Cond.code y_Gathering_own b_Gathering_own 1 (some (.object "DerivativeDesk$Row")) :: x_T) (some (.object "DerivativeDesk$Row")) 0 0 D x_cl (xty g) base)  (M : MS) : Sn p l e R s m args below meth c 1 D x_cl base (xwd g) cM x_g0 az kz (xfc cM) (xZ below args s D x_cl (xty g) base (xwd g) cM x_g0 az kz ovR) 0 [] [(0, .ref 21)] M (m_Gathering_own M) := by
  unfold m_Gathering_own
  refine s_aload_n B d_Gathering_own_0 rfl ?_
  refine s_getS (k := 0) (n := 22) B xc_Gathering kd_21 (by decide) rfl rfl fl_Gathering_12 sr_21_0 d_Gathering_own_1 ?_
  exact s_aret (Or.inl ⟨_, rfl⟩) B d_Gathering_own_4
set_option maxRecDepth 100000 in
set_option maxHeartbeats 4000000 in
theorem ct_Gathering_own {l : Launch} {D : va_G} {base : Nat} {g : Nat → ClassId}  (M : MS) (r : MS × Nat) (hr : m_Gathering_own M = some r) : Ct l y_Gathering_own (Cond.code y_Gathering_own b_Gathering_own 1 (some (.object "DerivativeDesk$Row")) :: x_T) 0 0 D x_cl (xty g) base (xwd g) cM x_g0 [.ref 21] M r.1 (ovR r.2) :=
  x_met (ov := ovR) (by decide) (Nat.le_of_ble_eq_true rfl) (fun p e R s m args below meth c az B => t_Gathering_own B  M) r hr
end
theorem d_Terms_gathered_0 : decode b_Terms_gathered 0 = .ok (.aload_n 0, 1) := by decide +kernel
theorem d_Terms_gathered_1 : decode b_Terms_gathered 1 = .ok (.getfield 64, 3) := by decide +kernel
theorem d_Terms_gathered_4 : decode b_Terms_gathered 4 = .ok (.invokevirtual 143, 3) := by decide +kernel
theorem d_Terms_gathered_7 : decode b_Terms_gathered 7 = .ok (.istore_n 2, 1) := by decide +kernel
theorem d_Terms_gathered_8 : decode b_Terms_gathered 8 = .ok (.iload_n 2, 1) := by decide +kernel
theorem d_Terms_gathered_9 : decode b_Terms_gathered 9 = .ok (.iconst (-1), 1) := by decide +kernel
theorem d_Terms_gathered_10 : decode b_Terms_gathered 10 = .ok (.if_icmp .ne (18), 3) := by decide +kernel
theorem d_Terms_gathered_13 : decode b_Terms_gathered 13 = .ok (.aload_n 0, 1) := by decide +kernel
theorem d_Terms_gathered_14 : decode b_Terms_gathered 14 = .ok (.iload_n 1, 1) := by decide +kernel
theorem d_Terms_gathered_15 : decode b_Terms_gathered 15 = .ok (.aload_n 0, 1) := by decide +kernel
theorem d_Terms_gathered_16 : decode b_Terms_gathered 16 = .ok (.getfield 64, 3) := by decide +kernel
theorem d_Terms_gathered_19 : decode b_Terms_gathered 19 = .ok (.invokevirtual 146, 3) := by decide +kernel
theorem d_Terms_gathered_22 : decode b_Terms_gathered 22 = .ok (.invokevirtual 106, 3) := by decide +kernel
theorem d_Terms_gathered_25 : decode b_Terms_gathered 25 = .ok (.goto (4), 3) := by decide +kernel
theorem d_Terms_gathered_28 : decode b_Terms_gathered 28 = .ok (.iload_n 2, 1) := by decide +kernel
theorem d_Terms_gathered_29 : decode b_Terms_gathered 29 = .ok (.ireturn, 1) := by decide +kernel
section
variable {p : Program} {l : Launch} {e : Env} {R : Room} {s : State} {m : MethodId} {args : Array Value} {below : List Frame} {meth : Method} {c : Code} {D : va_G} {base : Nat} {g : Nat → ClassId} {az : Nat → Nat} {kz : Nat × Nat}
set_option maxRecDepth 100000 in
set_option maxHeartbeats 4000000 in
theorem t_Terms_gathered (B : xB p R s m args meth c b_Terms_gathered 3 R_Terms (Cond.code y_Terms_gathered b_Terms_gathered 3 (some .int) :: x_T) (some .int) 6 137 D x_cl (xty g) base) (a1 : Int32) (M : MS) : Sn p l e R s m args below meth c 3 D x_cl base (xwd g) cM x_gr az kz (xfc cM) (xZ below args s D x_cl (xty g) base (xwd g) cM x_gr az kz ovI) 0 [] [(0, .ref 2), (1, .int a1)] M (m_Terms_gathered a1 M) := by
  unfold m_Terms_gathered
  refine s_aload_n B d_Terms_gathered_0 rfl ?_
  refine s_getS (k := 15) (n := 21) B xc_Terms kd_2 (by decide) rfl rfl fl_Terms_64 sr_2_15 d_Terms_gathered_1 ?_
  refine s_pick (lv1 := [(0, .ref 2), (1, .int a1)]) [0, 1] rfl ?_
  refine s_callI (av := [.ref 21]) (rest := []) B (lk_V B d_Terms_gathered_4 (gl_Terms_143 _) rfl hv_Gathering_single (by decide) (by decide)) rfl (x_rcV B xc_Gathering kd_21) (fun _ h => h) rfl (by simp [xng, x_gr, kd_2]) (by simp [Value.category]) rfl (fun r1 e9 => ct_Gathering_single  _ r1 e9) (fun r1 _ => ?_)
  refine s_istore_n B d_Terms_gathered_7 (by decide) ?_
  refine s_iload_n B d_Terms_gathered_8 rfl ?_
  refine s_iconst (v := (-1:Int32)) B d_Terms_gathered_9 (by decide) ?_
  refine s_icmp_ne B d_Terms_gathered_10 rfl (fun _ => ?_) (fun _ => ?_)
  · refine s_iload_n B d_Terms_gathered_28 rfl ?_
    exact s_iret B d_Terms_gathered_29
  · refine s_aload_n B d_Terms_gathered_13 rfl ?_
    refine s_iload_n B d_Terms_gathered_14 rfl ?_
    refine s_aload_n B d_Terms_gathered_15 rfl ?_
    refine s_getS (k := 15) (n := 21) B xc_Terms kd_2 (by decide) rfl rfl fl_Terms_64 sr_2_15 d_Terms_gathered_16 ?_
    refine s_pick (lv1 := []) [] rfl ?_
    refine s_callR (av := [.ref 21]) (rest := [.int a1, .ref 2]) B (lk_V B d_Terms_gathered_19 (gl_Terms_146 _) rfl hv_Gathering_own (by decide) (by decide)) rfl (x_rcV B xc_Gathering kd_21) (fun _ _ => rfl) rfl rfl (by simp [Value.category]) rfl (fun r2 e9 => ct_Gathering_own  _ r2 e9) (fun r2 _ => ?_)
    refine s_guard (fun h3 => ?_)
    refine s_pick (lv1 := []) [] rfl ?_
    refine s_callI (av := [.ref 2, .int a1, .ref r2.2]) (rest := []) B (lk_V B d_Terms_gathered_22 (gl_Terms_106 _) rfl hv_Terms_node (by decide) (by decide)) rfl (x_rcV B xc_Terms kd_2) (fun _ h => h) rfl rfl (by simp [Value.category]) rfl (fun r4 e9 => ct_Terms_node _ _ _ r4 e9) (fun r4 _ => ?_)
    refine s_goto B d_Terms_gathered_25 rfl ?_
    exact s_iret B d_Terms_gathered_29
set_option maxRecDepth 100000 in
set_option maxHeartbeats 4000000 in
theorem ct_Terms_gathered {l : Launch} {D : va_G} {base : Nat} {g : Nat → ClassId} (a1 : Int32) (M : MS) (r : MS × Int32) (hr : m_Terms_gathered a1 M = some r) : Ct l y_Terms_gathered (Cond.code y_Terms_gathered b_Terms_gathered 3 (some .int) :: x_T) 6 137 D x_cl (xty g) base (xwd g) cM x_gr [.ref 2, .int a1] M r.1 (ovI r.2) :=
  x_met (ov := ovI) (by decide) (Nat.le_of_ble_eq_true rfl) (fun p e R s m args below meth c az B => t_Terms_gathered B a1 M) r hr
end
theorem d_Terms_both_0 : decode b_Terms_both 0 = .ok (.aload_n 0, 1) := by decide +kernel
theorem d_Terms_both_1 : decode b_Terms_both 1 = .ok (.getfield 64, 3) := by decide +kernel
theorem d_Terms_both_4 : decode b_Terms_both 4 = .ok (.iload_n 1, 1) := by decide +kernel
theorem d_Terms_both_5 : decode b_Terms_both 5 = .ok (.invokevirtual 110, 3) := by decide +kernel
theorem d_Terms_both_8 : decode b_Terms_both 8 = .ok (.aload_n 0, 1) := by decide +kernel
theorem d_Terms_both_9 : decode b_Terms_both 9 = .ok (.iload_n 1, 1) := by decide +kernel
theorem d_Terms_both_10 : decode b_Terms_both 10 = .ok (.iload_n 2, 1) := by decide +kernel
theorem d_Terms_both_11 : decode b_Terms_both 11 = .ok (.invokevirtual 113, 3) := by decide +kernel
theorem d_Terms_both_14 : decode b_Terms_both 14 = .ok (.aload_n 0, 1) := by decide +kernel
theorem d_Terms_both_15 : decode b_Terms_both 15 = .ok (.iload_n 1, 1) := by decide +kernel
theorem d_Terms_both_16 : decode b_Terms_both 16 = .ok (.iload_n 3, 1) := by decide +kernel
theorem d_Terms_both_17 : decode b_Terms_both 17 = .ok (.invokevirtual 113, 3) := by decide +kernel
theorem d_Terms_both_20 : decode b_Terms_both 20 = .ok (.aload_n 0, 1) := by decide +kernel
theorem d_Terms_both_21 : decode b_Terms_both 21 = .ok (.iload_n 1, 1) := by decide +kernel
theorem d_Terms_both_22 : decode b_Terms_both 22 = .ok (.invokevirtual 117, 3) := by decide +kernel
theorem d_Terms_both_25 : decode b_Terms_both 25 = .ok (.ireturn, 1) := by decide +kernel
section
variable {p : Program} {l : Launch} {e : Env} {R : Room} {s : State} {m : MethodId} {args : Array Value} {below : List Frame} {meth : Method} {c : Code} {D : va_G} {base : Nat} {g : Nat → ClassId} {az : Nat → Nat} {kz : Nat × Nat}
set_option maxRecDepth 100000 in
set_option maxHeartbeats 4000000 in
theorem t_Terms_both (B : xB p R s m args meth c b_Terms_both 4 R_Terms (Cond.code y_Terms_both b_Terms_both 4 (some .int) :: x_T) (some .int) 7 159 D x_cl (xty g) base) (a1 : Int32) (a2 : Int32) (a3 : Int32) (M : MS) : Sn p l e R s m args below meth c 4 D x_cl base (xwd g) cM x_gr az kz (xfc cM) (xZ below args s D x_cl (xty g) base (xwd g) cM x_gr az kz ovI) 0 [] [(0, .ref 2), (1, .int a1), (2, .int a2), (3, .int a3)] M (m_Terms_both a1 a2 a3 M) := by
  unfold m_Terms_both
  refine s_aload_n B d_Terms_both_0 rfl ?_
  refine s_getS (k := 15) (n := 21) B xc_Terms kd_2 (by decide) rfl rfl fl_Terms_64 sr_2_15 d_Terms_both_1 ?_
  refine s_iload_n B d_Terms_both_4 rfl ?_
  refine s_pick (lv1 := [(0, .ref 2), (1, .int a1), (2, .int a2), (3, .int a3)]) [0, 1, 2, 3] rfl ?_
  refine s_callU (av := [.ref 21, .int a1]) (rest := []) B (lk_V B d_Terms_both_5 (gl_Terms_110 _) rfl hv_Gathering_begin (by decide) (by decide)) rfl (x_rcV B xc_Gathering kd_21) (fun _ _ => rfl) rfl rfl (by simp [Value.category]) rfl (fun r1 e9 => ct_Gathering_begin _ _ r1 e9) (fun r1 _ => ?_)
  refine s_aload_n B d_Terms_both_8 rfl ?_
  refine s_iload_n B d_Terms_both_9 rfl ?_
  refine s_iload_n B d_Terms_both_10 rfl ?_
  refine s_pick (lv1 := [(0, .ref 2), (1, .int a1), (3, .int a3)]) [0, 1, 3] rfl ?_
  refine s_callU (av := [.ref 2, .int a1, .int a2]) (rest := []) B (lk_V B d_Terms_both_11 (gl_Terms_113 _) rfl hv_Terms_gather (by decide) (by decide)) rfl (x_rcV B xc_Terms kd_2) (fun _ h => h) rfl (by simp [xng, x_gr, kd_2]) (by simp [Value.category]) rfl (fun r2 e9 => ct_Terms_gather _ _ _ r2 e9) (fun r2 _ => ?_)
  refine s_aload_n B d_Terms_both_14 rfl ?_
  refine s_iload_n B d_Terms_both_15 rfl ?_
  refine s_iload_n B d_Terms_both_16 rfl ?_
  refine s_pick (lv1 := [(0, .ref 2), (1, .int a1)]) [0, 1] rfl ?_
  refine s_callU (av := [.ref 2, .int a1, .int a3]) (rest := []) B (lk_V B d_Terms_both_17 (gl_Terms_113 _) rfl hv_Terms_gather (by decide) (by decide)) rfl (x_rcV B xc_Terms kd_2) (fun _ h => h) rfl (by simp [xng, x_gr, kd_2]) (by simp [Value.category]) rfl (fun r3 e9 => ct_Terms_gather _ _ _ r3 e9) (fun r3 _ => ?_)
  refine s_aload_n B d_Terms_both_20 rfl ?_
  refine s_iload_n B d_Terms_both_21 rfl ?_
  refine s_pick (lv1 := []) [] rfl ?_
  refine s_callI (av := [.ref 2, .int a1]) (rest := []) B (lk_V B d_Terms_both_22 (gl_Terms_117 _) rfl hv_Terms_gathered (by decide) (by decide)) rfl (x_rcV B xc_Terms kd_2) (fun _ h => h) rfl rfl (by simp [Value.category]) rfl (fun r4 e9 => ct_Terms_gathered _ _ r4 e9) (fun r4 _ => ?_)
  exact s_iret B d_Terms_both_25
set_option maxRecDepth 100000 in
set_option maxHeartbeats 4000000 in
theorem ct_Terms_both {l : Launch} {D : va_G} {base : Nat} {g : Nat → ClassId} (a1 : Int32) (a2 : Int32) (a3 : Int32) (M : MS) (r : MS × Int32) (hr : m_Terms_both a1 a2 a3 M = some r) : Ct l y_Terms_both (Cond.code y_Terms_both b_Terms_both 4 (some .int) :: x_T) 7 159 D x_cl (xty g) base (xwd g) cM x_gr [.ref 2, .int a1, .int a2, .int a3] M r.1 (ovI r.2) :=
  x_met (ov := ovI) (by decide) (Nat.le_of_ble_eq_true rfl) (fun p e R s m args below meth c az B => t_Terms_both B a1 a2 a3 M) r hr
end
theorem d_D_join_0 : decode b_D_join 0 = .ok (.iload_n 1, 1) := by decide +kernel
theorem d_D_join_1 : decode b_D_join 1 = .ok (.invokestatic 61, 3) := by decide +kernel
theorem d_D_join_4 : decode b_D_join 4 = .ok (.iload_n 2, 1) := by decide +kernel
theorem d_D_join_5 : decode b_D_join 5 = .ok (.invokestatic 61, 3) := by decide +kernel
theorem d_D_join_8 : decode b_D_join 8 = .ok (.iload_n 3, 1) := by decide +kernel
theorem d_D_join_9 : decode b_D_join 9 = .ok (.invokestatic 61, 3) := by decide +kernel
theorem d_D_join_12 : decode b_D_join 12 = .ok (.iload 4, 2) := by decide +kernel
theorem d_D_join_14 : decode b_D_join 14 = .ok (.iconst (2), 1) := by decide +kernel
theorem d_D_join_15 : decode b_D_join 15 = .ok (.invokestatic 65, 3) := by decide +kernel
theorem d_D_join_18 : decode b_D_join 18 = .ok (.aload_n 0, 1) := by decide +kernel
theorem d_D_join_19 : decode b_D_join 19 = .ok (.getfield 23, 3) := by decide +kernel
theorem d_D_join_22 : decode b_D_join 22 = .ok (.aload_n 0, 1) := by decide +kernel
theorem d_D_join_23 : decode b_D_join 23 = .ok (.getfield 16, 3) := by decide +kernel
theorem d_D_join_26 : decode b_D_join 26 = .ok (.aload_n 0, 1) := by decide +kernel
theorem d_D_join_27 : decode b_D_join 27 = .ok (.getfield 9, 3) := by decide +kernel
theorem d_D_join_30 : decode b_D_join 30 = .ok (.invokevirtual 73, 3) := by decide +kernel
theorem d_D_join_33 : decode b_D_join 33 = .ok (.iload 4, 2) := by decide +kernel
theorem d_D_join_35 : decode b_D_join 35 = .ok (.ifCond .ne (28), 3) := by decide +kernel
theorem d_D_join_38 : decode b_D_join 38 = .ok (.aload_n 0, 1) := by decide +kernel
theorem d_D_join_39 : decode b_D_join 39 = .ok (.iload_n 1, 1) := by decide +kernel
theorem d_D_join_40 : decode b_D_join 40 = .ok (.aload_n 0, 1) := by decide +kernel
theorem d_D_join_41 : decode b_D_join 41 = .ok (.getfield 16, 3) := by decide +kernel
theorem d_D_join_44 : decode b_D_join 44 = .ok (.aload_n 0, 1) := by decide +kernel
theorem d_D_join_45 : decode b_D_join 45 = .ok (.getfield 9, 3) := by decide +kernel
theorem d_D_join_48 : decode b_D_join 48 = .ok (.iload_n 2, 1) := by decide +kernel
theorem d_D_join_49 : decode b_D_join 49 = .ok (.iaload, 1) := by decide +kernel
theorem d_D_join_50 : decode b_D_join 50 = .ok (.aload_n 0, 1) := by decide +kernel
theorem d_D_join_51 : decode b_D_join 51 = .ok (.getfield 9, 3) := by decide +kernel
theorem d_D_join_54 : decode b_D_join 54 = .ok (.iload_n 3, 1) := by decide +kernel
theorem d_D_join_55 : decode b_D_join 55 = .ok (.iaload, 1) := by decide +kernel
theorem d_D_join_56 : decode b_D_join 56 = .ok (.invokevirtual 77, 3) := by decide +kernel
theorem d_D_join_59 : decode b_D_join 59 = .ok (.invokevirtual 69, 3) := by decide +kernel
theorem d_D_join_62 : decode b_D_join 62 = .ok (.ireturn, 1) := by decide +kernel
theorem d_D_join_63 : decode b_D_join 63 = .ok (.aload_n 0, 1) := by decide +kernel
theorem d_D_join_64 : decode b_D_join 64 = .ok (.iload_n 1, 1) := by decide +kernel
theorem d_D_join_65 : decode b_D_join 65 = .ok (.aload_n 0, 1) := by decide +kernel
theorem d_D_join_66 : decode b_D_join 66 = .ok (.getfield 16, 3) := by decide +kernel
theorem d_D_join_69 : decode b_D_join 69 = .ok (.iload 4, 2) := by decide +kernel
theorem d_D_join_71 : decode b_D_join 71 = .ok (.iconst (1), 1) := by decide +kernel
theorem d_D_join_72 : decode b_D_join 72 = .ok (.if_icmp .ne (7), 3) := by decide +kernel
theorem d_D_join_75 : decode b_D_join 75 = .ok (.iconst (4), 1) := by decide +kernel
theorem d_D_join_76 : decode b_D_join 76 = .ok (.goto (4), 3) := by decide +kernel
theorem d_D_join_79 : decode b_D_join 79 = .ok (.iconst (5), 1) := by decide +kernel
theorem d_D_join_80 : decode b_D_join 80 = .ok (.aload_n 0, 1) := by decide +kernel
theorem d_D_join_81 : decode b_D_join 81 = .ok (.getfield 9, 3) := by decide +kernel
theorem d_D_join_84 : decode b_D_join 84 = .ok (.iload_n 2, 1) := by decide +kernel
theorem d_D_join_85 : decode b_D_join 85 = .ok (.iaload, 1) := by decide +kernel
theorem d_D_join_86 : decode b_D_join 86 = .ok (.aload_n 0, 1) := by decide +kernel
theorem d_D_join_87 : decode b_D_join 87 = .ok (.getfield 9, 3) := by decide +kernel
theorem d_D_join_90 : decode b_D_join 90 = .ok (.iload_n 3, 1) := by decide +kernel
theorem d_D_join_91 : decode b_D_join 91 = .ok (.iaload, 1) := by decide +kernel
theorem d_D_join_92 : decode b_D_join 92 = .ok (.invokevirtual 80, 3) := by decide +kernel
theorem d_D_join_95 : decode b_D_join 95 = .ok (.invokevirtual 69, 3) := by decide +kernel
theorem d_D_join_98 : decode b_D_join 98 = .ok (.ireturn, 1) := by decide +kernel
section
variable {p : Program} {l : Launch} {e : Env} {R : Room} {s : State} {m : MethodId} {args : Array Value} {below : List Frame} {meth : Method} {c : Code} {D : va_G} {base : Nat} {g : Nat → ClassId} {az : Nat → Nat} {kz : Nat × Nat}
set_option maxRecDepth 100000 in
set_option maxHeartbeats 4000000 in
theorem t_D_join_80  (B : xB p R s m args meth c b_D_join 5 R_D (Cond.code y_D_join b_D_join 5 (some .int) :: x_T) (some .int) 8 182 D x_cl (xty g) base)  (l2 : Int32) (l3 : Int32) (s1 : Int32) (s3 : Int32) (M : MS)  : Sn p l e R s m args below meth c 5 D x_cl base (xwd g) cM x_gr az kz (xfc cM) (xZ below args s D x_cl (xty g) base (xwd g) cM x_gr az kz ovI) 80 [.int s3, .ref 2, .int s1, .ref 0] [(0, .ref 0), (2, .int l2), (3, .int l3)] M (m_D_join_80 l2 l3 s1 s3 M) := by
  unfold m_D_join_80
  refine s_aload_n B d_D_join_80 rfl ?_
  refine s_getS (k := 0) (n := 1) B xc_D kd_0 (by decide) rfl rfl fl_D_9 sr_0_0 d_D_join_81 ?_
  refine s_iload_n B d_D_join_84 rfl ?_
  refine s_iald B (Or.inl kd_1) d_D_join_85 (fun v1 _ => ?_)
  refine s_aload_n B d_D_join_86 rfl ?_
  refine s_getS (k := 0) (n := 1) B xc_D kd_0 (by decide) rfl rfl fl_D_9 sr_0_0 d_D_join_87 ?_
  refine s_iload_n B d_D_join_90 rfl ?_
  refine s_iald B (Or.inl kd_1) d_D_join_91 (fun v2 _ => ?_)
  refine s_pick (lv1 := []) [] rfl ?_
  refine s_callI (av := [.ref 2, .int s3, .int v1, .int v2]) (rest := [.int s1, .ref 0]) B (lk_V B d_D_join_92 (gl_D_80 _) rfl hv_Terms_both (by decide) (by decide)) rfl (x_rcV B xc_Terms kd_2) (fun _ h => h) (by simp [xng, x_gr, kd_0]) rfl (by simp [Value.category]) rfl (fun r3 e9 => ct_Terms_both _ _ _ _ r3 e9) (fun r3 _ => ?_)
  refine s_pick (lv1 := []) [] rfl ?_
  refine s_callI (av := [.ref 0, .int s1, .int r3.2]) (rest := []) B (lk_V B d_D_join_95 (gl_D_69 _) rfl hv_D_put (by decide) (by decide)) rfl (x_rcV B xc_D kd_0) (fun _ _ => rfl) rfl rfl (by simp [Value.category]) rfl (fun r4 e9 => ct_D_put _ _ _ r4 e9) (fun r4 _ => ?_)
  exact s_iret B d_D_join_98
set_option maxRecDepth 100000 in
set_option maxHeartbeats 4000000 in
theorem t_D_join (B : xB p R s m args meth c b_D_join 5 R_D (Cond.code y_D_join b_D_join 5 (some .int) :: x_T) (some .int) 8 182 D x_cl (xty g) base) (a1 : Int32) (a2 : Int32) (a3 : Int32) (a4 : Int32) (M : MS) : Sn p l e R s m args below meth c 5 D x_cl base (xwd g) cM x_gr az kz (xfc cM) (xZ below args s D x_cl (xty g) base (xwd g) cM x_gr az kz ovI) 0 [] [(0, .ref 0), (1, .int a1), (2, .int a2), (3, .int a3), (4, .int a4)] M (m_D_join a1 a2 a3 a4 M) := by
  unfold m_D_join
  refine s_iload_n B d_D_join_0 rfl ?_
  refine s_pick (lv1 := [(0, .ref 0), (1, .int a1), (2, .int a2), (3, .int a3), (4, .int a4)]) [0, 1, 2, 3, 4] rfl ?_
  refine s_callU (av := [.int a1]) (rest := []) B (lk_S B d_D_join_1 (gl_D_61 _) (List.mem_cons_of_mem _ st_D_checkSlot) (List.mem_cons_of_mem _ in_D) (List.mem_cons_of_mem _ ml_D_61) rfl hs_D_checkSlot (by decide) (by decide)) rfl x_rcS (fun _ _ => rfl) rfl rfl (by simp [Value.category]) rfl (fun r1 e9 => ct_D_checkSlot _ _ r1 e9) (fun r1 _ => ?_)
  refine s_iload_n B d_D_join_4 rfl ?_
  refine s_pick (lv1 := [(0, .ref 0), (1, .int a1), (2, .int a2), (3, .int a3), (4, .int a4)]) [0, 1, 2, 3, 4] rfl ?_
  refine s_callU (av := [.int a2]) (rest := []) B (lk_S B d_D_join_5 (gl_D_61 _) (List.mem_cons_of_mem _ st_D_checkSlot) (List.mem_cons_of_mem _ in_D) (List.mem_cons_of_mem _ ml_D_61) rfl hs_D_checkSlot (by decide) (by decide)) rfl x_rcS (fun _ _ => rfl) rfl rfl (by simp [Value.category]) rfl (fun r2 e9 => ct_D_checkSlot _ _ r2 e9) (fun r2 _ => ?_)
  refine s_iload_n B d_D_join_8 rfl ?_
  refine s_pick (lv1 := [(0, .ref 0), (1, .int a1), (2, .int a2), (3, .int a3), (4, .int a4)]) [0, 1, 2, 3, 4] rfl ?_
  refine s_callU (av := [.int a3]) (rest := []) B (lk_S B d_D_join_9 (gl_D_61 _) (List.mem_cons_of_mem _ st_D_checkSlot) (List.mem_cons_of_mem _ in_D) (List.mem_cons_of_mem _ ml_D_61) rfl hs_D_checkSlot (by decide) (by decide)) rfl x_rcS (fun _ _ => rfl) rfl rfl (by simp [Value.category]) rfl (fun r3 e9 => ct_D_checkSlot _ _ r3 e9) (fun r3 _ => ?_)
  refine s_iload B d_D_join_12 rfl ?_
  refine s_iconst (v := (2:Int32)) B d_D_join_14 (by decide) ?_
  refine s_pick (lv1 := [(0, .ref 0), (1, .int a1), (2, .int a2), (3, .int a3), (4, .int a4)]) [0, 1, 2, 3, 4] rfl ?_
  refine s_callU (av := [.int a4, .int (2:Int32)]) (rest := []) B (lk_S B d_D_join_15 (gl_D_65 _) (List.mem_cons_of_mem _ st_D_checkRange) (List.mem_cons_of_mem _ in_D) (List.mem_cons_of_mem _ ml_D_65) rfl hs_D_checkRange (by decide) (by decide)) rfl x_rcS (fun _ _ => rfl) rfl rfl (by simp [Value.category]) rfl (fun r4 e9 => ct_D_checkRange _ _ _ r4 e9) (fun r4 _ => ?_)
  refine s_aload_n B d_D_join_18 rfl ?_
  refine s_getS (k := 2) (n := 24) B xc_D kd_0 (by decide) rfl rfl fl_D_23 sr_0_2 d_D_join_19 ?_
  refine s_aload_n B d_D_join_22 rfl ?_
  refine s_getS (k := 1) (n := 2) B xc_D kd_0 (by decide) rfl rfl fl_D_16 sr_0_1 d_D_join_23 ?_
  refine s_aload_n B d_D_join_26 rfl ?_
  refine s_getS (k := 0) (n := 1) B xc_D kd_0 (by decide) rfl rfl fl_D_9 sr_0_0 d_D_join_27 ?_
  refine s_pick (lv1 := [(0, .ref 0), (1, .int a1), (2, .int a2), (3, .int a3), (4, .int a4)]) [0, 1, 2, 3, 4] rfl ?_
  refine s_callU (av := [.ref 24, .ref 2, .ref 1]) (rest := []) B (lk_V B d_D_join_30 (gl_D_73 _) rfl hv_Explorer_tidy (by decide) (by decide)) rfl (x_rcV B xc_Explorer kd_24) (fun _ _ => rfl) rfl rfl (by simp [Value.category]) rfl (fun r5 e9 => ct_Explorer_tidy  _ r5 e9) (fun r5 _ => ?_)
  refine s_iload B d_D_join_33 rfl ?_
  refine s_if_ne B d_D_join_35 rfl (fun _ => ?_) (fun _ => ?_)
  · refine s_aload_n B d_D_join_63 rfl ?_
    refine s_iload_n B d_D_join_64 rfl ?_
    refine s_aload_n B d_D_join_65 rfl ?_
    refine s_getS (k := 1) (n := 2) B xc_D kd_0 (by decide) rfl rfl fl_D_16 sr_0_1 d_D_join_66 ?_
    refine s_iload B d_D_join_69 rfl ?_
    refine s_iconst (v := (1:Int32)) B d_D_join_71 (by decide) ?_
    refine s_icmp_ne B d_D_join_72 rfl (fun _ => ?_) (fun _ => ?_)
    · refine s_iconst (v := (5:Int32)) B d_D_join_79 (by decide) ?_
      refine s_pick (lv1 := [(0, .ref 0), (2, .int a2), (3, .int a3)]) [0, 2, 3] rfl ?_
      exact t_D_join_80 B a2 a3 a1 (5:Int32) r5.1
    · refine s_iconst (v := (4:Int32)) B d_D_join_75 (by decide) ?_
      refine s_goto B d_D_join_76 rfl ?_
      refine s_pick (lv1 := [(0, .ref 0), (2, .int a2), (3, .int a3)]) [0, 2, 3] rfl ?_
      exact t_D_join_80 B a2 a3 a1 (4:Int32) r5.1
  · refine s_aload_n B d_D_join_38 rfl ?_
    refine s_iload_n B d_D_join_39 rfl ?_
    refine s_aload_n B d_D_join_40 rfl ?_
    refine s_getS (k := 1) (n := 2) B xc_D kd_0 (by decide) rfl rfl fl_D_16 sr_0_1 d_D_join_41 ?_
    refine s_aload_n B d_D_join_44 rfl ?_
    refine s_getS (k := 0) (n := 1) B xc_D kd_0 (by decide) rfl rfl fl_D_9 sr_0_0 d_D_join_45 ?_
    refine s_iload_n B d_D_join_48 rfl ?_
    refine s_iald B (Or.inl kd_1) d_D_join_49 (fun v6 _ => ?_)
    refine s_aload_n B d_D_join_50 rfl ?_
    refine s_getS (k := 0) (n := 1) B xc_D kd_0 (by decide) rfl rfl fl_D_9 sr_0_0 d_D_join_51 ?_
    refine s_iload_n B d_D_join_54 rfl ?_
    refine s_iald B (Or.inl kd_1) d_D_join_55 (fun v7 _ => ?_)
    refine s_pick (lv1 := []) [] rfl ?_
    refine s_callI (av := [.ref 2, .int v6, .int v7]) (rest := [.int a1, .ref 0]) B (lk_V B d_D_join_56 (gl_D_77 _) rfl hv_Terms_cat (by decide) (by decide)) rfl (x_rcV B xc_Terms kd_2) (fun _ h => h) (by simp [xng, x_gr, kd_0]) rfl (by simp [Value.category]) rfl (fun r8 e9 => ct_Terms_cat _ _ _ r8 e9) (fun r8 _ => ?_)
    refine s_pick (lv1 := []) [] rfl ?_
    refine s_callI (av := [.ref 0, .int a1, .int r8.2]) (rest := []) B (lk_V B d_D_join_59 (gl_D_69 _) rfl hv_D_put (by decide) (by decide)) rfl (x_rcV B xc_D kd_0) (fun _ _ => rfl) rfl rfl (by simp [Value.category]) rfl (fun r9 e9 => ct_D_put _ _ _ r9 e9) (fun r9 _ => ?_)
    exact s_iret B d_D_join_62
set_option maxRecDepth 100000 in
set_option maxHeartbeats 4000000 in
theorem ct_D_join {l : Launch} {D : va_G} {base : Nat} {g : Nat → ClassId} (a1 : Int32) (a2 : Int32) (a3 : Int32) (a4 : Int32) (M : MS) (r : MS × Int32) (hr : m_D_join a1 a2 a3 a4 M = some r) : Ct l y_D_join (Cond.code y_D_join b_D_join 5 (some .int) :: x_T) 8 182 D x_cl (xty g) base (xwd g) cM x_gr [.ref 0, .int a1, .int a2, .int a3, .int a4] M r.1 (ovI r.2) :=
  x_met (ov := ovI) (by decide) (Nat.le_of_ble_eq_true rfl) (fun p e R s m args below meth c az B => t_D_join B a1 a2 a3 a4 M) r hr
end
theorem d_Terms_not_0 : decode b_Terms_not 0 = .ok (.iload_n 1, 1) := by decide +kernel
theorem d_Terms_not_1 : decode b_Terms_not 1 = .ok (.ifCond .ne (6), 3) := by decide +kernel
theorem d_Terms_not_4 : decode b_Terms_not 4 = .ok (.bipush (17), 2) := by decide +kernel
theorem d_Terms_not_6 : decode b_Terms_not 6 = .ok (.ireturn, 1) := by decide +kernel
theorem d_Terms_not_7 : decode b_Terms_not 7 = .ok (.aload_n 0, 1) := by decide +kernel
theorem d_Terms_not_8 : decode b_Terms_not 8 = .ok (.getfield 11, 3) := by decide +kernel
theorem d_Terms_not_11 : decode b_Terms_not 11 = .ok (.iload_n 1, 1) := by decide +kernel
theorem d_Terms_not_12 : decode b_Terms_not 12 = .ok (.iaload, 1) := by decide +kernel
theorem d_Terms_not_13 : decode b_Terms_not 13 = .ok (.bipush (6), 2) := by decide +kernel
theorem d_Terms_not_15 : decode b_Terms_not 15 = .ok (.if_icmp .ne (10), 3) := by decide +kernel
theorem d_Terms_not_18 : decode b_Terms_not 18 = .ok (.aload_n 0, 1) := by decide +kernel
theorem d_Terms_not_19 : decode b_Terms_not 19 = .ok (.iload_n 1, 1) := by decide +kernel
theorem d_Terms_not_20 : decode b_Terms_not 20 = .ok (.iconst (0), 1) := by decide +kernel
theorem d_Terms_not_21 : decode b_Terms_not 21 = .ok (.invokevirtual 91, 3) := by decide +kernel
theorem d_Terms_not_24 : decode b_Terms_not 24 = .ok (.ireturn, 1) := by decide +kernel
theorem d_Terms_not_25 : decode b_Terms_not 25 = .ok (.aload_n 0, 1) := by decide +kernel
theorem d_Terms_not_26 : decode b_Terms_not 26 = .ok (.getfield 51, 3) := by decide +kernel
theorem d_Terms_not_29 : decode b_Terms_not 29 = .ok (.invokevirtual 87, 3) := by decide +kernel
theorem d_Terms_not_32 : decode b_Terms_not 32 = .ok (.aload_n 0, 1) := by decide +kernel
theorem d_Terms_not_33 : decode b_Terms_not 33 = .ok (.getfield 51, 3) := by decide +kernel
theorem d_Terms_not_36 : decode b_Terms_not 36 = .ok (.iload_n 1, 1) := by decide +kernel
theorem d_Terms_not_37 : decode b_Terms_not 37 = .ok (.invokevirtual 95, 3) := by decide +kernel
theorem d_Terms_not_40 : decode b_Terms_not 40 = .ok (.aload_n 0, 1) := by decide +kernel
theorem d_Terms_not_41 : decode b_Terms_not 41 = .ok (.bipush (6), 2) := by decide +kernel
theorem d_Terms_not_43 : decode b_Terms_not 43 = .ok (.aload_n 0, 1) := by decide +kernel
theorem d_Terms_not_44 : decode b_Terms_not 44 = .ok (.getfield 51, 3) := by decide +kernel
theorem d_Terms_not_47 : decode b_Terms_not 47 = .ok (.invokevirtual 106, 3) := by decide +kernel
theorem d_Terms_not_50 : decode b_Terms_not 50 = .ok (.ireturn, 1) := by decide +kernel
section
variable {p : Program} {l : Launch} {e : Env} {R : Room} {s : State} {m : MethodId} {args : Array Value} {below : List Frame} {meth : Method} {c : Code} {D : va_G} {base : Nat} {g : Nat → ClassId} {az : Nat → Nat} {kz : Nat × Nat}
set_option maxRecDepth 100000 in
set_option maxHeartbeats 4000000 in
theorem t_Terms_not (B : xB p R s m args meth c b_Terms_not 2 R_Terms (Cond.code y_Terms_not b_Terms_not 2 (some .int) :: x_T) (some .int) 6 137 D x_cl (xty g) base) (a1 : Int32) (M : MS) : Sn p l e R s m args below meth c 2 D x_cl base (xwd g) cM x_gr az kz (xfc cM) (xZ below args s D x_cl (xty g) base (xwd g) cM x_gr az kz ovI) 0 [] [(0, .ref 2), (1, .int a1)] M (m_Terms_not a1 M) := by
  unfold m_Terms_not
  refine s_iload_n B d_Terms_not_0 rfl ?_
  refine s_if_ne B d_Terms_not_1 rfl (fun _ => ?_) (fun _ => ?_)
  · refine s_aload_n B d_Terms_not_7 rfl ?_
    refine s_getS (k := 0) (n := 3) B xc_Terms kd_2 (by decide) rfl rfl fl_Terms_11 sr_2_0 d_Terms_not_8 ?_
    refine s_iload_n B d_Terms_not_11 rfl ?_
    refine s_iald B (Or.inr kd_3) d_Terms_not_12 (fun v1 _ => ?_)
    refine s_bipush (v := (6:Int32)) B d_Terms_not_13 (by decide) ?_
    refine s_icmp_ne B d_Terms_not_15 rfl (fun _ => ?_) (fun _ => ?_)
    · refine s_aload_n B d_Terms_not_25 rfl ?_
      refine s_getS (k := 12) (n := 15) B xc_Terms kd_2 (by decide) rfl rfl fl_Terms_51 sr_2_12 d_Terms_not_26 ?_
      refine s_pick (lv1 := [(0, .ref 2), (1, .int a1)]) [0, 1] rfl ?_
      refine s_callU (av := [.ref 15]) (rest := []) B (lk_V B d_Terms_not_29 (gl_Terms_87 _) rfl hv_Row_clear (by decide) (by decide)) rfl (x_rcV B xc_Row kd_15) (fun _ _ => rfl) rfl rfl (by simp [Value.category]) rfl (fun r2 e9 => ct_Row_clear _ _ r2 e9) (fun r2 _ => ?_)
      refine s_aload_n B d_Terms_not_32 rfl ?_
      refine s_getS (k := 12) (n := 15) B xc_Terms kd_2 (by decide) rfl rfl fl_Terms_51 sr_2_12 d_Terms_not_33 ?_
      refine s_iload_n B d_Terms_not_36 rfl ?_
      refine s_pick (lv1 := [(0, .ref 2)]) [0] rfl ?_
      refine s_callU (av := [.ref 15, .int a1]) (rest := []) B (lk_V B d_Terms_not_37 (gl_Terms_95 _) rfl hv_Row_add (by decide) (by decide)) rfl (x_rcV B xc_Row kd_15) (fun _ h => h) rfl (by simp [xng, x_gr, kd_2]) (by simp [Value.category]) rfl (fun r3 e9 => ct_Row_add _ _ _ r3 e9) (fun r3 _ => ?_)
      refine s_aload_n B d_Terms_not_40 rfl ?_
      refine s_bipush (v := (6:Int32)) B d_Terms_not_41 (by decide) ?_
      refine s_aload_n B d_Terms_not_43 rfl ?_
      refine s_getS (k := 12) (n := 15) B xc_Terms kd_2 (by decide) rfl rfl fl_Terms_51 sr_2_12 d_Terms_not_44 ?_
      refine s_pick (lv1 := []) [] rfl ?_
      refine s_callI (av := [.ref 2, .int (6:Int32), .ref 15]) (rest := []) B (lk_V B d_Terms_not_47 (gl_Terms_106 _) rfl hv_Terms_node (by decide) (by decide)) rfl (x_rcV B xc_Terms kd_2) (fun _ h => h) rfl rfl (by simp [Value.category]) rfl (fun r4 e9 => ct_Terms_node _ _ _ r4 e9) (fun r4 _ => ?_)
      exact s_iret B d_Terms_not_50
    · refine s_aload_n B d_Terms_not_18 rfl ?_
      refine s_iload_n B d_Terms_not_19 rfl ?_
      refine s_iconst (v := (0:Int32)) B d_Terms_not_20 (by decide) ?_
      refine s_pick (lv1 := []) [] rfl ?_
      refine s_callI (av := [.ref 2, .int a1, .int (0:Int32)]) (rest := []) B (lk_V B d_Terms_not_21 (gl_Terms_91 _) rfl hv_Terms_kid (by decide) (by decide)) rfl (x_rcV B xc_Terms kd_2) (fun _ _ => rfl) rfl rfl (by simp [Value.category]) rfl (fun r5 e9 => ct_Terms_kid _ _ _ r5 e9) (fun r5 _ => ?_)
      exact s_iret B d_Terms_not_24
  · refine s_bipush (v := (17:Int32)) B d_Terms_not_4 (by decide) ?_
    exact s_iret B d_Terms_not_6
set_option maxRecDepth 100000 in
set_option maxHeartbeats 4000000 in
theorem ct_Terms_not {l : Launch} {D : va_G} {base : Nat} {g : Nat → ClassId} (a1 : Int32) (M : MS) (r : MS × Int32) (hr : m_Terms_not a1 M = some r) : Ct l y_Terms_not (Cond.code y_Terms_not b_Terms_not 2 (some .int) :: x_T) 6 137 D x_cl (xty g) base (xwd g) cM x_gr [.ref 2, .int a1] M r.1 (ovI r.2) :=
  x_met (ov := ovI) (by decide) (Nat.le_of_ble_eq_true rfl) (fun p e R s m args below meth c az B => t_Terms_not B a1 M) r hr
end
theorem d_Terms_star_0 : decode b_Terms_star 0 = .ok (.iload_n 1, 1) := by decide +kernel
theorem d_Terms_star_1 : decode b_Terms_star 1 = .ok (.ifCond .eq (9), 3) := by decide +kernel
theorem d_Terms_star_4 : decode b_Terms_star 4 = .ok (.iload_n 1, 1) := by decide +kernel
theorem d_Terms_star_5 : decode b_Terms_star 5 = .ok (.bipush (16), 2) := by decide +kernel
theorem d_Terms_star_7 : decode b_Terms_star 7 = .ok (.if_icmp .ne (6), 3) := by decide +kernel
theorem d_Terms_star_10 : decode b_Terms_star 10 = .ok (.bipush (16), 2) := by decide +kernel
theorem d_Terms_star_12 : decode b_Terms_star 12 = .ok (.ireturn, 1) := by decide +kernel
theorem d_Terms_star_13 : decode b_Terms_star 13 = .ok (.aload_n 0, 1) := by decide +kernel
theorem d_Terms_star_14 : decode b_Terms_star 14 = .ok (.getfield 11, 3) := by decide +kernel
theorem d_Terms_star_17 : decode b_Terms_star 17 = .ok (.iload_n 1, 1) := by decide +kernel
theorem d_Terms_star_18 : decode b_Terms_star 18 = .ok (.iaload, 1) := by decide +kernel
theorem d_Terms_star_19 : decode b_Terms_star 19 = .ok (.bipush (7), 2) := by decide +kernel
theorem d_Terms_star_21 : decode b_Terms_star 21 = .ok (.if_icmp .ne (5), 3) := by decide +kernel
theorem d_Terms_star_24 : decode b_Terms_star 24 = .ok (.iload_n 1, 1) := by decide +kernel
theorem d_Terms_star_25 : decode b_Terms_star 25 = .ok (.ireturn, 1) := by decide +kernel
theorem d_Terms_star_26 : decode b_Terms_star 26 = .ok (.aload_n 0, 1) := by decide +kernel
theorem d_Terms_star_27 : decode b_Terms_star 27 = .ok (.getfield 51, 3) := by decide +kernel
theorem d_Terms_star_30 : decode b_Terms_star 30 = .ok (.invokevirtual 87, 3) := by decide +kernel
theorem d_Terms_star_33 : decode b_Terms_star 33 = .ok (.aload_n 0, 1) := by decide +kernel
theorem d_Terms_star_34 : decode b_Terms_star 34 = .ok (.getfield 51, 3) := by decide +kernel
theorem d_Terms_star_37 : decode b_Terms_star 37 = .ok (.iload_n 1, 1) := by decide +kernel
theorem d_Terms_star_38 : decode b_Terms_star 38 = .ok (.invokevirtual 95, 3) := by decide +kernel
theorem d_Terms_star_41 : decode b_Terms_star 41 = .ok (.aload_n 0, 1) := by decide +kernel
theorem d_Terms_star_42 : decode b_Terms_star 42 = .ok (.bipush (7), 2) := by decide +kernel
theorem d_Terms_star_44 : decode b_Terms_star 44 = .ok (.aload_n 0, 1) := by decide +kernel
theorem d_Terms_star_45 : decode b_Terms_star 45 = .ok (.getfield 51, 3) := by decide +kernel
theorem d_Terms_star_48 : decode b_Terms_star 48 = .ok (.invokevirtual 106, 3) := by decide +kernel
theorem d_Terms_star_51 : decode b_Terms_star 51 = .ok (.ireturn, 1) := by decide +kernel
section
variable {p : Program} {l : Launch} {e : Env} {R : Room} {s : State} {m : MethodId} {args : Array Value} {below : List Frame} {meth : Method} {c : Code} {D : va_G} {base : Nat} {g : Nat → ClassId} {az : Nat → Nat} {kz : Nat × Nat}
set_option maxRecDepth 100000 in
set_option maxHeartbeats 4000000 in
theorem t_Terms_star (B : xB p R s m args meth c b_Terms_star 2 R_Terms (Cond.code y_Terms_star b_Terms_star 2 (some .int) :: x_T) (some .int) 6 137 D x_cl (xty g) base) (a1 : Int32) (M : MS) : Sn p l e R s m args below meth c 2 D x_cl base (xwd g) cM x_gr az kz (xfc cM) (xZ below args s D x_cl (xty g) base (xwd g) cM x_gr az kz ovI) 0 [] [(0, .ref 2), (1, .int a1)] M (m_Terms_star a1 M) := by
  unfold m_Terms_star
  refine s_iload_n B d_Terms_star_0 rfl ?_
  refine s_if_eq B d_Terms_star_1 rfl (fun _ => ?_) (fun _ => ?_)
  · refine s_bipush (v := (16:Int32)) B d_Terms_star_10 (by decide) ?_
    exact s_iret B d_Terms_star_12
  · refine s_iload_n B d_Terms_star_4 rfl ?_
    refine s_bipush (v := (16:Int32)) B d_Terms_star_5 (by decide) ?_
    refine s_icmp_ne B d_Terms_star_7 rfl (fun _ => ?_) (fun _ => ?_)
    · refine s_aload_n B d_Terms_star_13 rfl ?_
      refine s_getS (k := 0) (n := 3) B xc_Terms kd_2 (by decide) rfl rfl fl_Terms_11 sr_2_0 d_Terms_star_14 ?_
      refine s_iload_n B d_Terms_star_17 rfl ?_
      refine s_iald B (Or.inr kd_3) d_Terms_star_18 (fun v1 _ => ?_)
      refine s_bipush (v := (7:Int32)) B d_Terms_star_19 (by decide) ?_
      refine s_icmp_ne B d_Terms_star_21 rfl (fun _ => ?_) (fun _ => ?_)
      · refine s_aload_n B d_Terms_star_26 rfl ?_
        refine s_getS (k := 12) (n := 15) B xc_Terms kd_2 (by decide) rfl rfl fl_Terms_51 sr_2_12 d_Terms_star_27 ?_
        refine s_pick (lv1 := [(0, .ref 2), (1, .int a1)]) [0, 1] rfl ?_
        refine s_callU (av := [.ref 15]) (rest := []) B (lk_V B d_Terms_star_30 (gl_Terms_87 _) rfl hv_Row_clear (by decide) (by decide)) rfl (x_rcV B xc_Row kd_15) (fun _ _ => rfl) rfl rfl (by simp [Value.category]) rfl (fun r2 e9 => ct_Row_clear _ _ r2 e9) (fun r2 _ => ?_)
        refine s_aload_n B d_Terms_star_33 rfl ?_
        refine s_getS (k := 12) (n := 15) B xc_Terms kd_2 (by decide) rfl rfl fl_Terms_51 sr_2_12 d_Terms_star_34 ?_
        refine s_iload_n B d_Terms_star_37 rfl ?_
        refine s_pick (lv1 := [(0, .ref 2)]) [0] rfl ?_
        refine s_callU (av := [.ref 15, .int a1]) (rest := []) B (lk_V B d_Terms_star_38 (gl_Terms_95 _) rfl hv_Row_add (by decide) (by decide)) rfl (x_rcV B xc_Row kd_15) (fun _ h => h) rfl (by simp [xng, x_gr, kd_2]) (by simp [Value.category]) rfl (fun r3 e9 => ct_Row_add _ _ _ r3 e9) (fun r3 _ => ?_)
        refine s_aload_n B d_Terms_star_41 rfl ?_
        refine s_bipush (v := (7:Int32)) B d_Terms_star_42 (by decide) ?_
        refine s_aload_n B d_Terms_star_44 rfl ?_
        refine s_getS (k := 12) (n := 15) B xc_Terms kd_2 (by decide) rfl rfl fl_Terms_51 sr_2_12 d_Terms_star_45 ?_
        refine s_pick (lv1 := []) [] rfl ?_
        refine s_callI (av := [.ref 2, .int (7:Int32), .ref 15]) (rest := []) B (lk_V B d_Terms_star_48 (gl_Terms_106 _) rfl hv_Terms_node (by decide) (by decide)) rfl (x_rcV B xc_Terms kd_2) (fun _ h => h) rfl rfl (by simp [Value.category]) rfl (fun r4 e9 => ct_Terms_node _ _ _ r4 e9) (fun r4 _ => ?_)
        exact s_iret B d_Terms_star_51
      · refine s_iload_n B d_Terms_star_24 rfl ?_
        exact s_iret B d_Terms_star_25
    · refine s_bipush (v := (16:Int32)) B d_Terms_star_10 (by decide) ?_
      exact s_iret B d_Terms_star_12
set_option maxRecDepth 100000 in
set_option maxHeartbeats 4000000 in
theorem ct_Terms_star {l : Launch} {D : va_G} {base : Nat} {g : Nat → ClassId} (a1 : Int32) (M : MS) (r : MS × Int32) (hr : m_Terms_star a1 M = some r) : Ct l y_Terms_star (Cond.code y_Terms_star b_Terms_star 2 (some .int) :: x_T) 6 137 D x_cl (xty g) base (xwd g) cM x_gr [.ref 2, .int a1] M r.1 (ovI r.2) :=
  x_met (ov := ovI) (by decide) (Nat.le_of_ble_eq_true rfl) (fun p e R s m args below meth c az B => t_Terms_star B a1 M) r hr
end
theorem d_D_turn_0 : decode b_D_turn 0 = .ok (.iload_n 1, 1) := by decide +kernel
theorem d_D_turn_1 : decode b_D_turn 1 = .ok (.invokestatic 61, 3) := by decide +kernel
theorem d_D_turn_4 : decode b_D_turn 4 = .ok (.iload_n 2, 1) := by decide +kernel
theorem d_D_turn_5 : decode b_D_turn 5 = .ok (.invokestatic 61, 3) := by decide +kernel
theorem d_D_turn_8 : decode b_D_turn 8 = .ok (.iload_n 3, 1) := by decide +kernel
theorem d_D_turn_9 : decode b_D_turn 9 = .ok (.iconst (1), 1) := by decide +kernel
theorem d_D_turn_10 : decode b_D_turn 10 = .ok (.invokestatic 65, 3) := by decide +kernel
theorem d_D_turn_13 : decode b_D_turn 13 = .ok (.aload_n 0, 1) := by decide +kernel
theorem d_D_turn_14 : decode b_D_turn 14 = .ok (.getfield 23, 3) := by decide +kernel
theorem d_D_turn_17 : decode b_D_turn 17 = .ok (.aload_n 0, 1) := by decide +kernel
theorem d_D_turn_18 : decode b_D_turn 18 = .ok (.getfield 16, 3) := by decide +kernel
theorem d_D_turn_21 : decode b_D_turn 21 = .ok (.aload_n 0, 1) := by decide +kernel
theorem d_D_turn_22 : decode b_D_turn 22 = .ok (.getfield 9, 3) := by decide +kernel
theorem d_D_turn_25 : decode b_D_turn 25 = .ok (.invokevirtual 73, 3) := by decide +kernel
theorem d_D_turn_28 : decode b_D_turn 28 = .ok (.aload_n 0, 1) := by decide +kernel
theorem d_D_turn_29 : decode b_D_turn 29 = .ok (.iload_n 1, 1) := by decide +kernel
theorem d_D_turn_30 : decode b_D_turn 30 = .ok (.iload_n 3, 1) := by decide +kernel
theorem d_D_turn_31 : decode b_D_turn 31 = .ok (.ifCond .ne (19), 3) := by decide +kernel
theorem d_D_turn_34 : decode b_D_turn 34 = .ok (.aload_n 0, 1) := by decide +kernel
theorem d_D_turn_35 : decode b_D_turn 35 = .ok (.getfield 16, 3) := by decide +kernel
theorem d_D_turn_38 : decode b_D_turn 38 = .ok (.aload_n 0, 1) := by decide +kernel
theorem d_D_turn_39 : decode b_D_turn 39 = .ok (.getfield 9, 3) := by decide +kernel
theorem d_D_turn_42 : decode b_D_turn 42 = .ok (.iload_n 2, 1) := by decide +kernel
theorem d_D_turn_43 : decode b_D_turn 43 = .ok (.iaload, 1) := by decide +kernel
theorem d_D_turn_44 : decode b_D_turn 44 = .ok (.invokevirtual 84, 3) := by decide +kernel
theorem d_D_turn_47 : decode b_D_turn 47 = .ok (.goto (16), 3) := by decide +kernel
theorem d_D_turn_50 : decode b_D_turn 50 = .ok (.aload_n 0, 1) := by decide +kernel
theorem d_D_turn_51 : decode b_D_turn 51 = .ok (.getfield 16, 3) := by decide +kernel
theorem d_D_turn_54 : decode b_D_turn 54 = .ok (.aload_n 0, 1) := by decide +kernel
theorem d_D_turn_55 : decode b_D_turn 55 = .ok (.getfield 9, 3) := by decide +kernel
theorem d_D_turn_58 : decode b_D_turn 58 = .ok (.iload_n 2, 1) := by decide +kernel
theorem d_D_turn_59 : decode b_D_turn 59 = .ok (.iaload, 1) := by decide +kernel
theorem d_D_turn_60 : decode b_D_turn 60 = .ok (.invokevirtual 88, 3) := by decide +kernel
theorem d_D_turn_63 : decode b_D_turn 63 = .ok (.invokevirtual 69, 3) := by decide +kernel
theorem d_D_turn_66 : decode b_D_turn 66 = .ok (.ireturn, 1) := by decide +kernel
section
variable {p : Program} {l : Launch} {e : Env} {R : Room} {s : State} {m : MethodId} {args : Array Value} {below : List Frame} {meth : Method} {c : Code} {D : va_G} {base : Nat} {g : Nat → ClassId} {az : Nat → Nat} {kz : Nat × Nat}
set_option maxRecDepth 100000 in
set_option maxHeartbeats 4000000 in
theorem t_D_turn_63  (B : xB p R s m args meth c b_D_turn 4 R_D (Cond.code y_D_turn b_D_turn 4 (some .int) :: x_T) (some .int) 7 158 D x_cl (xty g) base)  (s1 : Int32) (s2 : Int32) (M : MS)  : Sn p l e R s m args below meth c 4 D x_cl base (xwd g) cM x_gr az kz (xfc cM) (xZ below args s D x_cl (xty g) base (xwd g) cM x_gr az kz ovI) 63 [.int s2, .int s1, .ref 0] [] M (m_D_turn_63 s1 s2 M) := by
  unfold m_D_turn_63
  refine s_pick (lv1 := []) [] rfl ?_
  refine s_callI (av := [.ref 0, .int s1, .int s2]) (rest := []) B (lk_V B d_D_turn_63 (gl_D_69 _) rfl hv_D_put (by decide) (by decide)) rfl (x_rcV B xc_D kd_0) (fun _ _ => rfl) rfl rfl (by simp [Value.category]) rfl (fun r1 e9 => ct_D_put _ _ _ r1 e9) (fun r1 _ => ?_)
  exact s_iret B d_D_turn_66
set_option maxRecDepth 100000 in
set_option maxHeartbeats 4000000 in
theorem t_D_turn (B : xB p R s m args meth c b_D_turn 4 R_D (Cond.code y_D_turn b_D_turn 4 (some .int) :: x_T) (some .int) 7 158 D x_cl (xty g) base) (a1 : Int32) (a2 : Int32) (a3 : Int32) (M : MS) : Sn p l e R s m args below meth c 4 D x_cl base (xwd g) cM x_gr az kz (xfc cM) (xZ below args s D x_cl (xty g) base (xwd g) cM x_gr az kz ovI) 0 [] [(0, .ref 0), (1, .int a1), (2, .int a2), (3, .int a3)] M (m_D_turn a1 a2 a3 M) := by
  unfold m_D_turn
  refine s_iload_n B d_D_turn_0 rfl ?_
  refine s_pick (lv1 := [(0, .ref 0), (1, .int a1), (2, .int a2), (3, .int a3)]) [0, 1, 2, 3] rfl ?_
  refine s_callU (av := [.int a1]) (rest := []) B (lk_S B d_D_turn_1 (gl_D_61 _) (List.mem_cons_of_mem _ st_D_checkSlot) (List.mem_cons_of_mem _ in_D) (List.mem_cons_of_mem _ ml_D_61) rfl hs_D_checkSlot (by decide) (by decide)) rfl x_rcS (fun _ _ => rfl) rfl rfl (by simp [Value.category]) rfl (fun r1 e9 => ct_D_checkSlot _ _ r1 e9) (fun r1 _ => ?_)
  refine s_iload_n B d_D_turn_4 rfl ?_
  refine s_pick (lv1 := [(0, .ref 0), (1, .int a1), (2, .int a2), (3, .int a3)]) [0, 1, 2, 3] rfl ?_
  refine s_callU (av := [.int a2]) (rest := []) B (lk_S B d_D_turn_5 (gl_D_61 _) (List.mem_cons_of_mem _ st_D_checkSlot) (List.mem_cons_of_mem _ in_D) (List.mem_cons_of_mem _ ml_D_61) rfl hs_D_checkSlot (by decide) (by decide)) rfl x_rcS (fun _ _ => rfl) rfl rfl (by simp [Value.category]) rfl (fun r2 e9 => ct_D_checkSlot _ _ r2 e9) (fun r2 _ => ?_)
  refine s_iload_n B d_D_turn_8 rfl ?_
  refine s_iconst (v := (1:Int32)) B d_D_turn_9 (by decide) ?_
  refine s_pick (lv1 := [(0, .ref 0), (1, .int a1), (2, .int a2), (3, .int a3)]) [0, 1, 2, 3] rfl ?_
  refine s_callU (av := [.int a3, .int (1:Int32)]) (rest := []) B (lk_S B d_D_turn_10 (gl_D_65 _) (List.mem_cons_of_mem _ st_D_checkRange) (List.mem_cons_of_mem _ in_D) (List.mem_cons_of_mem _ ml_D_65) rfl hs_D_checkRange (by decide) (by decide)) rfl x_rcS (fun _ _ => rfl) rfl rfl (by simp [Value.category]) rfl (fun r3 e9 => ct_D_checkRange _ _ _ r3 e9) (fun r3 _ => ?_)
  refine s_aload_n B d_D_turn_13 rfl ?_
  refine s_getS (k := 2) (n := 24) B xc_D kd_0 (by decide) rfl rfl fl_D_23 sr_0_2 d_D_turn_14 ?_
  refine s_aload_n B d_D_turn_17 rfl ?_
  refine s_getS (k := 1) (n := 2) B xc_D kd_0 (by decide) rfl rfl fl_D_16 sr_0_1 d_D_turn_18 ?_
  refine s_aload_n B d_D_turn_21 rfl ?_
  refine s_getS (k := 0) (n := 1) B xc_D kd_0 (by decide) rfl rfl fl_D_9 sr_0_0 d_D_turn_22 ?_
  refine s_pick (lv1 := [(0, .ref 0), (1, .int a1), (2, .int a2), (3, .int a3)]) [0, 1, 2, 3] rfl ?_
  refine s_callU (av := [.ref 24, .ref 2, .ref 1]) (rest := []) B (lk_V B d_D_turn_25 (gl_D_73 _) rfl hv_Explorer_tidy (by decide) (by decide)) rfl (x_rcV B xc_Explorer kd_24) (fun _ _ => rfl) rfl rfl (by simp [Value.category]) rfl (fun r4 e9 => ct_Explorer_tidy  _ r4 e9) (fun r4 _ => ?_)
  refine s_aload_n B d_D_turn_28 rfl ?_
  refine s_iload_n B d_D_turn_29 rfl ?_
  refine s_iload_n B d_D_turn_30 rfl ?_
  refine s_if_ne B d_D_turn_31 rfl (fun _ => ?_) (fun _ => ?_)
  · refine s_aload_n B d_D_turn_50 rfl ?_
    refine s_getS (k := 1) (n := 2) B xc_D kd_0 (by decide) rfl rfl fl_D_16 sr_0_1 d_D_turn_51 ?_
    refine s_aload_n B d_D_turn_54 rfl ?_
    refine s_getS (k := 0) (n := 1) B xc_D kd_0 (by decide) rfl rfl fl_D_9 sr_0_0 d_D_turn_55 ?_
    refine s_iload_n B d_D_turn_58 rfl ?_
    refine s_iald B (Or.inl kd_1) d_D_turn_59 (fun v5 _ => ?_)
    refine s_pick (lv1 := []) [] rfl ?_
    refine s_callI (av := [.ref 2, .int v5]) (rest := [.int a1, .ref 0]) B (lk_V B d_D_turn_60 (gl_D_88 _) rfl hv_Terms_star (by decide) (by decide)) rfl (x_rcV B xc_Terms kd_2) (fun _ h => h) (by simp [xng, x_gr, kd_0]) rfl (by simp [Value.category]) rfl (fun r6 e9 => ct_Terms_star _ _ r6 e9) (fun r6 _ => ?_)
    refine s_pick (lv1 := []) [] rfl ?_
    exact t_D_turn_63 B a1 r6.2 r6.1
  · refine s_aload_n B d_D_turn_34 rfl ?_
    refine s_getS (k := 1) (n := 2) B xc_D kd_0 (by decide) rfl rfl fl_D_16 sr_0_1 d_D_turn_35 ?_
    refine s_aload_n B d_D_turn_38 rfl ?_
    refine s_getS (k := 0) (n := 1) B xc_D kd_0 (by decide) rfl rfl fl_D_9 sr_0_0 d_D_turn_39 ?_
    refine s_iload_n B d_D_turn_42 rfl ?_
    refine s_iald B (Or.inl kd_1) d_D_turn_43 (fun v7 _ => ?_)
    refine s_pick (lv1 := []) [] rfl ?_
    refine s_callI (av := [.ref 2, .int v7]) (rest := [.int a1, .ref 0]) B (lk_V B d_D_turn_44 (gl_D_84 _) rfl hv_Terms_not (by decide) (by decide)) rfl (x_rcV B xc_Terms kd_2) (fun _ h => h) (by simp [xng, x_gr, kd_0]) rfl (by simp [Value.category]) rfl (fun r8 e9 => ct_Terms_not _ _ r8 e9) (fun r8 _ => ?_)
    refine s_goto B d_D_turn_47 rfl ?_
    refine s_pick (lv1 := []) [] rfl ?_
    exact t_D_turn_63 B a1 r8.2 r8.1
set_option maxRecDepth 100000 in
set_option maxHeartbeats 4000000 in
theorem ct_D_turn {l : Launch} {D : va_G} {base : Nat} {g : Nat → ClassId} (a1 : Int32) (a2 : Int32) (a3 : Int32) (M : MS) (r : MS × Int32) (hr : m_D_turn a1 a2 a3 M = some r) : Ct l y_D_turn (Cond.code y_D_turn b_D_turn 4 (some .int) :: x_T) 7 158 D x_cl (xty g) base (xwd g) cM x_gr [.ref 0, .int a1, .int a2, .int a3] M r.1 (ovI r.2) :=
  x_met (ov := ovI) (by decide) (Nat.le_of_ble_eq_true rfl) (fun p e R s m args below meth c az B => t_D_turn B a1 a2 a3 M) r hr
end
theorem d_Row_dropLast_0 : decode b_Row_dropLast 0 = .ok (.aload_n 0, 1) := by decide +kernel
theorem d_Row_dropLast_1 : decode b_Row_dropLast 1 = .ok (.getfield 13, 3) := by decide +kernel
theorem d_Row_dropLast_4 : decode b_Row_dropLast 4 = .ok (.ifCond .le (13), 3) := by decide +kernel
theorem d_Row_dropLast_7 : decode b_Row_dropLast 7 = .ok (.aload_n 0, 1) := by decide +kernel
theorem d_Row_dropLast_8 : decode b_Row_dropLast 8 = .ok (.dup, 1) := by decide +kernel
theorem d_Row_dropLast_9 : decode b_Row_dropLast 9 = .ok (.getfield 13, 3) := by decide +kernel
theorem d_Row_dropLast_12 : decode b_Row_dropLast 12 = .ok (.iconst (1), 1) := by decide +kernel
theorem d_Row_dropLast_13 : decode b_Row_dropLast 13 = .ok (.isub, 1) := by decide +kernel
theorem d_Row_dropLast_14 : decode b_Row_dropLast 14 = .ok (.putfield 13, 3) := by decide +kernel
theorem d_Row_dropLast_17 : decode b_Row_dropLast 17 = .ok (.return_, 1) := by decide +kernel
section
variable {p : Program} {l : Launch} {e : Env} {R : Room} {s : State} {m : MethodId} {args : Array Value} {below : List Frame} {meth : Method} {c : Code} {D : va_G} {base : Nat} {g : Nat → ClassId} {az : Nat → Nat} {kz : Nat × Nat}
set_option maxRecDepth 100000 in
set_option maxHeartbeats 4000000 in
theorem t_Row_dropLast (B : xB p R s m args meth c b_Row_dropLast 1 R_Row (Cond.code y_Row_dropLast b_Row_dropLast 1 none :: x_T) none 0 0 D x_cl (xty g) base) (a0 : Nat) (M : MS) : Sn p l e R s m args below meth c 1 D x_cl base (xwd g) cM x_g0 az kz (xfc cM) (xZ below args s D x_cl (xty g) base (xwd g) cM x_g0 az kz ovU) 0 [] [(0, .ref a0)] M (m_Row_dropLast a0 M) := by
  unfold m_Row_dropLast
  refine s_guard (fun ha0 => ?_)
  refine s_aload_n B d_Row_dropLast_0 rfl ?_
  refine s_getI (k := 1) B xc_Row ha0 (by decide) rfl rfl fl_Row_13 d_Row_dropLast_1 ?_
  refine s_if_le B d_Row_dropLast_4 rfl (fun _ => ?_) (fun _ => ?_)
  · exact s_vret B d_Row_dropLast_17
  · refine s_aload_n B d_Row_dropLast_7 rfl ?_
    refine s_dup B d_Row_dropLast_8 rfl ?_
    refine s_getI (k := 1) B xc_Row ha0 (by decide) rfl rfl fl_Row_13 d_Row_dropLast_9 ?_
    refine s_iconst (v := (1:Int32)) B d_Row_dropLast_12 (by decide) ?_
    refine s_isub B d_Row_dropLast_13 ?_
    refine s_putI (k := 1) (ty := .int) B xc_Row ha0 (by decide) rfl rfl fl_Row_13 rfl rfl rfl rfl d_Row_dropLast_14 (fun M1 _ => ?_)
    exact s_vret B d_Row_dropLast_17
set_option maxRecDepth 100000 in
set_option maxHeartbeats 4000000 in
theorem ct_Row_dropLast {l : Launch} {D : va_G} {base : Nat} {g : Nat → ClassId} (a0 : Nat) (M : MS) (r : MS × Unit) (hr : m_Row_dropLast a0 M = some r) : Ct l y_Row_dropLast (Cond.code y_Row_dropLast b_Row_dropLast 1 none :: x_T) 0 0 D x_cl (xty g) base (xwd g) cM x_g0 [.ref a0] M r.1 (ovU r.2) :=
  x_met (ov := ovU) (by decide) (Nat.le_of_ble_eq_true rfl) (fun p e R s m args below meth c az B => t_Row_dropLast B a0 M) r hr
end
theorem d_Terms_asksForMore_0 : decode b_Terms_asksForMore 0 = .ok (.aload_n 0, 1) := by decide +kernel
theorem d_Terms_asksForMore_1 : decode b_Terms_asksForMore 1 = .ok (.getfield 58, 3) := by decide +kernel
theorem d_Terms_asksForMore_4 : decode b_Terms_asksForMore 4 = .ok (.invokevirtual 99, 3) := by decide +kernel
theorem d_Terms_asksForMore_7 : decode b_Terms_asksForMore 7 = .ok (.istore_n 3, 1) := by decide +kernel
theorem d_Terms_asksForMore_8 : decode b_Terms_asksForMore 8 = .ok (.aload_n 0, 1) := by decide +kernel
theorem d_Terms_asksForMore_9 : decode b_Terms_asksForMore 9 = .ok (.getfield 11, 3) := by decide +kernel
theorem d_Terms_asksForMore_12 : decode b_Terms_asksForMore 12 = .ok (.iload_n 1, 1) := by decide +kernel
theorem d_Terms_asksForMore_13 : decode b_Terms_asksForMore 13 = .ok (.iaload, 1) := by decide +kernel
theorem d_Terms_asksForMore_14 : decode b_Terms_asksForMore 14 = .ok (.iconst (3), 1) := by decide +kernel
theorem d_Terms_asksForMore_15 : decode b_Terms_asksForMore 15 = .ok (.if_icmp .ne (21), 3) := by decide +kernel
theorem d_Terms_asksForMore_18 : decode b_Terms_asksForMore 18 = .ok (.aload_n 0, 1) := by decide +kernel
theorem d_Terms_asksForMore_19 : decode b_Terms_asksForMore 19 = .ok (.getfield 18, 3) := by decide +kernel
theorem d_Terms_asksForMore_22 : decode b_Terms_asksForMore 22 = .ok (.aload_n 0, 1) := by decide +kernel
theorem d_Terms_asksForMore_23 : decode b_Terms_asksForMore 23 = .ok (.iload_n 1, 1) := by decide +kernel
theorem d_Terms_asksForMore_24 : decode b_Terms_asksForMore 24 = .ok (.iconst (0), 1) := by decide +kernel
theorem d_Terms_asksForMore_25 : decode b_Terms_asksForMore 25 = .ok (.invokevirtual 91, 3) := by decide +kernel
theorem d_Terms_asksForMore_28 : decode b_Terms_asksForMore 28 = .ok (.iaload, 1) := by decide +kernel
theorem d_Terms_asksForMore_29 : decode b_Terms_asksForMore 29 = .ok (.ifCond .ne (7), 3) := by decide +kernel
theorem d_Terms_asksForMore_32 : decode b_Terms_asksForMore 32 = .ok (.iconst (1), 1) := by decide +kernel
theorem d_Terms_asksForMore_33 : decode b_Terms_asksForMore 33 = .ok (.goto (4), 3) := by decide +kernel
theorem d_Terms_asksForMore_36 : decode b_Terms_asksForMore 36 = .ok (.iconst (0), 1) := by decide +kernel
theorem d_Terms_asksForMore_37 : decode b_Terms_asksForMore 37 = .ok (.istore 4, 2) := by decide +kernel
theorem d_Terms_asksForMore_39 : decode b_Terms_asksForMore 39 = .ok (.iload 4, 2) := by decide +kernel
theorem d_Terms_asksForMore_41 : decode b_Terms_asksForMore 41 = .ok (.ifCond .eq (7), 3) := by decide +kernel
theorem d_Terms_asksForMore_44 : decode b_Terms_asksForMore 44 = .ok (.iconst (1), 1) := by decide +kernel
theorem d_Terms_asksForMore_45 : decode b_Terms_asksForMore 45 = .ok (.goto (9), 3) := by decide +kernel
theorem d_Terms_asksForMore_48 : decode b_Terms_asksForMore 48 = .ok (.aload_n 0, 1) := by decide +kernel
theorem d_Terms_asksForMore_49 : decode b_Terms_asksForMore 49 = .ok (.getfield 24, 3) := by decide +kernel
theorem d_Terms_asksForMore_52 : decode b_Terms_asksForMore 52 = .ok (.iload_n 1, 1) := by decide +kernel
theorem d_Terms_asksForMore_53 : decode b_Terms_asksForMore 53 = .ok (.iaload, 1) := by decide +kernel
theorem d_Terms_asksForMore_54 : decode b_Terms_asksForMore 54 = .ok (.istore 5, 2) := by decide +kernel
theorem d_Terms_asksForMore_56 : decode b_Terms_asksForMore 56 = .ok (.iconst (0), 1) := by decide +kernel
theorem d_Terms_asksForMore_57 : decode b_Terms_asksForMore 57 = .ok (.istore 6, 2) := by decide +kernel
theorem d_Terms_asksForMore_59 : decode b_Terms_asksForMore 59 = .ok (.iload 6, 2) := by decide +kernel
theorem d_Terms_asksForMore_61 : decode b_Terms_asksForMore 61 = .ok (.iload 5, 2) := by decide +kernel
theorem d_Terms_asksForMore_63 : decode b_Terms_asksForMore 63 = .ok (.if_icmp .ge (42), 3) := by decide +kernel
theorem d_Terms_asksForMore_66 : decode b_Terms_asksForMore 66 = .ok (.aload_n 0, 1) := by decide +kernel
theorem d_Terms_asksForMore_67 : decode b_Terms_asksForMore 67 = .ok (.iload_n 1, 1) := by decide +kernel
theorem d_Terms_asksForMore_68 : decode b_Terms_asksForMore 68 = .ok (.iload 6, 2) := by decide +kernel
theorem d_Terms_asksForMore_70 : decode b_Terms_asksForMore 70 = .ok (.invokevirtual 91, 3) := by decide +kernel
theorem d_Terms_asksForMore_73 : decode b_Terms_asksForMore 73 = .ok (.istore 7, 2) := by decide +kernel
theorem d_Terms_asksForMore_75 : decode b_Terms_asksForMore 75 = .ok (.aload_n 0, 1) := by decide +kernel
theorem d_Terms_asksForMore_76 : decode b_Terms_asksForMore 76 = .ok (.getfield 39, 3) := by decide +kernel
theorem d_Terms_asksForMore_79 : decode b_Terms_asksForMore 79 = .ok (.iload 7, 2) := by decide +kernel
theorem d_Terms_asksForMore_81 : decode b_Terms_asksForMore 81 = .ok (.iconst (4), 1) := by decide +kernel
theorem d_Terms_asksForMore_82 : decode b_Terms_asksForMore 82 = .ok (.imul, 1) := by decide +kernel
theorem d_Terms_asksForMore_83 : decode b_Terms_asksForMore 83 = .ok (.iload_n 2, 1) := by decide +kernel
theorem d_Terms_asksForMore_84 : decode b_Terms_asksForMore 84 = .ok (.iadd, 1) := by decide +kernel
theorem d_Terms_asksForMore_85 : decode b_Terms_asksForMore 85 = .ok (.iaload, 1) := by decide +kernel
theorem d_Terms_asksForMore_86 : decode b_Terms_asksForMore 86 = .ok (.iconst (-1), 1) := by decide +kernel
theorem d_Terms_asksForMore_87 : decode b_Terms_asksForMore 87 = .ok (.if_icmp .ne (12), 3) := by decide +kernel
theorem d_Terms_asksForMore_90 : decode b_Terms_asksForMore 90 = .ok (.aload_n 0, 1) := by decide +kernel
theorem d_Terms_asksForMore_91 : decode b_Terms_asksForMore 91 = .ok (.getfield 58, 3) := by decide +kernel
theorem d_Terms_asksForMore_94 : decode b_Terms_asksForMore 94 = .ok (.iload 7, 2) := by decide +kernel
theorem d_Terms_asksForMore_96 : decode b_Terms_asksForMore 96 = .ok (.invokevirtual 95, 3) := by decide +kernel
theorem d_Terms_asksForMore_99 : decode b_Terms_asksForMore 99 = .ok (.iinc 6 (1), 3) := by decide +kernel
theorem d_Terms_asksForMore_102 : decode b_Terms_asksForMore 102 = .ok (.goto (-43), 3) := by decide +kernel
theorem d_Terms_asksForMore_105 : decode b_Terms_asksForMore 105 = .ok (.aload_n 0, 1) := by decide +kernel
theorem d_Terms_asksForMore_106 : decode b_Terms_asksForMore 106 = .ok (.getfield 58, 3) := by decide +kernel
theorem d_Terms_asksForMore_109 : decode b_Terms_asksForMore 109 = .ok (.invokevirtual 99, 3) := by decide +kernel
theorem d_Terms_asksForMore_112 : decode b_Terms_asksForMore 112 = .ok (.iload_n 3, 1) := by decide +kernel
theorem d_Terms_asksForMore_113 : decode b_Terms_asksForMore 113 = .ok (.if_icmp .le (7), 3) := by decide +kernel
theorem d_Terms_asksForMore_116 : decode b_Terms_asksForMore 116 = .ok (.iconst (1), 1) := by decide +kernel
theorem d_Terms_asksForMore_117 : decode b_Terms_asksForMore 117 = .ok (.goto (4), 3) := by decide +kernel
theorem d_Terms_asksForMore_120 : decode b_Terms_asksForMore 120 = .ok (.iconst (0), 1) := by decide +kernel
theorem d_Terms_asksForMore_121 : decode b_Terms_asksForMore 121 = .ok (.ireturn, 1) := by decide +kernel
section
variable {p : Program} {l : Launch} {e : Env} {R : Room} {s : State} {m : MethodId} {args : Array Value} {below : List Frame} {meth : Method} {c : Code} {D : va_G} {base : Nat} {g : Nat → ClassId} {az : Nat → Nat} {kz : Nat × Nat}
set_option maxRecDepth 100000 in
set_option maxHeartbeats 4000000 in
theorem t_Terms_asksForMore_105  (B : xB p R s m args meth c b_Terms_asksForMore 8 R_Terms (Cond.code y_Terms_asksForMore b_Terms_asksForMore 8 (some .boolean) :: x_T) (some .boolean) 5 111 D x_cl (xty g) base)  (l3 : Int32) (M : MS)  : Sn p l e R s m args below meth c 8 D x_cl base (xwd g) cM x_gr az kz (xfc cM) (xZ below args s D x_cl (xty g) base (xwd g) cM x_gr az kz ovI) 105 [] [(0, .ref 2), (3, .int l3)] M (m_Terms_asksForMore_105 l3 M) := by
  unfold m_Terms_asksForMore_105
  refine s_aload_n B d_Terms_asksForMore_105 rfl ?_
  refine s_getS (k := 14) (n := 19) B xc_Terms kd_2 (by decide) rfl rfl fl_Terms_58 sr_2_14 d_Terms_asksForMore_106 ?_
  refine s_pick (lv1 := [(3, .int l3)]) [3] rfl ?_
  refine s_callI (av := [.ref 19]) (rest := []) B (lk_V B d_Terms_asksForMore_109 (gl_Terms_99 _) rfl hv_Row_size (by decide) (by decide)) rfl (x_rcV B xc_Row kd_19) (fun _ _ => rfl) rfl rfl (by simp [Value.category]) rfl (fun r1 e9 => ct_Row_size _ _ r1 e9) (fun r1 _ => ?_)
  refine s_iload_n B d_Terms_asksForMore_112 rfl ?_
  refine s_icmp_le B d_Terms_asksForMore_113 rfl (fun _ => ?_) (fun _ => ?_)
  · refine s_iconst (v := (0:Int32)) B d_Terms_asksForMore_120 (by decide) ?_
    exact s_zret0 rfl B d_Terms_asksForMore_121
  · refine s_iconst (v := (1:Int32)) B d_Terms_asksForMore_116 (by decide) ?_
    refine s_goto B d_Terms_asksForMore_117 rfl ?_
    exact s_zret0 rfl B d_Terms_asksForMore_121
set_option maxRecDepth 100000 in
set_option maxHeartbeats 4000000 in
theorem t_Terms_asksForMore_59b {k59 : Int32 × Int32 × Int32 × Int32 × Int32 × MS → Option (MS × Int32)} (B : xB p R s m args meth c b_Terms_asksForMore 8 R_Terms (Cond.code y_Terms_asksForMore b_Terms_asksForMore 8 (some .boolean) :: x_T) (some .boolean) 5 111 D x_cl (xty g) base) (hk59 : ∀ (l1 : Int32) (l2 : Int32) (l3 : Int32) (l5 : Int32) (l6 : Int32) (M : MS) , Sn p l e R s m args below meth c 8 D x_cl base (xwd g) cM x_gr az kz (xfc cM) (xZ below args s D x_cl (xty g) base (xwd g) cM x_gr az kz ovI) 59 [] [(0, .ref 2), (1, .int l1), (2, .int l2), (3, .int l3), (5, .int l5), (6, .int l6)] M (k59 (l1, l2, l3, l5, l6, M))) (l1 : Int32) (l2 : Int32) (l3 : Int32) (l5 : Int32) (l6 : Int32) (M : MS)  : Sn p l e R s m args below meth c 8 D x_cl base (xwd g) cM x_gr az kz (xfc cM) (xZ below args s D x_cl (xty g) base (xwd g) cM x_gr az kz ovI) 59 [] [(0, .ref 2), (1, .int l1), (2, .int l2), (3, .int l3), (5, .int l5), (6, .int l6)] M (m_Terms_asksForMore_59b k59 l1 l2 l3 l5 l6 M) := by
  unfold m_Terms_asksForMore_59b
  refine s_iload B d_Terms_asksForMore_59 rfl ?_
  refine s_iload B d_Terms_asksForMore_61 rfl ?_
  refine s_icmp_ge B d_Terms_asksForMore_63 rfl (fun _ => ?_) (fun _ => ?_)
  · refine s_pick (lv1 := [(0, .ref 2), (3, .int l3)]) [0, 3] rfl ?_
    exact t_Terms_asksForMore_105 B l3 M
  · refine s_aload_n B d_Terms_asksForMore_66 rfl ?_
    refine s_iload_n B d_Terms_asksForMore_67 rfl ?_
    refine s_iload B d_Terms_asksForMore_68 rfl ?_
    refine s_pick (lv1 := [(0, .ref 2), (1, .int l1), (2, .int l2), (3, .int l3), (5, .int l5), (6, .int l6)]) [0, 1, 2, 3, 5, 6] rfl ?_
    refine s_callI (av := [.ref 2, .int l1, .int l6]) (rest := []) B (lk_V B d_Terms_asksForMore_70 (gl_Terms_91 _) rfl hv_Terms_kid (by decide) (by decide)) rfl (x_rcV B xc_Terms kd_2) (fun _ _ => rfl) rfl rfl (by simp [Value.category]) rfl (fun r1 e9 => ct_Terms_kid _ _ _ r1 e9) (fun r1 _ => ?_)
    refine s_istore B d_Terms_asksForMore_73 (by decide) ?_
    refine s_aload_n B d_Terms_asksForMore_75 rfl ?_
    refine s_getS (k := 9) (n := 12) B xc_Terms kd_2 (by decide) rfl rfl fl_Terms_39 sr_2_9 d_Terms_asksForMore_76 ?_
    refine s_iload B d_Terms_asksForMore_79 rfl ?_
    refine s_iconst (v := (4:Int32)) B d_Terms_asksForMore_81 (by decide) ?_
    refine s_imul B d_Terms_asksForMore_82 ?_
    refine s_iload_n B d_Terms_asksForMore_83 rfl ?_
    refine s_iadd B d_Terms_asksForMore_84 ?_
    refine s_iald B (Or.inr kd_12) d_Terms_asksForMore_85 (fun v2 _ => ?_)
    refine s_iconst (v := (-1:Int32)) B d_Terms_asksForMore_86 (by decide) ?_
    refine s_icmp_ne B d_Terms_asksForMore_87 rfl (fun _ => ?_) (fun _ => ?_)
    · refine s_iinc (w := (1:Int32)) B d_Terms_asksForMore_99 rfl (by decide) (by decide) ?_
      refine s_goto B d_Terms_asksForMore_102 rfl ?_
      refine s_pick (lv1 := [(0, .ref 2), (1, .int l1), (2, .int l2), (3, .int l3), (5, .int l5), (6, .int (l6 + (1:Int32)))]) [0, 1, 2, 3, 5, 6] rfl ?_
      exact hk59 l1 l2 l3 l5 (l6 + (1:Int32)) r1.1
    · refine s_aload_n B d_Terms_asksForMore_90 rfl ?_
      refine s_getS (k := 14) (n := 19) B xc_Terms kd_2 (by decide) rfl rfl fl_Terms_58 sr_2_14 d_Terms_asksForMore_91 ?_
      refine s_iload B d_Terms_asksForMore_94 rfl ?_
      refine s_pick (lv1 := [(0, .ref 2), (1, .int l1), (2, .int l2), (3, .int l3), (5, .int l5), (6, .int l6)]) [0, 1, 2, 3, 5, 6] rfl ?_
      refine s_callU (av := [.ref 19, .int r1.2]) (rest := []) B (lk_V B d_Terms_asksForMore_96 (gl_Terms_95 _) rfl hv_Row_add (by decide) (by decide)) rfl (x_rcV B xc_Row kd_19) (fun _ h => h) rfl (by simp [xng, x_gr, kd_2]) (by simp [Value.category]) rfl (fun r3 e9 => ct_Row_add _ _ _ r3 e9) (fun r3 _ => ?_)
      refine s_iinc (w := (1:Int32)) B d_Terms_asksForMore_99 rfl (by decide) (by decide) ?_
      refine s_goto B d_Terms_asksForMore_102 rfl ?_
      refine s_pick (lv1 := [(0, .ref 2), (1, .int l1), (2, .int l2), (3, .int l3), (5, .int l5), (6, .int (l6 + (1:Int32)))]) [0, 1, 2, 3, 5, 6] rfl ?_
      exact hk59 l1 l2 l3 l5 (l6 + (1:Int32)) r3.1
set_option maxRecDepth 100000 in
set_option maxHeartbeats 4000000 in
theorem t_Terms_asksForMore_59  (B : xB p R s m args meth c b_Terms_asksForMore 8 R_Terms (Cond.code y_Terms_asksForMore b_Terms_asksForMore 8 (some .boolean) :: x_T) (some .boolean) 5 111 D x_cl (xty g) base)  (l1 : Int32) (l2 : Int32) (l3 : Int32) (l5 : Int32) (l6 : Int32) (M : MS)  : Sn p l e R s m args below meth c 8 D x_cl base (xwd g) cM x_gr az kz (xfc cM) (xZ below args s D x_cl (xty g) base (xwd g) cM x_gr az kz ovI) 59 [] [(0, .ref 2), (1, .int l1), (2, .int l2), (3, .int l3), (5, .int l5), (6, .int l6)] M (m_Terms_asksForMore_59 (l1, l2, l3, l5, l6, M)) := by
  have q : ∀ (F : Nat) (i : Int32 × Int32 × Int32 × Int32 × Int32 × MS), Sn p l e R s m args below meth c 8 D x_cl base (xwd g) cM x_gr az kz (xfc cM) (xZ below args s D x_cl (xty g) base (xwd g) cM x_gr az kz ovI) 59 [] [(0, .ref 2), (1, .int i.1), (2, .int i.2.1), (3, .int i.2.2.1), (5, .int i.2.2.2.1), (6, .int i.2.2.2.2.1)] i.2.2.2.2.2 (fx (fun (k : Int32 × Int32 × Int32 × Int32 × Int32 × MS → Option (MS × Int32)) (i : Int32 × Int32 × Int32 × Int32 × Int32 × MS) => m_Terms_asksForMore_59b k i.1 i.2.1 i.2.2.1 i.2.2.2.1 i.2.2.2.2.1 i.2.2.2.2.2) F i) := by
    intro F
    induction F with
    | zero => intro i ; exact s_none
    | succ F ih => intro i ; exact t_Terms_asksForMore_59b B  (fun l1 l2 l3 l5 l6 M  => ih (l1, l2, l3, l5, l6, M) ) i.1 i.2.1 i.2.2.1 i.2.2.2.1 i.2.2.2.2.1 i.2.2.2.2.2 
  exact q FU (l1, l2, l3, l5, l6, M) 
set_option maxRecDepth 100000 in
set_option maxHeartbeats 4000000 in
theorem t_Terms_asksForMore_37  (B : xB p R s m args meth c b_Terms_asksForMore 8 R_Terms (Cond.code y_Terms_asksForMore b_Terms_asksForMore 8 (some .boolean) :: x_T) (some .boolean) 5 111 D x_cl (xty g) base)  (l1 : Int32) (l2 : Int32) (l3 : Int32) (s0 : Int32) (M : MS)  : Sn p l e R s m args below meth c 8 D x_cl base (xwd g) cM x_gr az kz (xfc cM) (xZ below args s D x_cl (xty g) base (xwd g) cM x_gr az kz ovI) 37 [.int s0] [(0, .ref 2), (1, .int l1), (2, .int l2), (3, .int l3)] M (m_Terms_asksForMore_37 l1 l2 l3 s0 M) := by
  unfold m_Terms_asksForMore_37
  refine s_istore B d_Terms_asksForMore_37 (by decide) ?_
  refine s_iload B d_Terms_asksForMore_39 rfl ?_
  refine s_if_eq B d_Terms_asksForMore_41 rfl (fun _ => ?_) (fun _ => ?_)
  · refine s_aload_n B d_Terms_asksForMore_48 rfl ?_
    refine s_getS (k := 4) (n := 7) B xc_Terms kd_2 (by decide) rfl rfl fl_Terms_24 sr_2_4 d_Terms_asksForMore_49 ?_
    refine s_iload_n B d_Terms_asksForMore_52 rfl ?_
    refine s_iald B (Or.inr kd_7) d_Terms_asksForMore_53 (fun v1 _ => ?_)
    refine s_istore B d_Terms_asksForMore_54 (by decide) ?_
    refine s_iconst (v := (0:Int32)) B d_Terms_asksForMore_56 (by decide) ?_
    refine s_istore B d_Terms_asksForMore_57 (by decide) ?_
    refine s_pick (lv1 := [(0, .ref 2), (1, .int l1), (2, .int l2), (3, .int l3), (5, .int v1), (6, .int (0:Int32))]) [0, 1, 2, 3, 5, 6] rfl ?_
    exact t_Terms_asksForMore_59 B l1 l2 l3 v1 (0:Int32) M
  · refine s_iconst (v := (1:Int32)) B d_Terms_asksForMore_44 (by decide) ?_
    refine s_goto B d_Terms_asksForMore_45 rfl ?_
    refine s_istore B d_Terms_asksForMore_54 (by decide) ?_
    refine s_iconst (v := (0:Int32)) B d_Terms_asksForMore_56 (by decide) ?_
    refine s_istore B d_Terms_asksForMore_57 (by decide) ?_
    refine s_pick (lv1 := [(0, .ref 2), (1, .int l1), (2, .int l2), (3, .int l3), (5, .int (1:Int32)), (6, .int (0:Int32))]) [0, 1, 2, 3, 5, 6] rfl ?_
    exact t_Terms_asksForMore_59 B l1 l2 l3 (1:Int32) (0:Int32) M
set_option maxRecDepth 100000 in
set_option maxHeartbeats 4000000 in
theorem t_Terms_asksForMore_36  (B : xB p R s m args meth c b_Terms_asksForMore 8 R_Terms (Cond.code y_Terms_asksForMore b_Terms_asksForMore 8 (some .boolean) :: x_T) (some .boolean) 5 111 D x_cl (xty g) base)  (l1 : Int32) (l2 : Int32) (l3 : Int32) (M : MS)  : Sn p l e R s m args below meth c 8 D x_cl base (xwd g) cM x_gr az kz (xfc cM) (xZ below args s D x_cl (xty g) base (xwd g) cM x_gr az kz ovI) 36 [] [(0, .ref 2), (1, .int l1), (2, .int l2), (3, .int l3)] M (m_Terms_asksForMore_36 l1 l2 l3 M) := by
  unfold m_Terms_asksForMore_36
  refine s_iconst (v := (0:Int32)) B d_Terms_asksForMore_36 (by decide) ?_
  refine s_pick (lv1 := [(0, .ref 2), (1, .int l1), (2, .int l2), (3, .int l3)]) [0, 1, 2, 3] rfl ?_
  exact t_Terms_asksForMore_37 B l1 l2 l3 (0:Int32) M
set_option maxRecDepth 100000 in
set_option maxHeartbeats 4000000 in
theorem t_Terms_asksForMore (B : xB p R s m args meth c b_Terms_asksForMore 8 R_Terms (Cond.code y_Terms_asksForMore b_Terms_asksForMore 8 (some .boolean) :: x_T) (some .boolean) 5 111 D x_cl (xty g) base) (a1 : Int32) (a2 : Int32) (M : MS) : Sn p l e R s m args below meth c 8 D x_cl base (xwd g) cM x_gr az kz (xfc cM) (xZ below args s D x_cl (xty g) base (xwd g) cM x_gr az kz ovI) 0 [] [(0, .ref 2), (1, .int a1), (2, .int a2)] M (m_Terms_asksForMore a1 a2 M) := by
  unfold m_Terms_asksForMore
  refine s_aload_n B d_Terms_asksForMore_0 rfl ?_
  refine s_getS (k := 14) (n := 19) B xc_Terms kd_2 (by decide) rfl rfl fl_Terms_58 sr_2_14 d_Terms_asksForMore_1 ?_
  refine s_pick (lv1 := [(0, .ref 2), (1, .int a1), (2, .int a2)]) [0, 1, 2] rfl ?_
  refine s_callI (av := [.ref 19]) (rest := []) B (lk_V B d_Terms_asksForMore_4 (gl_Terms_99 _) rfl hv_Row_size (by decide) (by decide)) rfl (x_rcV B xc_Row kd_19) (fun _ _ => rfl) rfl rfl (by simp [Value.category]) rfl (fun r1 e9 => ct_Row_size _ _ r1 e9) (fun r1 _ => ?_)
  refine s_istore_n B d_Terms_asksForMore_7 (by decide) ?_
  refine s_aload_n B d_Terms_asksForMore_8 rfl ?_
  refine s_getS (k := 0) (n := 3) B xc_Terms kd_2 (by decide) rfl rfl fl_Terms_11 sr_2_0 d_Terms_asksForMore_9 ?_
  refine s_iload_n B d_Terms_asksForMore_12 rfl ?_
  refine s_iald B (Or.inr kd_3) d_Terms_asksForMore_13 (fun v2 _ => ?_)
  refine s_iconst (v := (3:Int32)) B d_Terms_asksForMore_14 (by decide) ?_
  refine s_icmp_ne B d_Terms_asksForMore_15 rfl (fun _ => ?_) (fun _ => ?_)
  · refine s_pick (lv1 := [(0, .ref 2), (1, .int a1), (2, .int a2), (3, .int r1.2)]) [0, 1, 2, 3] rfl ?_
    exact t_Terms_asksForMore_36 B a1 a2 r1.2 r1.1
  · refine s_aload_n B d_Terms_asksForMore_18 rfl ?_
    refine s_getS (k := 2) (n := 5) B xc_Terms kd_2 (by decide) rfl rfl fl_Terms_18 sr_2_2 d_Terms_asksForMore_19 ?_
    refine s_aload_n B d_Terms_asksForMore_22 rfl ?_
    refine s_iload_n B d_Terms_asksForMore_23 rfl ?_
    refine s_iconst (v := (0:Int32)) B d_Terms_asksForMore_24 (by decide) ?_
    refine s_pick (lv1 := [(0, .ref 2), (1, .int a1), (2, .int a2), (3, .int r1.2)]) [0, 1, 2, 3] rfl ?_
    refine s_callI (av := [.ref 2, .int a1, .int (0:Int32)]) (rest := [.ref 5]) B (lk_V B d_Terms_asksForMore_25 (gl_Terms_91 _) rfl hv_Terms_kid (by decide) (by decide)) rfl (x_rcV B xc_Terms kd_2) (fun _ _ => rfl) rfl rfl (by simp [Value.category]) rfl (fun r3 e9 => ct_Terms_kid _ _ _ r3 e9) (fun r3 _ => ?_)
    refine s_iald B (Or.inr kd_5) d_Terms_asksForMore_28 (fun v4 _ => ?_)
    refine s_if_ne B d_Terms_asksForMore_29 rfl (fun _ => ?_) (fun _ => ?_)
    · refine s_pick (lv1 := [(0, .ref 2), (1, .int a1), (2, .int a2), (3, .int r1.2)]) [0, 1, 2, 3] rfl ?_
      exact t_Terms_asksForMore_36 B a1 a2 r1.2 r3.1
    · refine s_iconst (v := (1:Int32)) B d_Terms_asksForMore_32 (by decide) ?_
      refine s_goto B d_Terms_asksForMore_33 rfl ?_
      refine s_pick (lv1 := [(0, .ref 2), (1, .int a1), (2, .int a2), (3, .int r1.2)]) [0, 1, 2, 3] rfl ?_
      exact t_Terms_asksForMore_37 B a1 a2 r1.2 (1:Int32) r3.1
set_option maxRecDepth 100000 in
set_option maxHeartbeats 4000000 in
theorem ct_Terms_asksForMore {l : Launch} {D : va_G} {base : Nat} {g : Nat → ClassId} (a1 : Int32) (a2 : Int32) (M : MS) (r : MS × Int32) (hr : m_Terms_asksForMore a1 a2 M = some r) : Ct l y_Terms_asksForMore (Cond.code y_Terms_asksForMore b_Terms_asksForMore 8 (some .boolean) :: x_T) 5 111 D x_cl (xty g) base (xwd g) cM x_gr [.ref 2, .int a1, .int a2] M r.1 (ovI r.2) :=
  x_met (ov := ovI) (by decide) (Nat.le_of_ble_eq_true rfl) (fun p e R s m args below meth c az B => t_Terms_asksForMore B a1 a2 M) r hr
end
theorem d_Terms_kidAfter_0 : decode b_Terms_kidAfter 0 = .ok (.aload_n 0, 1) := by decide +kernel
theorem d_Terms_kidAfter_1 : decode b_Terms_kidAfter 1 = .ok (.getfield 39, 3) := by decide +kernel
theorem d_Terms_kidAfter_4 : decode b_Terms_kidAfter 4 = .ok (.aload_n 0, 1) := by decide +kernel
theorem d_Terms_kidAfter_5 : decode b_Terms_kidAfter 5 = .ok (.iload_n 1, 1) := by decide +kernel
theorem d_Terms_kidAfter_6 : decode b_Terms_kidAfter 6 = .ok (.iload_n 2, 1) := by decide +kernel
theorem d_Terms_kidAfter_7 : decode b_Terms_kidAfter 7 = .ok (.invokevirtual 91, 3) := by decide +kernel
theorem d_Terms_kidAfter_10 : decode b_Terms_kidAfter 10 = .ok (.iconst (4), 1) := by decide +kernel
theorem d_Terms_kidAfter_11 : decode b_Terms_kidAfter 11 = .ok (.imul, 1) := by decide +kernel
theorem d_Terms_kidAfter_12 : decode b_Terms_kidAfter 12 = .ok (.iload_n 3, 1) := by decide +kernel
theorem d_Terms_kidAfter_13 : decode b_Terms_kidAfter 13 = .ok (.iadd, 1) := by decide +kernel
theorem d_Terms_kidAfter_14 : decode b_Terms_kidAfter 14 = .ok (.iaload, 1) := by decide +kernel
theorem d_Terms_kidAfter_15 : decode b_Terms_kidAfter 15 = .ok (.ireturn, 1) := by decide +kernel
section
variable {p : Program} {l : Launch} {e : Env} {R : Room} {s : State} {m : MethodId} {args : Array Value} {below : List Frame} {meth : Method} {c : Code} {D : va_G} {base : Nat} {g : Nat → ClassId} {az : Nat → Nat} {kz : Nat × Nat}
set_option maxRecDepth 100000 in
set_option maxHeartbeats 4000000 in
theorem t_Terms_kidAfter (B : xB p R s m args meth c b_Terms_kidAfter 4 R_Terms (Cond.code y_Terms_kidAfter b_Terms_kidAfter 4 (some .int) :: x_T) (some .int) 1 22 D x_cl (xty g) base) (a1 : Int32) (a2 : Int32) (a3 : Int32) (M : MS) : Sn p l e R s m args below meth c 4 D x_cl base (xwd g) cM x_g0 az kz (xfc cM) (xZ below args s D x_cl (xty g) base (xwd g) cM x_g0 az kz ovI) 0 [] [(0, .ref 2), (1, .int a1), (2, .int a2), (3, .int a3)] M (m_Terms_kidAfter a1 a2 a3 M) := by
  unfold m_Terms_kidAfter
  refine s_aload_n B d_Terms_kidAfter_0 rfl ?_
  refine s_getS (k := 9) (n := 12) B xc_Terms kd_2 (by decide) rfl rfl fl_Terms_39 sr_2_9 d_Terms_kidAfter_1 ?_
  refine s_aload_n B d_Terms_kidAfter_4 rfl ?_
  refine s_iload_n B d_Terms_kidAfter_5 rfl ?_
  refine s_iload_n B d_Terms_kidAfter_6 rfl ?_
  refine s_pick (lv1 := [(3, .int a3)]) [3] rfl ?_
  refine s_callI (av := [.ref 2, .int a1, .int a2]) (rest := [.ref 12]) B (lk_V B d_Terms_kidAfter_7 (gl_Terms_91 _) rfl hv_Terms_kid (by decide) (by decide)) rfl (x_rcV B xc_Terms kd_2) (fun _ _ => rfl) rfl rfl (by simp [Value.category]) rfl (fun r1 e9 => ct_Terms_kid _ _ _ r1 e9) (fun r1 _ => ?_)
  refine s_iconst (v := (4:Int32)) B d_Terms_kidAfter_10 (by decide) ?_
  refine s_imul B d_Terms_kidAfter_11 ?_
  refine s_iload_n B d_Terms_kidAfter_12 rfl ?_
  refine s_iadd B d_Terms_kidAfter_13 ?_
  refine s_iald B (Or.inr kd_12) d_Terms_kidAfter_14 (fun v2 _ => ?_)
  exact s_iret B d_Terms_kidAfter_15
set_option maxRecDepth 100000 in
set_option maxHeartbeats 4000000 in
theorem ct_Terms_kidAfter {l : Launch} {D : va_G} {base : Nat} {g : Nat → ClassId} (a1 : Int32) (a2 : Int32) (a3 : Int32) (M : MS) (r : MS × Int32) (hr : m_Terms_kidAfter a1 a2 a3 M = some r) : Ct l y_Terms_kidAfter (Cond.code y_Terms_kidAfter b_Terms_kidAfter 4 (some .int) :: x_T) 1 22 D x_cl (xty g) base (xwd g) cM x_g0 [.ref 2, .int a1, .int a2, .int a3] M r.1 (ovI r.2) :=
  x_met (ov := ovI) (by decide) (Nat.le_of_ble_eq_true rfl) (fun p e R s m args below meth c az B => t_Terms_kidAfter B a1 a2 a3 M) r hr
end
theorem d_Terms_combined_0 : decode b_Terms_combined 0 = .ok (.aload_n 0, 1) := by decide +kernel
theorem d_Terms_combined_1 : decode b_Terms_combined 1 = .ok (.getfield 11, 3) := by decide +kernel
theorem d_Terms_combined_4 : decode b_Terms_combined 4 = .ok (.iload_n 1, 1) := by decide +kernel
theorem d_Terms_combined_5 : decode b_Terms_combined 5 = .ok (.iaload, 1) := by decide +kernel
theorem d_Terms_combined_6 : decode b_Terms_combined 6 = .ok (.tableswitch (207) (2) (7) #[38, 54, 120, 120, 182, 194], 38) := by decide +kernel
theorem d_Terms_combined_44 : decode b_Terms_combined 44 = .ok (.iload_n 1, 1) := by decide +kernel
theorem d_Terms_combined_45 : decode b_Terms_combined 45 = .ok (.iload_n 2, 1) := by decide +kernel
theorem d_Terms_combined_46 : decode b_Terms_combined 46 = .ok (.ishr, 1) := by decide +kernel
theorem d_Terms_combined_47 : decode b_Terms_combined 47 = .ok (.iconst (1), 1) := by decide +kernel
theorem d_Terms_combined_48 : decode b_Terms_combined 48 = .ok (.iand, 1) := by decide +kernel
theorem d_Terms_combined_49 : decode b_Terms_combined 49 = .ok (.iconst (1), 1) := by decide +kernel
theorem d_Terms_combined_50 : decode b_Terms_combined 50 = .ok (.if_icmp .ne (8), 3) := by decide +kernel
theorem d_Terms_combined_53 : decode b_Terms_combined 53 = .ok (.bipush (16), 2) := by decide +kernel
theorem d_Terms_combined_55 : decode b_Terms_combined 55 = .ok (.goto (4), 3) := by decide +kernel
theorem d_Terms_combined_58 : decode b_Terms_combined 58 = .ok (.iconst (0), 1) := by decide +kernel
theorem d_Terms_combined_59 : decode b_Terms_combined 59 = .ok (.ireturn, 1) := by decide +kernel
theorem d_Terms_combined_60 : decode b_Terms_combined 60 = .ok (.aload_n 0, 1) := by decide +kernel
theorem d_Terms_combined_61 : decode b_Terms_combined 61 = .ok (.aload_n 0, 1) := by decide +kernel
theorem d_Terms_combined_62 : decode b_Terms_combined 62 = .ok (.iload_n 1, 1) := by decide +kernel
theorem d_Terms_combined_63 : decode b_Terms_combined 63 = .ok (.iconst (0), 1) := by decide +kernel
theorem d_Terms_combined_64 : decode b_Terms_combined 64 = .ok (.iload_n 2, 1) := by decide +kernel
theorem d_Terms_combined_65 : decode b_Terms_combined 65 = .ok (.invokevirtual 130, 3) := by decide +kernel
theorem d_Terms_combined_68 : decode b_Terms_combined 68 = .ok (.aload_n 0, 1) := by decide +kernel
theorem d_Terms_combined_69 : decode b_Terms_combined 69 = .ok (.iload_n 1, 1) := by decide +kernel
theorem d_Terms_combined_70 : decode b_Terms_combined 70 = .ok (.iconst (1), 1) := by decide +kernel
theorem d_Terms_combined_71 : decode b_Terms_combined 71 = .ok (.invokevirtual 91, 3) := by decide +kernel
theorem d_Terms_combined_74 : decode b_Terms_combined 74 = .ok (.invokevirtual 134, 3) := by decide +kernel
theorem d_Terms_combined_77 : decode b_Terms_combined 77 = .ok (.istore_n 3, 1) := by decide +kernel
theorem d_Terms_combined_78 : decode b_Terms_combined 78 = .ok (.aload_n 0, 1) := by decide +kernel
theorem d_Terms_combined_79 : decode b_Terms_combined 79 = .ok (.getfield 18, 3) := by decide +kernel
theorem d_Terms_combined_82 : decode b_Terms_combined 82 = .ok (.aload_n 0, 1) := by decide +kernel
theorem d_Terms_combined_83 : decode b_Terms_combined 83 = .ok (.iload_n 1, 1) := by decide +kernel
theorem d_Terms_combined_84 : decode b_Terms_combined 84 = .ok (.iconst (0), 1) := by decide +kernel
theorem d_Terms_combined_85 : decode b_Terms_combined 85 = .ok (.invokevirtual 91, 3) := by decide +kernel
theorem d_Terms_combined_88 : decode b_Terms_combined 88 = .ok (.iaload, 1) := by decide +kernel
theorem d_Terms_combined_89 : decode b_Terms_combined 89 = .ok (.ifCond .ne (5), 3) := by decide +kernel
theorem d_Terms_combined_92 : decode b_Terms_combined 92 = .ok (.iload_n 3, 1) := by decide +kernel
theorem d_Terms_combined_93 : decode b_Terms_combined 93 = .ok (.ireturn, 1) := by decide +kernel
theorem d_Terms_combined_94 : decode b_Terms_combined 94 = .ok (.aload_n 0, 1) := by decide +kernel
theorem d_Terms_combined_95 : decode b_Terms_combined 95 = .ok (.getfield 64, 3) := by decide +kernel
theorem d_Terms_combined_98 : decode b_Terms_combined 98 = .ok (.iconst (4), 1) := by decide +kernel
theorem d_Terms_combined_99 : decode b_Terms_combined 99 = .ok (.invokevirtual 110, 3) := by decide +kernel
theorem d_Terms_combined_102 : decode b_Terms_combined 102 = .ok (.aload_n 0, 1) := by decide +kernel
theorem d_Terms_combined_103 : decode b_Terms_combined 103 = .ok (.iconst (4), 1) := by decide +kernel
theorem d_Terms_combined_104 : decode b_Terms_combined 104 = .ok (.iload_n 3, 1) := by decide +kernel
theorem d_Terms_combined_105 : decode b_Terms_combined 105 = .ok (.invokevirtual 113, 3) := by decide +kernel
theorem d_Terms_combined_108 : decode b_Terms_combined 108 = .ok (.aload_n 0, 1) := by decide +kernel
theorem d_Terms_combined_109 : decode b_Terms_combined 109 = .ok (.iconst (4), 1) := by decide +kernel
theorem d_Terms_combined_110 : decode b_Terms_combined 110 = .ok (.aload_n 0, 1) := by decide +kernel
theorem d_Terms_combined_111 : decode b_Terms_combined 111 = .ok (.iload_n 1, 1) := by decide +kernel
theorem d_Terms_combined_112 : decode b_Terms_combined 112 = .ok (.iconst (1), 1) := by decide +kernel
theorem d_Terms_combined_113 : decode b_Terms_combined 113 = .ok (.iload_n 2, 1) := by decide +kernel
theorem d_Terms_combined_114 : decode b_Terms_combined 114 = .ok (.invokevirtual 130, 3) := by decide +kernel
theorem d_Terms_combined_117 : decode b_Terms_combined 117 = .ok (.invokevirtual 113, 3) := by decide +kernel
theorem d_Terms_combined_120 : decode b_Terms_combined 120 = .ok (.aload_n 0, 1) := by decide +kernel
theorem d_Terms_combined_121 : decode b_Terms_combined 121 = .ok (.iconst (4), 1) := by decide +kernel
theorem d_Terms_combined_122 : decode b_Terms_combined 122 = .ok (.invokevirtual 117, 3) := by decide +kernel
theorem d_Terms_combined_125 : decode b_Terms_combined 125 = .ok (.ireturn, 1) := by decide +kernel
theorem d_Terms_combined_126 : decode b_Terms_combined 126 = .ok (.aload_n 0, 1) := by decide +kernel
theorem d_Terms_combined_127 : decode b_Terms_combined 127 = .ok (.getfield 64, 3) := by decide +kernel
theorem d_Terms_combined_130 : decode b_Terms_combined 130 = .ok (.aload_n 0, 1) := by decide +kernel
theorem d_Terms_combined_131 : decode b_Terms_combined 131 = .ok (.getfield 11, 3) := by decide +kernel
theorem d_Terms_combined_134 : decode b_Terms_combined 134 = .ok (.iload_n 1, 1) := by decide +kernel
theorem d_Terms_combined_135 : decode b_Terms_combined 135 = .ok (.iaload, 1) := by decide +kernel
theorem d_Terms_combined_136 : decode b_Terms_combined 136 = .ok (.invokevirtual 110, 3) := by decide +kernel
theorem d_Terms_combined_139 : decode b_Terms_combined 139 = .ok (.iconst (0), 1) := by decide +kernel
theorem d_Terms_combined_140 : decode b_Terms_combined 140 = .ok (.istore 4, 2) := by decide +kernel
theorem d_Terms_combined_142 : decode b_Terms_combined 142 = .ok (.iload 4, 2) := by decide +kernel
theorem d_Terms_combined_144 : decode b_Terms_combined 144 = .ok (.aload_n 0, 1) := by decide +kernel
theorem d_Terms_combined_145 : decode b_Terms_combined 145 = .ok (.getfield 24, 3) := by decide +kernel
theorem d_Terms_combined_148 : decode b_Terms_combined 148 = .ok (.iload_n 1, 1) := by decide +kernel
theorem d_Terms_combined_149 : decode b_Terms_combined 149 = .ok (.iaload, 1) := by decide +kernel
theorem d_Terms_combined_150 : decode b_Terms_combined 150 = .ok (.if_icmp .ge (27), 3) := by decide +kernel
theorem d_Terms_combined_153 : decode b_Terms_combined 153 = .ok (.aload_n 0, 1) := by decide +kernel
theorem d_Terms_combined_154 : decode b_Terms_combined 154 = .ok (.aload_n 0, 1) := by decide +kernel
theorem d_Terms_combined_155 : decode b_Terms_combined 155 = .ok (.getfield 11, 3) := by decide +kernel
theorem d_Terms_combined_158 : decode b_Terms_combined 158 = .ok (.iload_n 1, 1) := by decide +kernel
theorem d_Terms_combined_159 : decode b_Terms_combined 159 = .ok (.iaload, 1) := by decide +kernel
theorem d_Terms_combined_160 : decode b_Terms_combined 160 = .ok (.aload_n 0, 1) := by decide +kernel
theorem d_Terms_combined_161 : decode b_Terms_combined 161 = .ok (.iload_n 1, 1) := by decide +kernel
theorem d_Terms_combined_162 : decode b_Terms_combined 162 = .ok (.iload 4, 2) := by decide +kernel
theorem d_Terms_combined_164 : decode b_Terms_combined 164 = .ok (.iload_n 2, 1) := by decide +kernel
theorem d_Terms_combined_165 : decode b_Terms_combined 165 = .ok (.invokevirtual 130, 3) := by decide +kernel
theorem d_Terms_combined_168 : decode b_Terms_combined 168 = .ok (.invokevirtual 113, 3) := by decide +kernel
theorem d_Terms_combined_171 : decode b_Terms_combined 171 = .ok (.iinc 4 (1), 3) := by decide +kernel
theorem d_Terms_combined_174 : decode b_Terms_combined 174 = .ok (.goto (-32), 3) := by decide +kernel
theorem d_Terms_combined_177 : decode b_Terms_combined 177 = .ok (.aload_n 0, 1) := by decide +kernel
theorem d_Terms_combined_178 : decode b_Terms_combined 178 = .ok (.aload_n 0, 1) := by decide +kernel
theorem d_Terms_combined_179 : decode b_Terms_combined 179 = .ok (.getfield 11, 3) := by decide +kernel
theorem d_Terms_combined_182 : decode b_Terms_combined 182 = .ok (.iload_n 1, 1) := by decide +kernel
theorem d_Terms_combined_183 : decode b_Terms_combined 183 = .ok (.iaload, 1) := by decide +kernel
theorem d_Terms_combined_184 : decode b_Terms_combined 184 = .ok (.invokevirtual 117, 3) := by decide +kernel
theorem d_Terms_combined_187 : decode b_Terms_combined 187 = .ok (.ireturn, 1) := by decide +kernel
theorem d_Terms_combined_188 : decode b_Terms_combined 188 = .ok (.aload_n 0, 1) := by decide +kernel
theorem d_Terms_combined_189 : decode b_Terms_combined 189 = .ok (.aload_n 0, 1) := by decide +kernel
theorem d_Terms_combined_190 : decode b_Terms_combined 190 = .ok (.iload_n 1, 1) := by decide +kernel
theorem d_Terms_combined_191 : decode b_Terms_combined 191 = .ok (.iconst (0), 1) := by decide +kernel
theorem d_Terms_combined_192 : decode b_Terms_combined 192 = .ok (.iload_n 2, 1) := by decide +kernel
theorem d_Terms_combined_193 : decode b_Terms_combined 193 = .ok (.invokevirtual 130, 3) := by decide +kernel
theorem d_Terms_combined_196 : decode b_Terms_combined 196 = .ok (.invokevirtual 137, 3) := by decide +kernel
theorem d_Terms_combined_199 : decode b_Terms_combined 199 = .ok (.ireturn, 1) := by decide +kernel
theorem d_Terms_combined_200 : decode b_Terms_combined 200 = .ok (.aload_n 0, 1) := by decide +kernel
theorem d_Terms_combined_201 : decode b_Terms_combined 201 = .ok (.aload_n 0, 1) := by decide +kernel
theorem d_Terms_combined_202 : decode b_Terms_combined 202 = .ok (.iload_n 1, 1) := by decide +kernel
theorem d_Terms_combined_203 : decode b_Terms_combined 203 = .ok (.iconst (0), 1) := by decide +kernel
theorem d_Terms_combined_204 : decode b_Terms_combined 204 = .ok (.iload_n 2, 1) := by decide +kernel
theorem d_Terms_combined_205 : decode b_Terms_combined 205 = .ok (.invokevirtual 130, 3) := by decide +kernel
theorem d_Terms_combined_208 : decode b_Terms_combined 208 = .ok (.iload_n 1, 1) := by decide +kernel
theorem d_Terms_combined_209 : decode b_Terms_combined 209 = .ok (.invokevirtual 134, 3) := by decide +kernel
theorem d_Terms_combined_212 : decode b_Terms_combined 212 = .ok (.ireturn, 1) := by decide +kernel
theorem d_Terms_combined_213 : decode b_Terms_combined 213 = .ok (.iconst (0), 1) := by decide +kernel
theorem d_Terms_combined_214 : decode b_Terms_combined 214 = .ok (.ireturn, 1) := by decide +kernel
section
variable {p : Program} {l : Launch} {e : Env} {R : Room} {s : State} {m : MethodId} {args : Array Value} {below : List Frame} {meth : Method} {c : Code} {D : va_G} {base : Nat} {g : Nat → ClassId} {az : Nat → Nat} {kz : Nat × Nat}
set_option maxRecDepth 100000 in
set_option maxHeartbeats 4000000 in
theorem t_Terms_combined_177  (B : xB p R s m args meth c b_Terms_combined 5 R_Terms (Cond.code y_Terms_combined b_Terms_combined 5 (some .int) :: x_T) (some .int) 7 162 D x_cl (xty g) base)  (l1 : Int32) (M : MS)  : Sn p l e R s m args below meth c 5 D x_cl base (xwd g) cM x_gr az kz (xfc cM) (xZ below args s D x_cl (xty g) base (xwd g) cM x_gr az kz ovI) 177 [] [(0, .ref 2), (1, .int l1)] M (m_Terms_combined_177 l1 M) := by
  unfold m_Terms_combined_177
  refine s_aload_n B d_Terms_combined_177 rfl ?_
  refine s_aload_n B d_Terms_combined_178 rfl ?_
  refine s_getS (k := 0) (n := 3) B xc_Terms kd_2 (by decide) rfl rfl fl_Terms_11 sr_2_0 d_Terms_combined_179 ?_
  refine s_iload_n B d_Terms_combined_182 rfl ?_
  refine s_iald B (Or.inr kd_3) d_Terms_combined_183 (fun v1 _ => ?_)
  refine s_pick (lv1 := []) [] rfl ?_
  refine s_callI (av := [.ref 2, .int v1]) (rest := []) B (lk_V B d_Terms_combined_184 (gl_Terms_117 _) rfl hv_Terms_gathered (by decide) (by decide)) rfl (x_rcV B xc_Terms kd_2) (fun _ h => h) rfl rfl (by simp [Value.category]) rfl (fun r2 e9 => ct_Terms_gathered _ _ r2 e9) (fun r2 _ => ?_)
  exact s_iret B d_Terms_combined_187
set_option maxRecDepth 100000 in
set_option maxHeartbeats 4000000 in
theorem t_Terms_combined_142b {k142 : Int32 × Int32 × Int32 × MS → Option (MS × Int32)} (B : xB p R s m args meth c b_Terms_combined 5 R_Terms (Cond.code y_Terms_combined b_Terms_combined 5 (some .int) :: x_T) (some .int) 7 162 D x_cl (xty g) base) (hk142 : ∀ (l1 : Int32) (l2 : Int32) (l4 : Int32) (M : MS) , Sn p l e R s m args below meth c 5 D x_cl base (xwd g) cM x_gr az kz (xfc cM) (xZ below args s D x_cl (xty g) base (xwd g) cM x_gr az kz ovI) 142 [] [(0, .ref 2), (1, .int l1), (2, .int l2), (4, .int l4)] M (k142 (l1, l2, l4, M))) (l1 : Int32) (l2 : Int32) (l4 : Int32) (M : MS)  : Sn p l e R s m args below meth c 5 D x_cl base (xwd g) cM x_gr az kz (xfc cM) (xZ below args s D x_cl (xty g) base (xwd g) cM x_gr az kz ovI) 142 [] [(0, .ref 2), (1, .int l1), (2, .int l2), (4, .int l4)] M (m_Terms_combined_142b k142 l1 l2 l4 M) := by
  unfold m_Terms_combined_142b
  refine s_iload B d_Terms_combined_142 rfl ?_
  refine s_aload_n B d_Terms_combined_144 rfl ?_
  refine s_getS (k := 4) (n := 7) B xc_Terms kd_2 (by decide) rfl rfl fl_Terms_24 sr_2_4 d_Terms_combined_145 ?_
  refine s_iload_n B d_Terms_combined_148 rfl ?_
  refine s_iald B (Or.inr kd_7) d_Terms_combined_149 (fun v1 _ => ?_)
  refine s_icmp_ge B d_Terms_combined_150 rfl (fun _ => ?_) (fun _ => ?_)
  · refine s_pick (lv1 := [(0, .ref 2), (1, .int l1)]) [0, 1] rfl ?_
    exact t_Terms_combined_177 B l1 M
  · refine s_aload_n B d_Terms_combined_153 rfl ?_
    refine s_aload_n B d_Terms_combined_154 rfl ?_
    refine s_getS (k := 0) (n := 3) B xc_Terms kd_2 (by decide) rfl rfl fl_Terms_11 sr_2_0 d_Terms_combined_155 ?_
    refine s_iload_n B d_Terms_combined_158 rfl ?_
    refine s_iald B (Or.inr kd_3) d_Terms_combined_159 (fun v2 _ => ?_)
    refine s_aload_n B d_Terms_combined_160 rfl ?_
    refine s_iload_n B d_Terms_combined_161 rfl ?_
    refine s_iload B d_Terms_combined_162 rfl ?_
    refine s_iload_n B d_Terms_combined_164 rfl ?_
    refine s_pick (lv1 := [(0, .ref 2), (1, .int l1), (2, .int l2), (4, .int l4)]) [0, 1, 2, 4] rfl ?_
    refine s_callI (av := [.ref 2, .int l1, .int l4, .int l2]) (rest := [.int v2, .ref 2]) B (lk_V B d_Terms_combined_165 (gl_Terms_130 _) rfl hv_Terms_kidAfter (by decide) (by decide)) rfl (x_rcV B xc_Terms kd_2) (fun _ _ => rfl) rfl rfl (by simp [Value.category]) rfl (fun r3 e9 => ct_Terms_kidAfter _ _ _ _ r3 e9) (fun r3 _ => ?_)
    refine s_pick (lv1 := [(0, .ref 2), (1, .int l1), (2, .int l2), (4, .int l4)]) [0, 1, 2, 4] rfl ?_
    refine s_callU (av := [.ref 2, .int v2, .int r3.2]) (rest := []) B (lk_V B d_Terms_combined_168 (gl_Terms_113 _) rfl hv_Terms_gather (by decide) (by decide)) rfl (x_rcV B xc_Terms kd_2) (fun _ h => h) rfl (by simp [xng, x_gr, kd_2]) (by simp [Value.category]) rfl (fun r4 e9 => ct_Terms_gather _ _ _ r4 e9) (fun r4 _ => ?_)
    refine s_iinc (w := (1:Int32)) B d_Terms_combined_171 rfl (by decide) (by decide) ?_
    refine s_goto B d_Terms_combined_174 rfl ?_
    refine s_pick (lv1 := [(0, .ref 2), (1, .int l1), (2, .int l2), (4, .int (l4 + (1:Int32)))]) [0, 1, 2, 4] rfl ?_
    exact hk142 l1 l2 (l4 + (1:Int32)) r4.1
set_option maxRecDepth 100000 in
set_option maxHeartbeats 4000000 in
theorem t_Terms_combined_142  (B : xB p R s m args meth c b_Terms_combined 5 R_Terms (Cond.code y_Terms_combined b_Terms_combined 5 (some .int) :: x_T) (some .int) 7 162 D x_cl (xty g) base)  (l1 : Int32) (l2 : Int32) (l4 : Int32) (M : MS)  : Sn p l e R s m args below meth c 5 D x_cl base (xwd g) cM x_gr az kz (xfc cM) (xZ below args s D x_cl (xty g) base (xwd g) cM x_gr az kz ovI) 142 [] [(0, .ref 2), (1, .int l1), (2, .int l2), (4, .int l4)] M (m_Terms_combined_142 (l1, l2, l4, M)) := by
  have q : ∀ (F : Nat) (i : Int32 × Int32 × Int32 × MS), Sn p l e R s m args below meth c 5 D x_cl base (xwd g) cM x_gr az kz (xfc cM) (xZ below args s D x_cl (xty g) base (xwd g) cM x_gr az kz ovI) 142 [] [(0, .ref 2), (1, .int i.1), (2, .int i.2.1), (4, .int i.2.2.1)] i.2.2.2 (fx (fun (k : Int32 × Int32 × Int32 × MS → Option (MS × Int32)) (i : Int32 × Int32 × Int32 × MS) => m_Terms_combined_142b k i.1 i.2.1 i.2.2.1 i.2.2.2) F i) := by
    intro F
    induction F with
    | zero => intro i ; exact s_none
    | succ F ih => intro i ; exact t_Terms_combined_142b B  (fun l1 l2 l4 M  => ih (l1, l2, l4, M) ) i.1 i.2.1 i.2.2.1 i.2.2.2 
  exact q FU (l1, l2, l4, M) 
set_option maxRecDepth 100000 in
set_option maxHeartbeats 4000000 in
theorem t_Terms_combined (B : xB p R s m args meth c b_Terms_combined 5 R_Terms (Cond.code y_Terms_combined b_Terms_combined 5 (some .int) :: x_T) (some .int) 7 162 D x_cl (xty g) base) (a1 : Int32) (a2 : Int32) (M : MS) : Sn p l e R s m args below meth c 5 D x_cl base (xwd g) cM x_gr az kz (xfc cM) (xZ below args s D x_cl (xty g) base (xwd g) cM x_gr az kz ovI) 0 [] [(0, .ref 2), (1, .int a1), (2, .int a2)] M (m_Terms_combined a1 a2 M) := by
  unfold m_Terms_combined
  refine s_aload_n B d_Terms_combined_0 rfl ?_
  refine s_getS (k := 0) (n := 3) B xc_Terms kd_2 (by decide) rfl rfl fl_Terms_11 sr_2_0 d_Terms_combined_1 ?_
  refine s_iload_n B d_Terms_combined_4 rfl ?_
  refine s_iald B (Or.inr kd_3) d_Terms_combined_5 (fun v1 _ => ?_)
  refine s_if (fun h0_ => ?_) (fun h0_ => ?_)
  · refine s_tabIn B d_Terms_combined_6 (by rw [h0_]; decide) (by rw [h0_]; decide) (by rw [h0_]; rfl) rfl ?_
    refine s_iload_n B d_Terms_combined_44 rfl ?_
    refine s_iload_n B d_Terms_combined_45 rfl ?_
    refine s_ishr B d_Terms_combined_46 ?_
    refine s_iconst (v := (1:Int32)) B d_Terms_combined_47 (by decide) ?_
    refine s_iand B d_Terms_combined_48 ?_
    refine s_iconst (v := (1:Int32)) B d_Terms_combined_49 (by decide) ?_
    refine s_icmp_ne B d_Terms_combined_50 rfl (fun _ => ?_) (fun _ => ?_)
    · refine s_iconst (v := (0:Int32)) B d_Terms_combined_58 (by decide) ?_
      exact s_iret B d_Terms_combined_59
    · refine s_bipush (v := (16:Int32)) B d_Terms_combined_53 (by decide) ?_
      refine s_goto B d_Terms_combined_55 rfl ?_
      exact s_iret B d_Terms_combined_59
  · refine s_if (fun h1_ => ?_) (fun h1_ => ?_)
    · refine s_tabIn B d_Terms_combined_6 (by rw [h1_]; decide) (by rw [h1_]; decide) (by rw [h1_]; rfl) rfl ?_
      refine s_aload_n B d_Terms_combined_60 rfl ?_
      refine s_aload_n B d_Terms_combined_61 rfl ?_
      refine s_iload_n B d_Terms_combined_62 rfl ?_
      refine s_iconst (v := (0:Int32)) B d_Terms_combined_63 (by decide) ?_
      refine s_iload_n B d_Terms_combined_64 rfl ?_
      refine s_pick (lv1 := [(0, .ref 2), (1, .int a1), (2, .int a2)]) [0, 1, 2] rfl ?_
      refine s_callI (av := [.ref 2, .int a1, .int (0:Int32), .int a2]) (rest := [.ref 2]) B (lk_V B d_Terms_combined_65 (gl_Terms_130 _) rfl hv_Terms_kidAfter (by decide) (by decide)) rfl (x_rcV B xc_Terms kd_2) (fun _ _ => rfl) rfl rfl (by simp [Value.category]) rfl (fun r2 e9 => ct_Terms_kidAfter _ _ _ _ r2 e9) (fun r2 _ => ?_)
      refine s_aload_n B d_Terms_combined_68 rfl ?_
      refine s_iload_n B d_Terms_combined_69 rfl ?_
      refine s_iconst (v := (1:Int32)) B d_Terms_combined_70 (by decide) ?_
      refine s_pick (lv1 := [(0, .ref 2), (1, .int a1), (2, .int a2)]) [0, 1, 2] rfl ?_
      refine s_callI (av := [.ref 2, .int a1, .int (1:Int32)]) (rest := [.int r2.2, .ref 2]) B (lk_V B d_Terms_combined_71 (gl_Terms_91 _) rfl hv_Terms_kid (by decide) (by decide)) rfl (x_rcV B xc_Terms kd_2) (fun _ _ => rfl) rfl rfl (by simp [Value.category]) rfl (fun r3 e9 => ct_Terms_kid _ _ _ r3 e9) (fun r3 _ => ?_)
      refine s_pick (lv1 := [(0, .ref 2), (1, .int a1), (2, .int a2)]) [0, 1, 2] rfl ?_
      refine s_callI (av := [.ref 2, .int r2.2, .int r3.2]) (rest := []) B (lk_V B d_Terms_combined_74 (gl_Terms_134 _) rfl hv_Terms_cat (by decide) (by decide)) rfl (x_rcV B xc_Terms kd_2) (fun _ h => h) rfl (by simp [xng, x_gr, kd_2]) (by simp [Value.category]) rfl (fun r4 e9 => ct_Terms_cat _ _ _ r4 e9) (fun r4 _ => ?_)
      refine s_istore_n B d_Terms_combined_77 (by decide) ?_
      refine s_aload_n B d_Terms_combined_78 rfl ?_
      refine s_getS (k := 2) (n := 5) B xc_Terms kd_2 (by decide) rfl rfl fl_Terms_18 sr_2_2 d_Terms_combined_79 ?_
      refine s_aload_n B d_Terms_combined_82 rfl ?_
      refine s_iload_n B d_Terms_combined_83 rfl ?_
      refine s_iconst (v := (0:Int32)) B d_Terms_combined_84 (by decide) ?_
      refine s_pick (lv1 := [(0, .ref 2), (1, .int a1), (2, .int a2), (3, .int r4.2)]) [0, 1, 2, 3] rfl ?_
      refine s_callI (av := [.ref 2, .int a1, .int (0:Int32)]) (rest := [.ref 5]) B (lk_V B d_Terms_combined_85 (gl_Terms_91 _) rfl hv_Terms_kid (by decide) (by decide)) rfl (x_rcV B xc_Terms kd_2) (fun _ _ => rfl) rfl rfl (by simp [Value.category]) rfl (fun r5 e9 => ct_Terms_kid _ _ _ r5 e9) (fun r5 _ => ?_)
      refine s_iald B (Or.inr kd_5) d_Terms_combined_88 (fun v6 _ => ?_)
      refine s_if_ne B d_Terms_combined_89 rfl (fun _ => ?_) (fun _ => ?_)
      · refine s_aload_n B d_Terms_combined_94 rfl ?_
        refine s_getS (k := 15) (n := 21) B xc_Terms kd_2 (by decide) rfl rfl fl_Terms_64 sr_2_15 d_Terms_combined_95 ?_
        refine s_iconst (v := (4:Int32)) B d_Terms_combined_98 (by decide) ?_
        refine s_pick (lv1 := [(0, .ref 2), (1, .int a1), (2, .int a2), (3, .int r4.2)]) [0, 1, 2, 3] rfl ?_
        refine s_callU (av := [.ref 21, .int (4:Int32)]) (rest := []) B (lk_V B d_Terms_combined_99 (gl_Terms_110 _) rfl hv_Gathering_begin (by decide) (by decide)) rfl (x_rcV B xc_Gathering kd_21) (fun _ _ => rfl) rfl rfl (by simp [Value.category]) rfl (fun r7 e9 => ct_Gathering_begin _ _ r7 e9) (fun r7 _ => ?_)
        refine s_aload_n B d_Terms_combined_102 rfl ?_
        refine s_iconst (v := (4:Int32)) B d_Terms_combined_103 (by decide) ?_
        refine s_iload_n B d_Terms_combined_104 rfl ?_
        refine s_pick (lv1 := [(0, .ref 2), (1, .int a1), (2, .int a2)]) [0, 1, 2] rfl ?_
        refine s_callU (av := [.ref 2, .int (4:Int32), .int r4.2]) (rest := []) B (lk_V B d_Terms_combined_105 (gl_Terms_113 _) rfl hv_Terms_gather (by decide) (by decide)) rfl (x_rcV B xc_Terms kd_2) (fun _ h => h) rfl (by simp [xng, x_gr, kd_2]) (by simp [Value.category]) rfl (fun r8 e9 => ct_Terms_gather _ _ _ r8 e9) (fun r8 _ => ?_)
        refine s_aload_n B d_Terms_combined_108 rfl ?_
        refine s_iconst (v := (4:Int32)) B d_Terms_combined_109 (by decide) ?_
        refine s_aload_n B d_Terms_combined_110 rfl ?_
        refine s_iload_n B d_Terms_combined_111 rfl ?_
        refine s_iconst (v := (1:Int32)) B d_Terms_combined_112 (by decide) ?_
        refine s_iload_n B d_Terms_combined_113 rfl ?_
        refine s_pick (lv1 := [(0, .ref 2)]) [0] rfl ?_
        refine s_callI (av := [.ref 2, .int a1, .int (1:Int32), .int a2]) (rest := [.int (4:Int32), .ref 2]) B (lk_V B d_Terms_combined_114 (gl_Terms_130 _) rfl hv_Terms_kidAfter (by decide) (by decide)) rfl (x_rcV B xc_Terms kd_2) (fun _ _ => rfl) rfl rfl (by simp [Value.category]) rfl (fun r9 e9 => ct_Terms_kidAfter _ _ _ _ r9 e9) (fun r9 _ => ?_)
        refine s_pick (lv1 := [(0, .ref 2)]) [0] rfl ?_
        refine s_callU (av := [.ref 2, .int (4:Int32), .int r9.2]) (rest := []) B (lk_V B d_Terms_combined_117 (gl_Terms_113 _) rfl hv_Terms_gather (by decide) (by decide)) rfl (x_rcV B xc_Terms kd_2) (fun _ h => h) rfl (by simp [xng, x_gr, kd_2]) (by simp [Value.category]) rfl (fun r10 e9 => ct_Terms_gather _ _ _ r10 e9) (fun r10 _ => ?_)
        refine s_aload_n B d_Terms_combined_120 rfl ?_
        refine s_iconst (v := (4:Int32)) B d_Terms_combined_121 (by decide) ?_
        refine s_pick (lv1 := []) [] rfl ?_
        refine s_callI (av := [.ref 2, .int (4:Int32)]) (rest := []) B (lk_V B d_Terms_combined_122 (gl_Terms_117 _) rfl hv_Terms_gathered (by decide) (by decide)) rfl (x_rcV B xc_Terms kd_2) (fun _ h => h) rfl rfl (by simp [Value.category]) rfl (fun r11 e9 => ct_Terms_gathered _ _ r11 e9) (fun r11 _ => ?_)
        exact s_iret B d_Terms_combined_125
      · refine s_iload_n B d_Terms_combined_92 rfl ?_
        exact s_iret B d_Terms_combined_93
    · refine s_if (fun h2_ => ?_) (fun h2_ => ?_)
      · refine s_tabIn B d_Terms_combined_6 (by rw [h2_]; decide) (by rw [h2_]; decide) (by rw [h2_]; rfl) rfl ?_
        refine s_aload_n B d_Terms_combined_126 rfl ?_
        refine s_getS (k := 15) (n := 21) B xc_Terms kd_2 (by decide) rfl rfl fl_Terms_64 sr_2_15 d_Terms_combined_127 ?_
        refine s_aload_n B d_Terms_combined_130 rfl ?_
        refine s_getS (k := 0) (n := 3) B xc_Terms kd_2 (by decide) rfl rfl fl_Terms_11 sr_2_0 d_Terms_combined_131 ?_
        refine s_iload_n B d_Terms_combined_134 rfl ?_
        refine s_iald B (Or.inr kd_3) d_Terms_combined_135 (fun v12 _ => ?_)
        refine s_pick (lv1 := [(0, .ref 2), (1, .int a1), (2, .int a2)]) [0, 1, 2] rfl ?_
        refine s_callU (av := [.ref 21, .int v12]) (rest := []) B (lk_V B d_Terms_combined_136 (gl_Terms_110 _) rfl hv_Gathering_begin (by decide) (by decide)) rfl (x_rcV B xc_Gathering kd_21) (fun _ _ => rfl) rfl rfl (by simp [Value.category]) rfl (fun r13 e9 => ct_Gathering_begin _ _ r13 e9) (fun r13 _ => ?_)
        refine s_iconst (v := (0:Int32)) B d_Terms_combined_139 (by decide) ?_
        refine s_istore B d_Terms_combined_140 (by decide) ?_
        refine s_pick (lv1 := [(0, .ref 2), (1, .int a1), (2, .int a2), (4, .int (0:Int32))]) [0, 1, 2, 4] rfl ?_
        exact t_Terms_combined_142 B a1 a2 (0:Int32) r13.1
      · refine s_if (fun h3_ => ?_) (fun h3_ => ?_)
        · refine s_tabIn B d_Terms_combined_6 (by rw [h3_]; decide) (by rw [h3_]; decide) (by rw [h3_]; rfl) rfl ?_
          refine s_aload_n B d_Terms_combined_126 rfl ?_
          refine s_getS (k := 15) (n := 21) B xc_Terms kd_2 (by decide) rfl rfl fl_Terms_64 sr_2_15 d_Terms_combined_127 ?_
          refine s_aload_n B d_Terms_combined_130 rfl ?_
          refine s_getS (k := 0) (n := 3) B xc_Terms kd_2 (by decide) rfl rfl fl_Terms_11 sr_2_0 d_Terms_combined_131 ?_
          refine s_iload_n B d_Terms_combined_134 rfl ?_
          refine s_iald B (Or.inr kd_3) d_Terms_combined_135 (fun v14 _ => ?_)
          refine s_pick (lv1 := [(0, .ref 2), (1, .int a1), (2, .int a2)]) [0, 1, 2] rfl ?_
          refine s_callU (av := [.ref 21, .int v14]) (rest := []) B (lk_V B d_Terms_combined_136 (gl_Terms_110 _) rfl hv_Gathering_begin (by decide) (by decide)) rfl (x_rcV B xc_Gathering kd_21) (fun _ _ => rfl) rfl rfl (by simp [Value.category]) rfl (fun r15 e9 => ct_Gathering_begin _ _ r15 e9) (fun r15 _ => ?_)
          refine s_iconst (v := (0:Int32)) B d_Terms_combined_139 (by decide) ?_
          refine s_istore B d_Terms_combined_140 (by decide) ?_
          refine s_pick (lv1 := [(0, .ref 2), (1, .int a1), (2, .int a2), (4, .int (0:Int32))]) [0, 1, 2, 4] rfl ?_
          exact t_Terms_combined_142 B a1 a2 (0:Int32) r15.1
        · refine s_if (fun h4_ => ?_) (fun h4_ => ?_)
          · refine s_tabIn B d_Terms_combined_6 (by rw [h4_]; decide) (by rw [h4_]; decide) (by rw [h4_]; rfl) rfl ?_
            refine s_aload_n B d_Terms_combined_188 rfl ?_
            refine s_aload_n B d_Terms_combined_189 rfl ?_
            refine s_iload_n B d_Terms_combined_190 rfl ?_
            refine s_iconst (v := (0:Int32)) B d_Terms_combined_191 (by decide) ?_
            refine s_iload_n B d_Terms_combined_192 rfl ?_
            refine s_pick (lv1 := []) [] rfl ?_
            refine s_callI (av := [.ref 2, .int a1, .int (0:Int32), .int a2]) (rest := [.ref 2]) B (lk_V B d_Terms_combined_193 (gl_Terms_130 _) rfl hv_Terms_kidAfter (by decide) (by decide)) rfl (x_rcV B xc_Terms kd_2) (fun _ _ => rfl) rfl rfl (by simp [Value.category]) rfl (fun r16 e9 => ct_Terms_kidAfter _ _ _ _ r16 e9) (fun r16 _ => ?_)
            refine s_pick (lv1 := []) [] rfl ?_
            refine s_callI (av := [.ref 2, .int r16.2]) (rest := []) B (lk_V B d_Terms_combined_196 (gl_Terms_137 _) rfl hv_Terms_not (by decide) (by decide)) rfl (x_rcV B xc_Terms kd_2) (fun _ h => h) rfl rfl (by simp [Value.category]) rfl (fun r17 e9 => ct_Terms_not _ _ r17 e9) (fun r17 _ => ?_)
            exact s_iret B d_Terms_combined_199
          · refine s_if (fun h5_ => ?_) (fun h5_ => ?_)
            · refine s_tabIn B d_Terms_combined_6 (by rw [h5_]; decide) (by rw [h5_]; decide) (by rw [h5_]; rfl) rfl ?_
              refine s_aload_n B d_Terms_combined_200 rfl ?_
              refine s_aload_n B d_Terms_combined_201 rfl ?_
              refine s_iload_n B d_Terms_combined_202 rfl ?_
              refine s_iconst (v := (0:Int32)) B d_Terms_combined_203 (by decide) ?_
              refine s_iload_n B d_Terms_combined_204 rfl ?_
              refine s_pick (lv1 := [(1, .int a1)]) [1] rfl ?_
              refine s_callI (av := [.ref 2, .int a1, .int (0:Int32), .int a2]) (rest := [.ref 2]) B (lk_V B d_Terms_combined_205 (gl_Terms_130 _) rfl hv_Terms_kidAfter (by decide) (by decide)) rfl (x_rcV B xc_Terms kd_2) (fun _ _ => rfl) rfl rfl (by simp [Value.category]) rfl (fun r18 e9 => ct_Terms_kidAfter _ _ _ _ r18 e9) (fun r18 _ => ?_)
              refine s_iload_n B d_Terms_combined_208 rfl ?_
              refine s_pick (lv1 := []) [] rfl ?_
              refine s_callI (av := [.ref 2, .int r18.2, .int a1]) (rest := []) B (lk_V B d_Terms_combined_209 (gl_Terms_134 _) rfl hv_Terms_cat (by decide) (by decide)) rfl (x_rcV B xc_Terms kd_2) (fun _ h => h) rfl rfl (by simp [Value.category]) rfl (fun r19 e9 => ct_Terms_cat _ _ _ r19 e9) (fun r19 _ => ?_)
              exact s_iret B d_Terms_combined_212
            · refine s_tabOut B d_Terms_combined_6 (by have q0 := lv_neT h0_ (by decide : (2:Int32).toInt = 2); have q1 := lv_neT h1_ (by decide : (3:Int32).toInt = 3); have q2 := lv_neT h2_ (by decide : (4:Int32).toInt = 4); have q3 := lv_neT h3_ (by decide : (5:Int32).toInt = 5); have q4 := lv_neT h4_ (by decide : (6:Int32).toInt = 6); have q5 := lv_neT h5_ (by decide : (7:Int32).toInt = 7); omega) rfl ?_
              refine s_iconst (v := (0:Int32)) B d_Terms_combined_213 (by decide) ?_
              exact s_iret B d_Terms_combined_214
set_option maxRecDepth 100000 in
set_option maxHeartbeats 4000000 in
theorem ct_Terms_combined {l : Launch} {D : va_G} {base : Nat} {g : Nat → ClassId} (a1 : Int32) (a2 : Int32) (M : MS) (r : MS × Int32) (hr : m_Terms_combined a1 a2 M = some r) : Ct l y_Terms_combined (Cond.code y_Terms_combined b_Terms_combined 5 (some .int) :: x_T) 7 162 D x_cl (xty g) base (xwd g) cM x_gr [.ref 2, .int a1, .int a2] M r.1 (ovI r.2) :=
  x_met (ov := ovI) (by decide) (Nat.le_of_ble_eq_true rfl) (fun p e R s m args below meth c az B => t_Terms_combined B a1 a2 M) r hr
end
theorem d_Terms_derivative_0 : decode b_Terms_derivative 0 = .ok (.aload_n 0, 1) := by decide +kernel
theorem d_Terms_derivative_1 : decode b_Terms_derivative 1 = .ok (.getfield 58, 3) := by decide +kernel
theorem d_Terms_derivative_4 : decode b_Terms_derivative 4 = .ok (.invokevirtual 87, 3) := by decide +kernel
theorem d_Terms_derivative_7 : decode b_Terms_derivative 7 = .ok (.aload_n 0, 1) := by decide +kernel
theorem d_Terms_derivative_8 : decode b_Terms_derivative 8 = .ok (.getfield 58, 3) := by decide +kernel
theorem d_Terms_derivative_11 : decode b_Terms_derivative 11 = .ok (.iload_n 1, 1) := by decide +kernel
theorem d_Terms_derivative_12 : decode b_Terms_derivative 12 = .ok (.invokevirtual 95, 3) := by decide +kernel
theorem d_Terms_derivative_15 : decode b_Terms_derivative 15 = .ok (.iconst (0), 1) := by decide +kernel
theorem d_Terms_derivative_16 : decode b_Terms_derivative 16 = .ok (.istore_n 3, 1) := by decide +kernel
theorem d_Terms_derivative_17 : decode b_Terms_derivative 17 = .ok (.iload_n 3, 1) := by decide +kernel
theorem d_Terms_derivative_18 : decode b_Terms_derivative 18 = .ok (.ldc 90, 2) := by decide +kernel
theorem d_Terms_derivative_20 : decode b_Terms_derivative 20 = .ok (.if_icmp .ge (101), 3) := by decide +kernel
theorem d_Terms_derivative_23 : decode b_Terms_derivative 23 = .ok (.aload_n 0, 1) := by decide +kernel
theorem d_Terms_derivative_24 : decode b_Terms_derivative 24 = .ok (.getfield 58, 3) := by decide +kernel
theorem d_Terms_derivative_27 : decode b_Terms_derivative 27 = .ok (.invokevirtual 99, 3) := by decide +kernel
theorem d_Terms_derivative_30 : decode b_Terms_derivative 30 = .ok (.ifCond .le (91), 3) := by decide +kernel
theorem d_Terms_derivative_33 : decode b_Terms_derivative 33 = .ok (.aload_n 0, 1) := by decide +kernel
theorem d_Terms_derivative_34 : decode b_Terms_derivative 34 = .ok (.getfield 58, 3) := by decide +kernel
theorem d_Terms_derivative_37 : decode b_Terms_derivative 37 = .ok (.aload_n 0, 1) := by decide +kernel
theorem d_Terms_derivative_38 : decode b_Terms_derivative 38 = .ok (.getfield 58, 3) := by decide +kernel
theorem d_Terms_derivative_41 : decode b_Terms_derivative 41 = .ok (.invokevirtual 99, 3) := by decide +kernel
theorem d_Terms_derivative_44 : decode b_Terms_derivative 44 = .ok (.iconst (1), 1) := by decide +kernel
theorem d_Terms_derivative_45 : decode b_Terms_derivative 45 = .ok (.isub, 1) := by decide +kernel
theorem d_Terms_derivative_46 : decode b_Terms_derivative 46 = .ok (.invokevirtual 102, 3) := by decide +kernel
theorem d_Terms_derivative_49 : decode b_Terms_derivative 49 = .ok (.istore 4, 2) := by decide +kernel
theorem d_Terms_derivative_51 : decode b_Terms_derivative 51 = .ok (.aload_n 0, 1) := by decide +kernel
theorem d_Terms_derivative_52 : decode b_Terms_derivative 52 = .ok (.getfield 39, 3) := by decide +kernel
theorem d_Terms_derivative_55 : decode b_Terms_derivative 55 = .ok (.iload 4, 2) := by decide +kernel
theorem d_Terms_derivative_57 : decode b_Terms_derivative 57 = .ok (.iconst (4), 1) := by decide +kernel
theorem d_Terms_derivative_58 : decode b_Terms_derivative 58 = .ok (.imul, 1) := by decide +kernel
theorem d_Terms_derivative_59 : decode b_Terms_derivative 59 = .ok (.iload_n 2, 1) := by decide +kernel
theorem d_Terms_derivative_60 : decode b_Terms_derivative 60 = .ok (.iadd, 1) := by decide +kernel
theorem d_Terms_derivative_61 : decode b_Terms_derivative 61 = .ok (.iaload, 1) := by decide +kernel
theorem d_Terms_derivative_62 : decode b_Terms_derivative 62 = .ok (.iconst (-1), 1) := by decide +kernel
theorem d_Terms_derivative_63 : decode b_Terms_derivative 63 = .ok (.if_icmp .eq (13), 3) := by decide +kernel
theorem d_Terms_derivative_66 : decode b_Terms_derivative 66 = .ok (.aload_n 0, 1) := by decide +kernel
theorem d_Terms_derivative_67 : decode b_Terms_derivative 67 = .ok (.getfield 58, 3) := by decide +kernel
theorem d_Terms_derivative_70 : decode b_Terms_derivative 70 = .ok (.invokevirtual 120, 3) := by decide +kernel
theorem d_Terms_derivative_73 : decode b_Terms_derivative 73 = .ok (.goto (42), 3) := by decide +kernel
theorem d_Terms_derivative_76 : decode b_Terms_derivative 76 = .ok (.aload_n 0, 1) := by decide +kernel
theorem d_Terms_derivative_77 : decode b_Terms_derivative 77 = .ok (.iload 4, 2) := by decide +kernel
theorem d_Terms_derivative_79 : decode b_Terms_derivative 79 = .ok (.iload_n 2, 1) := by decide +kernel
theorem d_Terms_derivative_80 : decode b_Terms_derivative 80 = .ok (.invokevirtual 123, 3) := by decide +kernel
theorem d_Terms_derivative_83 : decode b_Terms_derivative 83 = .ok (.ifCond .ne (32), 3) := by decide +kernel
theorem d_Terms_derivative_86 : decode b_Terms_derivative 86 = .ok (.aload_n 0, 1) := by decide +kernel
theorem d_Terms_derivative_87 : decode b_Terms_derivative 87 = .ok (.iload 4, 2) := by decide +kernel
theorem d_Terms_derivative_89 : decode b_Terms_derivative 89 = .ok (.iload_n 2, 1) := by decide +kernel
theorem d_Terms_derivative_90 : decode b_Terms_derivative 90 = .ok (.invokevirtual 127, 3) := by decide +kernel
theorem d_Terms_derivative_93 : decode b_Terms_derivative 93 = .ok (.istore 5, 2) := by decide +kernel
theorem d_Terms_derivative_95 : decode b_Terms_derivative 95 = .ok (.aload_n 0, 1) := by decide +kernel
theorem d_Terms_derivative_96 : decode b_Terms_derivative 96 = .ok (.getfield 39, 3) := by decide +kernel
theorem d_Terms_derivative_99 : decode b_Terms_derivative 99 = .ok (.iload 4, 2) := by decide +kernel
theorem d_Terms_derivative_101 : decode b_Terms_derivative 101 = .ok (.iconst (4), 1) := by decide +kernel
theorem d_Terms_derivative_102 : decode b_Terms_derivative 102 = .ok (.imul, 1) := by decide +kernel
theorem d_Terms_derivative_103 : decode b_Terms_derivative 103 = .ok (.iload_n 2, 1) := by decide +kernel
theorem d_Terms_derivative_104 : decode b_Terms_derivative 104 = .ok (.iadd, 1) := by decide +kernel
theorem d_Terms_derivative_105 : decode b_Terms_derivative 105 = .ok (.iload 5, 2) := by decide +kernel
theorem d_Terms_derivative_107 : decode b_Terms_derivative 107 = .ok (.iastore, 1) := by decide +kernel
theorem d_Terms_derivative_108 : decode b_Terms_derivative 108 = .ok (.aload_n 0, 1) := by decide +kernel
theorem d_Terms_derivative_109 : decode b_Terms_derivative 109 = .ok (.getfield 58, 3) := by decide +kernel
theorem d_Terms_derivative_112 : decode b_Terms_derivative 112 = .ok (.invokevirtual 120, 3) := by decide +kernel
theorem d_Terms_derivative_115 : decode b_Terms_derivative 115 = .ok (.iinc 3 (1), 3) := by decide +kernel
theorem d_Terms_derivative_118 : decode b_Terms_derivative 118 = .ok (.goto (-101), 3) := by decide +kernel
theorem d_Terms_derivative_121 : decode b_Terms_derivative 121 = .ok (.aload_n 0, 1) := by decide +kernel
theorem d_Terms_derivative_122 : decode b_Terms_derivative 122 = .ok (.getfield 39, 3) := by decide +kernel
theorem d_Terms_derivative_125 : decode b_Terms_derivative 125 = .ok (.iload_n 1, 1) := by decide +kernel
theorem d_Terms_derivative_126 : decode b_Terms_derivative 126 = .ok (.iconst (4), 1) := by decide +kernel
theorem d_Terms_derivative_127 : decode b_Terms_derivative 127 = .ok (.imul, 1) := by decide +kernel
theorem d_Terms_derivative_128 : decode b_Terms_derivative 128 = .ok (.iload_n 2, 1) := by decide +kernel
theorem d_Terms_derivative_129 : decode b_Terms_derivative 129 = .ok (.iadd, 1) := by decide +kernel
theorem d_Terms_derivative_130 : decode b_Terms_derivative 130 = .ok (.iaload, 1) := by decide +kernel
theorem d_Terms_derivative_131 : decode b_Terms_derivative 131 = .ok (.ireturn, 1) := by decide +kernel
section
variable {p : Program} {l : Launch} {e : Env} {R : Room} {s : State} {m : MethodId} {args : Array Value} {below : List Frame} {meth : Method} {c : Code} {D : va_G} {base : Nat} {g : Nat → ClassId} {az : Nat → Nat} {kz : Nat × Nat}
set_option maxRecDepth 100000 in
set_option maxHeartbeats 4000000 in
theorem t_Terms_derivative_121  (B : xB p R s m args meth c b_Terms_derivative 6 R_Terms (Cond.code y_Terms_derivative b_Terms_derivative 6 (some .int) :: x_T) (some .int) 8 186 D x_cl (xty g) base)  (l1 : Int32) (l2 : Int32) (M : MS)  : Sn p l e R s m args below meth c 6 D x_cl base (xwd g) cM x_gr az kz (xfc cM) (xZ below args s D x_cl (xty g) base (xwd g) cM x_gr az kz ovI) 121 [] [(0, .ref 2), (1, .int l1), (2, .int l2)] M (m_Terms_derivative_121 l1 l2 M) := by
  unfold m_Terms_derivative_121
  refine s_aload_n B d_Terms_derivative_121 rfl ?_
  refine s_getS (k := 9) (n := 12) B xc_Terms kd_2 (by decide) rfl rfl fl_Terms_39 sr_2_9 d_Terms_derivative_122 ?_
  refine s_iload_n B d_Terms_derivative_125 rfl ?_
  refine s_iconst (v := (4:Int32)) B d_Terms_derivative_126 (by decide) ?_
  refine s_imul B d_Terms_derivative_127 ?_
  refine s_iload_n B d_Terms_derivative_128 rfl ?_
  refine s_iadd B d_Terms_derivative_129 ?_
  refine s_iald B (Or.inr kd_12) d_Terms_derivative_130 (fun v1 _ => ?_)
  exact s_iret B d_Terms_derivative_131
set_option maxRecDepth 100000 in
set_option maxHeartbeats 4000000 in
theorem t_Terms_derivative_17b {k17 : Int32 × Int32 × Int32 × MS → Option (MS × Int32)} (B : xB p R s m args meth c b_Terms_derivative 6 R_Terms (Cond.code y_Terms_derivative b_Terms_derivative 6 (some .int) :: x_T) (some .int) 8 186 D x_cl (xty g) base) (hk17 : ∀ (l1 : Int32) (l2 : Int32) (l3 : Int32) (M : MS) , Sn p l e R s m args below meth c 6 D x_cl base (xwd g) cM x_gr az kz (xfc cM) (xZ below args s D x_cl (xty g) base (xwd g) cM x_gr az kz ovI) 17 [] [(0, .ref 2), (1, .int l1), (2, .int l2), (3, .int l3)] M (k17 (l1, l2, l3, M))) (l1 : Int32) (l2 : Int32) (l3 : Int32) (M : MS)  : Sn p l e R s m args below meth c 6 D x_cl base (xwd g) cM x_gr az kz (xfc cM) (xZ below args s D x_cl (xty g) base (xwd g) cM x_gr az kz ovI) 17 [] [(0, .ref 2), (1, .int l1), (2, .int l2), (3, .int l3)] M (m_Terms_derivative_17b k17 l1 l2 l3 M) := by
  unfold m_Terms_derivative_17b
  refine s_iload_n B d_Terms_derivative_17 rfl ?_
  refine s_ldc (v := (1000000:Int32)) B d_Terms_derivative_18 (List.mem_cons_of_mem _ cs_Terms_90) ?_
  refine s_icmp_ge B d_Terms_derivative_20 rfl (fun _ => ?_) (fun _ => ?_)
  · refine s_pick (lv1 := [(0, .ref 2), (1, .int l1), (2, .int l2)]) [0, 1, 2] rfl ?_
    exact t_Terms_derivative_121 B l1 l2 M
  · refine s_aload_n B d_Terms_derivative_23 rfl ?_
    refine s_getS (k := 14) (n := 19) B xc_Terms kd_2 (by decide) rfl rfl fl_Terms_58 sr_2_14 d_Terms_derivative_24 ?_
    refine s_pick (lv1 := [(0, .ref 2), (1, .int l1), (2, .int l2), (3, .int l3)]) [0, 1, 2, 3] rfl ?_
    refine s_callI (av := [.ref 19]) (rest := []) B (lk_V B d_Terms_derivative_27 (gl_Terms_99 _) rfl hv_Row_size (by decide) (by decide)) rfl (x_rcV B xc_Row kd_19) (fun _ _ => rfl) rfl rfl (by simp [Value.category]) rfl (fun r1 e9 => ct_Row_size _ _ r1 e9) (fun r1 _ => ?_)
    refine s_if_le B d_Terms_derivative_30 rfl (fun _ => ?_) (fun _ => ?_)
    · refine s_pick (lv1 := [(0, .ref 2), (1, .int l1), (2, .int l2)]) [0, 1, 2] rfl ?_
      exact t_Terms_derivative_121 B l1 l2 r1.1
    · refine s_aload_n B d_Terms_derivative_33 rfl ?_
      refine s_getS (k := 14) (n := 19) B xc_Terms kd_2 (by decide) rfl rfl fl_Terms_58 sr_2_14 d_Terms_derivative_34 ?_
      refine s_aload_n B d_Terms_derivative_37 rfl ?_
      refine s_getS (k := 14) (n := 19) B xc_Terms kd_2 (by decide) rfl rfl fl_Terms_58 sr_2_14 d_Terms_derivative_38 ?_
      refine s_pick (lv1 := [(0, .ref 2), (1, .int l1), (2, .int l2), (3, .int l3)]) [0, 1, 2, 3] rfl ?_
      refine s_callI (av := [.ref 19]) (rest := [.ref 19]) B (lk_V B d_Terms_derivative_41 (gl_Terms_99 _) rfl hv_Row_size (by decide) (by decide)) rfl (x_rcV B xc_Row kd_19) (fun _ _ => rfl) rfl rfl (by simp [Value.category]) rfl (fun r2 e9 => ct_Row_size _ _ r2 e9) (fun r2 _ => ?_)
      refine s_iconst (v := (1:Int32)) B d_Terms_derivative_44 (by decide) ?_
      refine s_isub B d_Terms_derivative_45 ?_
      refine s_pick (lv1 := [(0, .ref 2), (1, .int l1), (2, .int l2), (3, .int l3)]) [0, 1, 2, 3] rfl ?_
      refine s_callI (av := [.ref 19, .int (r2.2 - (1:Int32))]) (rest := []) B (lk_V B d_Terms_derivative_46 (gl_Terms_102 _) rfl hv_Row_get (by decide) (by decide)) rfl (x_rcV B xc_Row kd_19) (fun _ _ => rfl) rfl rfl (by simp [Value.category]) rfl (fun r3 e9 => ct_Row_get _ _ _ r3 e9) (fun r3 _ => ?_)
      refine s_istore B d_Terms_derivative_49 (by decide) ?_
      refine s_aload_n B d_Terms_derivative_51 rfl ?_
      refine s_getS (k := 9) (n := 12) B xc_Terms kd_2 (by decide) rfl rfl fl_Terms_39 sr_2_9 d_Terms_derivative_52 ?_
      refine s_iload B d_Terms_derivative_55 rfl ?_
      refine s_iconst (v := (4:Int32)) B d_Terms_derivative_57 (by decide) ?_
      refine s_imul B d_Terms_derivative_58 ?_
      refine s_iload_n B d_Terms_derivative_59 rfl ?_
      refine s_iadd B d_Terms_derivative_60 ?_
      refine s_iald B (Or.inr kd_12) d_Terms_derivative_61 (fun v4 _ => ?_)
      refine s_iconst (v := (-1:Int32)) B d_Terms_derivative_62 (by decide) ?_
      refine s_icmp_eq B d_Terms_derivative_63 rfl (fun _ => ?_) (fun _ => ?_)
      · refine s_aload_n B d_Terms_derivative_76 rfl ?_
        refine s_iload B d_Terms_derivative_77 rfl ?_
        refine s_iload_n B d_Terms_derivative_79 rfl ?_
        refine s_pick (lv1 := [(0, .ref 2), (1, .int l1), (2, .int l2), (3, .int l3), (4, .int r3.2)]) [0, 1, 2, 3, 4] rfl ?_
        refine s_callI (av := [.ref 2, .int r3.2, .int l2]) (rest := []) B (lk_V B d_Terms_derivative_80 (gl_Terms_123 _) rfl hv_Terms_asksForMore (by decide) (by decide)) rfl (x_rcV B xc_Terms kd_2) (fun _ h => h) rfl (by simp [xng, x_gr, kd_2]) (by simp [Value.category]) rfl (fun r5 e9 => ct_Terms_asksForMore _ _ _ r5 e9) (fun r5 _ => ?_)
        refine s_if_ne B d_Terms_derivative_83 rfl (fun _ => ?_) (fun _ => ?_)
        · refine s_iinc (w := (1:Int32)) B d_Terms_derivative_115 rfl (by decide) (by decide) ?_
          refine s_goto B d_Terms_derivative_118 rfl ?_
          refine s_pick (lv1 := [(0, .ref 2), (1, .int l1), (2, .int l2), (3, .int (l3 + (1:Int32)))]) [0, 1, 2, 3] rfl ?_
          exact hk17 l1 l2 (l3 + (1:Int32)) r5.1
        · refine s_aload_n B d_Terms_derivative_86 rfl ?_
          refine s_iload B d_Terms_derivative_87 rfl ?_
          refine s_iload_n B d_Terms_derivative_89 rfl ?_
          refine s_pick (lv1 := [(0, .ref 2), (1, .int l1), (2, .int l2), (3, .int l3), (4, .int r3.2)]) [0, 1, 2, 3, 4] rfl ?_
          refine s_callI (av := [.ref 2, .int r3.2, .int l2]) (rest := []) B (lk_V B d_Terms_derivative_90 (gl_Terms_127 _) rfl hv_Terms_combined (by decide) (by decide)) rfl (x_rcV B xc_Terms kd_2) (fun _ h => h) rfl (by simp [xng, x_gr, kd_2]) (by simp [Value.category]) rfl (fun r6 e9 => ct_Terms_combined _ _ _ r6 e9) (fun r6 _ => ?_)
          refine s_istore B d_Terms_derivative_93 (by decide) ?_
          refine s_aload_n B d_Terms_derivative_95 rfl ?_
          refine s_getS (k := 9) (n := 12) B xc_Terms kd_2 (by decide) rfl rfl fl_Terms_39 sr_2_9 d_Terms_derivative_96 ?_
          refine s_iload B d_Terms_derivative_99 rfl ?_
          refine s_iconst (v := (4:Int32)) B d_Terms_derivative_101 (by decide) ?_
          refine s_imul B d_Terms_derivative_102 ?_
          refine s_iload_n B d_Terms_derivative_103 rfl ?_
          refine s_iadd B d_Terms_derivative_104 ?_
          refine s_iload B d_Terms_derivative_105 rfl ?_
          refine s_iast B (Or.inr kd_12) d_Terms_derivative_107 (fun M7 _ => ?_)
          refine s_aload_n B d_Terms_derivative_108 rfl ?_
          refine s_getS (k := 14) (n := 19) B xc_Terms kd_2 (by decide) rfl rfl fl_Terms_58 sr_2_14 d_Terms_derivative_109 ?_
          refine s_pick (lv1 := [(0, .ref 2), (1, .int l1), (2, .int l2), (3, .int l3)]) [0, 1, 2, 3] rfl ?_
          refine s_callU (av := [.ref 19]) (rest := []) B (lk_V B d_Terms_derivative_112 (gl_Terms_120 _) rfl hv_Row_dropLast (by decide) (by decide)) rfl (x_rcV B xc_Row kd_19) (fun _ _ => rfl) rfl rfl (by simp [Value.category]) rfl (fun r8 e9 => ct_Row_dropLast _ _ r8 e9) (fun r8 _ => ?_)
          refine s_iinc (w := (1:Int32)) B d_Terms_derivative_115 rfl (by decide) (by decide) ?_
          refine s_goto B d_Terms_derivative_118 rfl ?_
          refine s_pick (lv1 := [(0, .ref 2), (1, .int l1), (2, .int l2), (3, .int (l3 + (1:Int32)))]) [0, 1, 2, 3] rfl ?_
          exact hk17 l1 l2 (l3 + (1:Int32)) r8.1
      · refine s_aload_n B d_Terms_derivative_66 rfl ?_
        refine s_getS (k := 14) (n := 19) B xc_Terms kd_2 (by decide) rfl rfl fl_Terms_58 sr_2_14 d_Terms_derivative_67 ?_
        refine s_pick (lv1 := [(0, .ref 2), (1, .int l1), (2, .int l2), (3, .int l3)]) [0, 1, 2, 3] rfl ?_
        refine s_callU (av := [.ref 19]) (rest := []) B (lk_V B d_Terms_derivative_70 (gl_Terms_120 _) rfl hv_Row_dropLast (by decide) (by decide)) rfl (x_rcV B xc_Row kd_19) (fun _ _ => rfl) rfl rfl (by simp [Value.category]) rfl (fun r9 e9 => ct_Row_dropLast _ _ r9 e9) (fun r9 _ => ?_)
        refine s_goto B d_Terms_derivative_73 rfl ?_
        refine s_iinc (w := (1:Int32)) B d_Terms_derivative_115 rfl (by decide) (by decide) ?_
        refine s_goto B d_Terms_derivative_118 rfl ?_
        refine s_pick (lv1 := [(0, .ref 2), (1, .int l1), (2, .int l2), (3, .int (l3 + (1:Int32)))]) [0, 1, 2, 3] rfl ?_
        exact hk17 l1 l2 (l3 + (1:Int32)) r9.1
set_option maxRecDepth 100000 in
set_option maxHeartbeats 4000000 in
theorem t_Terms_derivative_17  (B : xB p R s m args meth c b_Terms_derivative 6 R_Terms (Cond.code y_Terms_derivative b_Terms_derivative 6 (some .int) :: x_T) (some .int) 8 186 D x_cl (xty g) base)  (l1 : Int32) (l2 : Int32) (l3 : Int32) (M : MS)  : Sn p l e R s m args below meth c 6 D x_cl base (xwd g) cM x_gr az kz (xfc cM) (xZ below args s D x_cl (xty g) base (xwd g) cM x_gr az kz ovI) 17 [] [(0, .ref 2), (1, .int l1), (2, .int l2), (3, .int l3)] M (m_Terms_derivative_17 (l1, l2, l3, M)) := by
  have q : ∀ (F : Nat) (i : Int32 × Int32 × Int32 × MS), Sn p l e R s m args below meth c 6 D x_cl base (xwd g) cM x_gr az kz (xfc cM) (xZ below args s D x_cl (xty g) base (xwd g) cM x_gr az kz ovI) 17 [] [(0, .ref 2), (1, .int i.1), (2, .int i.2.1), (3, .int i.2.2.1)] i.2.2.2 (fx (fun (k : Int32 × Int32 × Int32 × MS → Option (MS × Int32)) (i : Int32 × Int32 × Int32 × MS) => m_Terms_derivative_17b k i.1 i.2.1 i.2.2.1 i.2.2.2) F i) := by
    intro F
    induction F with
    | zero => intro i ; exact s_none
    | succ F ih => intro i ; exact t_Terms_derivative_17b B  (fun l1 l2 l3 M  => ih (l1, l2, l3, M) ) i.1 i.2.1 i.2.2.1 i.2.2.2 
  exact q FU (l1, l2, l3, M) 
set_option maxRecDepth 100000 in
set_option maxHeartbeats 4000000 in
theorem t_Terms_derivative (B : xB p R s m args meth c b_Terms_derivative 6 R_Terms (Cond.code y_Terms_derivative b_Terms_derivative 6 (some .int) :: x_T) (some .int) 8 186 D x_cl (xty g) base) (a1 : Int32) (a2 : Int32) (M : MS) : Sn p l e R s m args below meth c 6 D x_cl base (xwd g) cM x_gr az kz (xfc cM) (xZ below args s D x_cl (xty g) base (xwd g) cM x_gr az kz ovI) 0 [] [(0, .ref 2), (1, .int a1), (2, .int a2)] M (m_Terms_derivative a1 a2 M) := by
  unfold m_Terms_derivative
  refine s_aload_n B d_Terms_derivative_0 rfl ?_
  refine s_getS (k := 14) (n := 19) B xc_Terms kd_2 (by decide) rfl rfl fl_Terms_58 sr_2_14 d_Terms_derivative_1 ?_
  refine s_pick (lv1 := [(0, .ref 2), (1, .int a1), (2, .int a2)]) [0, 1, 2] rfl ?_
  refine s_callU (av := [.ref 19]) (rest := []) B (lk_V B d_Terms_derivative_4 (gl_Terms_87 _) rfl hv_Row_clear (by decide) (by decide)) rfl (x_rcV B xc_Row kd_19) (fun _ _ => rfl) rfl rfl (by simp [Value.category]) rfl (fun r1 e9 => ct_Row_clear _ _ r1 e9) (fun r1 _ => ?_)
  refine s_aload_n B d_Terms_derivative_7 rfl ?_
  refine s_getS (k := 14) (n := 19) B xc_Terms kd_2 (by decide) rfl rfl fl_Terms_58 sr_2_14 d_Terms_derivative_8 ?_
  refine s_iload_n B d_Terms_derivative_11 rfl ?_
  refine s_pick (lv1 := [(0, .ref 2), (1, .int a1), (2, .int a2)]) [0, 1, 2] rfl ?_
  refine s_callU (av := [.ref 19, .int a1]) (rest := []) B (lk_V B d_Terms_derivative_12 (gl_Terms_95 _) rfl hv_Row_add (by decide) (by decide)) rfl (x_rcV B xc_Row kd_19) (fun _ h => h) rfl (by simp [xng, x_gr, kd_2]) (by simp [Value.category]) rfl (fun r2 e9 => ct_Row_add _ _ _ r2 e9) (fun r2 _ => ?_)
  refine s_iconst (v := (0:Int32)) B d_Terms_derivative_15 (by decide) ?_
  refine s_istore_n B d_Terms_derivative_16 (by decide) ?_
  refine s_pick (lv1 := [(0, .ref 2), (1, .int a1), (2, .int a2), (3, .int (0:Int32))]) [0, 1, 2, 3] rfl ?_
  exact t_Terms_derivative_17 B a1 a2 (0:Int32) r2.1
set_option maxRecDepth 100000 in
set_option maxHeartbeats 4000000 in
theorem ct_Terms_derivative {l : Launch} {D : va_G} {base : Nat} {g : Nat → ClassId} (a1 : Int32) (a2 : Int32) (M : MS) (r : MS × Int32) (hr : m_Terms_derivative a1 a2 M = some r) : Ct l y_Terms_derivative (Cond.code y_Terms_derivative b_Terms_derivative 6 (some .int) :: x_T) 8 186 D x_cl (xty g) base (xwd g) cM x_gr [.ref 2, .int a1, .int a2] M r.1 (ovI r.2) :=
  x_met (ov := ovI) (by decide) (Nat.le_of_ble_eq_true rfl) (fun p e R s m args below meth c az B => t_Terms_derivative B a1 a2 M) r hr
end
theorem d_D_derive_0 : decode b_D_derive 0 = .ok (.iload_n 1, 1) := by decide +kernel
theorem d_D_derive_1 : decode b_D_derive 1 = .ok (.invokestatic 61, 3) := by decide +kernel
theorem d_D_derive_4 : decode b_D_derive 4 = .ok (.iload_n 2, 1) := by decide +kernel
theorem d_D_derive_5 : decode b_D_derive 5 = .ok (.invokestatic 61, 3) := by decide +kernel
theorem d_D_derive_8 : decode b_D_derive 8 = .ok (.iload_n 3, 1) := by decide +kernel
theorem d_D_derive_9 : decode b_D_derive 9 = .ok (.iconst (3), 1) := by decide +kernel
theorem d_D_derive_10 : decode b_D_derive 10 = .ok (.invokestatic 65, 3) := by decide +kernel
theorem d_D_derive_13 : decode b_D_derive 13 = .ok (.aload_n 0, 1) := by decide +kernel
theorem d_D_derive_14 : decode b_D_derive 14 = .ok (.getfield 23, 3) := by decide +kernel
theorem d_D_derive_17 : decode b_D_derive 17 = .ok (.aload_n 0, 1) := by decide +kernel
theorem d_D_derive_18 : decode b_D_derive 18 = .ok (.getfield 16, 3) := by decide +kernel
theorem d_D_derive_21 : decode b_D_derive 21 = .ok (.aload_n 0, 1) := by decide +kernel
theorem d_D_derive_22 : decode b_D_derive 22 = .ok (.getfield 9, 3) := by decide +kernel
theorem d_D_derive_25 : decode b_D_derive 25 = .ok (.invokevirtual 73, 3) := by decide +kernel
theorem d_D_derive_28 : decode b_D_derive 28 = .ok (.aload_n 0, 1) := by decide +kernel
theorem d_D_derive_29 : decode b_D_derive 29 = .ok (.iload_n 1, 1) := by decide +kernel
theorem d_D_derive_30 : decode b_D_derive 30 = .ok (.aload_n 0, 1) := by decide +kernel
theorem d_D_derive_31 : decode b_D_derive 31 = .ok (.getfield 16, 3) := by decide +kernel
theorem d_D_derive_34 : decode b_D_derive 34 = .ok (.aload_n 0, 1) := by decide +kernel
theorem d_D_derive_35 : decode b_D_derive 35 = .ok (.getfield 9, 3) := by decide +kernel
theorem d_D_derive_38 : decode b_D_derive 38 = .ok (.iload_n 2, 1) := by decide +kernel
theorem d_D_derive_39 : decode b_D_derive 39 = .ok (.iaload, 1) := by decide +kernel
theorem d_D_derive_40 : decode b_D_derive 40 = .ok (.iload_n 3, 1) := by decide +kernel
theorem d_D_derive_41 : decode b_D_derive 41 = .ok (.invokevirtual 91, 3) := by decide +kernel
theorem d_D_derive_44 : decode b_D_derive 44 = .ok (.invokevirtual 69, 3) := by decide +kernel
theorem d_D_derive_47 : decode b_D_derive 47 = .ok (.ireturn, 1) := by decide +kernel
section
variable {p : Program} {l : Launch} {e : Env} {R : Room} {s : State} {m : MethodId} {args : Array Value} {below : List Frame} {meth : Method} {c : Code} {D : va_G} {base : Nat} {g : Nat → ClassId} {az : Nat → Nat} {kz : Nat × Nat}
set_option maxRecDepth 100000 in
set_option maxHeartbeats 4000000 in
theorem t_D_derive (B : xB p R s m args meth c b_D_derive 4 R_D (Cond.code y_D_derive b_D_derive 4 (some .int) :: x_T) (some .int) 9 211 D x_cl (xty g) base) (a1 : Int32) (a2 : Int32) (a3 : Int32) (M : MS) : Sn p l e R s m args below meth c 4 D x_cl base (xwd g) cM x_gr az kz (xfc cM) (xZ below args s D x_cl (xty g) base (xwd g) cM x_gr az kz ovI) 0 [] [(0, .ref 0), (1, .int a1), (2, .int a2), (3, .int a3)] M (m_D_derive a1 a2 a3 M) := by
  unfold m_D_derive
  refine s_iload_n B d_D_derive_0 rfl ?_
  refine s_pick (lv1 := [(0, .ref 0), (1, .int a1), (2, .int a2), (3, .int a3)]) [0, 1, 2, 3] rfl ?_
  refine s_callU (av := [.int a1]) (rest := []) B (lk_S B d_D_derive_1 (gl_D_61 _) (List.mem_cons_of_mem _ st_D_checkSlot) (List.mem_cons_of_mem _ in_D) (List.mem_cons_of_mem _ ml_D_61) rfl hs_D_checkSlot (by decide) (by decide)) rfl x_rcS (fun _ _ => rfl) rfl rfl (by simp [Value.category]) rfl (fun r1 e9 => ct_D_checkSlot _ _ r1 e9) (fun r1 _ => ?_)
  refine s_iload_n B d_D_derive_4 rfl ?_
  refine s_pick (lv1 := [(0, .ref 0), (1, .int a1), (2, .int a2), (3, .int a3)]) [0, 1, 2, 3] rfl ?_
  refine s_callU (av := [.int a2]) (rest := []) B (lk_S B d_D_derive_5 (gl_D_61 _) (List.mem_cons_of_mem _ st_D_checkSlot) (List.mem_cons_of_mem _ in_D) (List.mem_cons_of_mem _ ml_D_61) rfl hs_D_checkSlot (by decide) (by decide)) rfl x_rcS (fun _ _ => rfl) rfl rfl (by simp [Value.category]) rfl (fun r2 e9 => ct_D_checkSlot _ _ r2 e9) (fun r2 _ => ?_)
  refine s_iload_n B d_D_derive_8 rfl ?_
  refine s_iconst (v := (3:Int32)) B d_D_derive_9 (by decide) ?_
  refine s_pick (lv1 := [(0, .ref 0), (1, .int a1), (2, .int a2), (3, .int a3)]) [0, 1, 2, 3] rfl ?_
  refine s_callU (av := [.int a3, .int (3:Int32)]) (rest := []) B (lk_S B d_D_derive_10 (gl_D_65 _) (List.mem_cons_of_mem _ st_D_checkRange) (List.mem_cons_of_mem _ in_D) (List.mem_cons_of_mem _ ml_D_65) rfl hs_D_checkRange (by decide) (by decide)) rfl x_rcS (fun _ _ => rfl) rfl rfl (by simp [Value.category]) rfl (fun r3 e9 => ct_D_checkRange _ _ _ r3 e9) (fun r3 _ => ?_)
  refine s_aload_n B d_D_derive_13 rfl ?_
  refine s_getS (k := 2) (n := 24) B xc_D kd_0 (by decide) rfl rfl fl_D_23 sr_0_2 d_D_derive_14 ?_
  refine s_aload_n B d_D_derive_17 rfl ?_
  refine s_getS (k := 1) (n := 2) B xc_D kd_0 (by decide) rfl rfl fl_D_16 sr_0_1 d_D_derive_18 ?_
  refine s_aload_n B d_D_derive_21 rfl ?_
  refine s_getS (k := 0) (n := 1) B xc_D kd_0 (by decide) rfl rfl fl_D_9 sr_0_0 d_D_derive_22 ?_
  refine s_pick (lv1 := [(0, .ref 0), (1, .int a1), (2, .int a2), (3, .int a3)]) [0, 1, 2, 3] rfl ?_
  refine s_callU (av := [.ref 24, .ref 2, .ref 1]) (rest := []) B (lk_V B d_D_derive_25 (gl_D_73 _) rfl hv_Explorer_tidy (by decide) (by decide)) rfl (x_rcV B xc_Explorer kd_24) (fun _ _ => rfl) rfl rfl (by simp [Value.category]) rfl (fun r4 e9 => ct_Explorer_tidy  _ r4 e9) (fun r4 _ => ?_)
  refine s_aload_n B d_D_derive_28 rfl ?_
  refine s_iload_n B d_D_derive_29 rfl ?_
  refine s_aload_n B d_D_derive_30 rfl ?_
  refine s_getS (k := 1) (n := 2) B xc_D kd_0 (by decide) rfl rfl fl_D_16 sr_0_1 d_D_derive_31 ?_
  refine s_aload_n B d_D_derive_34 rfl ?_
  refine s_getS (k := 0) (n := 1) B xc_D kd_0 (by decide) rfl rfl fl_D_9 sr_0_0 d_D_derive_35 ?_
  refine s_iload_n B d_D_derive_38 rfl ?_
  refine s_iald B (Or.inl kd_1) d_D_derive_39 (fun v5 _ => ?_)
  refine s_iload_n B d_D_derive_40 rfl ?_
  refine s_pick (lv1 := []) [] rfl ?_
  refine s_callI (av := [.ref 2, .int v5, .int a3]) (rest := [.int a1, .ref 0]) B (lk_V B d_D_derive_41 (gl_D_91 _) rfl hv_Terms_derivative (by decide) (by decide)) rfl (x_rcV B xc_Terms kd_2) (fun _ h => h) (by simp [xng, x_gr, kd_0]) rfl (by simp [Value.category]) rfl (fun r6 e9 => ct_Terms_derivative _ _ _ r6 e9) (fun r6 _ => ?_)
  refine s_pick (lv1 := []) [] rfl ?_
  refine s_callI (av := [.ref 0, .int a1, .int r6.2]) (rest := []) B (lk_V B d_D_derive_44 (gl_D_69 _) rfl hv_D_put (by decide) (by decide)) rfl (x_rcV B xc_D kd_0) (fun _ _ => rfl) rfl rfl (by simp [Value.category]) rfl (fun r7 e9 => ct_D_put _ _ _ r7 e9) (fun r7 _ => ?_)
  exact s_iret B d_D_derive_47
set_option maxRecDepth 100000 in
set_option maxHeartbeats 4000000 in
theorem ct_D_derive {l : Launch} {D : va_G} {base : Nat} {g : Nat → ClassId} (a1 : Int32) (a2 : Int32) (a3 : Int32) (M : MS) (r : MS × Int32) (hr : m_D_derive a1 a2 a3 M = some r) : Ct l y_D_derive (Cond.code y_D_derive b_D_derive 4 (some .int) :: x_T) 9 211 D x_cl (xty g) base (xwd g) cM x_gr [.ref 0, .int a1, .int a2, .int a3] M r.1 (ovI r.2) :=
  x_met (ov := ovI) (by decide) (Nat.le_of_ble_eq_true rfl) (fun p e R s m args below meth c az B => t_D_derive B a1 a2 a3 M) r hr
end
theorem d_D_similar_0 : decode b_D_similar 0 = .ok (.iload_n 1, 1) := by decide +kernel
theorem d_D_similar_1 : decode b_D_similar 1 = .ok (.invokestatic 61, 3) := by decide +kernel
theorem d_D_similar_4 : decode b_D_similar 4 = .ok (.iload_n 2, 1) := by decide +kernel
theorem d_D_similar_5 : decode b_D_similar 5 = .ok (.invokestatic 61, 3) := by decide +kernel
theorem d_D_similar_8 : decode b_D_similar 8 = .ok (.aload_n 0, 1) := by decide +kernel
theorem d_D_similar_9 : decode b_D_similar 9 = .ok (.getfield 9, 3) := by decide +kernel
theorem d_D_similar_12 : decode b_D_similar 12 = .ok (.iload_n 1, 1) := by decide +kernel
theorem d_D_similar_13 : decode b_D_similar 13 = .ok (.iaload, 1) := by decide +kernel
theorem d_D_similar_14 : decode b_D_similar 14 = .ok (.aload_n 0, 1) := by decide +kernel
theorem d_D_similar_15 : decode b_D_similar 15 = .ok (.getfield 9, 3) := by decide +kernel
theorem d_D_similar_18 : decode b_D_similar 18 = .ok (.iload_n 2, 1) := by decide +kernel
theorem d_D_similar_19 : decode b_D_similar 19 = .ok (.iaload, 1) := by decide +kernel
theorem d_D_similar_20 : decode b_D_similar 20 = .ok (.if_icmp .ne (7), 3) := by decide +kernel
theorem d_D_similar_23 : decode b_D_similar 23 = .ok (.iconst (1), 1) := by decide +kernel
theorem d_D_similar_24 : decode b_D_similar 24 = .ok (.goto (4), 3) := by decide +kernel
theorem d_D_similar_27 : decode b_D_similar 27 = .ok (.iconst (0), 1) := by decide +kernel
theorem d_D_similar_28 : decode b_D_similar 28 = .ok (.ireturn, 1) := by decide +kernel
section
variable {p : Program} {l : Launch} {e : Env} {R : Room} {s : State} {m : MethodId} {args : Array Value} {below : List Frame} {meth : Method} {c : Code} {D : va_G} {base : Nat} {g : Nat → ClassId} {az : Nat → Nat} {kz : Nat × Nat}
set_option maxRecDepth 100000 in
set_option maxHeartbeats 4000000 in
theorem t_D_similar (B : xB p R s m args meth c b_D_similar 3 R_D (Cond.code y_D_similar b_D_similar 3 (some .boolean) :: x_T) (some .boolean) 1 20 D x_cl (xty g) base) (a1 : Int32) (a2 : Int32) (M : MS) : Sn p l e R s m args below meth c 3 D x_cl base (xwd g) cM x_g0 az kz (xfc cM) (xZ below args s D x_cl (xty g) base (xwd g) cM x_g0 az kz ovI) 0 [] [(0, .ref 0), (1, .int a1), (2, .int a2)] M (m_D_similar a1 a2 M) := by
  unfold m_D_similar
  refine s_iload_n B d_D_similar_0 rfl ?_
  refine s_pick (lv1 := [(0, .ref 0), (1, .int a1), (2, .int a2)]) [0, 1, 2] rfl ?_
  refine s_callU (av := [.int a1]) (rest := []) B (lk_S B d_D_similar_1 (gl_D_61 _) (List.mem_cons_of_mem _ st_D_checkSlot) (List.mem_cons_of_mem _ in_D) (List.mem_cons_of_mem _ ml_D_61) rfl hs_D_checkSlot (by decide) (by decide)) rfl x_rcS (fun _ _ => rfl) rfl rfl (by simp [Value.category]) rfl (fun r1 e9 => ct_D_checkSlot _ _ r1 e9) (fun r1 _ => ?_)
  refine s_iload_n B d_D_similar_4 rfl ?_
  refine s_pick (lv1 := [(0, .ref 0), (1, .int a1), (2, .int a2)]) [0, 1, 2] rfl ?_
  refine s_callU (av := [.int a2]) (rest := []) B (lk_S B d_D_similar_5 (gl_D_61 _) (List.mem_cons_of_mem _ st_D_checkSlot) (List.mem_cons_of_mem _ in_D) (List.mem_cons_of_mem _ ml_D_61) rfl hs_D_checkSlot (by decide) (by decide)) rfl x_rcS (fun _ _ => rfl) rfl rfl (by simp [Value.category]) rfl (fun r2 e9 => ct_D_checkSlot _ _ r2 e9) (fun r2 _ => ?_)
  refine s_aload_n B d_D_similar_8 rfl ?_
  refine s_getS (k := 0) (n := 1) B xc_D kd_0 (by decide) rfl rfl fl_D_9 sr_0_0 d_D_similar_9 ?_
  refine s_iload_n B d_D_similar_12 rfl ?_
  refine s_iald B (Or.inl kd_1) d_D_similar_13 (fun v3 _ => ?_)
  refine s_aload_n B d_D_similar_14 rfl ?_
  refine s_getS (k := 0) (n := 1) B xc_D kd_0 (by decide) rfl rfl fl_D_9 sr_0_0 d_D_similar_15 ?_
  refine s_iload_n B d_D_similar_18 rfl ?_
  refine s_iald B (Or.inl kd_1) d_D_similar_19 (fun v4 _ => ?_)
  refine s_icmp_ne B d_D_similar_20 rfl (fun _ => ?_) (fun _ => ?_)
  · refine s_iconst (v := (0:Int32)) B d_D_similar_27 (by decide) ?_
    exact s_zret0 rfl B d_D_similar_28
  · refine s_iconst (v := (1:Int32)) B d_D_similar_23 (by decide) ?_
    refine s_goto B d_D_similar_24 rfl ?_
    exact s_zret0 rfl B d_D_similar_28
set_option maxRecDepth 100000 in
set_option maxHeartbeats 4000000 in
theorem ct_D_similar {l : Launch} {D : va_G} {base : Nat} {g : Nat → ClassId} (a1 : Int32) (a2 : Int32) (M : MS) (r : MS × Int32) (hr : m_D_similar a1 a2 M = some r) : Ct l y_D_similar (Cond.code y_D_similar b_D_similar 3 (some .boolean) :: x_T) 1 20 D x_cl (xty g) base (xwd g) cM x_g0 [.ref 0, .int a1, .int a2] M r.1 (ovI r.2) :=
  x_met (ov := ovI) (by decide) (Nat.le_of_ble_eq_true rfl) (fun p e R s m args below meth c az B => t_D_similar B a1 a2 M) r hr
end
theorem d_Terms_tagOf_0 : decode b_Terms_tagOf 0 = .ok (.aload_n 0, 1) := by decide +kernel
theorem d_Terms_tagOf_1 : decode b_Terms_tagOf 1 = .ok (.getfield 33, 3) := by decide +kernel
theorem d_Terms_tagOf_4 : decode b_Terms_tagOf 4 = .ok (.iload_n 1, 1) := by decide +kernel
theorem d_Terms_tagOf_5 : decode b_Terms_tagOf 5 = .ok (.iaload, 1) := by decide +kernel
theorem d_Terms_tagOf_6 : decode b_Terms_tagOf 6 = .ok (.ireturn, 1) := by decide +kernel
section
variable {p : Program} {l : Launch} {e : Env} {R : Room} {s : State} {m : MethodId} {args : Array Value} {below : List Frame} {meth : Method} {c : Code} {D : va_G} {base : Nat} {g : Nat → ClassId} {az : Nat → Nat} {kz : Nat × Nat}
set_option maxRecDepth 100000 in
set_option maxHeartbeats 4000000 in
theorem t_Terms_tagOf (B : xB p R s m args meth c b_Terms_tagOf 2 R_Terms (Cond.code y_Terms_tagOf b_Terms_tagOf 2 (some .int) :: x_T) (some .int) 0 0 D x_cl (xty g) base) (a1 : Int32) (M : MS) : Sn p l e R s m args below meth c 2 D x_cl base (xwd g) cM x_g0 az kz (xfc cM) (xZ below args s D x_cl (xty g) base (xwd g) cM x_g0 az kz ovI) 0 [] [(0, .ref 2), (1, .int a1)] M (m_Terms_tagOf a1 M) := by
  unfold m_Terms_tagOf
  refine s_aload_n B d_Terms_tagOf_0 rfl ?_
  refine s_getS (k := 7) (n := 10) B xc_Terms kd_2 (by decide) rfl rfl fl_Terms_33 sr_2_7 d_Terms_tagOf_1 ?_
  refine s_iload_n B d_Terms_tagOf_4 rfl ?_
  refine s_iald B (Or.inr kd_10) d_Terms_tagOf_5 (fun v1 _ => ?_)
  exact s_iret B d_Terms_tagOf_6
set_option maxRecDepth 100000 in
set_option maxHeartbeats 4000000 in
theorem ct_Terms_tagOf {l : Launch} {D : va_G} {base : Nat} {g : Nat → ClassId} (a1 : Int32) (M : MS) (r : MS × Int32) (hr : m_Terms_tagOf a1 M = some r) : Ct l y_Terms_tagOf (Cond.code y_Terms_tagOf b_Terms_tagOf 2 (some .int) :: x_T) 0 0 D x_cl (xty g) base (xwd g) cM x_g0 [.ref 2, .int a1] M r.1 (ovI r.2) :=
  x_met (ov := ovI) (by decide) (Nat.le_of_ble_eq_true rfl) (fun p e R s m args below meth c az B => t_Terms_tagOf B a1 M) r hr
end
