theorem d_WordCheck_isArranged_0 : decode b_WordCheck_isArranged 0 = .ok (.aload_n 1, 1) := by decide +kernel
theorem d_WordCheck_isArranged_1 : decode b_WordCheck_isArranged 1 = .ok (.iload_n 2, 1) := by decide +kernel
theorem d_WordCheck_isArranged_2 : decode b_WordCheck_isArranged 2 = .ok (.invokevirtual 78, 3) := by decide +kernel
theorem d_WordCheck_isArranged_5 : decode b_WordCheck_isArranged 5 = .ok (.istore_n 3, 1) := by decide +kernel
theorem d_WordCheck_isArranged_6 : decode b_WordCheck_isArranged 6 = .ok (.iload_n 3, 1) := by decide +kernel
theorem d_WordCheck_isArranged_7 : decode b_WordCheck_isArranged 7 = .ok (.aload_n 0, 1) := by decide +kernel
theorem d_WordCheck_isArranged_8 : decode b_WordCheck_isArranged 8 = .ok (.getfield 25, 3) := by decide +kernel
theorem d_WordCheck_isArranged_11 : decode b_WordCheck_isArranged 11 = .ok (.if_icmp .ge (17), 3) := by decide +kernel
theorem d_WordCheck_isArranged_14 : decode b_WordCheck_isArranged 14 = .ok (.aload_n 0, 1) := by decide +kernel
theorem d_WordCheck_isArranged_15 : decode b_WordCheck_isArranged 15 = .ok (.getfield 9, 3) := by decide +kernel
theorem d_WordCheck_isArranged_18 : decode b_WordCheck_isArranged 18 = .ok (.iload_n 3, 1) := by decide +kernel
theorem d_WordCheck_isArranged_19 : decode b_WordCheck_isArranged 19 = .ok (.iaload, 1) := by decide +kernel
theorem d_WordCheck_isArranged_20 : decode b_WordCheck_isArranged 20 = .ok (.iload_n 2, 1) := by decide +kernel
theorem d_WordCheck_isArranged_21 : decode b_WordCheck_isArranged 21 = .ok (.if_icmp .ne (7), 3) := by decide +kernel
theorem d_WordCheck_isArranged_24 : decode b_WordCheck_isArranged 24 = .ok (.iconst (1), 1) := by decide +kernel
theorem d_WordCheck_isArranged_25 : decode b_WordCheck_isArranged 25 = .ok (.goto (4), 3) := by decide +kernel
theorem d_WordCheck_isArranged_28 : decode b_WordCheck_isArranged 28 = .ok (.iconst (0), 1) := by decide +kernel
theorem d_WordCheck_isArranged_29 : decode b_WordCheck_isArranged 29 = .ok (.ireturn, 1) := by decide +kernel
section
variable {p : Program} {l : Launch} {e : Env} {R : Room} {s : State} {m : MethodId} {args : Array Value} {below : List Frame} {meth : Method} {c : Code} {D : va_G} {base : Nat} {g : Nat → ClassId} {az : Nat → Nat} {kz : Nat × Nat}
set_option maxRecDepth 100000 in
set_option maxHeartbeats 4000000 in
theorem t_WordCheck_isArranged (B : xB p R s m args meth c b_WordCheck_isArranged 4 R_WordCheck (Cond.code y_WordCheck_isArranged b_WordCheck_isArranged 4 (some .boolean) :: x_T) (some .boolean) 1 21 D x_cl (xty g) base) (a2 : Int32) (M : MS) : Sn p l e R s m args below meth c 4 D x_cl base (xwd g) cM x_g0 az kz (xfc cM) (xZ below args s D x_cl (xty g) base (xwd g) cM x_g0 az kz ovI) 0 [] [(0, .ref 75), (1, .ref 2), (2, .int a2)] M (m_WordCheck_isArranged a2 M) := by
  unfold m_WordCheck_isArranged
  refine s_aload_n B d_WordCheck_isArranged_0 rfl ?_
  refine s_iload_n B d_WordCheck_isArranged_1 rfl ?_
  refine s_pick (lv1 := [(0, .ref 75), (2, .int a2)]) [0, 2] rfl ?_
  refine s_callI (av := [.ref 2, .int a2]) (rest := []) B (lk_V B d_WordCheck_isArranged_2 (gl_WordCheck_78 _) rfl hv_Terms_tagOf (by decide) (by decide)) rfl (x_rcV B xc_Terms kd_2) (fun _ _ => rfl) rfl rfl (by simp [Value.category]) rfl (fun r1 e9 => ct_Terms_tagOf _ _ r1 e9) (fun r1 _ => ?_)
  refine s_istore_n B d_WordCheck_isArranged_5 (by decide) ?_
  refine s_iload_n B d_WordCheck_isArranged_6 rfl ?_
  refine s_aload_n B d_WordCheck_isArranged_7 rfl ?_
  refine s_getI (k := 3) B xc_WordCheck kd_75 (by decide) rfl rfl fl_WordCheck_25 d_WordCheck_isArranged_8 ?_
  refine s_icmp_ge B d_WordCheck_isArranged_11 rfl (fun _ => ?_) (fun _ => ?_)
  · refine s_iconst (v := (0:Int32)) B d_WordCheck_isArranged_28 (by decide) ?_
    exact s_zret0 rfl B d_WordCheck_isArranged_29
  · refine s_aload_n B d_WordCheck_isArranged_14 rfl ?_
    refine s_getS (k := 0) (n := 76) B xc_WordCheck kd_75 (by decide) rfl rfl fl_WordCheck_9 sr_75_0 d_WordCheck_isArranged_15 ?_
    refine s_iload_n B d_WordCheck_isArranged_18 rfl ?_
    refine s_iald B (Or.inl kd_76) d_WordCheck_isArranged_19 (fun v2 _ => ?_)
    refine s_iload_n B d_WordCheck_isArranged_20 rfl ?_
    refine s_icmp_ne B d_WordCheck_isArranged_21 rfl (fun _ => ?_) (fun _ => ?_)
    · refine s_iconst (v := (0:Int32)) B d_WordCheck_isArranged_28 (by decide) ?_
      exact s_zret0 rfl B d_WordCheck_isArranged_29
    · refine s_iconst (v := (1:Int32)) B d_WordCheck_isArranged_24 (by decide) ?_
      refine s_goto B d_WordCheck_isArranged_25 rfl ?_
      exact s_zret0 rfl B d_WordCheck_isArranged_29
set_option maxRecDepth 100000 in
set_option maxHeartbeats 4000000 in
theorem ct_WordCheck_isArranged {l : Launch} {D : va_G} {base : Nat} {g : Nat → ClassId} (a2 : Int32) (M : MS) (r : MS × Int32) (hr : m_WordCheck_isArranged a2 M = some r) : Ct l y_WordCheck_isArranged (Cond.code y_WordCheck_isArranged b_WordCheck_isArranged 4 (some .boolean) :: x_T) 1 21 D x_cl (xty g) base (xwd g) cM x_g0 [.ref 75, .ref 2, .int a2] M r.1 (ovI r.2) :=
  x_met (ov := ovI) (by decide) (Nat.le_of_ble_eq_true rfl) (fun p e R s m args below meth c az B => t_WordCheck_isArranged B a2 M) r hr
end
theorem d_Terms_countOf_0 : decode b_Terms_countOf 0 = .ok (.aload_n 0, 1) := by decide +kernel
theorem d_Terms_countOf_1 : decode b_Terms_countOf 1 = .ok (.getfield 24, 3) := by decide +kernel
theorem d_Terms_countOf_4 : decode b_Terms_countOf 4 = .ok (.iload_n 1, 1) := by decide +kernel
theorem d_Terms_countOf_5 : decode b_Terms_countOf 5 = .ok (.iaload, 1) := by decide +kernel
theorem d_Terms_countOf_6 : decode b_Terms_countOf 6 = .ok (.ireturn, 1) := by decide +kernel
section
variable {p : Program} {l : Launch} {e : Env} {R : Room} {s : State} {m : MethodId} {args : Array Value} {below : List Frame} {meth : Method} {c : Code} {D : va_G} {base : Nat} {g : Nat → ClassId} {az : Nat → Nat} {kz : Nat × Nat}
set_option maxRecDepth 100000 in
set_option maxHeartbeats 4000000 in
theorem t_Terms_countOf (B : xB p R s m args meth c b_Terms_countOf 2 R_Terms (Cond.code y_Terms_countOf b_Terms_countOf 2 (some .int) :: x_T) (some .int) 0 0 D x_cl (xty g) base) (a1 : Int32) (M : MS) : Sn p l e R s m args below meth c 2 D x_cl base (xwd g) cM x_g0 az kz (xfc cM) (xZ below args s D x_cl (xty g) base (xwd g) cM x_g0 az kz ovI) 0 [] [(0, .ref 2), (1, .int a1)] M (m_Terms_countOf a1 M) := by
  unfold m_Terms_countOf
  refine s_aload_n B d_Terms_countOf_0 rfl ?_
  refine s_getS (k := 4) (n := 7) B xc_Terms kd_2 (by decide) rfl rfl fl_Terms_24 sr_2_4 d_Terms_countOf_1 ?_
  refine s_iload_n B d_Terms_countOf_4 rfl ?_
  refine s_iald B (Or.inr kd_7) d_Terms_countOf_5 (fun v1 _ => ?_)
  exact s_iret B d_Terms_countOf_6
set_option maxRecDepth 100000 in
set_option maxHeartbeats 4000000 in
theorem ct_Terms_countOf {l : Launch} {D : va_G} {base : Nat} {g : Nat → ClassId} (a1 : Int32) (M : MS) (r : MS × Int32) (hr : m_Terms_countOf a1 M = some r) : Ct l y_Terms_countOf (Cond.code y_Terms_countOf b_Terms_countOf 2 (some .int) :: x_T) 0 0 D x_cl (xty g) base (xwd g) cM x_g0 [.ref 2, .int a1] M r.1 (ovI r.2) :=
  x_met (ov := ovI) (by decide) (Nat.le_of_ble_eq_true rfl) (fun p e R s m args below meth c az B => t_Terms_countOf B a1 M) r hr
end
theorem d_WordCheck_asksForMore_0 : decode b_WordCheck_asksForMore 0 = .ok (.aload_n 0, 1) := by decide +kernel
theorem d_WordCheck_asksForMore_1 : decode b_WordCheck_asksForMore 1 = .ok (.getfield 21, 3) := by decide +kernel
theorem d_WordCheck_asksForMore_4 : decode b_WordCheck_asksForMore 4 = .ok (.invokevirtual 54, 3) := by decide +kernel
theorem d_WordCheck_asksForMore_7 : decode b_WordCheck_asksForMore 7 = .ok (.istore_n 3, 1) := by decide +kernel
theorem d_WordCheck_asksForMore_8 : decode b_WordCheck_asksForMore 8 = .ok (.iconst (0), 1) := by decide +kernel
theorem d_WordCheck_asksForMore_9 : decode b_WordCheck_asksForMore 9 = .ok (.istore 4, 2) := by decide +kernel
theorem d_WordCheck_asksForMore_11 : decode b_WordCheck_asksForMore 11 = .ok (.iload 4, 2) := by decide +kernel
theorem d_WordCheck_asksForMore_13 : decode b_WordCheck_asksForMore 13 = .ok (.aload_n 1, 1) := by decide +kernel
theorem d_WordCheck_asksForMore_14 : decode b_WordCheck_asksForMore 14 = .ok (.iload_n 2, 1) := by decide +kernel
theorem d_WordCheck_asksForMore_15 : decode b_WordCheck_asksForMore 15 = .ok (.invokevirtual 81, 3) := by decide +kernel
theorem d_WordCheck_asksForMore_18 : decode b_WordCheck_asksForMore 18 = .ok (.if_icmp .ge (38), 3) := by decide +kernel
theorem d_WordCheck_asksForMore_21 : decode b_WordCheck_asksForMore 21 = .ok (.aload_n 0, 1) := by decide +kernel
theorem d_WordCheck_asksForMore_22 : decode b_WordCheck_asksForMore 22 = .ok (.aload_n 1, 1) := by decide +kernel
theorem d_WordCheck_asksForMore_23 : decode b_WordCheck_asksForMore 23 = .ok (.aload_n 1, 1) := by decide +kernel
theorem d_WordCheck_asksForMore_24 : decode b_WordCheck_asksForMore 24 = .ok (.iload_n 2, 1) := by decide +kernel
theorem d_WordCheck_asksForMore_25 : decode b_WordCheck_asksForMore 25 = .ok (.iload 4, 2) := by decide +kernel
theorem d_WordCheck_asksForMore_27 : decode b_WordCheck_asksForMore 27 = .ok (.invokevirtual 84, 3) := by decide +kernel
theorem d_WordCheck_asksForMore_30 : decode b_WordCheck_asksForMore 30 = .ok (.invokevirtual 62, 3) := by decide +kernel
theorem d_WordCheck_asksForMore_33 : decode b_WordCheck_asksForMore 33 = .ok (.ifCond .ne (17), 3) := by decide +kernel
theorem d_WordCheck_asksForMore_36 : decode b_WordCheck_asksForMore 36 = .ok (.aload_n 0, 1) := by decide +kernel
theorem d_WordCheck_asksForMore_37 : decode b_WordCheck_asksForMore 37 = .ok (.getfield 21, 3) := by decide +kernel
theorem d_WordCheck_asksForMore_40 : decode b_WordCheck_asksForMore 40 = .ok (.aload_n 1, 1) := by decide +kernel
theorem d_WordCheck_asksForMore_41 : decode b_WordCheck_asksForMore 41 = .ok (.iload_n 2, 1) := by decide +kernel
theorem d_WordCheck_asksForMore_42 : decode b_WordCheck_asksForMore 42 = .ok (.iload 4, 2) := by decide +kernel
theorem d_WordCheck_asksForMore_44 : decode b_WordCheck_asksForMore 44 = .ok (.invokevirtual 84, 3) := by decide +kernel
theorem d_WordCheck_asksForMore_47 : decode b_WordCheck_asksForMore 47 = .ok (.invokevirtual 49, 3) := by decide +kernel
theorem d_WordCheck_asksForMore_50 : decode b_WordCheck_asksForMore 50 = .ok (.iinc 4 (1), 3) := by decide +kernel
theorem d_WordCheck_asksForMore_53 : decode b_WordCheck_asksForMore 53 = .ok (.goto (-42), 3) := by decide +kernel
theorem d_WordCheck_asksForMore_56 : decode b_WordCheck_asksForMore 56 = .ok (.aload_n 0, 1) := by decide +kernel
theorem d_WordCheck_asksForMore_57 : decode b_WordCheck_asksForMore 57 = .ok (.getfield 21, 3) := by decide +kernel
theorem d_WordCheck_asksForMore_60 : decode b_WordCheck_asksForMore 60 = .ok (.invokevirtual 54, 3) := by decide +kernel
theorem d_WordCheck_asksForMore_63 : decode b_WordCheck_asksForMore 63 = .ok (.iload_n 3, 1) := by decide +kernel
theorem d_WordCheck_asksForMore_64 : decode b_WordCheck_asksForMore 64 = .ok (.if_icmp .le (7), 3) := by decide +kernel
theorem d_WordCheck_asksForMore_67 : decode b_WordCheck_asksForMore 67 = .ok (.iconst (1), 1) := by decide +kernel
theorem d_WordCheck_asksForMore_68 : decode b_WordCheck_asksForMore 68 = .ok (.goto (4), 3) := by decide +kernel
theorem d_WordCheck_asksForMore_71 : decode b_WordCheck_asksForMore 71 = .ok (.iconst (0), 1) := by decide +kernel
theorem d_WordCheck_asksForMore_72 : decode b_WordCheck_asksForMore 72 = .ok (.ireturn, 1) := by decide +kernel
section
variable {p : Program} {l : Launch} {e : Env} {R : Room} {s : State} {m : MethodId} {args : Array Value} {below : List Frame} {meth : Method} {c : Code} {D : va_G} {base : Nat} {g : Nat → ClassId} {az : Nat → Nat} {kz : Nat × Nat}
set_option maxRecDepth 100000 in
set_option maxHeartbeats 4000000 in
theorem t_WordCheck_asksForMore_56  (B : xB p R s m args meth c b_WordCheck_asksForMore 5 R_WordCheck (Cond.code y_WordCheck_asksForMore b_WordCheck_asksForMore 5 (some .boolean) :: x_T) (some .boolean) 5 111 D x_cl (xty g) base)  (l3 : Int32) (M : MS)  : Sn p l e R s m args below meth c 5 D x_cl base (xwd g) cM x_gr az kz (xfc cM) (xZ below args s D x_cl (xty g) base (xwd g) cM x_gr az kz ovI) 56 [] [(0, .ref 75), (3, .int l3)] M (m_WordCheck_asksForMore_56 l3 M) := by
  unfold m_WordCheck_asksForMore_56
  refine s_aload_n B d_WordCheck_asksForMore_56 rfl ?_
  refine s_getS (k := 2) (n := 78) B xc_WordCheck kd_75 (by decide) rfl rfl fl_WordCheck_21 sr_75_2 d_WordCheck_asksForMore_57 ?_
  refine s_pick (lv1 := [(3, .int l3)]) [3] rfl ?_
  refine s_callI (av := [.ref 78]) (rest := []) B (lk_V B d_WordCheck_asksForMore_60 (gl_WordCheck_54 _) rfl hv_Row_size (by decide) (by decide)) rfl (x_rcV B xc_Row kd_78) (fun _ _ => rfl) rfl rfl (by simp [Value.category]) rfl (fun r1 e9 => ct_Row_size _ _ r1 e9) (fun r1 _ => ?_)
  refine s_iload_n B d_WordCheck_asksForMore_63 rfl ?_
  refine s_icmp_le B d_WordCheck_asksForMore_64 rfl (fun _ => ?_) (fun _ => ?_)
  · refine s_iconst (v := (0:Int32)) B d_WordCheck_asksForMore_71 (by decide) ?_
    exact s_zret0 rfl B d_WordCheck_asksForMore_72
  · refine s_iconst (v := (1:Int32)) B d_WordCheck_asksForMore_67 (by decide) ?_
    refine s_goto B d_WordCheck_asksForMore_68 rfl ?_
    exact s_zret0 rfl B d_WordCheck_asksForMore_72
set_option maxRecDepth 100000 in
set_option maxHeartbeats 4000000 in
theorem t_WordCheck_asksForMore_11b {k11 : Int32 × Int32 × Int32 × MS → Option (MS × Int32)} (B : xB p R s m args meth c b_WordCheck_asksForMore 5 R_WordCheck (Cond.code y_WordCheck_asksForMore b_WordCheck_asksForMore 5 (some .boolean) :: x_T) (some .boolean) 5 111 D x_cl (xty g) base) (hk11 : ∀ (l2 : Int32) (l3 : Int32) (l4 : Int32) (M : MS) , Sn p l e R s m args below meth c 5 D x_cl base (xwd g) cM x_gr az kz (xfc cM) (xZ below args s D x_cl (xty g) base (xwd g) cM x_gr az kz ovI) 11 [] [(0, .ref 75), (1, .ref 2), (2, .int l2), (3, .int l3), (4, .int l4)] M (k11 (l2, l3, l4, M))) (l2 : Int32) (l3 : Int32) (l4 : Int32) (M : MS)  : Sn p l e R s m args below meth c 5 D x_cl base (xwd g) cM x_gr az kz (xfc cM) (xZ below args s D x_cl (xty g) base (xwd g) cM x_gr az kz ovI) 11 [] [(0, .ref 75), (1, .ref 2), (2, .int l2), (3, .int l3), (4, .int l4)] M (m_WordCheck_asksForMore_11b k11 l2 l3 l4 M) := by
  unfold m_WordCheck_asksForMore_11b
  refine s_iload B d_WordCheck_asksForMore_11 rfl ?_
  refine s_aload_n B d_WordCheck_asksForMore_13 rfl ?_
  refine s_iload_n B d_WordCheck_asksForMore_14 rfl ?_
  refine s_pick (lv1 := [(0, .ref 75), (1, .ref 2), (2, .int l2), (3, .int l3), (4, .int l4)]) [0, 1, 2, 3, 4] rfl ?_
  refine s_callI (av := [.ref 2, .int l2]) (rest := [.int l4]) B (lk_V B d_WordCheck_asksForMore_15 (gl_WordCheck_81 _) rfl hv_Terms_countOf (by decide) (by decide)) rfl (x_rcV B xc_Terms kd_2) (fun _ _ => rfl) rfl rfl (by simp [Value.category]) rfl (fun r1 e9 => ct_Terms_countOf _ _ r1 e9) (fun r1 _ => ?_)
  refine s_icmp_ge B d_WordCheck_asksForMore_18 rfl (fun _ => ?_) (fun _ => ?_)
  · refine s_pick (lv1 := [(0, .ref 75), (3, .int l3)]) [0, 3] rfl ?_
    exact t_WordCheck_asksForMore_56 B l3 r1.1
  · refine s_aload_n B d_WordCheck_asksForMore_21 rfl ?_
    refine s_aload_n B d_WordCheck_asksForMore_22 rfl ?_
    refine s_aload_n B d_WordCheck_asksForMore_23 rfl ?_
    refine s_iload_n B d_WordCheck_asksForMore_24 rfl ?_
    refine s_iload B d_WordCheck_asksForMore_25 rfl ?_
    refine s_pick (lv1 := [(0, .ref 75), (1, .ref 2), (2, .int l2), (3, .int l3), (4, .int l4)]) [0, 1, 2, 3, 4] rfl ?_
    refine s_callI (av := [.ref 2, .int l2, .int l4]) (rest := [.ref 2, .ref 75]) B (lk_V B d_WordCheck_asksForMore_27 (gl_WordCheck_84 _) rfl hv_Terms_kid (by decide) (by decide)) rfl (x_rcV B xc_Terms kd_2) (fun _ _ => rfl) rfl rfl (by simp [Value.category]) rfl (fun r2 e9 => ct_Terms_kid _ _ _ r2 e9) (fun r2 _ => ?_)
    refine s_pick (lv1 := [(0, .ref 75), (1, .ref 2), (2, .int l2), (3, .int l3), (4, .int l4)]) [0, 1, 2, 3, 4] rfl ?_
    refine s_callI (av := [.ref 75, .ref 2, .int r2.2]) (rest := []) B (lk_V B d_WordCheck_asksForMore_30 (gl_WordCheck_62 _) rfl hv_WordCheck_isArranged (by decide) (by decide)) rfl (x_rcV B xc_WordCheck kd_75) (fun _ _ => rfl) rfl rfl (by simp [Value.category]) rfl (fun r3 e9 => ct_WordCheck_isArranged _ _ r3 e9) (fun r3 _ => ?_)
    refine s_if_ne B d_WordCheck_asksForMore_33 rfl (fun _ => ?_) (fun _ => ?_)
    · refine s_iinc (w := (1:Int32)) B d_WordCheck_asksForMore_50 rfl (by decide) (by decide) ?_
      refine s_goto B d_WordCheck_asksForMore_53 rfl ?_
      refine s_pick (lv1 := [(0, .ref 75), (1, .ref 2), (2, .int l2), (3, .int l3), (4, .int (l4 + (1:Int32)))]) [0, 1, 2, 3, 4] rfl ?_
      exact hk11 l2 l3 (l4 + (1:Int32)) r3.1
    · refine s_aload_n B d_WordCheck_asksForMore_36 rfl ?_
      refine s_getS (k := 2) (n := 78) B xc_WordCheck kd_75 (by decide) rfl rfl fl_WordCheck_21 sr_75_2 d_WordCheck_asksForMore_37 ?_
      refine s_aload_n B d_WordCheck_asksForMore_40 rfl ?_
      refine s_iload_n B d_WordCheck_asksForMore_41 rfl ?_
      refine s_iload B d_WordCheck_asksForMore_42 rfl ?_
      refine s_pick (lv1 := [(0, .ref 75), (1, .ref 2), (2, .int l2), (3, .int l3), (4, .int l4)]) [0, 1, 2, 3, 4] rfl ?_
      refine s_callI (av := [.ref 2, .int l2, .int l4]) (rest := [.ref 78]) B (lk_V B d_WordCheck_asksForMore_44 (gl_WordCheck_84 _) rfl hv_Terms_kid (by decide) (by decide)) rfl (x_rcV B xc_Terms kd_2) (fun _ _ => rfl) rfl rfl (by simp [Value.category]) rfl (fun r4 e9 => ct_Terms_kid _ _ _ r4 e9) (fun r4 _ => ?_)
      refine s_pick (lv1 := [(0, .ref 75), (1, .ref 2), (2, .int l2), (3, .int l3), (4, .int l4)]) [0, 1, 2, 3, 4] rfl ?_
      refine s_callU (av := [.ref 78, .int r4.2]) (rest := []) B (lk_V B d_WordCheck_asksForMore_47 (gl_WordCheck_49 _) rfl hv_Row_add (by decide) (by decide)) rfl (x_rcV B xc_Row kd_78) (fun _ h => h) rfl (by simp [xng, x_gr, kd_2, kd_75]) (by simp [Value.category]) rfl (fun r5 e9 => ct_Row_add _ _ _ r5 e9) (fun r5 _ => ?_)
      refine s_iinc (w := (1:Int32)) B d_WordCheck_asksForMore_50 rfl (by decide) (by decide) ?_
      refine s_goto B d_WordCheck_asksForMore_53 rfl ?_
      refine s_pick (lv1 := [(0, .ref 75), (1, .ref 2), (2, .int l2), (3, .int l3), (4, .int (l4 + (1:Int32)))]) [0, 1, 2, 3, 4] rfl ?_
      exact hk11 l2 l3 (l4 + (1:Int32)) r5.1
set_option maxRecDepth 100000 in
set_option maxHeartbeats 4000000 in
theorem t_WordCheck_asksForMore_11  (B : xB p R s m args meth c b_WordCheck_asksForMore 5 R_WordCheck (Cond.code y_WordCheck_asksForMore b_WordCheck_asksForMore 5 (some .boolean) :: x_T) (some .boolean) 5 111 D x_cl (xty g) base)  (l2 : Int32) (l3 : Int32) (l4 : Int32) (M : MS)  : Sn p l e R s m args below meth c 5 D x_cl base (xwd g) cM x_gr az kz (xfc cM) (xZ below args s D x_cl (xty g) base (xwd g) cM x_gr az kz ovI) 11 [] [(0, .ref 75), (1, .ref 2), (2, .int l2), (3, .int l3), (4, .int l4)] M (m_WordCheck_asksForMore_11 (l2, l3, l4, M)) := by
  have q : ∀ (F : Nat) (i : Int32 × Int32 × Int32 × MS), Sn p l e R s m args below meth c 5 D x_cl base (xwd g) cM x_gr az kz (xfc cM) (xZ below args s D x_cl (xty g) base (xwd g) cM x_gr az kz ovI) 11 [] [(0, .ref 75), (1, .ref 2), (2, .int i.1), (3, .int i.2.1), (4, .int i.2.2.1)] i.2.2.2 (fx (fun (k : Int32 × Int32 × Int32 × MS → Option (MS × Int32)) (i : Int32 × Int32 × Int32 × MS) => m_WordCheck_asksForMore_11b k i.1 i.2.1 i.2.2.1 i.2.2.2) F i) := by
    intro F
    induction F with
    | zero => intro i ; exact s_none
    | succ F ih => intro i ; exact t_WordCheck_asksForMore_11b B  (fun l2 l3 l4 M  => ih (l2, l3, l4, M) ) i.1 i.2.1 i.2.2.1 i.2.2.2 
  exact q FU (l2, l3, l4, M) 
set_option maxRecDepth 100000 in
set_option maxHeartbeats 4000000 in
theorem t_WordCheck_asksForMore (B : xB p R s m args meth c b_WordCheck_asksForMore 5 R_WordCheck (Cond.code y_WordCheck_asksForMore b_WordCheck_asksForMore 5 (some .boolean) :: x_T) (some .boolean) 5 111 D x_cl (xty g) base) (a2 : Int32) (M : MS) : Sn p l e R s m args below meth c 5 D x_cl base (xwd g) cM x_gr az kz (xfc cM) (xZ below args s D x_cl (xty g) base (xwd g) cM x_gr az kz ovI) 0 [] [(0, .ref 75), (1, .ref 2), (2, .int a2)] M (m_WordCheck_asksForMore a2 M) := by
  unfold m_WordCheck_asksForMore
  refine s_aload_n B d_WordCheck_asksForMore_0 rfl ?_
  refine s_getS (k := 2) (n := 78) B xc_WordCheck kd_75 (by decide) rfl rfl fl_WordCheck_21 sr_75_2 d_WordCheck_asksForMore_1 ?_
  refine s_pick (lv1 := [(0, .ref 75), (1, .ref 2), (2, .int a2)]) [0, 1, 2] rfl ?_
  refine s_callI (av := [.ref 78]) (rest := []) B (lk_V B d_WordCheck_asksForMore_4 (gl_WordCheck_54 _) rfl hv_Row_size (by decide) (by decide)) rfl (x_rcV B xc_Row kd_78) (fun _ _ => rfl) rfl rfl (by simp [Value.category]) rfl (fun r1 e9 => ct_Row_size _ _ r1 e9) (fun r1 _ => ?_)
  refine s_istore_n B d_WordCheck_asksForMore_7 (by decide) ?_
  refine s_iconst (v := (0:Int32)) B d_WordCheck_asksForMore_8 (by decide) ?_
  refine s_istore B d_WordCheck_asksForMore_9 (by decide) ?_
  refine s_pick (lv1 := [(0, .ref 75), (1, .ref 2), (2, .int a2), (3, .int r1.2), (4, .int (0:Int32))]) [0, 1, 2, 3, 4] rfl ?_
  exact t_WordCheck_asksForMore_11 B a2 r1.2 (0:Int32) r1.1
set_option maxRecDepth 100000 in
set_option maxHeartbeats 4000000 in
theorem ct_WordCheck_asksForMore {l : Launch} {D : va_G} {base : Nat} {g : Nat → ClassId} (a2 : Int32) (M : MS) (r : MS × Int32) (hr : m_WordCheck_asksForMore a2 M = some r) : Ct l y_WordCheck_asksForMore (Cond.code y_WordCheck_asksForMore b_WordCheck_asksForMore 5 (some .boolean) :: x_T) 5 111 D x_cl (xty g) base (xwd g) cM x_gr [.ref 75, .ref 2, .int a2] M r.1 (ovI r.2) :=
  x_met (ov := ovI) (by decide) (Nat.le_of_ble_eq_true rfl) (fun p e R s m args below meth c az B => t_WordCheck_asksForMore B a2 M) r hr
end
theorem d_Terms_setTag_0 : decode b_Terms_setTag 0 = .ok (.aload_n 0, 1) := by decide +kernel
theorem d_Terms_setTag_1 : decode b_Terms_setTag 1 = .ok (.getfield 33, 3) := by decide +kernel
theorem d_Terms_setTag_4 : decode b_Terms_setTag 4 = .ok (.iload_n 1, 1) := by decide +kernel
theorem d_Terms_setTag_5 : decode b_Terms_setTag 5 = .ok (.iload_n 2, 1) := by decide +kernel
theorem d_Terms_setTag_6 : decode b_Terms_setTag 6 = .ok (.iastore, 1) := by decide +kernel
theorem d_Terms_setTag_7 : decode b_Terms_setTag 7 = .ok (.return_, 1) := by decide +kernel
section
variable {p : Program} {l : Launch} {e : Env} {R : Room} {s : State} {m : MethodId} {args : Array Value} {below : List Frame} {meth : Method} {c : Code} {D : va_G} {base : Nat} {g : Nat → ClassId} {az : Nat → Nat} {kz : Nat × Nat}
set_option maxRecDepth 100000 in
set_option maxHeartbeats 4000000 in
theorem t_Terms_setTag (B : xB p R s m args meth c b_Terms_setTag 3 R_Terms (Cond.code y_Terms_setTag b_Terms_setTag 3 none :: x_T) none 0 0 D x_cl (xty g) base) (a1 : Int32) (a2 : Int32) (M : MS) : Sn p l e R s m args below meth c 3 D x_cl base (xwd g) cM x_g0 az kz (xfc cM) (xZ below args s D x_cl (xty g) base (xwd g) cM x_g0 az kz ovU) 0 [] [(0, .ref 2), (1, .int a1), (2, .int a2)] M (m_Terms_setTag a1 a2 M) := by
  unfold m_Terms_setTag
  refine s_aload_n B d_Terms_setTag_0 rfl ?_
  refine s_getS (k := 7) (n := 10) B xc_Terms kd_2 (by decide) rfl rfl fl_Terms_33 sr_2_7 d_Terms_setTag_1 ?_
  refine s_iload_n B d_Terms_setTag_4 rfl ?_
  refine s_iload_n B d_Terms_setTag_5 rfl ?_
  refine s_iast B (Or.inr kd_10) d_Terms_setTag_6 (fun M1 _ => ?_)
  exact s_vret B d_Terms_setTag_7
set_option maxRecDepth 100000 in
set_option maxHeartbeats 4000000 in
theorem ct_Terms_setTag {l : Launch} {D : va_G} {base : Nat} {g : Nat → ClassId} (a1 : Int32) (a2 : Int32) (M : MS) (r : MS × Unit) (hr : m_Terms_setTag a1 a2 M = some r) : Ct l y_Terms_setTag (Cond.code y_Terms_setTag b_Terms_setTag 3 none :: x_T) 0 0 D x_cl (xty g) base (xwd g) cM x_g0 [.ref 2, .int a1, .int a2] M r.1 (ovU r.2) :=
  x_met (ov := ovU) (by decide) (Nat.le_of_ble_eq_true rfl) (fun p e R s m args below meth c az B => t_Terms_setTag B a1 a2 M) r hr
end
theorem d_WordCheck_arrange_0 : decode b_WordCheck_arrange 0 = .ok (.aload_n 0, 1) := by decide +kernel
theorem d_WordCheck_arrange_1 : decode b_WordCheck_arrange 1 = .ok (.iconst (0), 1) := by decide +kernel
theorem d_WordCheck_arrange_2 : decode b_WordCheck_arrange 2 = .ok (.putfield 25, 3) := by decide +kernel
theorem d_WordCheck_arrange_5 : decode b_WordCheck_arrange 5 = .ok (.aload_n 0, 1) := by decide +kernel
theorem d_WordCheck_arrange_6 : decode b_WordCheck_arrange 6 = .ok (.getfield 21, 3) := by decide +kernel
theorem d_WordCheck_arrange_9 : decode b_WordCheck_arrange 9 = .ok (.invokevirtual 46, 3) := by decide +kernel
theorem d_WordCheck_arrange_12 : decode b_WordCheck_arrange 12 = .ok (.aload_n 0, 1) := by decide +kernel
theorem d_WordCheck_arrange_13 : decode b_WordCheck_arrange 13 = .ok (.getfield 21, 3) := by decide +kernel
theorem d_WordCheck_arrange_16 : decode b_WordCheck_arrange 16 = .ok (.iload_n 2, 1) := by decide +kernel
theorem d_WordCheck_arrange_17 : decode b_WordCheck_arrange 17 = .ok (.invokevirtual 49, 3) := by decide +kernel
theorem d_WordCheck_arrange_20 : decode b_WordCheck_arrange 20 = .ok (.iconst (0), 1) := by decide +kernel
theorem d_WordCheck_arrange_21 : decode b_WordCheck_arrange 21 = .ok (.istore_n 3, 1) := by decide +kernel
theorem d_WordCheck_arrange_22 : decode b_WordCheck_arrange 22 = .ok (.iload_n 3, 1) := by decide +kernel
theorem d_WordCheck_arrange_23 : decode b_WordCheck_arrange 23 = .ok (.ldc 53, 2) := by decide +kernel
theorem d_WordCheck_arrange_25 : decode b_WordCheck_arrange 25 = .ok (.if_icmp .ge (114), 3) := by decide +kernel
theorem d_WordCheck_arrange_28 : decode b_WordCheck_arrange 28 = .ok (.aload_n 0, 1) := by decide +kernel
theorem d_WordCheck_arrange_29 : decode b_WordCheck_arrange 29 = .ok (.getfield 21, 3) := by decide +kernel
theorem d_WordCheck_arrange_32 : decode b_WordCheck_arrange 32 = .ok (.invokevirtual 54, 3) := by decide +kernel
theorem d_WordCheck_arrange_35 : decode b_WordCheck_arrange 35 = .ok (.ifCond .le (104), 3) := by decide +kernel
theorem d_WordCheck_arrange_38 : decode b_WordCheck_arrange 38 = .ok (.aload_n 0, 1) := by decide +kernel
theorem d_WordCheck_arrange_39 : decode b_WordCheck_arrange 39 = .ok (.getfield 21, 3) := by decide +kernel
theorem d_WordCheck_arrange_42 : decode b_WordCheck_arrange 42 = .ok (.aload_n 0, 1) := by decide +kernel
theorem d_WordCheck_arrange_43 : decode b_WordCheck_arrange 43 = .ok (.getfield 21, 3) := by decide +kernel
theorem d_WordCheck_arrange_46 : decode b_WordCheck_arrange 46 = .ok (.invokevirtual 54, 3) := by decide +kernel
theorem d_WordCheck_arrange_49 : decode b_WordCheck_arrange 49 = .ok (.iconst (1), 1) := by decide +kernel
theorem d_WordCheck_arrange_50 : decode b_WordCheck_arrange 50 = .ok (.isub, 1) := by decide +kernel
theorem d_WordCheck_arrange_51 : decode b_WordCheck_arrange 51 = .ok (.invokevirtual 58, 3) := by decide +kernel
theorem d_WordCheck_arrange_54 : decode b_WordCheck_arrange 54 = .ok (.istore 4, 2) := by decide +kernel
theorem d_WordCheck_arrange_56 : decode b_WordCheck_arrange 56 = .ok (.aload_n 0, 1) := by decide +kernel
theorem d_WordCheck_arrange_57 : decode b_WordCheck_arrange 57 = .ok (.aload_n 1, 1) := by decide +kernel
theorem d_WordCheck_arrange_58 : decode b_WordCheck_arrange 58 = .ok (.iload 4, 2) := by decide +kernel
theorem d_WordCheck_arrange_60 : decode b_WordCheck_arrange 60 = .ok (.invokevirtual 62, 3) := by decide +kernel
theorem d_WordCheck_arrange_63 : decode b_WordCheck_arrange 63 = .ok (.ifCond .eq (13), 3) := by decide +kernel
theorem d_WordCheck_arrange_66 : decode b_WordCheck_arrange 66 = .ok (.aload_n 0, 1) := by decide +kernel
theorem d_WordCheck_arrange_67 : decode b_WordCheck_arrange 67 = .ok (.getfield 21, 3) := by decide +kernel
theorem d_WordCheck_arrange_70 : decode b_WordCheck_arrange 70 = .ok (.invokevirtual 66, 3) := by decide +kernel
theorem d_WordCheck_arrange_73 : decode b_WordCheck_arrange 73 = .ok (.goto (60), 3) := by decide +kernel
theorem d_WordCheck_arrange_76 : decode b_WordCheck_arrange 76 = .ok (.aload_n 0, 1) := by decide +kernel
theorem d_WordCheck_arrange_77 : decode b_WordCheck_arrange 77 = .ok (.aload_n 1, 1) := by decide +kernel
theorem d_WordCheck_arrange_78 : decode b_WordCheck_arrange 78 = .ok (.iload 4, 2) := by decide +kernel
theorem d_WordCheck_arrange_80 : decode b_WordCheck_arrange 80 = .ok (.invokevirtual 69, 3) := by decide +kernel
theorem d_WordCheck_arrange_83 : decode b_WordCheck_arrange 83 = .ok (.ifCond .ne (50), 3) := by decide +kernel
theorem d_WordCheck_arrange_86 : decode b_WordCheck_arrange 86 = .ok (.aload_n 0, 1) := by decide +kernel
theorem d_WordCheck_arrange_87 : decode b_WordCheck_arrange 87 = .ok (.getfield 25, 3) := by decide +kernel
theorem d_WordCheck_arrange_90 : decode b_WordCheck_arrange 90 = .ok (.bipush (100), 2) := by decide +kernel
theorem d_WordCheck_arrange_92 : decode b_WordCheck_arrange 92 = .ok (.if_icmp .ge (41), 3) := by decide +kernel
theorem d_WordCheck_arrange_95 : decode b_WordCheck_arrange 95 = .ok (.aload_n 0, 1) := by decide +kernel
theorem d_WordCheck_arrange_96 : decode b_WordCheck_arrange 96 = .ok (.getfield 9, 3) := by decide +kernel
theorem d_WordCheck_arrange_99 : decode b_WordCheck_arrange 99 = .ok (.aload_n 0, 1) := by decide +kernel
theorem d_WordCheck_arrange_100 : decode b_WordCheck_arrange 100 = .ok (.getfield 25, 3) := by decide +kernel
theorem d_WordCheck_arrange_103 : decode b_WordCheck_arrange 103 = .ok (.iload 4, 2) := by decide +kernel
theorem d_WordCheck_arrange_105 : decode b_WordCheck_arrange 105 = .ok (.iastore, 1) := by decide +kernel
theorem d_WordCheck_arrange_106 : decode b_WordCheck_arrange 106 = .ok (.aload_n 1, 1) := by decide +kernel
theorem d_WordCheck_arrange_107 : decode b_WordCheck_arrange 107 = .ok (.iload 4, 2) := by decide +kernel
theorem d_WordCheck_arrange_109 : decode b_WordCheck_arrange 109 = .ok (.aload_n 0, 1) := by decide +kernel
theorem d_WordCheck_arrange_110 : decode b_WordCheck_arrange 110 = .ok (.getfield 25, 3) := by decide +kernel
theorem d_WordCheck_arrange_113 : decode b_WordCheck_arrange 113 = .ok (.invokevirtual 72, 3) := by decide +kernel
theorem d_WordCheck_arrange_116 : decode b_WordCheck_arrange 116 = .ok (.aload_n 0, 1) := by decide +kernel
theorem d_WordCheck_arrange_117 : decode b_WordCheck_arrange 117 = .ok (.dup, 1) := by decide +kernel
theorem d_WordCheck_arrange_118 : decode b_WordCheck_arrange 118 = .ok (.getfield 25, 3) := by decide +kernel
theorem d_WordCheck_arrange_121 : decode b_WordCheck_arrange 121 = .ok (.iconst (1), 1) := by decide +kernel
theorem d_WordCheck_arrange_122 : decode b_WordCheck_arrange 122 = .ok (.iadd, 1) := by decide +kernel
theorem d_WordCheck_arrange_123 : decode b_WordCheck_arrange 123 = .ok (.putfield 25, 3) := by decide +kernel
theorem d_WordCheck_arrange_126 : decode b_WordCheck_arrange 126 = .ok (.aload_n 0, 1) := by decide +kernel
theorem d_WordCheck_arrange_127 : decode b_WordCheck_arrange 127 = .ok (.getfield 21, 3) := by decide +kernel
theorem d_WordCheck_arrange_130 : decode b_WordCheck_arrange 130 = .ok (.invokevirtual 66, 3) := by decide +kernel
theorem d_WordCheck_arrange_133 : decode b_WordCheck_arrange 133 = .ok (.iinc 3 (1), 3) := by decide +kernel
theorem d_WordCheck_arrange_136 : decode b_WordCheck_arrange 136 = .ok (.goto (-114), 3) := by decide +kernel
theorem d_WordCheck_arrange_139 : decode b_WordCheck_arrange 139 = .ok (.return_, 1) := by decide +kernel
section
variable {p : Program} {l : Launch} {e : Env} {R : Room} {s : State} {m : MethodId} {args : Array Value} {below : List Frame} {meth : Method} {c : Code} {D : va_G} {base : Nat} {g : Nat → ClassId} {az : Nat → Nat} {kz : Nat × Nat}
set_option maxRecDepth 100000 in
set_option maxHeartbeats 4000000 in
theorem t_WordCheck_arrange_22b {k22 : Int32 × MS → Option (MS × Unit)} (B : xB p R s m args meth c b_WordCheck_arrange 5 R_WordCheck (Cond.code y_WordCheck_arrange b_WordCheck_arrange 5 none :: x_T) none 6 135 D x_cl (xty g) base) (hk22 : ∀ (l3 : Int32) (M : MS) , Sn p l e R s m args below meth c 5 D x_cl base (xwd g) cM x_gr az kz (xfc cM) (xZ below args s D x_cl (xty g) base (xwd g) cM x_gr az kz ovU) 22 [] [(0, .ref 75), (1, .ref 2), (3, .int l3)] M (k22 (l3, M))) (l3 : Int32) (M : MS)  : Sn p l e R s m args below meth c 5 D x_cl base (xwd g) cM x_gr az kz (xfc cM) (xZ below args s D x_cl (xty g) base (xwd g) cM x_gr az kz ovU) 22 [] [(0, .ref 75), (1, .ref 2), (3, .int l3)] M (m_WordCheck_arrange_22b k22 l3 M) := by
  unfold m_WordCheck_arrange_22b
  refine s_iload_n B d_WordCheck_arrange_22 rfl ?_
  refine s_ldc (v := (1000000:Int32)) B d_WordCheck_arrange_23 (List.mem_cons_of_mem _ cs_WordCheck_53) ?_
  refine s_icmp_ge B d_WordCheck_arrange_25 rfl (fun _ => ?_) (fun _ => ?_)
  · exact s_vret B d_WordCheck_arrange_139
  · refine s_aload_n B d_WordCheck_arrange_28 rfl ?_
    refine s_getS (k := 2) (n := 78) B xc_WordCheck kd_75 (by decide) rfl rfl fl_WordCheck_21 sr_75_2 d_WordCheck_arrange_29 ?_
    refine s_pick (lv1 := [(0, .ref 75), (1, .ref 2), (3, .int l3)]) [0, 1, 3] rfl ?_
    refine s_callI (av := [.ref 78]) (rest := []) B (lk_V B d_WordCheck_arrange_32 (gl_WordCheck_54 _) rfl hv_Row_size (by decide) (by decide)) rfl (x_rcV B xc_Row kd_78) (fun _ _ => rfl) rfl rfl (by simp [Value.category]) rfl (fun r1 e9 => ct_Row_size _ _ r1 e9) (fun r1 _ => ?_)
    refine s_if_le B d_WordCheck_arrange_35 rfl (fun _ => ?_) (fun _ => ?_)
    · exact s_vret B d_WordCheck_arrange_139
    · refine s_aload_n B d_WordCheck_arrange_38 rfl ?_
      refine s_getS (k := 2) (n := 78) B xc_WordCheck kd_75 (by decide) rfl rfl fl_WordCheck_21 sr_75_2 d_WordCheck_arrange_39 ?_
      refine s_aload_n B d_WordCheck_arrange_42 rfl ?_
      refine s_getS (k := 2) (n := 78) B xc_WordCheck kd_75 (by decide) rfl rfl fl_WordCheck_21 sr_75_2 d_WordCheck_arrange_43 ?_
      refine s_pick (lv1 := [(0, .ref 75), (1, .ref 2), (3, .int l3)]) [0, 1, 3] rfl ?_
      refine s_callI (av := [.ref 78]) (rest := [.ref 78]) B (lk_V B d_WordCheck_arrange_46 (gl_WordCheck_54 _) rfl hv_Row_size (by decide) (by decide)) rfl (x_rcV B xc_Row kd_78) (fun _ _ => rfl) rfl rfl (by simp [Value.category]) rfl (fun r2 e9 => ct_Row_size _ _ r2 e9) (fun r2 _ => ?_)
      refine s_iconst (v := (1:Int32)) B d_WordCheck_arrange_49 (by decide) ?_
      refine s_isub B d_WordCheck_arrange_50 ?_
      refine s_pick (lv1 := [(0, .ref 75), (1, .ref 2), (3, .int l3)]) [0, 1, 3] rfl ?_
      refine s_callI (av := [.ref 78, .int (r2.2 - (1:Int32))]) (rest := []) B (lk_V B d_WordCheck_arrange_51 (gl_WordCheck_58 _) rfl hv_Row_get (by decide) (by decide)) rfl (x_rcV B xc_Row kd_78) (fun _ _ => rfl) rfl rfl (by simp [Value.category]) rfl (fun r3 e9 => ct_Row_get _ _ _ r3 e9) (fun r3 _ => ?_)
      refine s_istore B d_WordCheck_arrange_54 (by decide) ?_
      refine s_aload_n B d_WordCheck_arrange_56 rfl ?_
      refine s_aload_n B d_WordCheck_arrange_57 rfl ?_
      refine s_iload B d_WordCheck_arrange_58 rfl ?_
      refine s_pick (lv1 := [(0, .ref 75), (1, .ref 2), (3, .int l3), (4, .int r3.2)]) [0, 1, 3, 4] rfl ?_
      refine s_callI (av := [.ref 75, .ref 2, .int r3.2]) (rest := []) B (lk_V B d_WordCheck_arrange_60 (gl_WordCheck_62 _) rfl hv_WordCheck_isArranged (by decide) (by decide)) rfl (x_rcV B xc_WordCheck kd_75) (fun _ _ => rfl) rfl rfl (by simp [Value.category]) rfl (fun r4 e9 => ct_WordCheck_isArranged _ _ r4 e9) (fun r4 _ => ?_)
      refine s_if_eq B d_WordCheck_arrange_63 rfl (fun _ => ?_) (fun _ => ?_)
      · refine s_aload_n B d_WordCheck_arrange_76 rfl ?_
        refine s_aload_n B d_WordCheck_arrange_77 rfl ?_
        refine s_iload B d_WordCheck_arrange_78 rfl ?_
        refine s_pick (lv1 := [(0, .ref 75), (1, .ref 2), (3, .int l3), (4, .int r3.2)]) [0, 1, 3, 4] rfl ?_
        refine s_callI (av := [.ref 75, .ref 2, .int r3.2]) (rest := []) B (lk_V B d_WordCheck_arrange_80 (gl_WordCheck_69 _) rfl hv_WordCheck_asksForMore (by decide) (by decide)) rfl (x_rcV B xc_WordCheck kd_75) (fun _ h => h) rfl (by simp [xng, x_gr, kd_2, kd_75]) (by simp [Value.category]) rfl (fun r5 e9 => ct_WordCheck_asksForMore _ _ r5 e9) (fun r5 _ => ?_)
        refine s_if_ne B d_WordCheck_arrange_83 rfl (fun _ => ?_) (fun _ => ?_)
        · refine s_iinc (w := (1:Int32)) B d_WordCheck_arrange_133 rfl (by decide) (by decide) ?_
          refine s_goto B d_WordCheck_arrange_136 rfl ?_
          refine s_pick (lv1 := [(0, .ref 75), (1, .ref 2), (3, .int (l3 + (1:Int32)))]) [0, 1, 3] rfl ?_
          exact hk22 (l3 + (1:Int32)) r5.1
        · refine s_aload_n B d_WordCheck_arrange_86 rfl ?_
          refine s_getI (k := 3) B xc_WordCheck kd_75 (by decide) rfl rfl fl_WordCheck_25 d_WordCheck_arrange_87 ?_
          refine s_bipush (v := (100:Int32)) B d_WordCheck_arrange_90 (by decide) ?_
          refine s_icmp_ge B d_WordCheck_arrange_92 rfl (fun _ => ?_) (fun _ => ?_)
          · refine s_iinc (w := (1:Int32)) B d_WordCheck_arrange_133 rfl (by decide) (by decide) ?_
            refine s_goto B d_WordCheck_arrange_136 rfl ?_
            refine s_pick (lv1 := [(0, .ref 75), (1, .ref 2), (3, .int (l3 + (1:Int32)))]) [0, 1, 3] rfl ?_
            exact hk22 (l3 + (1:Int32)) r5.1
          · refine s_aload_n B d_WordCheck_arrange_95 rfl ?_
            refine s_getS (k := 0) (n := 76) B xc_WordCheck kd_75 (by decide) rfl rfl fl_WordCheck_9 sr_75_0 d_WordCheck_arrange_96 ?_
            refine s_aload_n B d_WordCheck_arrange_99 rfl ?_
            refine s_getI (k := 3) B xc_WordCheck kd_75 (by decide) rfl rfl fl_WordCheck_25 d_WordCheck_arrange_100 ?_
            refine s_iload B d_WordCheck_arrange_103 rfl ?_
            refine s_iast B (Or.inl kd_76) d_WordCheck_arrange_105 (fun M6 _ => ?_)
            refine s_aload_n B d_WordCheck_arrange_106 rfl ?_
            refine s_iload B d_WordCheck_arrange_107 rfl ?_
            refine s_aload_n B d_WordCheck_arrange_109 rfl ?_
            refine s_getI (k := 3) B xc_WordCheck kd_75 (by decide) rfl rfl fl_WordCheck_25 d_WordCheck_arrange_110 ?_
            refine s_pick (lv1 := [(0, .ref 75), (1, .ref 2), (3, .int l3)]) [0, 1, 3] rfl ?_
            refine s_callU (av := [.ref 2, .int r3.2, .int (gI M6 75 3)]) (rest := []) B (lk_V B d_WordCheck_arrange_113 (gl_WordCheck_72 _) rfl hv_Terms_setTag (by decide) (by decide)) rfl (x_rcV B xc_Terms kd_2) (fun _ _ => rfl) rfl rfl (by simp [Value.category]) rfl (fun r7 e9 => ct_Terms_setTag _ _ _ r7 e9) (fun r7 _ => ?_)
            refine s_aload_n B d_WordCheck_arrange_116 rfl ?_
            refine s_dup B d_WordCheck_arrange_117 rfl ?_
            refine s_getI (k := 3) B xc_WordCheck kd_75 (by decide) rfl rfl fl_WordCheck_25 d_WordCheck_arrange_118 ?_
            refine s_iconst (v := (1:Int32)) B d_WordCheck_arrange_121 (by decide) ?_
            refine s_iadd B d_WordCheck_arrange_122 ?_
            refine s_putI (k := 3) (ty := .int) B xc_WordCheck kd_75 (by decide) rfl rfl fl_WordCheck_25 rfl rfl rfl rfl d_WordCheck_arrange_123 (fun M8 _ => ?_)
            refine s_aload_n B d_WordCheck_arrange_126 rfl ?_
            refine s_getS (k := 2) (n := 78) B xc_WordCheck kd_75 (by decide) rfl rfl fl_WordCheck_21 sr_75_2 d_WordCheck_arrange_127 ?_
            refine s_pick (lv1 := [(0, .ref 75), (1, .ref 2), (3, .int l3)]) [0, 1, 3] rfl ?_
            refine s_callU (av := [.ref 78]) (rest := []) B (lk_V B d_WordCheck_arrange_130 (gl_WordCheck_66 _) rfl hv_Row_dropLast (by decide) (by decide)) rfl (x_rcV B xc_Row kd_78) (fun _ _ => rfl) rfl rfl (by simp [Value.category]) rfl (fun r9 e9 => ct_Row_dropLast _ _ r9 e9) (fun r9 _ => ?_)
            refine s_iinc (w := (1:Int32)) B d_WordCheck_arrange_133 rfl (by decide) (by decide) ?_
            refine s_goto B d_WordCheck_arrange_136 rfl ?_
            refine s_pick (lv1 := [(0, .ref 75), (1, .ref 2), (3, .int (l3 + (1:Int32)))]) [0, 1, 3] rfl ?_
            exact hk22 (l3 + (1:Int32)) r9.1
      · refine s_aload_n B d_WordCheck_arrange_66 rfl ?_
        refine s_getS (k := 2) (n := 78) B xc_WordCheck kd_75 (by decide) rfl rfl fl_WordCheck_21 sr_75_2 d_WordCheck_arrange_67 ?_
        refine s_pick (lv1 := [(0, .ref 75), (1, .ref 2), (3, .int l3)]) [0, 1, 3] rfl ?_
        refine s_callU (av := [.ref 78]) (rest := []) B (lk_V B d_WordCheck_arrange_70 (gl_WordCheck_66 _) rfl hv_Row_dropLast (by decide) (by decide)) rfl (x_rcV B xc_Row kd_78) (fun _ _ => rfl) rfl rfl (by simp [Value.category]) rfl (fun r10 e9 => ct_Row_dropLast _ _ r10 e9) (fun r10 _ => ?_)
        refine s_goto B d_WordCheck_arrange_73 rfl ?_
        refine s_iinc (w := (1:Int32)) B d_WordCheck_arrange_133 rfl (by decide) (by decide) ?_
        refine s_goto B d_WordCheck_arrange_136 rfl ?_
        refine s_pick (lv1 := [(0, .ref 75), (1, .ref 2), (3, .int (l3 + (1:Int32)))]) [0, 1, 3] rfl ?_
        exact hk22 (l3 + (1:Int32)) r10.1
set_option maxRecDepth 100000 in
set_option maxHeartbeats 4000000 in
theorem t_WordCheck_arrange_22  (B : xB p R s m args meth c b_WordCheck_arrange 5 R_WordCheck (Cond.code y_WordCheck_arrange b_WordCheck_arrange 5 none :: x_T) none 6 135 D x_cl (xty g) base)  (l3 : Int32) (M : MS)  : Sn p l e R s m args below meth c 5 D x_cl base (xwd g) cM x_gr az kz (xfc cM) (xZ below args s D x_cl (xty g) base (xwd g) cM x_gr az kz ovU) 22 [] [(0, .ref 75), (1, .ref 2), (3, .int l3)] M (m_WordCheck_arrange_22 (l3, M)) := by
  have q : ∀ (F : Nat) (i : Int32 × MS), Sn p l e R s m args below meth c 5 D x_cl base (xwd g) cM x_gr az kz (xfc cM) (xZ below args s D x_cl (xty g) base (xwd g) cM x_gr az kz ovU) 22 [] [(0, .ref 75), (1, .ref 2), (3, .int i.1)] i.2 (fx (fun (k : Int32 × MS → Option (MS × Unit)) (i : Int32 × MS) => m_WordCheck_arrange_22b k i.1 i.2) F i) := by
    intro F
    induction F with
    | zero => intro i ; exact s_none
    | succ F ih => intro i ; exact t_WordCheck_arrange_22b B  (fun l3 M  => ih (l3, M) ) i.1 i.2 
  exact q FU (l3, M) 
set_option maxRecDepth 100000 in
set_option maxHeartbeats 4000000 in
theorem t_WordCheck_arrange (B : xB p R s m args meth c b_WordCheck_arrange 5 R_WordCheck (Cond.code y_WordCheck_arrange b_WordCheck_arrange 5 none :: x_T) none 6 135 D x_cl (xty g) base) (a2 : Int32) (M : MS) : Sn p l e R s m args below meth c 5 D x_cl base (xwd g) cM x_gr az kz (xfc cM) (xZ below args s D x_cl (xty g) base (xwd g) cM x_gr az kz ovU) 0 [] [(0, .ref 75), (1, .ref 2), (2, .int a2)] M (m_WordCheck_arrange a2 M) := by
  unfold m_WordCheck_arrange
  refine s_aload_n B d_WordCheck_arrange_0 rfl ?_
  refine s_iconst (v := (0:Int32)) B d_WordCheck_arrange_1 (by decide) ?_
  refine s_putI (k := 3) (ty := .int) B xc_WordCheck kd_75 (by decide) rfl rfl fl_WordCheck_25 rfl rfl rfl rfl d_WordCheck_arrange_2 (fun M1 _ => ?_)
  refine s_aload_n B d_WordCheck_arrange_5 rfl ?_
  refine s_getS (k := 2) (n := 78) B xc_WordCheck kd_75 (by decide) rfl rfl fl_WordCheck_21 sr_75_2 d_WordCheck_arrange_6 ?_
  refine s_pick (lv1 := [(0, .ref 75), (1, .ref 2), (2, .int a2)]) [0, 1, 2] rfl ?_
  refine s_callU (av := [.ref 78]) (rest := []) B (lk_V B d_WordCheck_arrange_9 (gl_WordCheck_46 _) rfl hv_Row_clear (by decide) (by decide)) rfl (x_rcV B xc_Row kd_78) (fun _ _ => rfl) rfl rfl (by simp [Value.category]) rfl (fun r2 e9 => ct_Row_clear _ _ r2 e9) (fun r2 _ => ?_)
  refine s_aload_n B d_WordCheck_arrange_12 rfl ?_
  refine s_getS (k := 2) (n := 78) B xc_WordCheck kd_75 (by decide) rfl rfl fl_WordCheck_21 sr_75_2 d_WordCheck_arrange_13 ?_
  refine s_iload_n B d_WordCheck_arrange_16 rfl ?_
  refine s_pick (lv1 := [(0, .ref 75), (1, .ref 2)]) [0, 1] rfl ?_
  refine s_callU (av := [.ref 78, .int a2]) (rest := []) B (lk_V B d_WordCheck_arrange_17 (gl_WordCheck_49 _) rfl hv_Row_add (by decide) (by decide)) rfl (x_rcV B xc_Row kd_78) (fun _ h => h) rfl (by simp [xng, x_gr, kd_2, kd_75]) (by simp [Value.category]) rfl (fun r3 e9 => ct_Row_add _ _ _ r3 e9) (fun r3 _ => ?_)
  refine s_iconst (v := (0:Int32)) B d_WordCheck_arrange_20 (by decide) ?_
  refine s_istore_n B d_WordCheck_arrange_21 (by decide) ?_
  refine s_pick (lv1 := [(0, .ref 75), (1, .ref 2), (3, .int (0:Int32))]) [0, 1, 3] rfl ?_
  exact t_WordCheck_arrange_22 B (0:Int32) r3.1
set_option maxRecDepth 100000 in
set_option maxHeartbeats 4000000 in
theorem ct_WordCheck_arrange {l : Launch} {D : va_G} {base : Nat} {g : Nat → ClassId} (a2 : Int32) (M : MS) (r : MS × Unit) (hr : m_WordCheck_arrange a2 M = some r) : Ct l y_WordCheck_arrange (Cond.code y_WordCheck_arrange b_WordCheck_arrange 5 none :: x_T) 6 135 D x_cl (xty g) base (xwd g) cM x_gr [.ref 75, .ref 2, .int a2] M r.1 (ovU r.2) :=
  x_met (ov := ovU) (by decide) (Nat.le_of_ble_eq_true rfl) (fun p e R s m args below meth c az B => t_WordCheck_arrange B a2 M) r hr
end
theorem d_Terms_sortOf_0 : decode b_Terms_sortOf 0 = .ok (.aload_n 0, 1) := by decide +kernel
theorem d_Terms_sortOf_1 : decode b_Terms_sortOf 1 = .ok (.getfield 11, 3) := by decide +kernel
theorem d_Terms_sortOf_4 : decode b_Terms_sortOf 4 = .ok (.iload_n 1, 1) := by decide +kernel
theorem d_Terms_sortOf_5 : decode b_Terms_sortOf 5 = .ok (.iaload, 1) := by decide +kernel
theorem d_Terms_sortOf_6 : decode b_Terms_sortOf 6 = .ok (.ireturn, 1) := by decide +kernel
section
variable {p : Program} {l : Launch} {e : Env} {R : Room} {s : State} {m : MethodId} {args : Array Value} {below : List Frame} {meth : Method} {c : Code} {D : va_G} {base : Nat} {g : Nat → ClassId} {az : Nat → Nat} {kz : Nat × Nat}
set_option maxRecDepth 100000 in
set_option maxHeartbeats 4000000 in
theorem t_Terms_sortOf (B : xB p R s m args meth c b_Terms_sortOf 2 R_Terms (Cond.code y_Terms_sortOf b_Terms_sortOf 2 (some .int) :: x_T) (some .int) 0 0 D x_cl (xty g) base) (a1 : Int32) (M : MS) : Sn p l e R s m args below meth c 2 D x_cl base (xwd g) cM x_g0 az kz (xfc cM) (xZ below args s D x_cl (xty g) base (xwd g) cM x_g0 az kz ovI) 0 [] [(0, .ref 2), (1, .int a1)] M (m_Terms_sortOf a1 M) := by
  unfold m_Terms_sortOf
  refine s_aload_n B d_Terms_sortOf_0 rfl ?_
  refine s_getS (k := 0) (n := 3) B xc_Terms kd_2 (by decide) rfl rfl fl_Terms_11 sr_2_0 d_Terms_sortOf_1 ?_
  refine s_iload_n B d_Terms_sortOf_4 rfl ?_
  refine s_iald B (Or.inr kd_3) d_Terms_sortOf_5 (fun v1 _ => ?_)
  exact s_iret B d_Terms_sortOf_6
set_option maxRecDepth 100000 in
set_option maxHeartbeats 4000000 in
theorem ct_Terms_sortOf {l : Launch} {D : va_G} {base : Nat} {g : Nat → ClassId} (a1 : Int32) (M : MS) (r : MS × Int32) (hr : m_Terms_sortOf a1 M = some r) : Ct l y_Terms_sortOf (Cond.code y_Terms_sortOf b_Terms_sortOf 2 (some .int) :: x_T) 0 0 D x_cl (xty g) base (xwd g) cM x_g0 [.ref 2, .int a1] M r.1 (ovI r.2) :=
  x_met (ov := ovI) (by decide) (Nat.le_of_ble_eq_true rfl) (fun p e R s m args below meth c az B => t_Terms_sortOf B a1 M) r hr
end
theorem d_WordCheck_letterAt_0 : decode b_WordCheck_letterAt 0 = .ok (.aload_n 0, 1) := by decide +kernel
theorem d_WordCheck_letterAt_1 : decode b_WordCheck_letterAt 1 = .ok (.getfield 29, 3) := by decide +kernel
theorem d_WordCheck_letterAt_4 : decode b_WordCheck_letterAt 4 = .ok (.iconst (2), 1) := by decide +kernel
theorem d_WordCheck_letterAt_5 : decode b_WordCheck_letterAt 5 = .ok (.aload_n 0, 1) := by decide +kernel
theorem d_WordCheck_letterAt_6 : decode b_WordCheck_letterAt 6 = .ok (.getfield 32, 3) := by decide +kernel
theorem d_WordCheck_letterAt_9 : decode b_WordCheck_letterAt 9 = .ok (.iconst (1), 1) := by decide +kernel
theorem d_WordCheck_letterAt_10 : decode b_WordCheck_letterAt 10 = .ok (.isub, 1) := by decide +kernel
theorem d_WordCheck_letterAt_11 : decode b_WordCheck_letterAt 11 = .ok (.iload_n 1, 1) := by decide +kernel
theorem d_WordCheck_letterAt_12 : decode b_WordCheck_letterAt 12 = .ok (.isub, 1) := by decide +kernel
theorem d_WordCheck_letterAt_13 : decode b_WordCheck_letterAt 13 = .ok (.imul, 1) := by decide +kernel
theorem d_WordCheck_letterAt_14 : decode b_WordCheck_letterAt 14 = .ok (.iushr, 1) := by decide +kernel
theorem d_WordCheck_letterAt_15 : decode b_WordCheck_letterAt 15 = .ok (.iconst (3), 1) := by decide +kernel
theorem d_WordCheck_letterAt_16 : decode b_WordCheck_letterAt 16 = .ok (.iand, 1) := by decide +kernel
theorem d_WordCheck_letterAt_17 : decode b_WordCheck_letterAt 17 = .ok (.ireturn, 1) := by decide +kernel
section
variable {p : Program} {l : Launch} {e : Env} {R : Room} {s : State} {m : MethodId} {args : Array Value} {below : List Frame} {meth : Method} {c : Code} {D : va_G} {base : Nat} {g : Nat → ClassId} {az : Nat → Nat} {kz : Nat × Nat}
set_option maxRecDepth 100000 in
set_option maxHeartbeats 4000000 in
theorem t_WordCheck_letterAt (B : xB p R s m args meth c b_WordCheck_letterAt 2 R_WordCheck (Cond.code y_WordCheck_letterAt b_WordCheck_letterAt 2 (some .int) :: x_T) (some .int) 0 0 D x_cl (xty g) base) (a1 : Int32) (M : MS) : Sn p l e R s m args below meth c 2 D x_cl base (xwd g) cM x_g0 az kz (xfc cM) (xZ below args s D x_cl (xty g) base (xwd g) cM x_g0 az kz ovI) 0 [] [(0, .ref 75), (1, .int a1)] M (m_WordCheck_letterAt a1 M) := by
  unfold m_WordCheck_letterAt
  refine s_aload_n B d_WordCheck_letterAt_0 rfl ?_
  refine s_getI (k := 4) B xc_WordCheck kd_75 (by decide) rfl rfl fl_WordCheck_29 d_WordCheck_letterAt_1 ?_
  refine s_iconst (v := (2:Int32)) B d_WordCheck_letterAt_4 (by decide) ?_
  refine s_aload_n B d_WordCheck_letterAt_5 rfl ?_
  refine s_getI (k := 5) B xc_WordCheck kd_75 (by decide) rfl rfl fl_WordCheck_32 d_WordCheck_letterAt_6 ?_
  refine s_iconst (v := (1:Int32)) B d_WordCheck_letterAt_9 (by decide) ?_
  refine s_isub B d_WordCheck_letterAt_10 ?_
  refine s_iload_n B d_WordCheck_letterAt_11 rfl ?_
  refine s_isub B d_WordCheck_letterAt_12 ?_
  refine s_imul B d_WordCheck_letterAt_13 ?_
  refine s_iushr B d_WordCheck_letterAt_14 ?_
  refine s_iconst (v := (3:Int32)) B d_WordCheck_letterAt_15 (by decide) ?_
  refine s_iand B d_WordCheck_letterAt_16 ?_
  exact s_iret B d_WordCheck_letterAt_17
set_option maxRecDepth 100000 in
set_option maxHeartbeats 4000000 in
theorem ct_WordCheck_letterAt {l : Launch} {D : va_G} {base : Nat} {g : Nat → ClassId} (a1 : Int32) (M : MS) (r : MS × Int32) (hr : m_WordCheck_letterAt a1 M = some r) : Ct l y_WordCheck_letterAt (Cond.code y_WordCheck_letterAt b_WordCheck_letterAt 2 (some .int) :: x_T) 0 0 D x_cl (xty g) base (xwd g) cM x_g0 [.ref 75, .int a1] M r.1 (ovI r.2) :=
  x_met (ov := ovI) (by decide) (Nat.le_of_ble_eq_true rfl) (fun p e R s m args below meth c az B => t_WordCheck_letterAt B a1 M) r hr
end
theorem d_WordCheck_endBitsOf_0 : decode b_WordCheck_endBitsOf 0 = .ok (.aload_n 0, 1) := by decide +kernel
theorem d_WordCheck_endBitsOf_1 : decode b_WordCheck_endBitsOf 1 = .ok (.getfield 15, 3) := by decide +kernel
theorem d_WordCheck_endBitsOf_4 : decode b_WordCheck_endBitsOf 4 = .ok (.aload_n 1, 1) := by decide +kernel
theorem d_WordCheck_endBitsOf_5 : decode b_WordCheck_endBitsOf 5 = .ok (.iload_n 2, 1) := by decide +kernel
theorem d_WordCheck_endBitsOf_6 : decode b_WordCheck_endBitsOf 6 = .ok (.invokevirtual 78, 3) := by decide +kernel
theorem d_WordCheck_endBitsOf_9 : decode b_WordCheck_endBitsOf 9 = .ok (.bipush (17), 2) := by decide +kernel
theorem d_WordCheck_endBitsOf_11 : decode b_WordCheck_endBitsOf 11 = .ok (.imul, 1) := by decide +kernel
theorem d_WordCheck_endBitsOf_12 : decode b_WordCheck_endBitsOf 12 = .ok (.iload_n 3, 1) := by decide +kernel
theorem d_WordCheck_endBitsOf_13 : decode b_WordCheck_endBitsOf 13 = .ok (.iadd, 1) := by decide +kernel
theorem d_WordCheck_endBitsOf_14 : decode b_WordCheck_endBitsOf 14 = .ok (.iaload, 1) := by decide +kernel
theorem d_WordCheck_endBitsOf_15 : decode b_WordCheck_endBitsOf 15 = .ok (.ireturn, 1) := by decide +kernel
section
variable {p : Program} {l : Launch} {e : Env} {R : Room} {s : State} {m : MethodId} {args : Array Value} {below : List Frame} {meth : Method} {c : Code} {D : va_G} {base : Nat} {g : Nat → ClassId} {az : Nat → Nat} {kz : Nat × Nat}
set_option maxRecDepth 100000 in
set_option maxHeartbeats 4000000 in
theorem t_WordCheck_endBitsOf (B : xB p R s m args meth c b_WordCheck_endBitsOf 4 R_WordCheck (Cond.code y_WordCheck_endBitsOf b_WordCheck_endBitsOf 4 (some .int) :: x_T) (some .int) 1 21 D x_cl (xty g) base) (a2 : Int32) (a3 : Int32) (M : MS) : Sn p l e R s m args below meth c 4 D x_cl base (xwd g) cM x_g0 az kz (xfc cM) (xZ below args s D x_cl (xty g) base (xwd g) cM x_g0 az kz ovI) 0 [] [(0, .ref 75), (1, .ref 2), (2, .int a2), (3, .int a3)] M (m_WordCheck_endBitsOf a2 a3 M) := by
  unfold m_WordCheck_endBitsOf
  refine s_aload_n B d_WordCheck_endBitsOf_0 rfl ?_
  refine s_getS (k := 1) (n := 77) B xc_WordCheck kd_75 (by decide) rfl rfl fl_WordCheck_15 sr_75_1 d_WordCheck_endBitsOf_1 ?_
  refine s_aload_n B d_WordCheck_endBitsOf_4 rfl ?_
  refine s_iload_n B d_WordCheck_endBitsOf_5 rfl ?_
  refine s_pick (lv1 := [(3, .int a3)]) [3] rfl ?_
  refine s_callI (av := [.ref 2, .int a2]) (rest := [.ref 77]) B (lk_V B d_WordCheck_endBitsOf_6 (gl_WordCheck_78 _) rfl hv_Terms_tagOf (by decide) (by decide)) rfl (x_rcV B xc_Terms kd_2) (fun _ _ => rfl) rfl rfl (by simp [Value.category]) rfl (fun r1 e9 => ct_Terms_tagOf _ _ r1 e9) (fun r1 _ => ?_)
  refine s_bipush (v := (17:Int32)) B d_WordCheck_endBitsOf_9 (by decide) ?_
  refine s_imul B d_WordCheck_endBitsOf_11 ?_
  refine s_iload_n B d_WordCheck_endBitsOf_12 rfl ?_
  refine s_iadd B d_WordCheck_endBitsOf_13 ?_
  refine s_iald B (Or.inl kd_77) d_WordCheck_endBitsOf_14 (fun v2 _ => ?_)
  exact s_iret B d_WordCheck_endBitsOf_15
set_option maxRecDepth 100000 in
set_option maxHeartbeats 4000000 in
theorem ct_WordCheck_endBitsOf {l : Launch} {D : va_G} {base : Nat} {g : Nat → ClassId} (a2 : Int32) (a3 : Int32) (M : MS) (r : MS × Int32) (hr : m_WordCheck_endBitsOf a2 a3 M = some r) : Ct l y_WordCheck_endBitsOf (Cond.code y_WordCheck_endBitsOf b_WordCheck_endBitsOf 4 (some .int) :: x_T) 1 21 D x_cl (xty g) base (xwd g) cM x_g0 [.ref 75, .ref 2, .int a2, .int a3] M r.1 (ovI r.2) :=
  x_met (ov := ovI) (by decide) (Nat.le_of_ble_eq_true rfl) (fun p e R s m args below meth c az B => t_WordCheck_endBitsOf B a2 a3 M) r hr
end
theorem d_WordCheck_goneOn_0 : decode b_WordCheck_goneOn 0 = .ok (.iconst (0), 1) := by decide +kernel
theorem d_WordCheck_goneOn_1 : decode b_WordCheck_goneOn 1 = .ok (.istore 4, 2) := by decide +kernel
theorem d_WordCheck_goneOn_3 : decode b_WordCheck_goneOn 3 = .ok (.iconst (0), 1) := by decide +kernel
theorem d_WordCheck_goneOn_4 : decode b_WordCheck_goneOn 4 = .ok (.istore 5, 2) := by decide +kernel
theorem d_WordCheck_goneOn_6 : decode b_WordCheck_goneOn 6 = .ok (.iload 5, 2) := by decide +kernel
theorem d_WordCheck_goneOn_8 : decode b_WordCheck_goneOn 8 = .ok (.aload_n 0, 1) := by decide +kernel
theorem d_WordCheck_goneOn_9 : decode b_WordCheck_goneOn 9 = .ok (.getfield 32, 3) := by decide +kernel
theorem d_WordCheck_goneOn_12 : decode b_WordCheck_goneOn 12 = .ok (.if_icmp .gt (32), 3) := by decide +kernel
theorem d_WordCheck_goneOn_15 : decode b_WordCheck_goneOn 15 = .ok (.iload_n 2, 1) := by decide +kernel
theorem d_WordCheck_goneOn_16 : decode b_WordCheck_goneOn 16 = .ok (.iload 5, 2) := by decide +kernel
theorem d_WordCheck_goneOn_18 : decode b_WordCheck_goneOn 18 = .ok (.ishr, 1) := by decide +kernel
theorem d_WordCheck_goneOn_19 : decode b_WordCheck_goneOn 19 = .ok (.iconst (1), 1) := by decide +kernel
theorem d_WordCheck_goneOn_20 : decode b_WordCheck_goneOn 20 = .ok (.iand, 1) := by decide +kernel
theorem d_WordCheck_goneOn_21 : decode b_WordCheck_goneOn 21 = .ok (.iconst (1), 1) := by decide +kernel
theorem d_WordCheck_goneOn_22 : decode b_WordCheck_goneOn 22 = .ok (.if_icmp .ne (16), 3) := by decide +kernel
theorem d_WordCheck_goneOn_25 : decode b_WordCheck_goneOn 25 = .ok (.iload 4, 2) := by decide +kernel
theorem d_WordCheck_goneOn_27 : decode b_WordCheck_goneOn 27 = .ok (.aload_n 0, 1) := by decide +kernel
theorem d_WordCheck_goneOn_28 : decode b_WordCheck_goneOn 28 = .ok (.aload_n 1, 1) := by decide +kernel
theorem d_WordCheck_goneOn_29 : decode b_WordCheck_goneOn 29 = .ok (.iload_n 3, 1) := by decide +kernel
theorem d_WordCheck_goneOn_30 : decode b_WordCheck_goneOn 30 = .ok (.iload 5, 2) := by decide +kernel
theorem d_WordCheck_goneOn_32 : decode b_WordCheck_goneOn 32 = .ok (.invokevirtual 43, 3) := by decide +kernel
theorem d_WordCheck_goneOn_35 : decode b_WordCheck_goneOn 35 = .ok (.ior, 1) := by decide +kernel
theorem d_WordCheck_goneOn_36 : decode b_WordCheck_goneOn 36 = .ok (.istore 4, 2) := by decide +kernel
theorem d_WordCheck_goneOn_38 : decode b_WordCheck_goneOn 38 = .ok (.iinc 5 (1), 3) := by decide +kernel
theorem d_WordCheck_goneOn_41 : decode b_WordCheck_goneOn 41 = .ok (.goto (-35), 3) := by decide +kernel
theorem d_WordCheck_goneOn_44 : decode b_WordCheck_goneOn 44 = .ok (.iload 4, 2) := by decide +kernel
theorem d_WordCheck_goneOn_46 : decode b_WordCheck_goneOn 46 = .ok (.ireturn, 1) := by decide +kernel
section
variable {p : Program} {l : Launch} {e : Env} {R : Room} {s : State} {m : MethodId} {args : Array Value} {below : List Frame} {meth : Method} {c : Code} {D : va_G} {base : Nat} {g : Nat → ClassId} {az : Nat → Nat} {kz : Nat × Nat}
set_option maxRecDepth 100000 in
set_option maxHeartbeats 4000000 in
theorem t_WordCheck_goneOn_6b {k6 : Int32 × Int32 × Int32 × Int32 × MS → Option (MS × Int32)} (B : xB p R s m args meth c b_WordCheck_goneOn 6 R_WordCheck (Cond.code y_WordCheck_goneOn b_WordCheck_goneOn 6 (some .int) :: x_T) (some .int) 2 44 D x_cl (xty g) base) (hk6 : ∀ (l2 : Int32) (l3 : Int32) (l4 : Int32) (l5 : Int32) (M : MS) , Sn p l e R s m args below meth c 6 D x_cl base (xwd g) cM x_g0 az kz (xfc cM) (xZ below args s D x_cl (xty g) base (xwd g) cM x_g0 az kz ovI) 6 [] [(0, .ref 75), (1, .ref 2), (2, .int l2), (3, .int l3), (4, .int l4), (5, .int l5)] M (k6 (l2, l3, l4, l5, M))) (l2 : Int32) (l3 : Int32) (l4 : Int32) (l5 : Int32) (M : MS)  : Sn p l e R s m args below meth c 6 D x_cl base (xwd g) cM x_g0 az kz (xfc cM) (xZ below args s D x_cl (xty g) base (xwd g) cM x_g0 az kz ovI) 6 [] [(0, .ref 75), (1, .ref 2), (2, .int l2), (3, .int l3), (4, .int l4), (5, .int l5)] M (m_WordCheck_goneOn_6b k6 l2 l3 l4 l5 M) := by
  unfold m_WordCheck_goneOn_6b
  refine s_iload B d_WordCheck_goneOn_6 rfl ?_
  refine s_aload_n B d_WordCheck_goneOn_8 rfl ?_
  refine s_getI (k := 5) B xc_WordCheck kd_75 (by decide) rfl rfl fl_WordCheck_32 d_WordCheck_goneOn_9 ?_
  refine s_icmp_gt B d_WordCheck_goneOn_12 rfl (fun _ => ?_) (fun _ => ?_)
  · refine s_iload B d_WordCheck_goneOn_44 rfl ?_
    exact s_iret B d_WordCheck_goneOn_46
  · refine s_iload_n B d_WordCheck_goneOn_15 rfl ?_
    refine s_iload B d_WordCheck_goneOn_16 rfl ?_
    refine s_ishr B d_WordCheck_goneOn_18 ?_
    refine s_iconst (v := (1:Int32)) B d_WordCheck_goneOn_19 (by decide) ?_
    refine s_iand B d_WordCheck_goneOn_20 ?_
    refine s_iconst (v := (1:Int32)) B d_WordCheck_goneOn_21 (by decide) ?_
    refine s_icmp_ne B d_WordCheck_goneOn_22 rfl (fun _ => ?_) (fun _ => ?_)
    · refine s_iinc (w := (1:Int32)) B d_WordCheck_goneOn_38 rfl (by decide) (by decide) ?_
      refine s_goto B d_WordCheck_goneOn_41 rfl ?_
      refine s_pick (lv1 := [(0, .ref 75), (1, .ref 2), (2, .int l2), (3, .int l3), (4, .int l4), (5, .int (l5 + (1:Int32)))]) [0, 1, 2, 3, 4, 5] rfl ?_
      exact hk6 l2 l3 l4 (l5 + (1:Int32)) M
    · refine s_iload B d_WordCheck_goneOn_25 rfl ?_
      refine s_aload_n B d_WordCheck_goneOn_27 rfl ?_
      refine s_aload_n B d_WordCheck_goneOn_28 rfl ?_
      refine s_iload_n B d_WordCheck_goneOn_29 rfl ?_
      refine s_iload B d_WordCheck_goneOn_30 rfl ?_
      refine s_pick (lv1 := [(0, .ref 75), (1, .ref 2), (2, .int l2), (3, .int l3), (5, .int l5)]) [0, 1, 2, 3, 5] rfl ?_
      refine s_callI (av := [.ref 75, .ref 2, .int l3, .int l5]) (rest := [.int l4]) B (lk_V B d_WordCheck_goneOn_32 (gl_WordCheck_43 _) rfl hv_WordCheck_endBitsOf (by decide) (by decide)) rfl (x_rcV B xc_WordCheck kd_75) (fun _ _ => rfl) rfl rfl (by simp [Value.category]) rfl (fun r1 e9 => ct_WordCheck_endBitsOf _ _ _ r1 e9) (fun r1 _ => ?_)
      refine s_ior B d_WordCheck_goneOn_35 ?_
      refine s_istore B d_WordCheck_goneOn_36 (by decide) ?_
      refine s_iinc (w := (1:Int32)) B d_WordCheck_goneOn_38 rfl (by decide) (by decide) ?_
      refine s_goto B d_WordCheck_goneOn_41 rfl ?_
      refine s_pick (lv1 := [(0, .ref 75), (1, .ref 2), (2, .int l2), (3, .int l3), (4, .int (l4 ||| r1.2)), (5, .int (l5 + (1:Int32)))]) [0, 1, 2, 3, 4, 5] rfl ?_
      exact hk6 l2 l3 (l4 ||| r1.2) (l5 + (1:Int32)) r1.1
set_option maxRecDepth 100000 in
set_option maxHeartbeats 4000000 in
theorem t_WordCheck_goneOn_6  (B : xB p R s m args meth c b_WordCheck_goneOn 6 R_WordCheck (Cond.code y_WordCheck_goneOn b_WordCheck_goneOn 6 (some .int) :: x_T) (some .int) 2 44 D x_cl (xty g) base)  (l2 : Int32) (l3 : Int32) (l4 : Int32) (l5 : Int32) (M : MS)  : Sn p l e R s m args below meth c 6 D x_cl base (xwd g) cM x_g0 az kz (xfc cM) (xZ below args s D x_cl (xty g) base (xwd g) cM x_g0 az kz ovI) 6 [] [(0, .ref 75), (1, .ref 2), (2, .int l2), (3, .int l3), (4, .int l4), (5, .int l5)] M (m_WordCheck_goneOn_6 (l2, l3, l4, l5, M)) := by
  have q : ∀ (F : Nat) (i : Int32 × Int32 × Int32 × Int32 × MS), Sn p l e R s m args below meth c 6 D x_cl base (xwd g) cM x_g0 az kz (xfc cM) (xZ below args s D x_cl (xty g) base (xwd g) cM x_g0 az kz ovI) 6 [] [(0, .ref 75), (1, .ref 2), (2, .int i.1), (3, .int i.2.1), (4, .int i.2.2.1), (5, .int i.2.2.2.1)] i.2.2.2.2 (fx (fun (k : Int32 × Int32 × Int32 × Int32 × MS → Option (MS × Int32)) (i : Int32 × Int32 × Int32 × Int32 × MS) => m_WordCheck_goneOn_6b k i.1 i.2.1 i.2.2.1 i.2.2.2.1 i.2.2.2.2) F i) := by
    intro F
    induction F with
    | zero => intro i ; exact s_none
    | succ F ih => intro i ; exact t_WordCheck_goneOn_6b B  (fun l2 l3 l4 l5 M  => ih (l2, l3, l4, l5, M) ) i.1 i.2.1 i.2.2.1 i.2.2.2.1 i.2.2.2.2 
  exact q FU (l2, l3, l4, l5, M) 
set_option maxRecDepth 100000 in
set_option maxHeartbeats 4000000 in
theorem t_WordCheck_goneOn (B : xB p R s m args meth c b_WordCheck_goneOn 6 R_WordCheck (Cond.code y_WordCheck_goneOn b_WordCheck_goneOn 6 (some .int) :: x_T) (some .int) 2 44 D x_cl (xty g) base) (a2 : Int32) (a3 : Int32) (M : MS) : Sn p l e R s m args below meth c 6 D x_cl base (xwd g) cM x_g0 az kz (xfc cM) (xZ below args s D x_cl (xty g) base (xwd g) cM x_g0 az kz ovI) 0 [] [(0, .ref 75), (1, .ref 2), (2, .int a2), (3, .int a3)] M (m_WordCheck_goneOn a2 a3 M) := by
  unfold m_WordCheck_goneOn
  refine s_iconst (v := (0:Int32)) B d_WordCheck_goneOn_0 (by decide) ?_
  refine s_istore B d_WordCheck_goneOn_1 (by decide) ?_
  refine s_iconst (v := (0:Int32)) B d_WordCheck_goneOn_3 (by decide) ?_
  refine s_istore B d_WordCheck_goneOn_4 (by decide) ?_
  refine s_pick (lv1 := [(0, .ref 75), (1, .ref 2), (2, .int a2), (3, .int a3), (4, .int (0:Int32)), (5, .int (0:Int32))]) [0, 1, 2, 3, 4, 5] rfl ?_
  exact t_WordCheck_goneOn_6 B a2 a3 (0:Int32) (0:Int32) M
set_option maxRecDepth 100000 in
set_option maxHeartbeats 4000000 in
theorem ct_WordCheck_goneOn {l : Launch} {D : va_G} {base : Nat} {g : Nat → ClassId} (a2 : Int32) (a3 : Int32) (M : MS) (r : MS × Int32) (hr : m_WordCheck_goneOn a2 a3 M = some r) : Ct l y_WordCheck_goneOn (Cond.code y_WordCheck_goneOn b_WordCheck_goneOn 6 (some .int) :: x_T) 2 44 D x_cl (xty g) base (xwd g) cM x_g0 [.ref 75, .ref 2, .int a2, .int a3] M r.1 (ovI r.2) :=
  x_met (ov := ovI) (by decide) (Nat.le_of_ble_eq_true rfl) (fun p e R s m args below meth c az B => t_WordCheck_goneOn B a2 a3 M) r hr
end
theorem d_WordCheck_merged_0 : decode b_WordCheck_merged 0 = .ok (.aload_n 0, 1) := by decide +kernel
theorem d_WordCheck_merged_1 : decode b_WordCheck_merged 1 = .ok (.aload_n 1, 1) := by decide +kernel
theorem d_WordCheck_merged_2 : decode b_WordCheck_merged 2 = .ok (.aload_n 1, 1) := by decide +kernel
theorem d_WordCheck_merged_3 : decode b_WordCheck_merged 3 = .ok (.iload_n 2, 1) := by decide +kernel
theorem d_WordCheck_merged_4 : decode b_WordCheck_merged 4 = .ok (.iconst (0), 1) := by decide +kernel
theorem d_WordCheck_merged_5 : decode b_WordCheck_merged 5 = .ok (.invokevirtual 84, 3) := by decide +kernel
theorem d_WordCheck_merged_8 : decode b_WordCheck_merged 8 = .ok (.iload_n 3, 1) := by decide +kernel
theorem d_WordCheck_merged_9 : decode b_WordCheck_merged 9 = .ok (.invokevirtual 43, 3) := by decide +kernel
theorem d_WordCheck_merged_12 : decode b_WordCheck_merged 12 = .ok (.istore 4, 2) := by decide +kernel
theorem d_WordCheck_merged_14 : decode b_WordCheck_merged 14 = .ok (.iconst (1), 1) := by decide +kernel
theorem d_WordCheck_merged_15 : decode b_WordCheck_merged 15 = .ok (.istore 5, 2) := by decide +kernel
theorem d_WordCheck_merged_17 : decode b_WordCheck_merged 17 = .ok (.iload 5, 2) := by decide +kernel
theorem d_WordCheck_merged_19 : decode b_WordCheck_merged 19 = .ok (.aload_n 1, 1) := by decide +kernel
theorem d_WordCheck_merged_20 : decode b_WordCheck_merged 20 = .ok (.iload_n 2, 1) := by decide +kernel
theorem d_WordCheck_merged_21 : decode b_WordCheck_merged 21 = .ok (.invokevirtual 81, 3) := by decide +kernel
theorem d_WordCheck_merged_24 : decode b_WordCheck_merged 24 = .ok (.if_icmp .ge (48), 3) := by decide +kernel
theorem d_WordCheck_merged_27 : decode b_WordCheck_merged 27 = .ok (.aload_n 0, 1) := by decide +kernel
theorem d_WordCheck_merged_28 : decode b_WordCheck_merged 28 = .ok (.aload_n 1, 1) := by decide +kernel
theorem d_WordCheck_merged_29 : decode b_WordCheck_merged 29 = .ok (.aload_n 1, 1) := by decide +kernel
theorem d_WordCheck_merged_30 : decode b_WordCheck_merged 30 = .ok (.iload_n 2, 1) := by decide +kernel
theorem d_WordCheck_merged_31 : decode b_WordCheck_merged 31 = .ok (.iload 5, 2) := by decide +kernel
theorem d_WordCheck_merged_33 : decode b_WordCheck_merged 33 = .ok (.invokevirtual 84, 3) := by decide +kernel
theorem d_WordCheck_merged_36 : decode b_WordCheck_merged 36 = .ok (.iload_n 3, 1) := by decide +kernel
theorem d_WordCheck_merged_37 : decode b_WordCheck_merged 37 = .ok (.invokevirtual 43, 3) := by decide +kernel
theorem d_WordCheck_merged_40 : decode b_WordCheck_merged 40 = .ok (.istore 6, 2) := by decide +kernel
theorem d_WordCheck_merged_42 : decode b_WordCheck_merged 42 = .ok (.aload_n 1, 1) := by decide +kernel
theorem d_WordCheck_merged_43 : decode b_WordCheck_merged 43 = .ok (.iload_n 2, 1) := by decide +kernel
theorem d_WordCheck_merged_44 : decode b_WordCheck_merged 44 = .ok (.invokevirtual 88, 3) := by decide +kernel
theorem d_WordCheck_merged_47 : decode b_WordCheck_merged 47 = .ok (.iconst (4), 1) := by decide +kernel
theorem d_WordCheck_merged_48 : decode b_WordCheck_merged 48 = .ok (.if_icmp .ne (11), 3) := by decide +kernel
theorem d_WordCheck_merged_51 : decode b_WordCheck_merged 51 = .ok (.iload 4, 2) := by decide +kernel
theorem d_WordCheck_merged_53 : decode b_WordCheck_merged 53 = .ok (.iload 6, 2) := by decide +kernel
theorem d_WordCheck_merged_55 : decode b_WordCheck_merged 55 = .ok (.ior, 1) := by decide +kernel
theorem d_WordCheck_merged_56 : decode b_WordCheck_merged 56 = .ok (.goto (8), 3) := by decide +kernel
theorem d_WordCheck_merged_59 : decode b_WordCheck_merged 59 = .ok (.iload 4, 2) := by decide +kernel
theorem d_WordCheck_merged_61 : decode b_WordCheck_merged 61 = .ok (.iload 6, 2) := by decide +kernel
theorem d_WordCheck_merged_63 : decode b_WordCheck_merged 63 = .ok (.iand, 1) := by decide +kernel
theorem d_WordCheck_merged_64 : decode b_WordCheck_merged 64 = .ok (.istore 4, 2) := by decide +kernel
theorem d_WordCheck_merged_66 : decode b_WordCheck_merged 66 = .ok (.iinc 5 (1), 3) := by decide +kernel
theorem d_WordCheck_merged_69 : decode b_WordCheck_merged 69 = .ok (.goto (-52), 3) := by decide +kernel
theorem d_WordCheck_merged_72 : decode b_WordCheck_merged 72 = .ok (.iload 4, 2) := by decide +kernel
theorem d_WordCheck_merged_74 : decode b_WordCheck_merged 74 = .ok (.ireturn, 1) := by decide +kernel
section
variable {p : Program} {l : Launch} {e : Env} {R : Room} {s : State} {m : MethodId} {args : Array Value} {below : List Frame} {meth : Method} {c : Code} {D : va_G} {base : Nat} {g : Nat → ClassId} {az : Nat → Nat} {kz : Nat × Nat}
set_option maxRecDepth 100000 in
set_option maxHeartbeats 4000000 in
theorem t_WordCheck_merged_17b {k17 : Int32 × Int32 × Int32 × Int32 × MS → Option (MS × Int32)} (B : xB p R s m args meth c b_WordCheck_merged 7 R_WordCheck (Cond.code y_WordCheck_merged b_WordCheck_merged 7 (some .int) :: x_T) (some .int) 2 44 D x_cl (xty g) base) (hk17 : ∀ (l2 : Int32) (l3 : Int32) (l4 : Int32) (l5 : Int32) (M : MS) , Sn p l e R s m args below meth c 7 D x_cl base (xwd g) cM x_g0 az kz (xfc cM) (xZ below args s D x_cl (xty g) base (xwd g) cM x_g0 az kz ovI) 17 [] [(0, .ref 75), (1, .ref 2), (2, .int l2), (3, .int l3), (4, .int l4), (5, .int l5)] M (k17 (l2, l3, l4, l5, M))) (l2 : Int32) (l3 : Int32) (l4 : Int32) (l5 : Int32) (M : MS)  : Sn p l e R s m args below meth c 7 D x_cl base (xwd g) cM x_g0 az kz (xfc cM) (xZ below args s D x_cl (xty g) base (xwd g) cM x_g0 az kz ovI) 17 [] [(0, .ref 75), (1, .ref 2), (2, .int l2), (3, .int l3), (4, .int l4), (5, .int l5)] M (m_WordCheck_merged_17b k17 l2 l3 l4 l5 M) := by
  unfold m_WordCheck_merged_17b
  refine s_iload B d_WordCheck_merged_17 rfl ?_
  refine s_aload_n B d_WordCheck_merged_19 rfl ?_
  refine s_iload_n B d_WordCheck_merged_20 rfl ?_
  refine s_pick (lv1 := [(0, .ref 75), (1, .ref 2), (2, .int l2), (3, .int l3), (4, .int l4), (5, .int l5)]) [0, 1, 2, 3, 4, 5] rfl ?_
  refine s_callI (av := [.ref 2, .int l2]) (rest := [.int l5]) B (lk_V B d_WordCheck_merged_21 (gl_WordCheck_81 _) rfl hv_Terms_countOf (by decide) (by decide)) rfl (x_rcV B xc_Terms kd_2) (fun _ _ => rfl) rfl rfl (by simp [Value.category]) rfl (fun r1 e9 => ct_Terms_countOf _ _ r1 e9) (fun r1 _ => ?_)
  refine s_icmp_ge B d_WordCheck_merged_24 rfl (fun _ => ?_) (fun _ => ?_)
  · refine s_iload B d_WordCheck_merged_72 rfl ?_
    exact s_iret B d_WordCheck_merged_74
  · refine s_aload_n B d_WordCheck_merged_27 rfl ?_
    refine s_aload_n B d_WordCheck_merged_28 rfl ?_
    refine s_aload_n B d_WordCheck_merged_29 rfl ?_
    refine s_iload_n B d_WordCheck_merged_30 rfl ?_
    refine s_iload B d_WordCheck_merged_31 rfl ?_
    refine s_pick (lv1 := [(0, .ref 75), (1, .ref 2), (2, .int l2), (3, .int l3), (4, .int l4), (5, .int l5)]) [0, 1, 2, 3, 4, 5] rfl ?_
    refine s_callI (av := [.ref 2, .int l2, .int l5]) (rest := [.ref 2, .ref 75]) B (lk_V B d_WordCheck_merged_33 (gl_WordCheck_84 _) rfl hv_Terms_kid (by decide) (by decide)) rfl (x_rcV B xc_Terms kd_2) (fun _ _ => rfl) rfl rfl (by simp [Value.category]) rfl (fun r2 e9 => ct_Terms_kid _ _ _ r2 e9) (fun r2 _ => ?_)
    refine s_iload_n B d_WordCheck_merged_36 rfl ?_
    refine s_pick (lv1 := [(0, .ref 75), (1, .ref 2), (2, .int l2), (3, .int l3), (4, .int l4), (5, .int l5)]) [0, 1, 2, 3, 4, 5] rfl ?_
    refine s_callI (av := [.ref 75, .ref 2, .int r2.2, .int l3]) (rest := []) B (lk_V B d_WordCheck_merged_37 (gl_WordCheck_43 _) rfl hv_WordCheck_endBitsOf (by decide) (by decide)) rfl (x_rcV B xc_WordCheck kd_75) (fun _ _ => rfl) rfl rfl (by simp [Value.category]) rfl (fun r3 e9 => ct_WordCheck_endBitsOf _ _ _ r3 e9) (fun r3 _ => ?_)
    refine s_istore B d_WordCheck_merged_40 (by decide) ?_
    refine s_aload_n B d_WordCheck_merged_42 rfl ?_
    refine s_iload_n B d_WordCheck_merged_43 rfl ?_
    refine s_pick (lv1 := [(0, .ref 75), (1, .ref 2), (2, .int l2), (3, .int l3), (4, .int l4), (5, .int l5), (6, .int r3.2)]) [0, 1, 2, 3, 4, 5, 6] rfl ?_
    refine s_callI (av := [.ref 2, .int l2]) (rest := []) B (lk_V B d_WordCheck_merged_44 (gl_WordCheck_88 _) rfl hv_Terms_sortOf (by decide) (by decide)) rfl (x_rcV B xc_Terms kd_2) (fun _ _ => rfl) rfl rfl (by simp [Value.category]) rfl (fun r4 e9 => ct_Terms_sortOf _ _ r4 e9) (fun r4 _ => ?_)
    refine s_iconst (v := (4:Int32)) B d_WordCheck_merged_47 (by decide) ?_
    refine s_icmp_ne B d_WordCheck_merged_48 rfl (fun _ => ?_) (fun _ => ?_)
    · refine s_iload B d_WordCheck_merged_59 rfl ?_
      refine s_iload B d_WordCheck_merged_61 rfl ?_
      refine s_iand B d_WordCheck_merged_63 ?_
      refine s_istore B d_WordCheck_merged_64 (by decide) ?_
      refine s_iinc (w := (1:Int32)) B d_WordCheck_merged_66 rfl (by decide) (by decide) ?_
      refine s_goto B d_WordCheck_merged_69 rfl ?_
      refine s_pick (lv1 := [(0, .ref 75), (1, .ref 2), (2, .int l2), (3, .int l3), (4, .int (l4 &&& r3.2)), (5, .int (l5 + (1:Int32)))]) [0, 1, 2, 3, 4, 5] rfl ?_
      exact hk17 l2 l3 (l4 &&& r3.2) (l5 + (1:Int32)) r4.1
    · refine s_iload B d_WordCheck_merged_51 rfl ?_
      refine s_iload B d_WordCheck_merged_53 rfl ?_
      refine s_ior B d_WordCheck_merged_55 ?_
      refine s_goto B d_WordCheck_merged_56 rfl ?_
      refine s_istore B d_WordCheck_merged_64 (by decide) ?_
      refine s_iinc (w := (1:Int32)) B d_WordCheck_merged_66 rfl (by decide) (by decide) ?_
      refine s_goto B d_WordCheck_merged_69 rfl ?_
      refine s_pick (lv1 := [(0, .ref 75), (1, .ref 2), (2, .int l2), (3, .int l3), (4, .int (l4 ||| r3.2)), (5, .int (l5 + (1:Int32)))]) [0, 1, 2, 3, 4, 5] rfl ?_
      exact hk17 l2 l3 (l4 ||| r3.2) (l5 + (1:Int32)) r4.1
set_option maxRecDepth 100000 in
set_option maxHeartbeats 4000000 in
theorem t_WordCheck_merged_17  (B : xB p R s m args meth c b_WordCheck_merged 7 R_WordCheck (Cond.code y_WordCheck_merged b_WordCheck_merged 7 (some .int) :: x_T) (some .int) 2 44 D x_cl (xty g) base)  (l2 : Int32) (l3 : Int32) (l4 : Int32) (l5 : Int32) (M : MS)  : Sn p l e R s m args below meth c 7 D x_cl base (xwd g) cM x_g0 az kz (xfc cM) (xZ below args s D x_cl (xty g) base (xwd g) cM x_g0 az kz ovI) 17 [] [(0, .ref 75), (1, .ref 2), (2, .int l2), (3, .int l3), (4, .int l4), (5, .int l5)] M (m_WordCheck_merged_17 (l2, l3, l4, l5, M)) := by
  have q : ∀ (F : Nat) (i : Int32 × Int32 × Int32 × Int32 × MS), Sn p l e R s m args below meth c 7 D x_cl base (xwd g) cM x_g0 az kz (xfc cM) (xZ below args s D x_cl (xty g) base (xwd g) cM x_g0 az kz ovI) 17 [] [(0, .ref 75), (1, .ref 2), (2, .int i.1), (3, .int i.2.1), (4, .int i.2.2.1), (5, .int i.2.2.2.1)] i.2.2.2.2 (fx (fun (k : Int32 × Int32 × Int32 × Int32 × MS → Option (MS × Int32)) (i : Int32 × Int32 × Int32 × Int32 × MS) => m_WordCheck_merged_17b k i.1 i.2.1 i.2.2.1 i.2.2.2.1 i.2.2.2.2) F i) := by
    intro F
    induction F with
    | zero => intro i ; exact s_none
    | succ F ih => intro i ; exact t_WordCheck_merged_17b B  (fun l2 l3 l4 l5 M  => ih (l2, l3, l4, l5, M) ) i.1 i.2.1 i.2.2.1 i.2.2.2.1 i.2.2.2.2 
  exact q FU (l2, l3, l4, l5, M) 
set_option maxRecDepth 100000 in
set_option maxHeartbeats 4000000 in
theorem t_WordCheck_merged (B : xB p R s m args meth c b_WordCheck_merged 7 R_WordCheck (Cond.code y_WordCheck_merged b_WordCheck_merged 7 (some .int) :: x_T) (some .int) 2 44 D x_cl (xty g) base) (a2 : Int32) (a3 : Int32) (M : MS) : Sn p l e R s m args below meth c 7 D x_cl base (xwd g) cM x_g0 az kz (xfc cM) (xZ below args s D x_cl (xty g) base (xwd g) cM x_g0 az kz ovI) 0 [] [(0, .ref 75), (1, .ref 2), (2, .int a2), (3, .int a3)] M (m_WordCheck_merged a2 a3 M) := by
  unfold m_WordCheck_merged
  refine s_aload_n B d_WordCheck_merged_0 rfl ?_
  refine s_aload_n B d_WordCheck_merged_1 rfl ?_
  refine s_aload_n B d_WordCheck_merged_2 rfl ?_
  refine s_iload_n B d_WordCheck_merged_3 rfl ?_
  refine s_iconst (v := (0:Int32)) B d_WordCheck_merged_4 (by decide) ?_
  refine s_pick (lv1 := [(0, .ref 75), (1, .ref 2), (2, .int a2), (3, .int a3)]) [0, 1, 2, 3] rfl ?_
  refine s_callI (av := [.ref 2, .int a2, .int (0:Int32)]) (rest := [.ref 2, .ref 75]) B (lk_V B d_WordCheck_merged_5 (gl_WordCheck_84 _) rfl hv_Terms_kid (by decide) (by decide)) rfl (x_rcV B xc_Terms kd_2) (fun _ _ => rfl) rfl rfl (by simp [Value.category]) rfl (fun r1 e9 => ct_Terms_kid _ _ _ r1 e9) (fun r1 _ => ?_)
  refine s_iload_n B d_WordCheck_merged_8 rfl ?_
  refine s_pick (lv1 := [(0, .ref 75), (1, .ref 2), (2, .int a2), (3, .int a3)]) [0, 1, 2, 3] rfl ?_
  refine s_callI (av := [.ref 75, .ref 2, .int r1.2, .int a3]) (rest := []) B (lk_V B d_WordCheck_merged_9 (gl_WordCheck_43 _) rfl hv_WordCheck_endBitsOf (by decide) (by decide)) rfl (x_rcV B xc_WordCheck kd_75) (fun _ _ => rfl) rfl rfl (by simp [Value.category]) rfl (fun r2 e9 => ct_WordCheck_endBitsOf _ _ _ r2 e9) (fun r2 _ => ?_)
  refine s_istore B d_WordCheck_merged_12 (by decide) ?_
  refine s_iconst (v := (1:Int32)) B d_WordCheck_merged_14 (by decide) ?_
  refine s_istore B d_WordCheck_merged_15 (by decide) ?_
  refine s_pick (lv1 := [(0, .ref 75), (1, .ref 2), (2, .int a2), (3, .int a3), (4, .int r2.2), (5, .int (1:Int32))]) [0, 1, 2, 3, 4, 5] rfl ?_
  exact t_WordCheck_merged_17 B a2 a3 r2.2 (1:Int32) r2.1
set_option maxRecDepth 100000 in
set_option maxHeartbeats 4000000 in
theorem ct_WordCheck_merged {l : Launch} {D : va_G} {base : Nat} {g : Nat → ClassId} (a2 : Int32) (a3 : Int32) (M : MS) (r : MS × Int32) (hr : m_WordCheck_merged a2 a3 M = some r) : Ct l y_WordCheck_merged (Cond.code y_WordCheck_merged b_WordCheck_merged 7 (some .int) :: x_T) 2 44 D x_cl (xty g) base (xwd g) cM x_g0 [.ref 75, .ref 2, .int a2, .int a3] M r.1 (ovI r.2) :=
  x_met (ov := ovI) (by decide) (Nat.le_of_ble_eq_true rfl) (fun p e R s m args below meth c az B => t_WordCheck_merged B a2 a3 M) r hr
end
theorem d_WordCheck_endsFrom_0 : decode b_WordCheck_endsFrom 0 = .ok (.aload_n 0, 1) := by decide +kernel
theorem d_WordCheck_endsFrom_1 : decode b_WordCheck_endsFrom 1 = .ok (.getfield 9, 3) := by decide +kernel
theorem d_WordCheck_endsFrom_4 : decode b_WordCheck_endsFrom 4 = .ok (.iload_n 2, 1) := by decide +kernel
theorem d_WordCheck_endsFrom_5 : decode b_WordCheck_endsFrom 5 = .ok (.iaload, 1) := by decide +kernel
theorem d_WordCheck_endsFrom_6 : decode b_WordCheck_endsFrom 6 = .ok (.istore 4, 2) := by decide +kernel
theorem d_WordCheck_endsFrom_8 : decode b_WordCheck_endsFrom 8 = .ok (.iconst (1), 1) := by decide +kernel
theorem d_WordCheck_endsFrom_9 : decode b_WordCheck_endsFrom 9 = .ok (.iload_n 3, 1) := by decide +kernel
theorem d_WordCheck_endsFrom_10 : decode b_WordCheck_endsFrom 10 = .ok (.ishl, 1) := by decide +kernel
theorem d_WordCheck_endsFrom_11 : decode b_WordCheck_endsFrom 11 = .ok (.istore 5, 2) := by decide +kernel
theorem d_WordCheck_endsFrom_13 : decode b_WordCheck_endsFrom 13 = .ok (.aload_n 1, 1) := by decide +kernel
theorem d_WordCheck_endsFrom_14 : decode b_WordCheck_endsFrom 14 = .ok (.iload 4, 2) := by decide +kernel
theorem d_WordCheck_endsFrom_16 : decode b_WordCheck_endsFrom 16 = .ok (.invokevirtual 88, 3) := by decide +kernel
theorem d_WordCheck_endsFrom_19 : decode b_WordCheck_endsFrom 19 = .ok (.tableswitch (171) (1) (7) #[41, 44, 75, 101, 101, 110, 142], 41) := by decide +kernel
theorem d_WordCheck_endsFrom_60 : decode b_WordCheck_endsFrom 60 = .ok (.iload 5, 2) := by decide +kernel
theorem d_WordCheck_endsFrom_62 : decode b_WordCheck_endsFrom 62 = .ok (.ireturn, 1) := by decide +kernel
theorem d_WordCheck_endsFrom_63 : decode b_WordCheck_endsFrom 63 = .ok (.iload_n 3, 1) := by decide +kernel
theorem d_WordCheck_endsFrom_64 : decode b_WordCheck_endsFrom 64 = .ok (.aload_n 0, 1) := by decide +kernel
theorem d_WordCheck_endsFrom_65 : decode b_WordCheck_endsFrom 65 = .ok (.getfield 32, 3) := by decide +kernel
theorem d_WordCheck_endsFrom_68 : decode b_WordCheck_endsFrom 68 = .ok (.if_icmp .ge (24), 3) := by decide +kernel
theorem d_WordCheck_endsFrom_71 : decode b_WordCheck_endsFrom 71 = .ok (.iload 4, 2) := by decide +kernel
theorem d_WordCheck_endsFrom_73 : decode b_WordCheck_endsFrom 73 = .ok (.aload_n 0, 1) := by decide +kernel
theorem d_WordCheck_endsFrom_74 : decode b_WordCheck_endsFrom 74 = .ok (.iload_n 3, 1) := by decide +kernel
theorem d_WordCheck_endsFrom_75 : decode b_WordCheck_endsFrom 75 = .ok (.invokevirtual 91, 3) := by decide +kernel
theorem d_WordCheck_endsFrom_78 : decode b_WordCheck_endsFrom 78 = .ok (.ishr, 1) := by decide +kernel
theorem d_WordCheck_endsFrom_79 : decode b_WordCheck_endsFrom 79 = .ok (.iconst (1), 1) := by decide +kernel
theorem d_WordCheck_endsFrom_80 : decode b_WordCheck_endsFrom 80 = .ok (.iand, 1) := by decide +kernel
theorem d_WordCheck_endsFrom_81 : decode b_WordCheck_endsFrom 81 = .ok (.iconst (1), 1) := by decide +kernel
theorem d_WordCheck_endsFrom_82 : decode b_WordCheck_endsFrom 82 = .ok (.if_icmp .ne (10), 3) := by decide +kernel
theorem d_WordCheck_endsFrom_85 : decode b_WordCheck_endsFrom 85 = .ok (.iload 5, 2) := by decide +kernel
theorem d_WordCheck_endsFrom_87 : decode b_WordCheck_endsFrom 87 = .ok (.iconst (1), 1) := by decide +kernel
theorem d_WordCheck_endsFrom_88 : decode b_WordCheck_endsFrom 88 = .ok (.ishl, 1) := by decide +kernel
theorem d_WordCheck_endsFrom_89 : decode b_WordCheck_endsFrom 89 = .ok (.goto (4), 3) := by decide +kernel
theorem d_WordCheck_endsFrom_92 : decode b_WordCheck_endsFrom 92 = .ok (.iconst (0), 1) := by decide +kernel
theorem d_WordCheck_endsFrom_93 : decode b_WordCheck_endsFrom 93 = .ok (.ireturn, 1) := by decide +kernel
theorem d_WordCheck_endsFrom_94 : decode b_WordCheck_endsFrom 94 = .ok (.aload_n 0, 1) := by decide +kernel
theorem d_WordCheck_endsFrom_95 : decode b_WordCheck_endsFrom 95 = .ok (.aload_n 1, 1) := by decide +kernel
theorem d_WordCheck_endsFrom_96 : decode b_WordCheck_endsFrom 96 = .ok (.aload_n 0, 1) := by decide +kernel
theorem d_WordCheck_endsFrom_97 : decode b_WordCheck_endsFrom 97 = .ok (.aload_n 1, 1) := by decide +kernel
theorem d_WordCheck_endsFrom_98 : decode b_WordCheck_endsFrom 98 = .ok (.aload_n 1, 1) := by decide +kernel
theorem d_WordCheck_endsFrom_99 : decode b_WordCheck_endsFrom 99 = .ok (.iload 4, 2) := by decide +kernel
theorem d_WordCheck_endsFrom_101 : decode b_WordCheck_endsFrom 101 = .ok (.iconst (0), 1) := by decide +kernel
theorem d_WordCheck_endsFrom_102 : decode b_WordCheck_endsFrom 102 = .ok (.invokevirtual 84, 3) := by decide +kernel
theorem d_WordCheck_endsFrom_105 : decode b_WordCheck_endsFrom 105 = .ok (.iload_n 3, 1) := by decide +kernel
theorem d_WordCheck_endsFrom_106 : decode b_WordCheck_endsFrom 106 = .ok (.invokevirtual 43, 3) := by decide +kernel
theorem d_WordCheck_endsFrom_109 : decode b_WordCheck_endsFrom 109 = .ok (.aload_n 1, 1) := by decide +kernel
theorem d_WordCheck_endsFrom_110 : decode b_WordCheck_endsFrom 110 = .ok (.iload 4, 2) := by decide +kernel
theorem d_WordCheck_endsFrom_112 : decode b_WordCheck_endsFrom 112 = .ok (.iconst (1), 1) := by decide +kernel
theorem d_WordCheck_endsFrom_113 : decode b_WordCheck_endsFrom 113 = .ok (.invokevirtual 84, 3) := by decide +kernel
theorem d_WordCheck_endsFrom_116 : decode b_WordCheck_endsFrom 116 = .ok (.invokevirtual 94, 3) := by decide +kernel
theorem d_WordCheck_endsFrom_119 : decode b_WordCheck_endsFrom 119 = .ok (.ireturn, 1) := by decide +kernel
theorem d_WordCheck_endsFrom_120 : decode b_WordCheck_endsFrom 120 = .ok (.aload_n 0, 1) := by decide +kernel
theorem d_WordCheck_endsFrom_121 : decode b_WordCheck_endsFrom 121 = .ok (.aload_n 1, 1) := by decide +kernel
theorem d_WordCheck_endsFrom_122 : decode b_WordCheck_endsFrom 122 = .ok (.iload 4, 2) := by decide +kernel
theorem d_WordCheck_endsFrom_124 : decode b_WordCheck_endsFrom 124 = .ok (.iload_n 3, 1) := by decide +kernel
theorem d_WordCheck_endsFrom_125 : decode b_WordCheck_endsFrom 125 = .ok (.invokevirtual 97, 3) := by decide +kernel
theorem d_WordCheck_endsFrom_128 : decode b_WordCheck_endsFrom 128 = .ok (.ireturn, 1) := by decide +kernel
theorem d_WordCheck_endsFrom_129 : decode b_WordCheck_endsFrom 129 = .ok (.iconst (1), 1) := by decide +kernel
theorem d_WordCheck_endsFrom_130 : decode b_WordCheck_endsFrom 130 = .ok (.aload_n 0, 1) := by decide +kernel
theorem d_WordCheck_endsFrom_131 : decode b_WordCheck_endsFrom 131 = .ok (.getfield 32, 3) := by decide +kernel
theorem d_WordCheck_endsFrom_134 : decode b_WordCheck_endsFrom 134 = .ok (.iconst (1), 1) := by decide +kernel
theorem d_WordCheck_endsFrom_135 : decode b_WordCheck_endsFrom 135 = .ok (.iadd, 1) := by decide +kernel
theorem d_WordCheck_endsFrom_136 : decode b_WordCheck_endsFrom 136 = .ok (.ishl, 1) := by decide +kernel
theorem d_WordCheck_endsFrom_137 : decode b_WordCheck_endsFrom 137 = .ok (.iload 5, 2) := by decide +kernel
theorem d_WordCheck_endsFrom_139 : decode b_WordCheck_endsFrom 139 = .ok (.isub, 1) := by decide +kernel
theorem d_WordCheck_endsFrom_140 : decode b_WordCheck_endsFrom 140 = .ok (.istore 6, 2) := by decide +kernel
theorem d_WordCheck_endsFrom_142 : decode b_WordCheck_endsFrom 142 = .ok (.iload 6, 2) := by decide +kernel
theorem d_WordCheck_endsFrom_144 : decode b_WordCheck_endsFrom 144 = .ok (.aload_n 0, 1) := by decide +kernel
theorem d_WordCheck_endsFrom_145 : decode b_WordCheck_endsFrom 145 = .ok (.aload_n 1, 1) := by decide +kernel
theorem d_WordCheck_endsFrom_146 : decode b_WordCheck_endsFrom 146 = .ok (.aload_n 1, 1) := by decide +kernel
theorem d_WordCheck_endsFrom_147 : decode b_WordCheck_endsFrom 147 = .ok (.iload 4, 2) := by decide +kernel
theorem d_WordCheck_endsFrom_149 : decode b_WordCheck_endsFrom 149 = .ok (.iconst (0), 1) := by decide +kernel
theorem d_WordCheck_endsFrom_150 : decode b_WordCheck_endsFrom 150 = .ok (.invokevirtual 84, 3) := by decide +kernel
theorem d_WordCheck_endsFrom_153 : decode b_WordCheck_endsFrom 153 = .ok (.iload_n 3, 1) := by decide +kernel
theorem d_WordCheck_endsFrom_154 : decode b_WordCheck_endsFrom 154 = .ok (.invokevirtual 43, 3) := by decide +kernel
theorem d_WordCheck_endsFrom_157 : decode b_WordCheck_endsFrom 157 = .ok (.iconst (-1), 1) := by decide +kernel
theorem d_WordCheck_endsFrom_158 : decode b_WordCheck_endsFrom 158 = .ok (.ixor, 1) := by decide +kernel
theorem d_WordCheck_endsFrom_159 : decode b_WordCheck_endsFrom 159 = .ok (.iand, 1) := by decide +kernel
theorem d_WordCheck_endsFrom_160 : decode b_WordCheck_endsFrom 160 = .ok (.ireturn, 1) := by decide +kernel
theorem d_WordCheck_endsFrom_161 : decode b_WordCheck_endsFrom 161 = .ok (.iload 5, 2) := by decide +kernel
theorem d_WordCheck_endsFrom_163 : decode b_WordCheck_endsFrom 163 = .ok (.aload_n 0, 1) := by decide +kernel
theorem d_WordCheck_endsFrom_164 : decode b_WordCheck_endsFrom 164 = .ok (.aload_n 1, 1) := by decide +kernel
theorem d_WordCheck_endsFrom_165 : decode b_WordCheck_endsFrom 165 = .ok (.aload_n 0, 1) := by decide +kernel
theorem d_WordCheck_endsFrom_166 : decode b_WordCheck_endsFrom 166 = .ok (.aload_n 1, 1) := by decide +kernel
theorem d_WordCheck_endsFrom_167 : decode b_WordCheck_endsFrom 167 = .ok (.aload_n 1, 1) := by decide +kernel
theorem d_WordCheck_endsFrom_168 : decode b_WordCheck_endsFrom 168 = .ok (.iload 4, 2) := by decide +kernel
theorem d_WordCheck_endsFrom_170 : decode b_WordCheck_endsFrom 170 = .ok (.iconst (0), 1) := by decide +kernel
theorem d_WordCheck_endsFrom_171 : decode b_WordCheck_endsFrom 171 = .ok (.invokevirtual 84, 3) := by decide +kernel
theorem d_WordCheck_endsFrom_174 : decode b_WordCheck_endsFrom 174 = .ok (.iload_n 3, 1) := by decide +kernel
theorem d_WordCheck_endsFrom_175 : decode b_WordCheck_endsFrom 175 = .ok (.invokevirtual 43, 3) := by decide +kernel
theorem d_WordCheck_endsFrom_178 : decode b_WordCheck_endsFrom 178 = .ok (.iload 5, 2) := by decide +kernel
theorem d_WordCheck_endsFrom_180 : decode b_WordCheck_endsFrom 180 = .ok (.iconst (-1), 1) := by decide +kernel
theorem d_WordCheck_endsFrom_181 : decode b_WordCheck_endsFrom 181 = .ok (.ixor, 1) := by decide +kernel
theorem d_WordCheck_endsFrom_182 : decode b_WordCheck_endsFrom 182 = .ok (.iand, 1) := by decide +kernel
theorem d_WordCheck_endsFrom_183 : decode b_WordCheck_endsFrom 183 = .ok (.iload 4, 2) := by decide +kernel
theorem d_WordCheck_endsFrom_185 : decode b_WordCheck_endsFrom 185 = .ok (.invokevirtual 94, 3) := by decide +kernel
theorem d_WordCheck_endsFrom_188 : decode b_WordCheck_endsFrom 188 = .ok (.ior, 1) := by decide +kernel
theorem d_WordCheck_endsFrom_189 : decode b_WordCheck_endsFrom 189 = .ok (.ireturn, 1) := by decide +kernel
theorem d_WordCheck_endsFrom_190 : decode b_WordCheck_endsFrom 190 = .ok (.iconst (0), 1) := by decide +kernel
theorem d_WordCheck_endsFrom_191 : decode b_WordCheck_endsFrom 191 = .ok (.ireturn, 1) := by decide +kernel
section
variable {p : Program} {l : Launch} {e : Env} {R : Room} {s : State} {m : MethodId} {args : Array Value} {below : List Frame} {meth : Method} {c : Code} {D : va_G} {base : Nat} {g : Nat → ClassId} {az : Nat → Nat} {kz : Nat × Nat}
set_option maxRecDepth 100000 in
set_option maxHeartbeats 4000000 in
theorem t_WordCheck_endsFrom (B : xB p R s m args meth c b_WordCheck_endsFrom 7 R_WordCheck (Cond.code y_WordCheck_endsFrom b_WordCheck_endsFrom 7 (some .int) :: x_T) (some .int) 3 70 D x_cl (xty g) base) (a2 : Int32) (a3 : Int32) (M : MS) : Sn p l e R s m args below meth c 7 D x_cl base (xwd g) cM x_g0 az kz (xfc cM) (xZ below args s D x_cl (xty g) base (xwd g) cM x_g0 az kz ovI) 0 [] [(0, .ref 75), (1, .ref 2), (2, .int a2), (3, .int a3)] M (m_WordCheck_endsFrom a2 a3 M) := by
  unfold m_WordCheck_endsFrom
  refine s_aload_n B d_WordCheck_endsFrom_0 rfl ?_
  refine s_getS (k := 0) (n := 76) B xc_WordCheck kd_75 (by decide) rfl rfl fl_WordCheck_9 sr_75_0 d_WordCheck_endsFrom_1 ?_
  refine s_iload_n B d_WordCheck_endsFrom_4 rfl ?_
  refine s_iald B (Or.inl kd_76) d_WordCheck_endsFrom_5 (fun v1 _ => ?_)
  refine s_istore B d_WordCheck_endsFrom_6 (by decide) ?_
  refine s_iconst (v := (1:Int32)) B d_WordCheck_endsFrom_8 (by decide) ?_
  refine s_iload_n B d_WordCheck_endsFrom_9 rfl ?_
  refine s_ishl B d_WordCheck_endsFrom_10 ?_
  refine s_istore B d_WordCheck_endsFrom_11 (by decide) ?_
  refine s_aload_n B d_WordCheck_endsFrom_13 rfl ?_
  refine s_iload B d_WordCheck_endsFrom_14 rfl ?_
  refine s_pick (lv1 := [(0, .ref 75), (1, .ref 2), (3, .int a3), (4, .int v1), (5, .int ((1:Int32) <<< (a3 &&& 31)))]) [0, 1, 3, 4, 5] rfl ?_
  refine s_callI (av := [.ref 2, .int v1]) (rest := []) B (lk_V B d_WordCheck_endsFrom_16 (gl_WordCheck_88 _) rfl hv_Terms_sortOf (by decide) (by decide)) rfl (x_rcV B xc_Terms kd_2) (fun _ _ => rfl) rfl rfl (by simp [Value.category]) rfl (fun r2 e9 => ct_Terms_sortOf _ _ r2 e9) (fun r2 _ => ?_)
  refine s_if (fun h0_ => ?_) (fun h0_ => ?_)
  · refine s_tabIn B d_WordCheck_endsFrom_19 (by rw [h0_]; decide) (by rw [h0_]; decide) (by rw [h0_]; rfl) rfl ?_
    refine s_iload B d_WordCheck_endsFrom_60 rfl ?_
    exact s_iret B d_WordCheck_endsFrom_62
  · refine s_if (fun h1_ => ?_) (fun h1_ => ?_)
    · refine s_tabIn B d_WordCheck_endsFrom_19 (by rw [h1_]; decide) (by rw [h1_]; decide) (by rw [h1_]; rfl) rfl ?_
      refine s_iload_n B d_WordCheck_endsFrom_63 rfl ?_
      refine s_aload_n B d_WordCheck_endsFrom_64 rfl ?_
      refine s_getI (k := 5) B xc_WordCheck kd_75 (by decide) rfl rfl fl_WordCheck_32 d_WordCheck_endsFrom_65 ?_
      refine s_icmp_ge B d_WordCheck_endsFrom_68 rfl (fun _ => ?_) (fun _ => ?_)
      · refine s_iconst (v := (0:Int32)) B d_WordCheck_endsFrom_92 (by decide) ?_
        exact s_iret B d_WordCheck_endsFrom_93
      · refine s_iload B d_WordCheck_endsFrom_71 rfl ?_
        refine s_aload_n B d_WordCheck_endsFrom_73 rfl ?_
        refine s_iload_n B d_WordCheck_endsFrom_74 rfl ?_
        refine s_pick (lv1 := [(5, .int ((1:Int32) <<< (a3 &&& 31)))]) [5] rfl ?_
        refine s_callI (av := [.ref 75, .int a3]) (rest := [.int v1]) B (lk_V B d_WordCheck_endsFrom_75 (gl_WordCheck_91 _) rfl hv_WordCheck_letterAt (by decide) (by decide)) rfl (x_rcV B xc_WordCheck kd_75) (fun _ _ => rfl) rfl rfl (by simp [Value.category]) rfl (fun r3 e9 => ct_WordCheck_letterAt _ _ r3 e9) (fun r3 _ => ?_)
        refine s_ishr B d_WordCheck_endsFrom_78 ?_
        refine s_iconst (v := (1:Int32)) B d_WordCheck_endsFrom_79 (by decide) ?_
        refine s_iand B d_WordCheck_endsFrom_80 ?_
        refine s_iconst (v := (1:Int32)) B d_WordCheck_endsFrom_81 (by decide) ?_
        refine s_icmp_ne B d_WordCheck_endsFrom_82 rfl (fun _ => ?_) (fun _ => ?_)
        · refine s_iconst (v := (0:Int32)) B d_WordCheck_endsFrom_92 (by decide) ?_
          exact s_iret B d_WordCheck_endsFrom_93
        · refine s_iload B d_WordCheck_endsFrom_85 rfl ?_
          refine s_iconst (v := (1:Int32)) B d_WordCheck_endsFrom_87 (by decide) ?_
          refine s_ishl B d_WordCheck_endsFrom_88 ?_
          refine s_goto B d_WordCheck_endsFrom_89 rfl ?_
          exact s_iret B d_WordCheck_endsFrom_93
    · refine s_if (fun h2_ => ?_) (fun h2_ => ?_)
      · refine s_tabIn B d_WordCheck_endsFrom_19 (by rw [h2_]; decide) (by rw [h2_]; decide) (by rw [h2_]; rfl) rfl ?_
        refine s_aload_n B d_WordCheck_endsFrom_94 rfl ?_
        refine s_aload_n B d_WordCheck_endsFrom_95 rfl ?_
        refine s_aload_n B d_WordCheck_endsFrom_96 rfl ?_
        refine s_aload_n B d_WordCheck_endsFrom_97 rfl ?_
        refine s_aload_n B d_WordCheck_endsFrom_98 rfl ?_
        refine s_iload B d_WordCheck_endsFrom_99 rfl ?_
        refine s_iconst (v := (0:Int32)) B d_WordCheck_endsFrom_101 (by decide) ?_
        refine s_pick (lv1 := [(1, .ref 2), (3, .int a3), (4, .int v1)]) [1, 3, 4] rfl ?_
        refine s_callI (av := [.ref 2, .int v1, .int (0:Int32)]) (rest := [.ref 2, .ref 75, .ref 2, .ref 75]) B (lk_V B d_WordCheck_endsFrom_102 (gl_WordCheck_84 _) rfl hv_Terms_kid (by decide) (by decide)) rfl (x_rcV B xc_Terms kd_2) (fun _ _ => rfl) rfl rfl (by simp [Value.category]) rfl (fun r4 e9 => ct_Terms_kid _ _ _ r4 e9) (fun r4 _ => ?_)
        refine s_iload_n B d_WordCheck_endsFrom_105 rfl ?_
        refine s_pick (lv1 := [(1, .ref 2), (4, .int v1)]) [1, 4] rfl ?_
        refine s_callI (av := [.ref 75, .ref 2, .int r4.2, .int a3]) (rest := [.ref 2, .ref 75]) B (lk_V B d_WordCheck_endsFrom_106 (gl_WordCheck_43 _) rfl hv_WordCheck_endBitsOf (by decide) (by decide)) rfl (x_rcV B xc_WordCheck kd_75) (fun _ _ => rfl) rfl rfl (by simp [Value.category]) rfl (fun r5 e9 => ct_WordCheck_endBitsOf _ _ _ r5 e9) (fun r5 _ => ?_)
        refine s_aload_n B d_WordCheck_endsFrom_109 rfl ?_
        refine s_iload B d_WordCheck_endsFrom_110 rfl ?_
        refine s_iconst (v := (1:Int32)) B d_WordCheck_endsFrom_112 (by decide) ?_
        refine s_pick (lv1 := []) [] rfl ?_
        refine s_callI (av := [.ref 2, .int v1, .int (1:Int32)]) (rest := [.int r5.2, .ref 2, .ref 75]) B (lk_V B d_WordCheck_endsFrom_113 (gl_WordCheck_84 _) rfl hv_Terms_kid (by decide) (by decide)) rfl (x_rcV B xc_Terms kd_2) (fun _ _ => rfl) rfl rfl (by simp [Value.category]) rfl (fun r6 e9 => ct_Terms_kid _ _ _ r6 e9) (fun r6 _ => ?_)
        refine s_pick (lv1 := []) [] rfl ?_
        refine s_callI (av := [.ref 75, .ref 2, .int r5.2, .int r6.2]) (rest := []) B (lk_V B d_WordCheck_endsFrom_116 (gl_WordCheck_94 _) rfl hv_WordCheck_goneOn (by decide) (by decide)) rfl (x_rcV B xc_WordCheck kd_75) (fun _ _ => rfl) rfl rfl (by simp [Value.category]) rfl (fun r7 e9 => ct_WordCheck_goneOn _ _ _ r7 e9) (fun r7 _ => ?_)
        exact s_iret B d_WordCheck_endsFrom_119
      · refine s_if (fun h3_ => ?_) (fun h3_ => ?_)
        · refine s_tabIn B d_WordCheck_endsFrom_19 (by rw [h3_]; decide) (by rw [h3_]; decide) (by rw [h3_]; rfl) rfl ?_
          refine s_aload_n B d_WordCheck_endsFrom_120 rfl ?_
          refine s_aload_n B d_WordCheck_endsFrom_121 rfl ?_
          refine s_iload B d_WordCheck_endsFrom_122 rfl ?_
          refine s_iload_n B d_WordCheck_endsFrom_124 rfl ?_
          refine s_pick (lv1 := []) [] rfl ?_
          refine s_callI (av := [.ref 75, .ref 2, .int v1, .int a3]) (rest := []) B (lk_V B d_WordCheck_endsFrom_125 (gl_WordCheck_97 _) rfl hv_WordCheck_merged (by decide) (by decide)) rfl (x_rcV B xc_WordCheck kd_75) (fun _ _ => rfl) rfl rfl (by simp [Value.category]) rfl (fun r8 e9 => ct_WordCheck_merged _ _ _ r8 e9) (fun r8 _ => ?_)
          exact s_iret B d_WordCheck_endsFrom_128
        · refine s_if (fun h4_ => ?_) (fun h4_ => ?_)
          · refine s_tabIn B d_WordCheck_endsFrom_19 (by rw [h4_]; decide) (by rw [h4_]; decide) (by rw [h4_]; rfl) rfl ?_
            refine s_aload_n B d_WordCheck_endsFrom_120 rfl ?_
            refine s_aload_n B d_WordCheck_endsFrom_121 rfl ?_
            refine s_iload B d_WordCheck_endsFrom_122 rfl ?_
            refine s_iload_n B d_WordCheck_endsFrom_124 rfl ?_
            refine s_pick (lv1 := []) [] rfl ?_
            refine s_callI (av := [.ref 75, .ref 2, .int v1, .int a3]) (rest := []) B (lk_V B d_WordCheck_endsFrom_125 (gl_WordCheck_97 _) rfl hv_WordCheck_merged (by decide) (by decide)) rfl (x_rcV B xc_WordCheck kd_75) (fun _ _ => rfl) rfl rfl (by simp [Value.category]) rfl (fun r9 e9 => ct_WordCheck_merged _ _ _ r9 e9) (fun r9 _ => ?_)
            exact s_iret B d_WordCheck_endsFrom_128
          · refine s_if (fun h5_ => ?_) (fun h5_ => ?_)
            · refine s_tabIn B d_WordCheck_endsFrom_19 (by rw [h5_]; decide) (by rw [h5_]; decide) (by rw [h5_]; rfl) rfl ?_
              refine s_iconst (v := (1:Int32)) B d_WordCheck_endsFrom_129 (by decide) ?_
              refine s_aload_n B d_WordCheck_endsFrom_130 rfl ?_
              refine s_getI (k := 5) B xc_WordCheck kd_75 (by decide) rfl rfl fl_WordCheck_32 d_WordCheck_endsFrom_131 ?_
              refine s_iconst (v := (1:Int32)) B d_WordCheck_endsFrom_134 (by decide) ?_
              refine s_iadd B d_WordCheck_endsFrom_135 ?_
              refine s_ishl B d_WordCheck_endsFrom_136 ?_
              refine s_iload B d_WordCheck_endsFrom_137 rfl ?_
              refine s_isub B d_WordCheck_endsFrom_139 ?_
              refine s_istore B d_WordCheck_endsFrom_140 (by decide) ?_
              refine s_iload B d_WordCheck_endsFrom_142 rfl ?_
              refine s_aload_n B d_WordCheck_endsFrom_144 rfl ?_
              refine s_aload_n B d_WordCheck_endsFrom_145 rfl ?_
              refine s_aload_n B d_WordCheck_endsFrom_146 rfl ?_
              refine s_iload B d_WordCheck_endsFrom_147 rfl ?_
              refine s_iconst (v := (0:Int32)) B d_WordCheck_endsFrom_149 (by decide) ?_
              refine s_pick (lv1 := [(3, .int a3)]) [3] rfl ?_
              refine s_callI (av := [.ref 2, .int v1, .int (0:Int32)]) (rest := [.ref 2, .ref 75, .int (((1:Int32) <<< (((gI r2.1 75 5) + (1:Int32)) &&& 31)) - ((1:Int32) <<< (a3 &&& 31)))]) B (lk_V B d_WordCheck_endsFrom_150 (gl_WordCheck_84 _) rfl hv_Terms_kid (by decide) (by decide)) rfl (x_rcV B xc_Terms kd_2) (fun _ _ => rfl) rfl rfl (by simp [Value.category]) rfl (fun r10 e9 => ct_Terms_kid _ _ _ r10 e9) (fun r10 _ => ?_)
              refine s_iload_n B d_WordCheck_endsFrom_153 rfl ?_
              refine s_pick (lv1 := []) [] rfl ?_
              refine s_callI (av := [.ref 75, .ref 2, .int r10.2, .int a3]) (rest := [.int (((1:Int32) <<< (((gI r2.1 75 5) + (1:Int32)) &&& 31)) - ((1:Int32) <<< (a3 &&& 31)))]) B (lk_V B d_WordCheck_endsFrom_154 (gl_WordCheck_43 _) rfl hv_WordCheck_endBitsOf (by decide) (by decide)) rfl (x_rcV B xc_WordCheck kd_75) (fun _ _ => rfl) rfl rfl (by simp [Value.category]) rfl (fun r11 e9 => ct_WordCheck_endBitsOf _ _ _ r11 e9) (fun r11 _ => ?_)
              refine s_iconst (v := (-1:Int32)) B d_WordCheck_endsFrom_157 (by decide) ?_
              refine s_ixor B d_WordCheck_endsFrom_158 ?_
              refine s_iand B d_WordCheck_endsFrom_159 ?_
              exact s_iret B d_WordCheck_endsFrom_160
            · refine s_if (fun h6_ => ?_) (fun h6_ => ?_)
              · refine s_tabIn B d_WordCheck_endsFrom_19 (by rw [h6_]; decide) (by rw [h6_]; decide) (by rw [h6_]; rfl) rfl ?_
                refine s_iload B d_WordCheck_endsFrom_161 rfl ?_
                refine s_aload_n B d_WordCheck_endsFrom_163 rfl ?_
                refine s_aload_n B d_WordCheck_endsFrom_164 rfl ?_
                refine s_aload_n B d_WordCheck_endsFrom_165 rfl ?_
                refine s_aload_n B d_WordCheck_endsFrom_166 rfl ?_
                refine s_aload_n B d_WordCheck_endsFrom_167 rfl ?_
                refine s_iload B d_WordCheck_endsFrom_168 rfl ?_
                refine s_iconst (v := (0:Int32)) B d_WordCheck_endsFrom_170 (by decide) ?_
                refine s_pick (lv1 := [(3, .int a3), (4, .int v1), (5, .int ((1:Int32) <<< (a3 &&& 31)))]) [3, 4, 5] rfl ?_
                refine s_callI (av := [.ref 2, .int v1, .int (0:Int32)]) (rest := [.ref 2, .ref 75, .ref 2, .ref 75, .int ((1:Int32) <<< (a3 &&& 31))]) B (lk_V B d_WordCheck_endsFrom_171 (gl_WordCheck_84 _) rfl hv_Terms_kid (by decide) (by decide)) rfl (x_rcV B xc_Terms kd_2) (fun _ _ => rfl) rfl rfl (by simp [Value.category]) rfl (fun r12 e9 => ct_Terms_kid _ _ _ r12 e9) (fun r12 _ => ?_)
                refine s_iload_n B d_WordCheck_endsFrom_174 rfl ?_
                refine s_pick (lv1 := [(4, .int v1), (5, .int ((1:Int32) <<< (a3 &&& 31)))]) [4, 5] rfl ?_
                refine s_callI (av := [.ref 75, .ref 2, .int r12.2, .int a3]) (rest := [.ref 2, .ref 75, .int ((1:Int32) <<< (a3 &&& 31))]) B (lk_V B d_WordCheck_endsFrom_175 (gl_WordCheck_43 _) rfl hv_WordCheck_endBitsOf (by decide) (by decide)) rfl (x_rcV B xc_WordCheck kd_75) (fun _ _ => rfl) rfl rfl (by simp [Value.category]) rfl (fun r13 e9 => ct_WordCheck_endBitsOf _ _ _ r13 e9) (fun r13 _ => ?_)
                refine s_iload B d_WordCheck_endsFrom_178 rfl ?_
                refine s_iconst (v := (-1:Int32)) B d_WordCheck_endsFrom_180 (by decide) ?_
                refine s_ixor B d_WordCheck_endsFrom_181 ?_
                refine s_iand B d_WordCheck_endsFrom_182 ?_
                refine s_iload B d_WordCheck_endsFrom_183 rfl ?_
                refine s_pick (lv1 := []) [] rfl ?_
                refine s_callI (av := [.ref 75, .ref 2, .int (r13.2 &&& (((1:Int32) <<< (a3 &&& 31)) ^^^ (-1:Int32))), .int v1]) (rest := [.int ((1:Int32) <<< (a3 &&& 31))]) B (lk_V B d_WordCheck_endsFrom_185 (gl_WordCheck_94 _) rfl hv_WordCheck_goneOn (by decide) (by decide)) rfl (x_rcV B xc_WordCheck kd_75) (fun _ _ => rfl) rfl rfl (by simp [Value.category]) rfl (fun r14 e9 => ct_WordCheck_goneOn _ _ _ r14 e9) (fun r14 _ => ?_)
                refine s_ior B d_WordCheck_endsFrom_188 ?_
                exact s_iret B d_WordCheck_endsFrom_189
              · refine s_tabOut B d_WordCheck_endsFrom_19 (by have q0 := lv_neT h0_ (by decide : (1:Int32).toInt = 1); have q1 := lv_neT h1_ (by decide : (2:Int32).toInt = 2); have q2 := lv_neT h2_ (by decide : (3:Int32).toInt = 3); have q3 := lv_neT h3_ (by decide : (4:Int32).toInt = 4); have q4 := lv_neT h4_ (by decide : (5:Int32).toInt = 5); have q5 := lv_neT h5_ (by decide : (6:Int32).toInt = 6); have q6 := lv_neT h6_ (by decide : (7:Int32).toInt = 7); omega) rfl ?_
                refine s_iconst (v := (0:Int32)) B d_WordCheck_endsFrom_190 (by decide) ?_
                exact s_iret B d_WordCheck_endsFrom_191
set_option maxRecDepth 100000 in
set_option maxHeartbeats 4000000 in
theorem ct_WordCheck_endsFrom {l : Launch} {D : va_G} {base : Nat} {g : Nat → ClassId} (a2 : Int32) (a3 : Int32) (M : MS) (r : MS × Int32) (hr : m_WordCheck_endsFrom a2 a3 M = some r) : Ct l y_WordCheck_endsFrom (Cond.code y_WordCheck_endsFrom b_WordCheck_endsFrom 7 (some .int) :: x_T) 3 70 D x_cl (xty g) base (xwd g) cM x_g0 [.ref 75, .ref 2, .int a2, .int a3] M r.1 (ovI r.2) :=
  x_met (ov := ovI) (by decide) (Nat.le_of_ble_eq_true rfl) (fun p e R s m args below meth c az B => t_WordCheck_endsFrom B a2 a3 M) r hr
end
theorem d_WordCheck_accepts_0 : decode b_WordCheck_accepts 0 = .ok (.aload_n 0, 1) := by decide +kernel
theorem d_WordCheck_accepts_1 : decode b_WordCheck_accepts 1 = .ok (.iload_n 3, 1) := by decide +kernel
theorem d_WordCheck_accepts_2 : decode b_WordCheck_accepts 2 = .ok (.putfield 29, 3) := by decide +kernel
theorem d_WordCheck_accepts_5 : decode b_WordCheck_accepts 5 = .ok (.aload_n 0, 1) := by decide +kernel
theorem d_WordCheck_accepts_6 : decode b_WordCheck_accepts 6 = .ok (.iload 4, 2) := by decide +kernel
theorem d_WordCheck_accepts_8 : decode b_WordCheck_accepts 8 = .ok (.putfield 32, 3) := by decide +kernel
theorem d_WordCheck_accepts_11 : decode b_WordCheck_accepts 11 = .ok (.aload_n 0, 1) := by decide +kernel
theorem d_WordCheck_accepts_12 : decode b_WordCheck_accepts 12 = .ok (.aload_n 1, 1) := by decide +kernel
theorem d_WordCheck_accepts_13 : decode b_WordCheck_accepts 13 = .ok (.iload_n 2, 1) := by decide +kernel
theorem d_WordCheck_accepts_14 : decode b_WordCheck_accepts 14 = .ok (.invokevirtual 35, 3) := by decide +kernel
theorem d_WordCheck_accepts_17 : decode b_WordCheck_accepts 17 = .ok (.iconst (0), 1) := by decide +kernel
theorem d_WordCheck_accepts_18 : decode b_WordCheck_accepts 18 = .ok (.istore 5, 2) := by decide +kernel
theorem d_WordCheck_accepts_20 : decode b_WordCheck_accepts 20 = .ok (.iload 5, 2) := by decide +kernel
theorem d_WordCheck_accepts_22 : decode b_WordCheck_accepts 22 = .ok (.aload_n 0, 1) := by decide +kernel
theorem d_WordCheck_accepts_23 : decode b_WordCheck_accepts 23 = .ok (.getfield 25, 3) := by decide +kernel
theorem d_WordCheck_accepts_26 : decode b_WordCheck_accepts 26 = .ok (.if_icmp .ge (48), 3) := by decide +kernel
theorem d_WordCheck_accepts_29 : decode b_WordCheck_accepts 29 = .ok (.aload_n 0, 1) := by decide +kernel
theorem d_WordCheck_accepts_30 : decode b_WordCheck_accepts 30 = .ok (.getfield 32, 3) := by decide +kernel
theorem d_WordCheck_accepts_33 : decode b_WordCheck_accepts 33 = .ok (.istore 6, 2) := by decide +kernel
theorem d_WordCheck_accepts_35 : decode b_WordCheck_accepts 35 = .ok (.iload 6, 2) := by decide +kernel
theorem d_WordCheck_accepts_37 : decode b_WordCheck_accepts 37 = .ok (.ifCond .lt (31), 3) := by decide +kernel
theorem d_WordCheck_accepts_40 : decode b_WordCheck_accepts 40 = .ok (.aload_n 0, 1) := by decide +kernel
theorem d_WordCheck_accepts_41 : decode b_WordCheck_accepts 41 = .ok (.getfield 15, 3) := by decide +kernel
theorem d_WordCheck_accepts_44 : decode b_WordCheck_accepts 44 = .ok (.iload 5, 2) := by decide +kernel
theorem d_WordCheck_accepts_46 : decode b_WordCheck_accepts 46 = .ok (.bipush (17), 2) := by decide +kernel
theorem d_WordCheck_accepts_48 : decode b_WordCheck_accepts 48 = .ok (.imul, 1) := by decide +kernel
theorem d_WordCheck_accepts_49 : decode b_WordCheck_accepts 49 = .ok (.iload 6, 2) := by decide +kernel
theorem d_WordCheck_accepts_51 : decode b_WordCheck_accepts 51 = .ok (.iadd, 1) := by decide +kernel
theorem d_WordCheck_accepts_52 : decode b_WordCheck_accepts 52 = .ok (.aload_n 0, 1) := by decide +kernel
theorem d_WordCheck_accepts_53 : decode b_WordCheck_accepts 53 = .ok (.aload_n 1, 1) := by decide +kernel
theorem d_WordCheck_accepts_54 : decode b_WordCheck_accepts 54 = .ok (.iload 5, 2) := by decide +kernel
theorem d_WordCheck_accepts_56 : decode b_WordCheck_accepts 56 = .ok (.iload 6, 2) := by decide +kernel
theorem d_WordCheck_accepts_58 : decode b_WordCheck_accepts 58 = .ok (.invokevirtual 39, 3) := by decide +kernel
theorem d_WordCheck_accepts_61 : decode b_WordCheck_accepts 61 = .ok (.iastore, 1) := by decide +kernel
theorem d_WordCheck_accepts_62 : decode b_WordCheck_accepts 62 = .ok (.iinc 6 (-1), 3) := by decide +kernel
theorem d_WordCheck_accepts_65 : decode b_WordCheck_accepts 65 = .ok (.goto (-30), 3) := by decide +kernel
theorem d_WordCheck_accepts_68 : decode b_WordCheck_accepts 68 = .ok (.iinc 5 (1), 3) := by decide +kernel
theorem d_WordCheck_accepts_71 : decode b_WordCheck_accepts 71 = .ok (.goto (-51), 3) := by decide +kernel
theorem d_WordCheck_accepts_74 : decode b_WordCheck_accepts 74 = .ok (.aload_n 0, 1) := by decide +kernel
theorem d_WordCheck_accepts_75 : decode b_WordCheck_accepts 75 = .ok (.aload_n 1, 1) := by decide +kernel
theorem d_WordCheck_accepts_76 : decode b_WordCheck_accepts 76 = .ok (.iload_n 2, 1) := by decide +kernel
theorem d_WordCheck_accepts_77 : decode b_WordCheck_accepts 77 = .ok (.iconst (0), 1) := by decide +kernel
theorem d_WordCheck_accepts_78 : decode b_WordCheck_accepts 78 = .ok (.invokevirtual 43, 3) := by decide +kernel
theorem d_WordCheck_accepts_81 : decode b_WordCheck_accepts 81 = .ok (.aload_n 0, 1) := by decide +kernel
theorem d_WordCheck_accepts_82 : decode b_WordCheck_accepts 82 = .ok (.getfield 32, 3) := by decide +kernel
theorem d_WordCheck_accepts_85 : decode b_WordCheck_accepts 85 = .ok (.ishr, 1) := by decide +kernel
theorem d_WordCheck_accepts_86 : decode b_WordCheck_accepts 86 = .ok (.iconst (1), 1) := by decide +kernel
theorem d_WordCheck_accepts_87 : decode b_WordCheck_accepts 87 = .ok (.iand, 1) := by decide +kernel
theorem d_WordCheck_accepts_88 : decode b_WordCheck_accepts 88 = .ok (.iconst (1), 1) := by decide +kernel
theorem d_WordCheck_accepts_89 : decode b_WordCheck_accepts 89 = .ok (.if_icmp .ne (7), 3) := by decide +kernel
theorem d_WordCheck_accepts_92 : decode b_WordCheck_accepts 92 = .ok (.iconst (1), 1) := by decide +kernel
theorem d_WordCheck_accepts_93 : decode b_WordCheck_accepts 93 = .ok (.goto (4), 3) := by decide +kernel
theorem d_WordCheck_accepts_96 : decode b_WordCheck_accepts 96 = .ok (.iconst (0), 1) := by decide +kernel
theorem d_WordCheck_accepts_97 : decode b_WordCheck_accepts 97 = .ok (.ireturn, 1) := by decide +kernel
section
variable {p : Program} {l : Launch} {e : Env} {R : Room} {s : State} {m : MethodId} {args : Array Value} {below : List Frame} {meth : Method} {c : Code} {D : va_G} {base : Nat} {g : Nat → ClassId} {az : Nat → Nat} {kz : Nat × Nat}
set_option maxRecDepth 100000 in
set_option maxHeartbeats 4000000 in
theorem t_WordCheck_accepts_74  (B : xB p R s m args meth c b_WordCheck_accepts 7 R_WordCheck (Cond.code y_WordCheck_accepts b_WordCheck_accepts 7 (some .boolean) :: x_T) (some .boolean) 7 159 D x_cl (xty g) base)  (l2 : Int32) (M : MS)  : Sn p l e R s m args below meth c 7 D x_cl base (xwd g) cM x_gr az kz (xfc cM) (xZ below args s D x_cl (xty g) base (xwd g) cM x_gr az kz ovI) 74 [] [(0, .ref 75), (1, .ref 2), (2, .int l2)] M (m_WordCheck_accepts_74 l2 M) := by
  unfold m_WordCheck_accepts_74
  refine s_aload_n B d_WordCheck_accepts_74 rfl ?_
  refine s_aload_n B d_WordCheck_accepts_75 rfl ?_
  refine s_iload_n B d_WordCheck_accepts_76 rfl ?_
  refine s_iconst (v := (0:Int32)) B d_WordCheck_accepts_77 (by decide) ?_
  refine s_pick (lv1 := [(0, .ref 75)]) [0] rfl ?_
  refine s_callI (av := [.ref 75, .ref 2, .int l2, .int (0:Int32)]) (rest := []) B (lk_V B d_WordCheck_accepts_78 (gl_WordCheck_43 _) rfl hv_WordCheck_endBitsOf (by decide) (by decide)) rfl (x_rcV B xc_WordCheck kd_75) (fun _ _ => rfl) rfl rfl (by simp [Value.category]) rfl (fun r1 e9 => ct_WordCheck_endBitsOf _ _ _ r1 e9) (fun r1 _ => ?_)
  refine s_aload_n B d_WordCheck_accepts_81 rfl ?_
  refine s_getI (k := 5) B xc_WordCheck kd_75 (by decide) rfl rfl fl_WordCheck_32 d_WordCheck_accepts_82 ?_
  refine s_ishr B d_WordCheck_accepts_85 ?_
  refine s_iconst (v := (1:Int32)) B d_WordCheck_accepts_86 (by decide) ?_
  refine s_iand B d_WordCheck_accepts_87 ?_
  refine s_iconst (v := (1:Int32)) B d_WordCheck_accepts_88 (by decide) ?_
  refine s_icmp_ne B d_WordCheck_accepts_89 rfl (fun _ => ?_) (fun _ => ?_)
  · refine s_iconst (v := (0:Int32)) B d_WordCheck_accepts_96 (by decide) ?_
    exact s_zret0 rfl B d_WordCheck_accepts_97
  · refine s_iconst (v := (1:Int32)) B d_WordCheck_accepts_92 (by decide) ?_
    refine s_goto B d_WordCheck_accepts_93 rfl ?_
    exact s_zret0 rfl B d_WordCheck_accepts_97
set_option maxRecDepth 100000 in
set_option maxHeartbeats 4000000 in
theorem t_WordCheck_accepts_35b {k20 : Int32 × Int32 × MS → Option (MS × Int32)} {k35 : Int32 × Int32 × Int32 × MS → Option (MS × Int32)} (B : xB p R s m args meth c b_WordCheck_accepts 7 R_WordCheck (Cond.code y_WordCheck_accepts b_WordCheck_accepts 7 (some .boolean) :: x_T) (some .boolean) 7 159 D x_cl (xty g) base) (hk20 : ∀ (l2 : Int32) (l5 : Int32) (M : MS) , Sn p l e R s m args below meth c 7 D x_cl base (xwd g) cM x_gr az kz (xfc cM) (xZ below args s D x_cl (xty g) base (xwd g) cM x_gr az kz ovI) 20 [] [(0, .ref 75), (1, .ref 2), (2, .int l2), (5, .int l5)] M (k20 (l2, l5, M))) (hk35 : ∀ (l2 : Int32) (l5 : Int32) (l6 : Int32) (M : MS) , Sn p l e R s m args below meth c 7 D x_cl base (xwd g) cM x_gr az kz (xfc cM) (xZ below args s D x_cl (xty g) base (xwd g) cM x_gr az kz ovI) 35 [] [(0, .ref 75), (1, .ref 2), (2, .int l2), (5, .int l5), (6, .int l6)] M (k35 (l2, l5, l6, M))) (l2 : Int32) (l5 : Int32) (l6 : Int32) (M : MS)  : Sn p l e R s m args below meth c 7 D x_cl base (xwd g) cM x_gr az kz (xfc cM) (xZ below args s D x_cl (xty g) base (xwd g) cM x_gr az kz ovI) 35 [] [(0, .ref 75), (1, .ref 2), (2, .int l2), (5, .int l5), (6, .int l6)] M (m_WordCheck_accepts_35b k20 k35 l2 l5 l6 M) := by
  unfold m_WordCheck_accepts_35b
  refine s_iload B d_WordCheck_accepts_35 rfl ?_
  refine s_if_lt B d_WordCheck_accepts_37 rfl (fun _ => ?_) (fun _ => ?_)
  · refine s_iinc (w := (1:Int32)) B d_WordCheck_accepts_68 rfl (by decide) (by decide) ?_
    refine s_goto B d_WordCheck_accepts_71 rfl ?_
    refine s_pick (lv1 := [(0, .ref 75), (1, .ref 2), (2, .int l2), (5, .int (l5 + (1:Int32)))]) [0, 1, 2, 5] rfl ?_
    exact hk20 l2 (l5 + (1:Int32)) M
  · refine s_aload_n B d_WordCheck_accepts_40 rfl ?_
    refine s_getS (k := 1) (n := 77) B xc_WordCheck kd_75 (by decide) rfl rfl fl_WordCheck_15 sr_75_1 d_WordCheck_accepts_41 ?_
    refine s_iload B d_WordCheck_accepts_44 rfl ?_
    refine s_bipush (v := (17:Int32)) B d_WordCheck_accepts_46 (by decide) ?_
    refine s_imul B d_WordCheck_accepts_48 ?_
    refine s_iload B d_WordCheck_accepts_49 rfl ?_
    refine s_iadd B d_WordCheck_accepts_51 ?_
    refine s_aload_n B d_WordCheck_accepts_52 rfl ?_
    refine s_aload_n B d_WordCheck_accepts_53 rfl ?_
    refine s_iload B d_WordCheck_accepts_54 rfl ?_
    refine s_iload B d_WordCheck_accepts_56 rfl ?_
    refine s_pick (lv1 := [(0, .ref 75), (1, .ref 2), (2, .int l2), (5, .int l5), (6, .int l6)]) [0, 1, 2, 5, 6] rfl ?_
    refine s_callI (av := [.ref 75, .ref 2, .int l5, .int l6]) (rest := [.int ((l5 * (17:Int32)) + l6), .ref 77]) B (lk_V B d_WordCheck_accepts_58 (gl_WordCheck_39 _) rfl hv_WordCheck_endsFrom (by decide) (by decide)) rfl (x_rcV B xc_WordCheck kd_75) (fun _ _ => rfl) rfl rfl (by simp [Value.category]) rfl (fun r1 e9 => ct_WordCheck_endsFrom _ _ _ r1 e9) (fun r1 _ => ?_)
    refine s_iast B (Or.inl kd_77) d_WordCheck_accepts_61 (fun M2 _ => ?_)
    refine s_iinc (w := (-1:Int32)) B d_WordCheck_accepts_62 rfl (by decide) (by decide) ?_
    refine s_goto B d_WordCheck_accepts_65 rfl ?_
    refine s_pick (lv1 := [(0, .ref 75), (1, .ref 2), (2, .int l2), (5, .int l5), (6, .int (l6 + (-1:Int32)))]) [0, 1, 2, 5, 6] rfl ?_
    exact hk35 l2 l5 (l6 + (-1:Int32)) M2
set_option maxRecDepth 100000 in
set_option maxHeartbeats 4000000 in
theorem t_WordCheck_accepts_35 {k20 : Int32 × Int32 × MS → Option (MS × Int32)} (B : xB p R s m args meth c b_WordCheck_accepts 7 R_WordCheck (Cond.code y_WordCheck_accepts b_WordCheck_accepts 7 (some .boolean) :: x_T) (some .boolean) 7 159 D x_cl (xty g) base) (hk20 : ∀ (l2 : Int32) (l5 : Int32) (M : MS) , Sn p l e R s m args below meth c 7 D x_cl base (xwd g) cM x_gr az kz (xfc cM) (xZ below args s D x_cl (xty g) base (xwd g) cM x_gr az kz ovI) 20 [] [(0, .ref 75), (1, .ref 2), (2, .int l2), (5, .int l5)] M (k20 (l2, l5, M))) (l2 : Int32) (l5 : Int32) (l6 : Int32) (M : MS)  : Sn p l e R s m args below meth c 7 D x_cl base (xwd g) cM x_gr az kz (xfc cM) (xZ below args s D x_cl (xty g) base (xwd g) cM x_gr az kz ovI) 35 [] [(0, .ref 75), (1, .ref 2), (2, .int l2), (5, .int l5), (6, .int l6)] M (m_WordCheck_accepts_35 k20 (l2, l5, l6, M)) := by
  have q : ∀ (F : Nat) (i : Int32 × Int32 × Int32 × MS), Sn p l e R s m args below meth c 7 D x_cl base (xwd g) cM x_gr az kz (xfc cM) (xZ below args s D x_cl (xty g) base (xwd g) cM x_gr az kz ovI) 35 [] [(0, .ref 75), (1, .ref 2), (2, .int i.1), (5, .int i.2.1), (6, .int i.2.2.1)] i.2.2.2 (fx (fun (k : Int32 × Int32 × Int32 × MS → Option (MS × Int32)) (i : Int32 × Int32 × Int32 × MS) => m_WordCheck_accepts_35b k20 k i.1 i.2.1 i.2.2.1 i.2.2.2) F i) := by
    intro F
    induction F with
    | zero => intro i ; exact s_none
    | succ F ih => intro i ; exact t_WordCheck_accepts_35b B hk20 (fun l2 l5 l6 M  => ih (l2, l5, l6, M) ) i.1 i.2.1 i.2.2.1 i.2.2.2 
  exact q FU (l2, l5, l6, M) 
set_option maxRecDepth 100000 in
set_option maxHeartbeats 4000000 in
theorem t_WordCheck_accepts_20b {k20 : Int32 × Int32 × MS → Option (MS × Int32)} (B : xB p R s m args meth c b_WordCheck_accepts 7 R_WordCheck (Cond.code y_WordCheck_accepts b_WordCheck_accepts 7 (some .boolean) :: x_T) (some .boolean) 7 159 D x_cl (xty g) base) (hk20 : ∀ (l2 : Int32) (l5 : Int32) (M : MS) , Sn p l e R s m args below meth c 7 D x_cl base (xwd g) cM x_gr az kz (xfc cM) (xZ below args s D x_cl (xty g) base (xwd g) cM x_gr az kz ovI) 20 [] [(0, .ref 75), (1, .ref 2), (2, .int l2), (5, .int l5)] M (k20 (l2, l5, M))) (l2 : Int32) (l5 : Int32) (M : MS)  : Sn p l e R s m args below meth c 7 D x_cl base (xwd g) cM x_gr az kz (xfc cM) (xZ below args s D x_cl (xty g) base (xwd g) cM x_gr az kz ovI) 20 [] [(0, .ref 75), (1, .ref 2), (2, .int l2), (5, .int l5)] M (m_WordCheck_accepts_20b k20 l2 l5 M) := by
  unfold m_WordCheck_accepts_20b
  refine s_iload B d_WordCheck_accepts_20 rfl ?_
  refine s_aload_n B d_WordCheck_accepts_22 rfl ?_
  refine s_getI (k := 3) B xc_WordCheck kd_75 (by decide) rfl rfl fl_WordCheck_25 d_WordCheck_accepts_23 ?_
  refine s_icmp_ge B d_WordCheck_accepts_26 rfl (fun _ => ?_) (fun _ => ?_)
  · refine s_pick (lv1 := [(0, .ref 75), (1, .ref 2), (2, .int l2)]) [0, 1, 2] rfl ?_
    exact t_WordCheck_accepts_74 B l2 M
  · refine s_aload_n B d_WordCheck_accepts_29 rfl ?_
    refine s_getI (k := 5) B xc_WordCheck kd_75 (by decide) rfl rfl fl_WordCheck_32 d_WordCheck_accepts_30 ?_
    refine s_istore B d_WordCheck_accepts_33 (by decide) ?_
    refine s_pick (lv1 := [(0, .ref 75), (1, .ref 2), (2, .int l2), (5, .int l5), (6, .int (gI M 75 5))]) [0, 1, 2, 5, 6] rfl ?_
    exact t_WordCheck_accepts_35 B hk20 l2 l5 (gI M 75 5) M
set_option maxRecDepth 100000 in
set_option maxHeartbeats 4000000 in
theorem t_WordCheck_accepts_20  (B : xB p R s m args meth c b_WordCheck_accepts 7 R_WordCheck (Cond.code y_WordCheck_accepts b_WordCheck_accepts 7 (some .boolean) :: x_T) (some .boolean) 7 159 D x_cl (xty g) base)  (l2 : Int32) (l5 : Int32) (M : MS)  : Sn p l e R s m args below meth c 7 D x_cl base (xwd g) cM x_gr az kz (xfc cM) (xZ below args s D x_cl (xty g) base (xwd g) cM x_gr az kz ovI) 20 [] [(0, .ref 75), (1, .ref 2), (2, .int l2), (5, .int l5)] M (m_WordCheck_accepts_20 (l2, l5, M)) := by
  have q : ∀ (F : Nat) (i : Int32 × Int32 × MS), Sn p l e R s m args below meth c 7 D x_cl base (xwd g) cM x_gr az kz (xfc cM) (xZ below args s D x_cl (xty g) base (xwd g) cM x_gr az kz ovI) 20 [] [(0, .ref 75), (1, .ref 2), (2, .int i.1), (5, .int i.2.1)] i.2.2 (fx (fun (k : Int32 × Int32 × MS → Option (MS × Int32)) (i : Int32 × Int32 × MS) => m_WordCheck_accepts_20b k i.1 i.2.1 i.2.2) F i) := by
    intro F
    induction F with
    | zero => intro i ; exact s_none
    | succ F ih => intro i ; exact t_WordCheck_accepts_20b B  (fun l2 l5 M  => ih (l2, l5, M) ) i.1 i.2.1 i.2.2 
  exact q FU (l2, l5, M) 
set_option maxRecDepth 100000 in
set_option maxHeartbeats 4000000 in
theorem t_WordCheck_accepts (B : xB p R s m args meth c b_WordCheck_accepts 7 R_WordCheck (Cond.code y_WordCheck_accepts b_WordCheck_accepts 7 (some .boolean) :: x_T) (some .boolean) 7 159 D x_cl (xty g) base) (a2 : Int32) (a3 : Int32) (a4 : Int32) (M : MS) : Sn p l e R s m args below meth c 7 D x_cl base (xwd g) cM x_gr az kz (xfc cM) (xZ below args s D x_cl (xty g) base (xwd g) cM x_gr az kz ovI) 0 [] [(0, .ref 75), (1, .ref 2), (2, .int a2), (3, .int a3), (4, .int a4)] M (m_WordCheck_accepts a2 a3 a4 M) := by
  unfold m_WordCheck_accepts
  refine s_aload_n B d_WordCheck_accepts_0 rfl ?_
  refine s_iload_n B d_WordCheck_accepts_1 rfl ?_
  refine s_putI (k := 4) (ty := .int) B xc_WordCheck kd_75 (by decide) rfl rfl fl_WordCheck_29 rfl rfl rfl rfl d_WordCheck_accepts_2 (fun M1 _ => ?_)
  refine s_aload_n B d_WordCheck_accepts_5 rfl ?_
  refine s_iload B d_WordCheck_accepts_6 rfl ?_
  refine s_putI (k := 5) (ty := .int) B xc_WordCheck kd_75 (by decide) rfl rfl fl_WordCheck_32 rfl rfl rfl rfl d_WordCheck_accepts_8 (fun M2 _ => ?_)
  refine s_aload_n B d_WordCheck_accepts_11 rfl ?_
  refine s_aload_n B d_WordCheck_accepts_12 rfl ?_
  refine s_iload_n B d_WordCheck_accepts_13 rfl ?_
  refine s_pick (lv1 := [(0, .ref 75), (1, .ref 2), (2, .int a2)]) [0, 1, 2] rfl ?_
  refine s_callU (av := [.ref 75, .ref 2, .int a2]) (rest := []) B (lk_V B d_WordCheck_accepts_14 (gl_WordCheck_35 _) rfl hv_WordCheck_arrange (by decide) (by decide)) rfl (x_rcV B xc_WordCheck kd_75) (fun _ h => h) rfl (by simp [xng, x_gr, kd_2, kd_75]) (by simp [Value.category]) rfl (fun r3 e9 => ct_WordCheck_arrange _ _ r3 e9) (fun r3 _ => ?_)
  refine s_iconst (v := (0:Int32)) B d_WordCheck_accepts_17 (by decide) ?_
  refine s_istore B d_WordCheck_accepts_18 (by decide) ?_
  refine s_pick (lv1 := [(0, .ref 75), (1, .ref 2), (2, .int a2), (5, .int (0:Int32))]) [0, 1, 2, 5] rfl ?_
  exact t_WordCheck_accepts_20 B a2 (0:Int32) r3.1
set_option maxRecDepth 100000 in
set_option maxHeartbeats 4000000 in
theorem ct_WordCheck_accepts {l : Launch} {D : va_G} {base : Nat} {g : Nat → ClassId} (a2 : Int32) (a3 : Int32) (a4 : Int32) (M : MS) (r : MS × Int32) (hr : m_WordCheck_accepts a2 a3 a4 M = some r) : Ct l y_WordCheck_accepts (Cond.code y_WordCheck_accepts b_WordCheck_accepts 7 (some .boolean) :: x_T) 7 159 D x_cl (xty g) base (xwd g) cM x_gr [.ref 75, .ref 2, .int a2, .int a3, .int a4] M r.1 (ovI r.2) :=
  x_met (ov := ovI) (by decide) (Nat.le_of_ble_eq_true rfl) (fun p e R s m args below meth c az B => t_WordCheck_accepts B a2 a3 a4 M) r hr
end
theorem d_D_has_0 : decode b_D_has 0 = .ok (.iload_n 1, 1) := by decide +kernel
theorem d_D_has_1 : decode b_D_has 1 = .ok (.invokestatic 61, 3) := by decide +kernel
theorem d_D_has_4 : decode b_D_has 4 = .ok (.iload_n 3, 1) := by decide +kernel
theorem d_D_has_5 : decode b_D_has 5 = .ok (.bipush (16), 2) := by decide +kernel
theorem d_D_has_7 : decode b_D_has 7 = .ok (.invokestatic 65, 3) := by decide +kernel
theorem d_D_has_10 : decode b_D_has 10 = .ok (.aload_n 0, 1) := by decide +kernel
theorem d_D_has_11 : decode b_D_has 11 = .ok (.getfield 30, 3) := by decide +kernel
theorem d_D_has_14 : decode b_D_has 14 = .ok (.aload_n 0, 1) := by decide +kernel
theorem d_D_has_15 : decode b_D_has 15 = .ok (.getfield 16, 3) := by decide +kernel
theorem d_D_has_18 : decode b_D_has 18 = .ok (.aload_n 0, 1) := by decide +kernel
theorem d_D_has_19 : decode b_D_has 19 = .ok (.getfield 9, 3) := by decide +kernel
theorem d_D_has_22 : decode b_D_has 22 = .ok (.iload_n 1, 1) := by decide +kernel
theorem d_D_has_23 : decode b_D_has 23 = .ok (.iaload, 1) := by decide +kernel
theorem d_D_has_24 : decode b_D_has 24 = .ok (.iload_n 2, 1) := by decide +kernel
theorem d_D_has_25 : decode b_D_has 25 = .ok (.iload_n 3, 1) := by decide +kernel
theorem d_D_has_26 : decode b_D_has 26 = .ok (.invokevirtual 94, 3) := by decide +kernel
theorem d_D_has_29 : decode b_D_has 29 = .ok (.ireturn, 1) := by decide +kernel
section
variable {p : Program} {l : Launch} {e : Env} {R : Room} {s : State} {m : MethodId} {args : Array Value} {below : List Frame} {meth : Method} {c : Code} {D : va_G} {base : Nat} {g : Nat → ClassId} {az : Nat → Nat} {kz : Nat × Nat}
set_option maxRecDepth 100000 in
set_option maxHeartbeats 4000000 in
theorem t_D_has (B : xB p R s m args meth c b_D_has 4 R_D (Cond.code y_D_has b_D_has 4 (some .boolean) :: x_T) (some .boolean) 8 185 D x_cl (xty g) base) (a1 : Int32) (a2 : Int32) (a3 : Int32) (M : MS) : Sn p l e R s m args below meth c 4 D x_cl base (xwd g) cM x_gr az kz (xfc cM) (xZ below args s D x_cl (xty g) base (xwd g) cM x_gr az kz ovI) 0 [] [(0, .ref 0), (1, .int a1), (2, .int a2), (3, .int a3)] M (m_D_has a1 a2 a3 M) := by
  unfold m_D_has
  refine s_iload_n B d_D_has_0 rfl ?_
  refine s_pick (lv1 := [(0, .ref 0), (1, .int a1), (2, .int a2), (3, .int a3)]) [0, 1, 2, 3] rfl ?_
  refine s_callU (av := [.int a1]) (rest := []) B (lk_S B d_D_has_1 (gl_D_61 _) (List.mem_cons_of_mem _ st_D_checkSlot) (List.mem_cons_of_mem _ in_D) (List.mem_cons_of_mem _ ml_D_61) rfl hs_D_checkSlot (by decide) (by decide)) rfl x_rcS (fun _ _ => rfl) rfl rfl (by simp [Value.category]) rfl (fun r1 e9 => ct_D_checkSlot _ _ r1 e9) (fun r1 _ => ?_)
  refine s_iload_n B d_D_has_4 rfl ?_
  refine s_bipush (v := (16:Int32)) B d_D_has_5 (by decide) ?_
  refine s_pick (lv1 := [(0, .ref 0), (1, .int a1), (2, .int a2), (3, .int a3)]) [0, 1, 2, 3] rfl ?_
  refine s_callU (av := [.int a3, .int (16:Int32)]) (rest := []) B (lk_S B d_D_has_7 (gl_D_65 _) (List.mem_cons_of_mem _ st_D_checkRange) (List.mem_cons_of_mem _ in_D) (List.mem_cons_of_mem _ ml_D_65) rfl hs_D_checkRange (by decide) (by decide)) rfl x_rcS (fun _ _ => rfl) rfl rfl (by simp [Value.category]) rfl (fun r2 e9 => ct_D_checkRange _ _ _ r2 e9) (fun r2 _ => ?_)
  refine s_aload_n B d_D_has_10 rfl ?_
  refine s_getS (k := 3) (n := 75) B xc_D kd_0 (by decide) rfl rfl fl_D_30 sr_0_3 d_D_has_11 ?_
  refine s_aload_n B d_D_has_14 rfl ?_
  refine s_getS (k := 1) (n := 2) B xc_D kd_0 (by decide) rfl rfl fl_D_16 sr_0_1 d_D_has_15 ?_
  refine s_aload_n B d_D_has_18 rfl ?_
  refine s_getS (k := 0) (n := 1) B xc_D kd_0 (by decide) rfl rfl fl_D_9 sr_0_0 d_D_has_19 ?_
  refine s_iload_n B d_D_has_22 rfl ?_
  refine s_iald B (Or.inl kd_1) d_D_has_23 (fun v3 _ => ?_)
  refine s_iload_n B d_D_has_24 rfl ?_
  refine s_iload_n B d_D_has_25 rfl ?_
  refine s_pick (lv1 := []) [] rfl ?_
  refine s_callI (av := [.ref 75, .ref 2, .int v3, .int a2, .int a3]) (rest := []) B (lk_V B d_D_has_26 (gl_D_94 _) rfl hv_WordCheck_accepts (by decide) (by decide)) rfl (x_rcV B xc_WordCheck kd_75) (fun _ h => h) rfl rfl (by simp [Value.category]) rfl (fun r4 e9 => ct_WordCheck_accepts _ _ _ _ r4 e9) (fun r4 _ => ?_)
  exact s_zret B d_D_has_29
set_option maxRecDepth 100000 in
set_option maxHeartbeats 4000000 in
theorem ct_D_has {l : Launch} {D : va_G} {base : Nat} {g : Nat → ClassId} (a1 : Int32) (a2 : Int32) (a3 : Int32) (M : MS) (r : MS × Int32) (hr : m_D_has a1 a2 a3 M = some r) : Ct l y_D_has (Cond.code y_D_has b_D_has 4 (some .boolean) :: x_T) 8 185 D x_cl (xty g) base (xwd g) cM x_gr [.ref 0, .int a1, .int a2, .int a3] M r.1 (ovI r.2) :=
  x_met (ov := ovI) (by decide) (Nat.le_of_ble_eq_true rfl) (fun p e R s m args below meth c az B => t_D_has B a1 a2 a3 M) r hr
end
theorem d_Machine_isKnown_0 : decode b_Machine_isKnown 0 = .ok (.aload_n 0, 1) := by decide +kernel
theorem d_Machine_isKnown_1 : decode b_Machine_isKnown 1 = .ok (.getfield 19, 3) := by decide +kernel
theorem d_Machine_isKnown_4 : decode b_Machine_isKnown 4 = .ok (.ifCond .eq (7), 3) := by decide +kernel
theorem d_Machine_isKnown_7 : decode b_Machine_isKnown 7 = .ok (.iconst (1), 1) := by decide +kernel
theorem d_Machine_isKnown_8 : decode b_Machine_isKnown 8 = .ok (.goto (4), 3) := by decide +kernel
theorem d_Machine_isKnown_11 : decode b_Machine_isKnown 11 = .ok (.iconst (0), 1) := by decide +kernel
theorem d_Machine_isKnown_12 : decode b_Machine_isKnown 12 = .ok (.ireturn, 1) := by decide +kernel
section
variable {p : Program} {l : Launch} {e : Env} {R : Room} {s : State} {m : MethodId} {args : Array Value} {below : List Frame} {meth : Method} {c : Code} {D : va_G} {base : Nat} {g : Nat → ClassId} {az : Nat → Nat} {kz : Nat × Nat}
set_option maxRecDepth 100000 in
set_option maxHeartbeats 4000000 in
theorem t_Machine_isKnown (B : xB p R s m args meth c b_Machine_isKnown 1 R_Machine (Cond.code y_Machine_isKnown b_Machine_isKnown 1 (some .boolean) :: x_T) (some .boolean) 0 0 D x_cl (xty g) base) (a0 : Nat) (M : MS) : Sn p l e R s m args below meth c 1 D x_cl base (xwd g) cM x_g0 az kz (xfc cM) (xZ below args s D x_cl (xty g) base (xwd g) cM x_g0 az kz ovI) 0 [] [(0, .ref a0)] M (m_Machine_isKnown a0 M) := by
  unfold m_Machine_isKnown
  refine s_guard (fun ha0 => ?_)
  refine s_aload_n B d_Machine_isKnown_0 rfl ?_
  refine s_getI (k := 2) B xc_Machine ha0 (by decide) rfl rfl fl_Machine_19 d_Machine_isKnown_1 ?_
  refine s_if_eq B d_Machine_isKnown_4 rfl (fun _ => ?_) (fun _ => ?_)
  · refine s_iconst (v := (0:Int32)) B d_Machine_isKnown_11 (by decide) ?_
    exact s_zret0 rfl B d_Machine_isKnown_12
  · refine s_iconst (v := (1:Int32)) B d_Machine_isKnown_7 (by decide) ?_
    refine s_goto B d_Machine_isKnown_8 rfl ?_
    exact s_zret0 rfl B d_Machine_isKnown_12
set_option maxRecDepth 100000 in
set_option maxHeartbeats 4000000 in
theorem ct_Machine_isKnown {l : Launch} {D : va_G} {base : Nat} {g : Nat → ClassId} (a0 : Nat) (M : MS) (r : MS × Int32) (hr : m_Machine_isKnown a0 M = some r) : Ct l y_Machine_isKnown (Cond.code y_Machine_isKnown b_Machine_isKnown 1 (some .boolean) :: x_T) 0 0 D x_cl (xty g) base (xwd g) cM x_g0 [.ref a0] M r.1 (ovI r.2) :=
  x_met (ov := ovI) (by decide) (Nat.le_of_ble_eq_true rfl) (fun p e R s m args below meth c az B => t_Machine_isKnown B a0 M) r hr
end
theorem d_Terms_isNullable_0 : decode b_Terms_isNullable 0 = .ok (.aload_n 0, 1) := by decide +kernel
theorem d_Terms_isNullable_1 : decode b_Terms_isNullable 1 = .ok (.getfield 18, 3) := by decide +kernel
theorem d_Terms_isNullable_4 : decode b_Terms_isNullable 4 = .ok (.iload_n 1, 1) := by decide +kernel
theorem d_Terms_isNullable_5 : decode b_Terms_isNullable 5 = .ok (.iaload, 1) := by decide +kernel
theorem d_Terms_isNullable_6 : decode b_Terms_isNullable 6 = .ok (.iconst (1), 1) := by decide +kernel
theorem d_Terms_isNullable_7 : decode b_Terms_isNullable 7 = .ok (.if_icmp .ne (7), 3) := by decide +kernel
theorem d_Terms_isNullable_10 : decode b_Terms_isNullable 10 = .ok (.iconst (1), 1) := by decide +kernel
theorem d_Terms_isNullable_11 : decode b_Terms_isNullable 11 = .ok (.goto (4), 3) := by decide +kernel
theorem d_Terms_isNullable_14 : decode b_Terms_isNullable 14 = .ok (.iconst (0), 1) := by decide +kernel
theorem d_Terms_isNullable_15 : decode b_Terms_isNullable 15 = .ok (.ireturn, 1) := by decide +kernel
section
variable {p : Program} {l : Launch} {e : Env} {R : Room} {s : State} {m : MethodId} {args : Array Value} {below : List Frame} {meth : Method} {c : Code} {D : va_G} {base : Nat} {g : Nat → ClassId} {az : Nat → Nat} {kz : Nat × Nat}
set_option maxRecDepth 100000 in
set_option maxHeartbeats 4000000 in
theorem t_Terms_isNullable (B : xB p R s m args meth c b_Terms_isNullable 2 R_Terms (Cond.code y_Terms_isNullable b_Terms_isNullable 2 (some .boolean) :: x_T) (some .boolean) 0 0 D x_cl (xty g) base) (a1 : Int32) (M : MS) : Sn p l e R s m args below meth c 2 D x_cl base (xwd g) cM x_g0 az kz (xfc cM) (xZ below args s D x_cl (xty g) base (xwd g) cM x_g0 az kz ovI) 0 [] [(0, .ref 2), (1, .int a1)] M (m_Terms_isNullable a1 M) := by
  unfold m_Terms_isNullable
  refine s_aload_n B d_Terms_isNullable_0 rfl ?_
  refine s_getS (k := 2) (n := 5) B xc_Terms kd_2 (by decide) rfl rfl fl_Terms_18 sr_2_2 d_Terms_isNullable_1 ?_
  refine s_iload_n B d_Terms_isNullable_4 rfl ?_
  refine s_iald B (Or.inr kd_5) d_Terms_isNullable_5 (fun v1 _ => ?_)
  refine s_iconst (v := (1:Int32)) B d_Terms_isNullable_6 (by decide) ?_
  refine s_icmp_ne B d_Terms_isNullable_7 rfl (fun _ => ?_) (fun _ => ?_)
  · refine s_iconst (v := (0:Int32)) B d_Terms_isNullable_14 (by decide) ?_
    exact s_zret0 rfl B d_Terms_isNullable_15
  · refine s_iconst (v := (1:Int32)) B d_Terms_isNullable_10 (by decide) ?_
    refine s_goto B d_Terms_isNullable_11 rfl ?_
    exact s_zret0 rfl B d_Terms_isNullable_15
set_option maxRecDepth 100000 in
set_option maxHeartbeats 4000000 in
theorem ct_Terms_isNullable {l : Launch} {D : va_G} {base : Nat} {g : Nat → ClassId} (a1 : Int32) (M : MS) (r : MS × Int32) (hr : m_Terms_isNullable a1 M = some r) : Ct l y_Terms_isNullable (Cond.code y_Terms_isNullable b_Terms_isNullable 2 (some .boolean) :: x_T) 0 0 D x_cl (xty g) base (xwd g) cM x_g0 [.ref 2, .int a1] M r.1 (ovI r.2) :=
  x_met (ov := ovI) (by decide) (Nat.le_of_ble_eq_true rfl) (fun p e R s m args below meth c az B => t_Terms_isNullable B a1 M) r hr
end
theorem d_Machine_setAccepting_0 : decode b_Machine_setAccepting 0 = .ok (.aload_n 0, 1) := by decide +kernel
theorem d_Machine_setAccepting_1 : decode b_Machine_setAccepting 1 = .ok (.getfield 15, 3) := by decide +kernel
theorem d_Machine_setAccepting_4 : decode b_Machine_setAccepting 4 = .ok (.iload_n 1, 1) := by decide +kernel
theorem d_Machine_setAccepting_5 : decode b_Machine_setAccepting 5 = .ok (.iload_n 2, 1) := by decide +kernel
theorem d_Machine_setAccepting_6 : decode b_Machine_setAccepting 6 = .ok (.bastore, 1) := by decide +kernel
theorem d_Machine_setAccepting_7 : decode b_Machine_setAccepting 7 = .ok (.return_, 1) := by decide +kernel
section
variable {p : Program} {l : Launch} {e : Env} {R : Room} {s : State} {m : MethodId} {args : Array Value} {below : List Frame} {meth : Method} {c : Code} {D : va_G} {base : Nat} {g : Nat → ClassId} {az : Nat → Nat} {kz : Nat × Nat}
set_option maxRecDepth 100000 in
set_option maxHeartbeats 4000000 in
theorem t_Machine_setAccepting (B : xB p R s m args meth c b_Machine_setAccepting 3 R_Machine (Cond.code y_Machine_setAccepting b_Machine_setAccepting 3 none :: x_T) none 0 0 D x_cl (xty g) base) (a0 : Nat) (a1 : Int32) (a2 : Int32) (M : MS) : Sn p l e R s m args below meth c 3 D x_cl base (xwd g) cM x_g0 az kz (xfc cM) (xZ below args s D x_cl (xty g) base (xwd g) cM x_g0 az kz ovU) 0 [] [(0, .ref a0), (1, .int a1), (2, .int a2)] M (m_Machine_setAccepting a0 a1 a2 M) := by
  unfold m_Machine_setAccepting
  refine s_guard (fun ha0 => ?_)
  refine s_aload_n B d_Machine_setAccepting_0 rfl ?_
  refine s_getS (k := 1) (n := (x_sr a0 1)) B xc_Machine ha0 (by decide) rfl rfl fl_Machine_15 rfl d_Machine_setAccepting_1 ?_
  refine s_iload_n B d_Machine_setAccepting_4 rfl ?_
  refine s_iload_n B d_Machine_setAccepting_5 rfl ?_
  refine s_zast B (srk_Machine_1 ha0) d_Machine_setAccepting_6 (fun M1 _ => ?_)
  exact s_vret B d_Machine_setAccepting_7
set_option maxRecDepth 100000 in
set_option maxHeartbeats 4000000 in
theorem ct_Machine_setAccepting {l : Launch} {D : va_G} {base : Nat} {g : Nat → ClassId} (a0 : Nat) (a1 : Int32) (a2 : Int32) (M : MS) (r : MS × Unit) (hr : m_Machine_setAccepting a0 a1 a2 M = some r) : Ct l y_Machine_setAccepting (Cond.code y_Machine_setAccepting b_Machine_setAccepting 3 none :: x_T) 0 0 D x_cl (xty g) base (xwd g) cM x_g0 [.ref a0, .int a1, .int a2] M r.1 (ovU r.2) :=
  x_met (ov := ovU) (by decide) (Nat.le_of_ble_eq_true rfl) (fun p e R s m args below meth c az B => t_Machine_setAccepting B a0 a1 a2 M) r hr
end
theorem d_Explorer_placeOf_0 : decode b_Explorer_placeOf 0 = .ok (.aload_n 3, 1) := by decide +kernel
theorem d_Explorer_placeOf_1 : decode b_Explorer_placeOf 1 = .ok (.iload_n 1, 1) := by decide +kernel
theorem d_Explorer_placeOf_2 : decode b_Explorer_placeOf 2 = .ok (.invokevirtual 64, 3) := by decide +kernel
theorem d_Explorer_placeOf_5 : decode b_Explorer_placeOf 5 = .ok (.istore 4, 2) := by decide +kernel
theorem d_Explorer_placeOf_7 : decode b_Explorer_placeOf 7 = .ok (.iload 4, 2) := by decide +kernel
theorem d_Explorer_placeOf_9 : decode b_Explorer_placeOf 9 = .ok (.iload_n 2, 1) := by decide +kernel
theorem d_Explorer_placeOf_10 : decode b_Explorer_placeOf 10 = .ok (.if_icmp .ge (19), 3) := by decide +kernel
theorem d_Explorer_placeOf_13 : decode b_Explorer_placeOf 13 = .ok (.aload_n 0, 1) := by decide +kernel
theorem d_Explorer_placeOf_14 : decode b_Explorer_placeOf 14 = .ok (.getfield 17, 3) := by decide +kernel
theorem d_Explorer_placeOf_17 : decode b_Explorer_placeOf 17 = .ok (.iload 4, 2) := by decide +kernel
theorem d_Explorer_placeOf_19 : decode b_Explorer_placeOf 19 = .ok (.iaload, 1) := by decide +kernel
theorem d_Explorer_placeOf_20 : decode b_Explorer_placeOf 20 = .ok (.iload_n 1, 1) := by decide +kernel
theorem d_Explorer_placeOf_21 : decode b_Explorer_placeOf 21 = .ok (.if_icmp .ne (8), 3) := by decide +kernel
theorem d_Explorer_placeOf_24 : decode b_Explorer_placeOf 24 = .ok (.iload 4, 2) := by decide +kernel
theorem d_Explorer_placeOf_26 : decode b_Explorer_placeOf 26 = .ok (.goto (4), 3) := by decide +kernel
theorem d_Explorer_placeOf_29 : decode b_Explorer_placeOf 29 = .ok (.iload_n 2, 1) := by decide +kernel
theorem d_Explorer_placeOf_30 : decode b_Explorer_placeOf 30 = .ok (.ireturn, 1) := by decide +kernel
section
variable {p : Program} {l : Launch} {e : Env} {R : Room} {s : State} {m : MethodId} {args : Array Value} {below : List Frame} {meth : Method} {c : Code} {D : va_G} {base : Nat} {g : Nat → ClassId} {az : Nat → Nat} {kz : Nat × Nat}
set_option maxRecDepth 100000 in
set_option maxHeartbeats 4000000 in
theorem t_Explorer_placeOf (B : xB p R s m args meth c b_Explorer_placeOf 5 R_Explorer (Cond.code y_Explorer_placeOf b_Explorer_placeOf 5 (some .int) :: x_T) (some .int) 1 21 D x_cl (xty g) base) (a1 : Int32) (a2 : Int32) (M : MS) : Sn p l e R s m args below meth c 5 D x_cl base (xwd g) cM x_g0 az kz (xfc cM) (xZ below args s D x_cl (xty g) base (xwd g) cM x_g0 az kz ovI) 0 [] [(0, .ref 24), (1, .int a1), (2, .int a2), (3, .ref 2)] M (m_Explorer_placeOf a1 a2 M) := by
  unfold m_Explorer_placeOf
  refine s_aload_n B d_Explorer_placeOf_0 rfl ?_
  refine s_iload_n B d_Explorer_placeOf_1 rfl ?_
  refine s_pick (lv1 := [(0, .ref 24), (1, .int a1), (2, .int a2)]) [0, 1, 2] rfl ?_
  refine s_callI (av := [.ref 2, .int a1]) (rest := []) B (lk_V B d_Explorer_placeOf_2 (gl_Explorer_64 _) rfl hv_Terms_tagOf (by decide) (by decide)) rfl (x_rcV B xc_Terms kd_2) (fun _ _ => rfl) rfl rfl (by simp [Value.category]) rfl (fun r1 e9 => ct_Terms_tagOf _ _ r1 e9) (fun r1 _ => ?_)
  refine s_istore B d_Explorer_placeOf_5 (by decide) ?_
  refine s_iload B d_Explorer_placeOf_7 rfl ?_
  refine s_iload_n B d_Explorer_placeOf_9 rfl ?_
  refine s_icmp_ge B d_Explorer_placeOf_10 rfl (fun _ => ?_) (fun _ => ?_)
  · refine s_iload_n B d_Explorer_placeOf_29 rfl ?_
    exact s_iret B d_Explorer_placeOf_30
  · refine s_aload_n B d_Explorer_placeOf_13 rfl ?_
    refine s_getS (k := 1) (n := 26) B xc_Explorer kd_24 (by decide) rfl rfl fl_Explorer_17 sr_24_1 d_Explorer_placeOf_14 ?_
    refine s_iload B d_Explorer_placeOf_17 rfl ?_
    refine s_iald B (Or.inl kd_26) d_Explorer_placeOf_19 (fun v2 _ => ?_)
    refine s_iload_n B d_Explorer_placeOf_20 rfl ?_
    refine s_icmp_ne B d_Explorer_placeOf_21 rfl (fun _ => ?_) (fun _ => ?_)
    · refine s_iload_n B d_Explorer_placeOf_29 rfl ?_
      exact s_iret B d_Explorer_placeOf_30
    · refine s_iload B d_Explorer_placeOf_24 rfl ?_
      refine s_goto B d_Explorer_placeOf_26 rfl ?_
      exact s_iret B d_Explorer_placeOf_30
set_option maxRecDepth 100000 in
set_option maxHeartbeats 4000000 in
theorem ct_Explorer_placeOf {l : Launch} {D : va_G} {base : Nat} {g : Nat → ClassId} (a1 : Int32) (a2 : Int32) (M : MS) (r : MS × Int32) (hr : m_Explorer_placeOf a1 a2 M = some r) : Ct l y_Explorer_placeOf (Cond.code y_Explorer_placeOf b_Explorer_placeOf 5 (some .int) :: x_T) 1 21 D x_cl (xty g) base (xwd g) cM x_g0 [.ref 24, .int a1, .int a2, .ref 2] M r.1 (ovI r.2) :=
  x_met (ov := ovI) (by decide) (Nat.le_of_ble_eq_true rfl) (fun p e R s m args below meth c az B => t_Explorer_placeOf B a1 a2 M) r hr
end
theorem d_Machine_setNext_0 : decode b_Machine_setNext 0 = .ok (.aload_n 0, 1) := by decide +kernel
theorem d_Machine_setNext_1 : decode b_Machine_setNext 1 = .ok (.getfield 9, 3) := by decide +kernel
theorem d_Machine_setNext_4 : decode b_Machine_setNext 4 = .ok (.iload_n 1, 1) := by decide +kernel
theorem d_Machine_setNext_5 : decode b_Machine_setNext 5 = .ok (.iconst (4), 1) := by decide +kernel
theorem d_Machine_setNext_6 : decode b_Machine_setNext 6 = .ok (.imul, 1) := by decide +kernel
theorem d_Machine_setNext_7 : decode b_Machine_setNext 7 = .ok (.iload_n 2, 1) := by decide +kernel
theorem d_Machine_setNext_8 : decode b_Machine_setNext 8 = .ok (.iadd, 1) := by decide +kernel
theorem d_Machine_setNext_9 : decode b_Machine_setNext 9 = .ok (.iload_n 3, 1) := by decide +kernel
theorem d_Machine_setNext_10 : decode b_Machine_setNext 10 = .ok (.iastore, 1) := by decide +kernel
theorem d_Machine_setNext_11 : decode b_Machine_setNext 11 = .ok (.return_, 1) := by decide +kernel
section
variable {p : Program} {l : Launch} {e : Env} {R : Room} {s : State} {m : MethodId} {args : Array Value} {below : List Frame} {meth : Method} {c : Code} {D : va_G} {base : Nat} {g : Nat → ClassId} {az : Nat → Nat} {kz : Nat × Nat}
set_option maxRecDepth 100000 in
set_option maxHeartbeats 4000000 in
theorem t_Machine_setNext (B : xB p R s m args meth c b_Machine_setNext 4 R_Machine (Cond.code y_Machine_setNext b_Machine_setNext 4 none :: x_T) none 0 0 D x_cl (xty g) base) (a0 : Nat) (a1 : Int32) (a2 : Int32) (a3 : Int32) (M : MS) : Sn p l e R s m args below meth c 4 D x_cl base (xwd g) cM x_g0 az kz (xfc cM) (xZ below args s D x_cl (xty g) base (xwd g) cM x_g0 az kz ovU) 0 [] [(0, .ref a0), (1, .int a1), (2, .int a2), (3, .int a3)] M (m_Machine_setNext a0 a1 a2 a3 M) := by
  unfold m_Machine_setNext
  refine s_guard (fun ha0 => ?_)
  refine s_aload_n B d_Machine_setNext_0 rfl ?_
  refine s_getS (k := 0) (n := (x_sr a0 0)) B xc_Machine ha0 (by decide) rfl rfl fl_Machine_9 rfl d_Machine_setNext_1 ?_
  refine s_iload_n B d_Machine_setNext_4 rfl ?_
  refine s_iconst (v := (4:Int32)) B d_Machine_setNext_5 (by decide) ?_
  refine s_imul B d_Machine_setNext_6 ?_
  refine s_iload_n B d_Machine_setNext_7 rfl ?_
  refine s_iadd B d_Machine_setNext_8 ?_
  refine s_iload_n B d_Machine_setNext_9 rfl ?_
  refine s_iast B (Or.inl (srk_Machine_0 ha0)) d_Machine_setNext_10 (fun M1 _ => ?_)
  exact s_vret B d_Machine_setNext_11
set_option maxRecDepth 100000 in
set_option maxHeartbeats 4000000 in
theorem ct_Machine_setNext {l : Launch} {D : va_G} {base : Nat} {g : Nat → ClassId} (a0 : Nat) (a1 : Int32) (a2 : Int32) (a3 : Int32) (M : MS) (r : MS × Unit) (hr : m_Machine_setNext a0 a1 a2 a3 M = some r) : Ct l y_Machine_setNext (Cond.code y_Machine_setNext b_Machine_setNext 4 none :: x_T) 0 0 D x_cl (xty g) base (xwd g) cM x_g0 [.ref a0, .int a1, .int a2, .int a3] M r.1 (ovU r.2) :=
  x_met (ov := ovU) (by decide) (Nat.le_of_ble_eq_true rfl) (fun p e R s m args below meth c az B => t_Machine_setNext B a0 a1 a2 a3 M) r hr
end
theorem d_Explorer_machineOf_0 : decode b_Explorer_machineOf 0 = .ok (.aload_n 0, 1) := by decide +kernel
theorem d_Explorer_machineOf_1 : decode b_Explorer_machineOf 1 = .ok (.getfield 11, 3) := by decide +kernel
theorem d_Explorer_machineOf_4 : decode b_Explorer_machineOf 4 = .ok (.iload_n 1, 1) := by decide +kernel
theorem d_Explorer_machineOf_5 : decode b_Explorer_machineOf 5 = .ok (.aaload, 1) := by decide +kernel
theorem d_Explorer_machineOf_6 : decode b_Explorer_machineOf 6 = .ok (.astore 4, 2) := by decide +kernel
theorem d_Explorer_machineOf_8 : decode b_Explorer_machineOf 8 = .ok (.aload 4, 2) := by decide +kernel
theorem d_Explorer_machineOf_10 : decode b_Explorer_machineOf 10 = .ok (.invokevirtual 32, 3) := by decide +kernel
theorem d_Explorer_machineOf_13 : decode b_Explorer_machineOf 13 = .ok (.ifCond .eq (6), 3) := by decide +kernel
theorem d_Explorer_machineOf_16 : decode b_Explorer_machineOf 16 = .ok (.aload 4, 2) := by decide +kernel
theorem d_Explorer_machineOf_18 : decode b_Explorer_machineOf 18 = .ok (.areturn, 1) := by decide +kernel
theorem d_Explorer_machineOf_19 : decode b_Explorer_machineOf 19 = .ok (.aload_n 0, 1) := by decide +kernel
theorem d_Explorer_machineOf_20 : decode b_Explorer_machineOf 20 = .ok (.getfield 17, 3) := by decide +kernel
theorem d_Explorer_machineOf_23 : decode b_Explorer_machineOf 23 = .ok (.iconst (0), 1) := by decide +kernel
theorem d_Explorer_machineOf_24 : decode b_Explorer_machineOf 24 = .ok (.aload_n 3, 1) := by decide +kernel
theorem d_Explorer_machineOf_25 : decode b_Explorer_machineOf 25 = .ok (.iload_n 1, 1) := by decide +kernel
theorem d_Explorer_machineOf_26 : decode b_Explorer_machineOf 26 = .ok (.iaload, 1) := by decide +kernel
theorem d_Explorer_machineOf_27 : decode b_Explorer_machineOf 27 = .ok (.iastore, 1) := by decide +kernel
theorem d_Explorer_machineOf_28 : decode b_Explorer_machineOf 28 = .ok (.aload_n 2, 1) := by decide +kernel
theorem d_Explorer_machineOf_29 : decode b_Explorer_machineOf 29 = .ok (.aload_n 0, 1) := by decide +kernel
theorem d_Explorer_machineOf_30 : decode b_Explorer_machineOf 30 = .ok (.getfield 17, 3) := by decide +kernel
theorem d_Explorer_machineOf_33 : decode b_Explorer_machineOf 33 = .ok (.iconst (0), 1) := by decide +kernel
theorem d_Explorer_machineOf_34 : decode b_Explorer_machineOf 34 = .ok (.iaload, 1) := by decide +kernel
theorem d_Explorer_machineOf_35 : decode b_Explorer_machineOf 35 = .ok (.iconst (0), 1) := by decide +kernel
theorem d_Explorer_machineOf_36 : decode b_Explorer_machineOf 36 = .ok (.invokevirtual 36, 3) := by decide +kernel
theorem d_Explorer_machineOf_39 : decode b_Explorer_machineOf 39 = .ok (.iconst (1), 1) := by decide +kernel
theorem d_Explorer_machineOf_40 : decode b_Explorer_machineOf 40 = .ok (.istore 5, 2) := by decide +kernel
theorem d_Explorer_machineOf_42 : decode b_Explorer_machineOf 42 = .ok (.iconst (0), 1) := by decide +kernel
theorem d_Explorer_machineOf_43 : decode b_Explorer_machineOf 43 = .ok (.istore 6, 2) := by decide +kernel
theorem d_Explorer_machineOf_45 : decode b_Explorer_machineOf 45 = .ok (.iload 6, 2) := by decide +kernel
theorem d_Explorer_machineOf_47 : decode b_Explorer_machineOf 47 = .ok (.iload 5, 2) := by decide +kernel
theorem d_Explorer_machineOf_49 : decode b_Explorer_machineOf 49 = .ok (.if_icmp .ge (154), 3) := by decide +kernel
theorem d_Explorer_machineOf_52 : decode b_Explorer_machineOf 52 = .ok (.iload 6, 2) := by decide +kernel
theorem d_Explorer_machineOf_54 : decode b_Explorer_machineOf 54 = .ok (.sipush (150), 3) := by decide +kernel
theorem d_Explorer_machineOf_57 : decode b_Explorer_machineOf 57 = .ok (.if_icmp .ge (146), 3) := by decide +kernel
theorem d_Explorer_machineOf_60 : decode b_Explorer_machineOf 60 = .ok (.aload 4, 2) := by decide +kernel
theorem d_Explorer_machineOf_62 : decode b_Explorer_machineOf 62 = .ok (.iload 6, 2) := by decide +kernel
theorem d_Explorer_machineOf_64 : decode b_Explorer_machineOf 64 = .ok (.aload_n 2, 1) := by decide +kernel
theorem d_Explorer_machineOf_65 : decode b_Explorer_machineOf 65 = .ok (.aload_n 0, 1) := by decide +kernel
theorem d_Explorer_machineOf_66 : decode b_Explorer_machineOf 66 = .ok (.getfield 17, 3) := by decide +kernel
theorem d_Explorer_machineOf_69 : decode b_Explorer_machineOf 69 = .ok (.iload 6, 2) := by decide +kernel
theorem d_Explorer_machineOf_71 : decode b_Explorer_machineOf 71 = .ok (.iaload, 1) := by decide +kernel
theorem d_Explorer_machineOf_72 : decode b_Explorer_machineOf 72 = .ok (.invokevirtual 40, 3) := by decide +kernel
theorem d_Explorer_machineOf_75 : decode b_Explorer_machineOf 75 = .ok (.invokevirtual 44, 3) := by decide +kernel
theorem d_Explorer_machineOf_78 : decode b_Explorer_machineOf 78 = .ok (.iconst (0), 1) := by decide +kernel
theorem d_Explorer_machineOf_79 : decode b_Explorer_machineOf 79 = .ok (.istore 7, 2) := by decide +kernel
theorem d_Explorer_machineOf_81 : decode b_Explorer_machineOf 81 = .ok (.iload 7, 2) := by decide +kernel
theorem d_Explorer_machineOf_83 : decode b_Explorer_machineOf 83 = .ok (.iconst (4), 1) := by decide +kernel
theorem d_Explorer_machineOf_84 : decode b_Explorer_machineOf 84 = .ok (.if_icmp .ge (113), 3) := by decide +kernel
theorem d_Explorer_machineOf_87 : decode b_Explorer_machineOf 87 = .ok (.aload_n 2, 1) := by decide +kernel
theorem d_Explorer_machineOf_88 : decode b_Explorer_machineOf 88 = .ok (.aload_n 3, 1) := by decide +kernel
theorem d_Explorer_machineOf_89 : decode b_Explorer_machineOf 89 = .ok (.aload_n 0, 1) := by decide +kernel
theorem d_Explorer_machineOf_90 : decode b_Explorer_machineOf 90 = .ok (.getfield 17, 3) := by decide +kernel
theorem d_Explorer_machineOf_93 : decode b_Explorer_machineOf 93 = .ok (.iload 5, 2) := by decide +kernel
theorem d_Explorer_machineOf_95 : decode b_Explorer_machineOf 95 = .ok (.invokevirtual 26, 3) := by decide +kernel
theorem d_Explorer_machineOf_98 : decode b_Explorer_machineOf 98 = .ok (.aload_n 2, 1) := by decide +kernel
theorem d_Explorer_machineOf_99 : decode b_Explorer_machineOf 99 = .ok (.aload_n 0, 1) := by decide +kernel
theorem d_Explorer_machineOf_100 : decode b_Explorer_machineOf 100 = .ok (.getfield 17, 3) := by decide +kernel
theorem d_Explorer_machineOf_103 : decode b_Explorer_machineOf 103 = .ok (.iload 6, 2) := by decide +kernel
theorem d_Explorer_machineOf_105 : decode b_Explorer_machineOf 105 = .ok (.iaload, 1) := by decide +kernel
theorem d_Explorer_machineOf_106 : decode b_Explorer_machineOf 106 = .ok (.iload 7, 2) := by decide +kernel
theorem d_Explorer_machineOf_108 : decode b_Explorer_machineOf 108 = .ok (.invokevirtual 48, 3) := by decide +kernel
theorem d_Explorer_machineOf_111 : decode b_Explorer_machineOf 111 = .ok (.istore 8, 2) := by decide +kernel
theorem d_Explorer_machineOf_113 : decode b_Explorer_machineOf 113 = .ok (.aload_n 0, 1) := by decide +kernel
theorem d_Explorer_machineOf_114 : decode b_Explorer_machineOf 114 = .ok (.iload 8, 2) := by decide +kernel
theorem d_Explorer_machineOf_116 : decode b_Explorer_machineOf 116 = .ok (.iload 5, 2) := by decide +kernel
theorem d_Explorer_machineOf_118 : decode b_Explorer_machineOf 118 = .ok (.aload_n 2, 1) := by decide +kernel
theorem d_Explorer_machineOf_119 : decode b_Explorer_machineOf 119 = .ok (.invokevirtual 52, 3) := by decide +kernel
theorem d_Explorer_machineOf_122 : decode b_Explorer_machineOf 122 = .ok (.istore 9, 2) := by decide +kernel
theorem d_Explorer_machineOf_124 : decode b_Explorer_machineOf 124 = .ok (.iload 9, 2) := by decide +kernel
theorem d_Explorer_machineOf_126 : decode b_Explorer_machineOf 126 = .ok (.iload 5, 2) := by decide +kernel
theorem d_Explorer_machineOf_128 : decode b_Explorer_machineOf 128 = .ok (.if_icmp .ne (52), 3) := by decide +kernel
theorem d_Explorer_machineOf_131 : decode b_Explorer_machineOf 131 = .ok (.iload 5, 2) := by decide +kernel
theorem d_Explorer_machineOf_133 : decode b_Explorer_machineOf 133 = .ok (.sipush (150), 3) := by decide +kernel
theorem d_Explorer_machineOf_136 : decode b_Explorer_machineOf 136 = .ok (.if_icmp .eq (15), 3) := by decide +kernel
theorem d_Explorer_machineOf_139 : decode b_Explorer_machineOf 139 = .ok (.aload_n 2, 1) := by decide +kernel
theorem d_Explorer_machineOf_140 : decode b_Explorer_machineOf 140 = .ok (.iload 8, 2) := by decide +kernel
theorem d_Explorer_machineOf_142 : decode b_Explorer_machineOf 142 = .ok (.invokevirtual 56, 3) := by decide +kernel
theorem d_Explorer_machineOf_145 : decode b_Explorer_machineOf 145 = .ok (.sipush (300), 3) := by decide +kernel
theorem d_Explorer_machineOf_148 : decode b_Explorer_machineOf 148 = .ok (.if_icmp .le (12), 3) := by decide +kernel
theorem d_Explorer_machineOf_151 : decode b_Explorer_machineOf 151 = .ok (.aload 4, 2) := by decide +kernel
theorem d_Explorer_machineOf_153 : decode b_Explorer_machineOf 153 = .ok (.iconst (-1), 1) := by decide +kernel
theorem d_Explorer_machineOf_154 : decode b_Explorer_machineOf 154 = .ok (.invokevirtual 22, 3) := by decide +kernel
theorem d_Explorer_machineOf_157 : decode b_Explorer_machineOf 157 = .ok (.aload 4, 2) := by decide +kernel
theorem d_Explorer_machineOf_159 : decode b_Explorer_machineOf 159 = .ok (.areturn, 1) := by decide +kernel
theorem d_Explorer_machineOf_160 : decode b_Explorer_machineOf 160 = .ok (.aload_n 0, 1) := by decide +kernel
theorem d_Explorer_machineOf_161 : decode b_Explorer_machineOf 161 = .ok (.getfield 17, 3) := by decide +kernel
theorem d_Explorer_machineOf_164 : decode b_Explorer_machineOf 164 = .ok (.iload 5, 2) := by decide +kernel
theorem d_Explorer_machineOf_166 : decode b_Explorer_machineOf 166 = .ok (.iload 8, 2) := by decide +kernel
theorem d_Explorer_machineOf_168 : decode b_Explorer_machineOf 168 = .ok (.iastore, 1) := by decide +kernel
theorem d_Explorer_machineOf_169 : decode b_Explorer_machineOf 169 = .ok (.aload_n 2, 1) := by decide +kernel
theorem d_Explorer_machineOf_170 : decode b_Explorer_machineOf 170 = .ok (.iload 8, 2) := by decide +kernel
theorem d_Explorer_machineOf_172 : decode b_Explorer_machineOf 172 = .ok (.iload 5, 2) := by decide +kernel
theorem d_Explorer_machineOf_174 : decode b_Explorer_machineOf 174 = .ok (.invokevirtual 36, 3) := by decide +kernel
theorem d_Explorer_machineOf_177 : decode b_Explorer_machineOf 177 = .ok (.iinc 5 (1), 3) := by decide +kernel
theorem d_Explorer_machineOf_180 : decode b_Explorer_machineOf 180 = .ok (.aload 4, 2) := by decide +kernel
theorem d_Explorer_machineOf_182 : decode b_Explorer_machineOf 182 = .ok (.iload 6, 2) := by decide +kernel
theorem d_Explorer_machineOf_184 : decode b_Explorer_machineOf 184 = .ok (.iload 7, 2) := by decide +kernel
theorem d_Explorer_machineOf_186 : decode b_Explorer_machineOf 186 = .ok (.iload 9, 2) := by decide +kernel
theorem d_Explorer_machineOf_188 : decode b_Explorer_machineOf 188 = .ok (.invokevirtual 60, 3) := by decide +kernel
theorem d_Explorer_machineOf_191 : decode b_Explorer_machineOf 191 = .ok (.iinc 7 (1), 3) := by decide +kernel
theorem d_Explorer_machineOf_194 : decode b_Explorer_machineOf 194 = .ok (.goto (-113), 3) := by decide +kernel
theorem d_Explorer_machineOf_197 : decode b_Explorer_machineOf 197 = .ok (.iinc 6 (1), 3) := by decide +kernel
theorem d_Explorer_machineOf_200 : decode b_Explorer_machineOf 200 = .ok (.goto (-155), 3) := by decide +kernel
theorem d_Explorer_machineOf_203 : decode b_Explorer_machineOf 203 = .ok (.aload 4, 2) := by decide +kernel
theorem d_Explorer_machineOf_205 : decode b_Explorer_machineOf 205 = .ok (.iload 5, 2) := by decide +kernel
theorem d_Explorer_machineOf_207 : decode b_Explorer_machineOf 207 = .ok (.invokevirtual 22, 3) := by decide +kernel
theorem d_Explorer_machineOf_210 : decode b_Explorer_machineOf 210 = .ok (.aload 4, 2) := by decide +kernel
theorem d_Explorer_machineOf_212 : decode b_Explorer_machineOf 212 = .ok (.areturn, 1) := by decide +kernel
section
variable {p : Program} {l : Launch} {e : Env} {R : Room} {s : State} {m : MethodId} {args : Array Value} {below : List Frame} {meth : Method} {c : Code} {D : va_G} {base : Nat} {g : Nat → ClassId} {az : Nat → Nat} {kz : Nat × Nat}
set_option maxRecDepth 100000 in
set_option maxHeartbeats 4000000 in
theorem t_Explorer_machineOf_203  (B : xB p R s m args meth c b_Explorer_machineOf 10 R_Explorer (Cond.code y_Explorer_machineOf b_Explorer_machineOf 10 (some (.object "DerivativeDesk$Machine")) :: x_T) (some (.object "DerivativeDesk$Machine")) 9 211 D x_cl (xty g) base)  (l4 : Nat) (l5 : Int32) (M : MS) (hl4 : x_kd l4 = 4) : Sn p l e R s m args below meth c 10 D x_cl base (xwd g) cM x_gr az kz (xfc cM) (xZ below args s D x_cl (xty g) base (xwd g) cM x_gr az kz ovR) 203 [] [(4, .ref l4), (5, .int l5)] M (m_Explorer_machineOf_203 l4 l5 M) := by
  unfold m_Explorer_machineOf_203
  refine s_aload B d_Explorer_machineOf_203 rfl ?_
  refine s_iload B d_Explorer_machineOf_205 rfl ?_
  refine s_pick (lv1 := [(4, .ref l4)]) [4] rfl ?_
  refine s_callU (av := [.ref l4, .int l5]) (rest := []) B (lk_V B d_Explorer_machineOf_207 (gl_Explorer_22 _) rfl hv_Machine_setCount (by decide) (by decide)) rfl (x_rcV B xc_Machine hl4) (fun _ _ => rfl) rfl rfl (by simp [Value.category]) rfl (fun r1 e9 => ct_Machine_setCount _ _ _ r1 e9) (fun r1 _ => ?_)
  refine s_aload B d_Explorer_machineOf_210 rfl ?_
  exact s_aret (Or.inl ⟨_, rfl⟩) B d_Explorer_machineOf_212
set_option maxRecDepth 100000 in
set_option maxHeartbeats 4000000 in
theorem t_Explorer_machineOf_180 {k45 : Nat × Int32 × Int32 × MS → Option (MS × Nat)} {k81 : Nat × Int32 × Int32 × Int32 × MS → Option (MS × Nat)} (B : xB p R s m args meth c b_Explorer_machineOf 10 R_Explorer (Cond.code y_Explorer_machineOf b_Explorer_machineOf 10 (some (.object "DerivativeDesk$Machine")) :: x_T) (some (.object "DerivativeDesk$Machine")) 9 211 D x_cl (xty g) base) (hk45 : ∀ (l4 : Nat) (l5 : Int32) (l6 : Int32) (M : MS) (hl4 : x_kd l4 = 4), Sn p l e R s m args below meth c 10 D x_cl base (xwd g) cM x_gr az kz (xfc cM) (xZ below args s D x_cl (xty g) base (xwd g) cM x_gr az kz ovR) 45 [] [(0, .ref 24), (2, .ref 2), (3, .ref 1), (4, .ref l4), (5, .int l5), (6, .int l6)] M (k45 (l4, l5, l6, M))) (hk81 : ∀ (l4 : Nat) (l5 : Int32) (l6 : Int32) (l7 : Int32) (M : MS) (hl4 : x_kd l4 = 4), Sn p l e R s m args below meth c 10 D x_cl base (xwd g) cM x_gr az kz (xfc cM) (xZ below args s D x_cl (xty g) base (xwd g) cM x_gr az kz ovR) 81 [] [(0, .ref 24), (2, .ref 2), (3, .ref 1), (4, .ref l4), (5, .int l5), (6, .int l6), (7, .int l7)] M (k81 (l4, l5, l6, l7, M))) (l4 : Nat) (l5 : Int32) (l6 : Int32) (l7 : Int32) (l9 : Int32) (M : MS) (hl4 : x_kd l4 = 4) : Sn p l e R s m args below meth c 10 D x_cl base (xwd g) cM x_gr az kz (xfc cM) (xZ below args s D x_cl (xty g) base (xwd g) cM x_gr az kz ovR) 180 [] [(0, .ref 24), (2, .ref 2), (3, .ref 1), (4, .ref l4), (5, .int l5), (6, .int l6), (7, .int l7), (9, .int l9)] M (m_Explorer_machineOf_180 k45 k81 l4 l5 l6 l7 l9 M) := by
  unfold m_Explorer_machineOf_180
  refine s_aload B d_Explorer_machineOf_180 rfl ?_
  refine s_iload B d_Explorer_machineOf_182 rfl ?_
  refine s_iload B d_Explorer_machineOf_184 rfl ?_
  refine s_iload B d_Explorer_machineOf_186 rfl ?_
  refine s_pick (lv1 := [(0, .ref 24), (2, .ref 2), (3, .ref 1), (4, .ref l4), (5, .int l5), (6, .int l6), (7, .int l7)]) [0, 2, 3, 4, 5, 6, 7] rfl ?_
  refine s_callU (av := [.ref l4, .int l6, .int l7, .int l9]) (rest := []) B (lk_V B d_Explorer_machineOf_188 (gl_Explorer_60 _) rfl hv_Machine_setNext (by decide) (by decide)) rfl (x_rcV B xc_Machine hl4) (fun _ _ => rfl) rfl rfl (by simp [Value.category]) rfl (fun r1 e9 => ct_Machine_setNext _ _ _ _ _ r1 e9) (fun r1 _ => ?_)
  refine s_iinc (w := (1:Int32)) B d_Explorer_machineOf_191 rfl (by decide) (by decide) ?_
  refine s_goto B d_Explorer_machineOf_194 rfl ?_
  refine s_pick (lv1 := [(0, .ref 24), (2, .ref 2), (3, .ref 1), (4, .ref l4), (5, .int l5), (6, .int l6), (7, .int (l7 + (1:Int32)))]) [0, 2, 3, 4, 5, 6, 7] rfl ?_
  exact hk81 l4 l5 l6 (l7 + (1:Int32)) r1.1 hl4
set_option maxRecDepth 100000 in
set_option maxHeartbeats 4000000 in
theorem t_Explorer_machineOf_151  (B : xB p R s m args meth c b_Explorer_machineOf 10 R_Explorer (Cond.code y_Explorer_machineOf b_Explorer_machineOf 10 (some (.object "DerivativeDesk$Machine")) :: x_T) (some (.object "DerivativeDesk$Machine")) 9 211 D x_cl (xty g) base)  (l4 : Nat) (M : MS) (hl4 : x_kd l4 = 4) : Sn p l e R s m args below meth c 10 D x_cl base (xwd g) cM x_gr az kz (xfc cM) (xZ below args s D x_cl (xty g) base (xwd g) cM x_gr az kz ovR) 151 [] [(4, .ref l4)] M (m_Explorer_machineOf_151 l4 M) := by
  unfold m_Explorer_machineOf_151
  refine s_aload B d_Explorer_machineOf_151 rfl ?_
  refine s_iconst (v := (-1:Int32)) B d_Explorer_machineOf_153 (by decide) ?_
  refine s_pick (lv1 := [(4, .ref l4)]) [4] rfl ?_
  refine s_callU (av := [.ref l4, .int (-1:Int32)]) (rest := []) B (lk_V B d_Explorer_machineOf_154 (gl_Explorer_22 _) rfl hv_Machine_setCount (by decide) (by decide)) rfl (x_rcV B xc_Machine hl4) (fun _ _ => rfl) rfl rfl (by simp [Value.category]) rfl (fun r1 e9 => ct_Machine_setCount _ _ _ r1 e9) (fun r1 _ => ?_)
  refine s_aload B d_Explorer_machineOf_157 rfl ?_
  exact s_aret (Or.inl ⟨_, rfl⟩) B d_Explorer_machineOf_159
set_option maxRecDepth 100000 in
set_option maxHeartbeats 4000000 in
theorem t_Explorer_machineOf_81b {k45 : Nat × Int32 × Int32 × MS → Option (MS × Nat)} {k81 : Nat × Int32 × Int32 × Int32 × MS → Option (MS × Nat)} (B : xB p R s m args meth c b_Explorer_machineOf 10 R_Explorer (Cond.code y_Explorer_machineOf b_Explorer_machineOf 10 (some (.object "DerivativeDesk$Machine")) :: x_T) (some (.object "DerivativeDesk$Machine")) 9 211 D x_cl (xty g) base) (hk45 : ∀ (l4 : Nat) (l5 : Int32) (l6 : Int32) (M : MS) (hl4 : x_kd l4 = 4), Sn p l e R s m args below meth c 10 D x_cl base (xwd g) cM x_gr az kz (xfc cM) (xZ below args s D x_cl (xty g) base (xwd g) cM x_gr az kz ovR) 45 [] [(0, .ref 24), (2, .ref 2), (3, .ref 1), (4, .ref l4), (5, .int l5), (6, .int l6)] M (k45 (l4, l5, l6, M))) (hk81 : ∀ (l4 : Nat) (l5 : Int32) (l6 : Int32) (l7 : Int32) (M : MS) (hl4 : x_kd l4 = 4), Sn p l e R s m args below meth c 10 D x_cl base (xwd g) cM x_gr az kz (xfc cM) (xZ below args s D x_cl (xty g) base (xwd g) cM x_gr az kz ovR) 81 [] [(0, .ref 24), (2, .ref 2), (3, .ref 1), (4, .ref l4), (5, .int l5), (6, .int l6), (7, .int l7)] M (k81 (l4, l5, l6, l7, M))) (l4 : Nat) (l5 : Int32) (l6 : Int32) (l7 : Int32) (M : MS) (hl4 : x_kd l4 = 4) : Sn p l e R s m args below meth c 10 D x_cl base (xwd g) cM x_gr az kz (xfc cM) (xZ below args s D x_cl (xty g) base (xwd g) cM x_gr az kz ovR) 81 [] [(0, .ref 24), (2, .ref 2), (3, .ref 1), (4, .ref l4), (5, .int l5), (6, .int l6), (7, .int l7)] M (m_Explorer_machineOf_81b k45 k81 l4 l5 l6 l7 M) := by
  unfold m_Explorer_machineOf_81b
  refine s_iload B d_Explorer_machineOf_81 rfl ?_
  refine s_iconst (v := (4:Int32)) B d_Explorer_machineOf_83 (by decide) ?_
  refine s_icmp_ge B d_Explorer_machineOf_84 rfl (fun _ => ?_) (fun _ => ?_)
  · refine s_iinc (w := (1:Int32)) B d_Explorer_machineOf_197 rfl (by decide) (by decide) ?_
    refine s_goto B d_Explorer_machineOf_200 rfl ?_
    refine s_pick (lv1 := [(0, .ref 24), (2, .ref 2), (3, .ref 1), (4, .ref l4), (5, .int l5), (6, .int (l6 + (1:Int32)))]) [0, 2, 3, 4, 5, 6] rfl ?_
    exact hk45 l4 l5 (l6 + (1:Int32)) M hl4
  · refine s_aload_n B d_Explorer_machineOf_87 rfl ?_
    refine s_aload_n B d_Explorer_machineOf_88 rfl ?_
    refine s_aload_n B d_Explorer_machineOf_89 rfl ?_
    refine s_getS (k := 1) (n := 26) B xc_Explorer kd_24 (by decide) rfl rfl fl_Explorer_17 sr_24_1 d_Explorer_machineOf_90 ?_
    refine s_iload B d_Explorer_machineOf_93 rfl ?_
    refine s_pick (lv1 := [(0, .ref 24), (2, .ref 2), (3, .ref 1), (4, .ref l4), (5, .int l5), (6, .int l6), (7, .int l7)]) [0, 2, 3, 4, 5, 6, 7] rfl ?_
    refine s_callU (av := [.ref 2, .ref 1, .ref 26, .int l5]) (rest := []) B (lk_V B d_Explorer_machineOf_95 (gl_Explorer_26 _) rfl hv_Terms_tidy (by decide) (by decide)) rfl (x_rcV B xc_Terms kd_2) (fun _ _ => rfl) rfl rfl (by simp [Value.category]) rfl (fun r1 e9 => ct_Terms_tidy _ _ r1 e9) (fun r1 _ => ?_)
    refine s_aload_n B d_Explorer_machineOf_98 rfl ?_
    refine s_aload_n B d_Explorer_machineOf_99 rfl ?_
    refine s_getS (k := 1) (n := 26) B xc_Explorer kd_24 (by decide) rfl rfl fl_Explorer_17 sr_24_1 d_Explorer_machineOf_100 ?_
    refine s_iload B d_Explorer_machineOf_103 rfl ?_
    refine s_iald B (Or.inl kd_26) d_Explorer_machineOf_105 (fun v2 _ => ?_)
    refine s_iload B d_Explorer_machineOf_106 rfl ?_
    refine s_pick (lv1 := [(0, .ref 24), (2, .ref 2), (3, .ref 1), (4, .ref l4), (5, .int l5), (6, .int l6), (7, .int l7)]) [0, 2, 3, 4, 5, 6, 7] rfl ?_
    refine s_callI (av := [.ref 2, .int v2, .int l7]) (rest := []) B (lk_V B d_Explorer_machineOf_108 (gl_Explorer_48 _) rfl hv_Terms_derivative (by decide) (by decide)) rfl (x_rcV B xc_Terms kd_2) (fun _ h => h) rfl (by simp [xng, x_gr, hl4, kd_1, kd_2, kd_24]) (by simp [Value.category]) rfl (fun r3 e9 => ct_Terms_derivative _ _ _ r3 e9) (fun r3 _ => ?_)
    refine s_istore B d_Explorer_machineOf_111 (by decide) ?_
    refine s_aload_n B d_Explorer_machineOf_113 rfl ?_
    refine s_iload B d_Explorer_machineOf_114 rfl ?_
    refine s_iload B d_Explorer_machineOf_116 rfl ?_
    refine s_aload_n B d_Explorer_machineOf_118 rfl ?_
    refine s_pick (lv1 := [(0, .ref 24), (2, .ref 2), (3, .ref 1), (4, .ref l4), (5, .int l5), (6, .int l6), (7, .int l7), (8, .int r3.2)]) [0, 2, 3, 4, 5, 6, 7, 8] rfl ?_
    refine s_callI (av := [.ref 24, .int r3.2, .int l5, .ref 2]) (rest := []) B (lk_V B d_Explorer_machineOf_119 (gl_Explorer_52 _) rfl hv_Explorer_placeOf (by decide) (by decide)) rfl (x_rcV B xc_Explorer kd_24) (fun _ _ => rfl) rfl rfl (by simp [Value.category]) rfl (fun r4 e9 => ct_Explorer_placeOf _ _ _ r4 e9) (fun r4 _ => ?_)
    refine s_istore B d_Explorer_machineOf_122 (by decide) ?_
    refine s_iload B d_Explorer_machineOf_124 rfl ?_
    refine s_iload B d_Explorer_machineOf_126 rfl ?_
    refine s_icmp_ne B d_Explorer_machineOf_128 rfl (fun _ => ?_) (fun _ => ?_)
    · refine s_pick (lv1 := [(0, .ref 24), (2, .ref 2), (3, .ref 1), (4, .ref l4), (5, .int l5), (6, .int l6), (7, .int l7), (9, .int r4.2)]) [0, 2, 3, 4, 5, 6, 7, 9] rfl ?_
      exact t_Explorer_machineOf_180 B hk45 hk81 l4 l5 l6 l7 r4.2 r4.1 hl4
    · refine s_iload B d_Explorer_machineOf_131 rfl ?_
      refine s_sipush (v := (150:Int32)) B d_Explorer_machineOf_133 (by decide) ?_
      refine s_icmp_eq B d_Explorer_machineOf_136 rfl (fun _ => ?_) (fun _ => ?_)
      · refine s_pick (lv1 := [(4, .ref l4)]) [4] rfl ?_
        exact t_Explorer_machineOf_151 B l4 r4.1 hl4
      · refine s_aload_n B d_Explorer_machineOf_139 rfl ?_
        refine s_iload B d_Explorer_machineOf_140 rfl ?_
        refine s_pick (lv1 := [(0, .ref 24), (2, .ref 2), (3, .ref 1), (4, .ref l4), (5, .int l5), (6, .int l6), (7, .int l7), (8, .int r3.2), (9, .int r4.2)]) [0, 2, 3, 4, 5, 6, 7, 8, 9] rfl ?_
        refine s_callI (av := [.ref 2, .int r3.2]) (rest := []) B (lk_V B d_Explorer_machineOf_142 (gl_Explorer_56 _) rfl hv_Terms_sizeOf (by decide) (by decide)) rfl (x_rcV B xc_Terms kd_2) (fun _ _ => rfl) rfl rfl (by simp [Value.category]) rfl (fun r5 e9 => ct_Terms_sizeOf _ _ r5 e9) (fun r5 _ => ?_)
        refine s_sipush (v := (300:Int32)) B d_Explorer_machineOf_145 (by decide) ?_
        refine s_icmp_le B d_Explorer_machineOf_148 rfl (fun _ => ?_) (fun _ => ?_)
        · refine s_aload_n B d_Explorer_machineOf_160 rfl ?_
          refine s_getS (k := 1) (n := 26) B xc_Explorer kd_24 (by decide) rfl rfl fl_Explorer_17 sr_24_1 d_Explorer_machineOf_161 ?_
          refine s_iload B d_Explorer_machineOf_164 rfl ?_
          refine s_iload B d_Explorer_machineOf_166 rfl ?_
          refine s_iast B (Or.inl kd_26) d_Explorer_machineOf_168 (fun M6 _ => ?_)
          refine s_aload_n B d_Explorer_machineOf_169 rfl ?_
          refine s_iload B d_Explorer_machineOf_170 rfl ?_
          refine s_iload B d_Explorer_machineOf_172 rfl ?_
          refine s_pick (lv1 := [(0, .ref 24), (2, .ref 2), (3, .ref 1), (4, .ref l4), (5, .int l5), (6, .int l6), (7, .int l7), (9, .int r4.2)]) [0, 2, 3, 4, 5, 6, 7, 9] rfl ?_
          refine s_callU (av := [.ref 2, .int r3.2, .int l5]) (rest := []) B (lk_V B d_Explorer_machineOf_174 (gl_Explorer_36 _) rfl hv_Terms_setTag (by decide) (by decide)) rfl (x_rcV B xc_Terms kd_2) (fun _ _ => rfl) rfl rfl (by simp [Value.category]) rfl (fun r7 e9 => ct_Terms_setTag _ _ _ r7 e9) (fun r7 _ => ?_)
          refine s_iinc (w := (1:Int32)) B d_Explorer_machineOf_177 rfl (by decide) (by decide) ?_
          refine s_pick (lv1 := [(0, .ref 24), (2, .ref 2), (3, .ref 1), (4, .ref l4), (5, .int (l5 + (1:Int32))), (6, .int l6), (7, .int l7), (9, .int r4.2)]) [0, 2, 3, 4, 5, 6, 7, 9] rfl ?_
          exact t_Explorer_machineOf_180 B hk45 hk81 l4 (l5 + (1:Int32)) l6 l7 r4.2 r7.1 hl4
        · refine s_pick (lv1 := [(4, .ref l4)]) [4] rfl ?_
          exact t_Explorer_machineOf_151 B l4 r5.1 hl4
set_option maxRecDepth 100000 in
set_option maxHeartbeats 4000000 in
theorem t_Explorer_machineOf_81 {k45 : Nat × Int32 × Int32 × MS → Option (MS × Nat)} (B : xB p R s m args meth c b_Explorer_machineOf 10 R_Explorer (Cond.code y_Explorer_machineOf b_Explorer_machineOf 10 (some (.object "DerivativeDesk$Machine")) :: x_T) (some (.object "DerivativeDesk$Machine")) 9 211 D x_cl (xty g) base) (hk45 : ∀ (l4 : Nat) (l5 : Int32) (l6 : Int32) (M : MS) (hl4 : x_kd l4 = 4), Sn p l e R s m args below meth c 10 D x_cl base (xwd g) cM x_gr az kz (xfc cM) (xZ below args s D x_cl (xty g) base (xwd g) cM x_gr az kz ovR) 45 [] [(0, .ref 24), (2, .ref 2), (3, .ref 1), (4, .ref l4), (5, .int l5), (6, .int l6)] M (k45 (l4, l5, l6, M))) (l4 : Nat) (l5 : Int32) (l6 : Int32) (l7 : Int32) (M : MS) (hl4 : x_kd l4 = 4) : Sn p l e R s m args below meth c 10 D x_cl base (xwd g) cM x_gr az kz (xfc cM) (xZ below args s D x_cl (xty g) base (xwd g) cM x_gr az kz ovR) 81 [] [(0, .ref 24), (2, .ref 2), (3, .ref 1), (4, .ref l4), (5, .int l5), (6, .int l6), (7, .int l7)] M (m_Explorer_machineOf_81 k45 (l4, l5, l6, l7, M)) := by
  have q : ∀ (F : Nat) (i : Nat × Int32 × Int32 × Int32 × MS), x_kd i.1 = 4 → Sn p l e R s m args below meth c 10 D x_cl base (xwd g) cM x_gr az kz (xfc cM) (xZ below args s D x_cl (xty g) base (xwd g) cM x_gr az kz ovR) 81 [] [(0, .ref 24), (2, .ref 2), (3, .ref 1), (4, .ref i.1), (5, .int i.2.1), (6, .int i.2.2.1), (7, .int i.2.2.2.1)] i.2.2.2.2 (fx (fun (k : Nat × Int32 × Int32 × Int32 × MS → Option (MS × Nat)) (i : Nat × Int32 × Int32 × Int32 × MS) => m_Explorer_machineOf_81b k45 k i.1 i.2.1 i.2.2.1 i.2.2.2.1 i.2.2.2.2) F i) := by
    intro F
    induction F with
    | zero => intro i h0; exact s_none
    | succ F ih => intro i h0; exact t_Explorer_machineOf_81b B hk45 (fun l4 l5 l6 l7 M h0 => ih (l4, l5, l6, l7, M) h0) i.1 i.2.1 i.2.2.1 i.2.2.2.1 i.2.2.2.2 h0
  exact q FU (l4, l5, l6, l7, M) hl4
set_option maxRecDepth 100000 in
set_option maxHeartbeats 4000000 in
theorem t_Explorer_machineOf_45b {k45 : Nat × Int32 × Int32 × MS → Option (MS × Nat)} (B : xB p R s m args meth c b_Explorer_machineOf 10 R_Explorer (Cond.code y_Explorer_machineOf b_Explorer_machineOf 10 (some (.object "DerivativeDesk$Machine")) :: x_T) (some (.object "DerivativeDesk$Machine")) 9 211 D x_cl (xty g) base) (hk45 : ∀ (l4 : Nat) (l5 : Int32) (l6 : Int32) (M : MS) (hl4 : x_kd l4 = 4), Sn p l e R s m args below meth c 10 D x_cl base (xwd g) cM x_gr az kz (xfc cM) (xZ below args s D x_cl (xty g) base (xwd g) cM x_gr az kz ovR) 45 [] [(0, .ref 24), (2, .ref 2), (3, .ref 1), (4, .ref l4), (5, .int l5), (6, .int l6)] M (k45 (l4, l5, l6, M))) (l4 : Nat) (l5 : Int32) (l6 : Int32) (M : MS) (hl4 : x_kd l4 = 4) : Sn p l e R s m args below meth c 10 D x_cl base (xwd g) cM x_gr az kz (xfc cM) (xZ below args s D x_cl (xty g) base (xwd g) cM x_gr az kz ovR) 45 [] [(0, .ref 24), (2, .ref 2), (3, .ref 1), (4, .ref l4), (5, .int l5), (6, .int l6)] M (m_Explorer_machineOf_45b k45 l4 l5 l6 M) := by
  unfold m_Explorer_machineOf_45b
  refine s_iload B d_Explorer_machineOf_45 rfl ?_
  refine s_iload B d_Explorer_machineOf_47 rfl ?_
  refine s_icmp_ge B d_Explorer_machineOf_49 rfl (fun _ => ?_) (fun _ => ?_)
  · refine s_pick (lv1 := [(4, .ref l4), (5, .int l5)]) [4, 5] rfl ?_
    exact t_Explorer_machineOf_203 B l4 l5 M hl4
  · refine s_iload B d_Explorer_machineOf_52 rfl ?_
    refine s_sipush (v := (150:Int32)) B d_Explorer_machineOf_54 (by decide) ?_
    refine s_icmp_ge B d_Explorer_machineOf_57 rfl (fun _ => ?_) (fun _ => ?_)
    · refine s_pick (lv1 := [(4, .ref l4), (5, .int l5)]) [4, 5] rfl ?_
      exact t_Explorer_machineOf_203 B l4 l5 M hl4
    · refine s_aload B d_Explorer_machineOf_60 rfl ?_
      refine s_iload B d_Explorer_machineOf_62 rfl ?_
      refine s_aload_n B d_Explorer_machineOf_64 rfl ?_
      refine s_aload_n B d_Explorer_machineOf_65 rfl ?_
      refine s_getS (k := 1) (n := 26) B xc_Explorer kd_24 (by decide) rfl rfl fl_Explorer_17 sr_24_1 d_Explorer_machineOf_66 ?_
      refine s_iload B d_Explorer_machineOf_69 rfl ?_
      refine s_iald B (Or.inl kd_26) d_Explorer_machineOf_71 (fun v1 _ => ?_)
      refine s_pick (lv1 := [(0, .ref 24), (2, .ref 2), (3, .ref 1), (4, .ref l4), (5, .int l5), (6, .int l6)]) [0, 2, 3, 4, 5, 6] rfl ?_
      refine s_callI (av := [.ref 2, .int v1]) (rest := [.int l6, .ref l4]) B (lk_V B d_Explorer_machineOf_72 (gl_Explorer_40 _) rfl hv_Terms_isNullable (by decide) (by decide)) rfl (x_rcV B xc_Terms kd_2) (fun _ _ => rfl) rfl rfl (by simp [Value.category]) rfl (fun r2 e9 => ct_Terms_isNullable _ _ r2 e9) (fun r2 _ => ?_)
      refine s_pick (lv1 := [(0, .ref 24), (2, .ref 2), (3, .ref 1), (4, .ref l4), (5, .int l5), (6, .int l6)]) [0, 2, 3, 4, 5, 6] rfl ?_
      refine s_callU (av := [.ref l4, .int l6, .int r2.2]) (rest := []) B (lk_V B d_Explorer_machineOf_75 (gl_Explorer_44 _) rfl hv_Machine_setAccepting (by decide) (by decide)) rfl (x_rcV B xc_Machine hl4) (fun _ _ => rfl) rfl rfl (by simp [Value.category]) rfl (fun r3 e9 => ct_Machine_setAccepting _ _ _ _ r3 e9) (fun r3 _ => ?_)
      refine s_iconst (v := (0:Int32)) B d_Explorer_machineOf_78 (by decide) ?_
      refine s_istore B d_Explorer_machineOf_79 (by decide) ?_
      refine s_pick (lv1 := [(0, .ref 24), (2, .ref 2), (3, .ref 1), (4, .ref l4), (5, .int l5), (6, .int l6), (7, .int (0:Int32))]) [0, 2, 3, 4, 5, 6, 7] rfl ?_
      exact t_Explorer_machineOf_81 B hk45 l4 l5 l6 (0:Int32) r3.1 hl4
set_option maxRecDepth 100000 in
set_option maxHeartbeats 4000000 in
theorem t_Explorer_machineOf_45  (B : xB p R s m args meth c b_Explorer_machineOf 10 R_Explorer (Cond.code y_Explorer_machineOf b_Explorer_machineOf 10 (some (.object "DerivativeDesk$Machine")) :: x_T) (some (.object "DerivativeDesk$Machine")) 9 211 D x_cl (xty g) base)  (l4 : Nat) (l5 : Int32) (l6 : Int32) (M : MS) (hl4 : x_kd l4 = 4) : Sn p l e R s m args below meth c 10 D x_cl base (xwd g) cM x_gr az kz (xfc cM) (xZ below args s D x_cl (xty g) base (xwd g) cM x_gr az kz ovR) 45 [] [(0, .ref 24), (2, .ref 2), (3, .ref 1), (4, .ref l4), (5, .int l5), (6, .int l6)] M (m_Explorer_machineOf_45 (l4, l5, l6, M)) := by
  have q : ∀ (F : Nat) (i : Nat × Int32 × Int32 × MS), x_kd i.1 = 4 → Sn p l e R s m args below meth c 10 D x_cl base (xwd g) cM x_gr az kz (xfc cM) (xZ below args s D x_cl (xty g) base (xwd g) cM x_gr az kz ovR) 45 [] [(0, .ref 24), (2, .ref 2), (3, .ref 1), (4, .ref i.1), (5, .int i.2.1), (6, .int i.2.2.1)] i.2.2.2 (fx (fun (k : Nat × Int32 × Int32 × MS → Option (MS × Nat)) (i : Nat × Int32 × Int32 × MS) => m_Explorer_machineOf_45b k i.1 i.2.1 i.2.2.1 i.2.2.2) F i) := by
    intro F
    induction F with
    | zero => intro i h0; exact s_none
    | succ F ih => intro i h0; exact t_Explorer_machineOf_45b B  (fun l4 l5 l6 M h0 => ih (l4, l5, l6, M) h0) i.1 i.2.1 i.2.2.1 i.2.2.2 h0
  exact q FU (l4, l5, l6, M) hl4
set_option maxRecDepth 100000 in
set_option maxHeartbeats 4000000 in
theorem t_Explorer_machineOf (B : xB p R s m args meth c b_Explorer_machineOf 10 R_Explorer (Cond.code y_Explorer_machineOf b_Explorer_machineOf 10 (some (.object "DerivativeDesk$Machine")) :: x_T) (some (.object "DerivativeDesk$Machine")) 9 211 D x_cl (xty g) base) (a1 : Int32) (M : MS) : Sn p l e R s m args below meth c 10 D x_cl base (xwd g) cM x_gr az kz (xfc cM) (xZ below args s D x_cl (xty g) base (xwd g) cM x_gr az kz ovR) 0 [] [(0, .ref 24), (1, .int a1), (2, .ref 2), (3, .ref 1)] M (m_Explorer_machineOf a1 M) := by
  unfold m_Explorer_machineOf
  refine s_aload_n B d_Explorer_machineOf_0 rfl ?_
  refine s_getS (k := 0) (n := 25) B xc_Explorer kd_24 (by decide) rfl rfl fl_Explorer_11 sr_24_0 d_Explorer_machineOf_1 ?_
  refine s_iload_n B d_Explorer_machineOf_4 rfl ?_
  refine s_aald B kd_25 d_Explorer_machineOf_5 (fun v1 _ => ?_)
  refine s_guard (fun h2 => ?_)
  refine s_astore B d_Explorer_machineOf_6 (by decide) ?_
  refine s_aload B d_Explorer_machineOf_8 rfl ?_
  refine s_pick (lv1 := [(0, .ref 24), (1, .int a1), (2, .ref 2), (3, .ref 1), (4, .ref v1)]) [0, 1, 2, 3, 4] rfl ?_
  refine s_callI (av := [.ref v1]) (rest := []) B (lk_V B d_Explorer_machineOf_10 (gl_Explorer_32 _) rfl hv_Machine_isKnown (by decide) (by decide)) rfl (x_rcV B xc_Machine h2) (fun _ _ => rfl) rfl rfl (by simp [Value.category]) rfl (fun r3 e9 => ct_Machine_isKnown _ _ r3 e9) (fun r3 _ => ?_)
  refine s_if_eq B d_Explorer_machineOf_13 rfl (fun _ => ?_) (fun _ => ?_)
  · refine s_aload_n B d_Explorer_machineOf_19 rfl ?_
    refine s_getS (k := 1) (n := 26) B xc_Explorer kd_24 (by decide) rfl rfl fl_Explorer_17 sr_24_1 d_Explorer_machineOf_20 ?_
    refine s_iconst (v := (0:Int32)) B d_Explorer_machineOf_23 (by decide) ?_
    refine s_aload_n B d_Explorer_machineOf_24 rfl ?_
    refine s_iload_n B d_Explorer_machineOf_25 rfl ?_
    refine s_iald B (Or.inl kd_1) d_Explorer_machineOf_26 (fun v4 _ => ?_)
    refine s_iast B (Or.inl kd_26) d_Explorer_machineOf_27 (fun M5 _ => ?_)
    refine s_aload_n B d_Explorer_machineOf_28 rfl ?_
    refine s_aload_n B d_Explorer_machineOf_29 rfl ?_
    refine s_getS (k := 1) (n := 26) B xc_Explorer kd_24 (by decide) rfl rfl fl_Explorer_17 sr_24_1 d_Explorer_machineOf_30 ?_
    refine s_iconst (v := (0:Int32)) B d_Explorer_machineOf_33 (by decide) ?_
    refine s_iald B (Or.inl kd_26) d_Explorer_machineOf_34 (fun v6 _ => ?_)
    refine s_iconst (v := (0:Int32)) B d_Explorer_machineOf_35 (by decide) ?_
    refine s_pick (lv1 := [(0, .ref 24), (2, .ref 2), (3, .ref 1), (4, .ref v1)]) [0, 2, 3, 4] rfl ?_
    refine s_callU (av := [.ref 2, .int v6, .int (0:Int32)]) (rest := []) B (lk_V B d_Explorer_machineOf_36 (gl_Explorer_36 _) rfl hv_Terms_setTag (by decide) (by decide)) rfl (x_rcV B xc_Terms kd_2) (fun _ _ => rfl) rfl rfl (by simp [Value.category]) rfl (fun r7 e9 => ct_Terms_setTag _ _ _ r7 e9) (fun r7 _ => ?_)
    refine s_iconst (v := (1:Int32)) B d_Explorer_machineOf_39 (by decide) ?_
    refine s_istore B d_Explorer_machineOf_40 (by decide) ?_
    refine s_iconst (v := (0:Int32)) B d_Explorer_machineOf_42 (by decide) ?_
    refine s_istore B d_Explorer_machineOf_43 (by decide) ?_
    refine s_pick (lv1 := [(0, .ref 24), (2, .ref 2), (3, .ref 1), (4, .ref v1), (5, .int (1:Int32)), (6, .int (0:Int32))]) [0, 2, 3, 4, 5, 6] rfl ?_
    exact t_Explorer_machineOf_45 B v1 (1:Int32) (0:Int32) r7.1 h2
  · refine s_aload B d_Explorer_machineOf_16 rfl ?_
    exact s_aret (Or.inl ⟨_, rfl⟩) B d_Explorer_machineOf_18
set_option maxRecDepth 100000 in
set_option maxHeartbeats 4000000 in
theorem ct_Explorer_machineOf {l : Launch} {D : va_G} {base : Nat} {g : Nat → ClassId} (a1 : Int32) (M : MS) (r : MS × Nat) (hr : m_Explorer_machineOf a1 M = some r) : Ct l y_Explorer_machineOf (Cond.code y_Explorer_machineOf b_Explorer_machineOf 10 (some (.object "DerivativeDesk$Machine")) :: x_T) 9 211 D x_cl (xty g) base (xwd g) cM x_gr [.ref 24, .int a1, .ref 2, .ref 1] M r.1 (ovR r.2) :=
  x_met (ov := ovR) (by decide) (Nat.le_of_ble_eq_true rfl) (fun p e R s m args below meth c az B => t_Explorer_machineOf B a1 M) r hr
end
theorem d_Machine_count_0 : decode b_Machine_count 0 = .ok (.aload_n 0, 1) := by decide +kernel
theorem d_Machine_count_1 : decode b_Machine_count 1 = .ok (.getfield 19, 3) := by decide +kernel
theorem d_Machine_count_4 : decode b_Machine_count 4 = .ok (.ireturn, 1) := by decide +kernel
section
variable {p : Program} {l : Launch} {e : Env} {R : Room} {s : State} {m : MethodId} {args : Array Value} {below : List Frame} {meth : Method} {c : Code} {D : va_G} {base : Nat} {g : Nat → ClassId} {az : Nat → Nat} {kz : Nat × Nat}
set_option maxRecDepth 100000 in
set_option maxHeartbeats 4000000 in
theorem t_Machine_count (B : xB p R s m args meth c b_Machine_count 1 R_Machine (Cond.code y_Machine_count b_Machine_count 1 (some .int) :: x_T) (some .int) 0 0 D x_cl (xty g) base) (a0 : Nat) (M : MS) : Sn p l e R s m args below meth c 1 D x_cl base (xwd g) cM x_g0 az kz (xfc cM) (xZ below args s D x_cl (xty g) base (xwd g) cM x_g0 az kz ovI) 0 [] [(0, .ref a0)] M (m_Machine_count a0 M) := by
  unfold m_Machine_count
  refine s_guard (fun ha0 => ?_)
  refine s_aload_n B d_Machine_count_0 rfl ?_
  refine s_getI (k := 2) B xc_Machine ha0 (by decide) rfl rfl fl_Machine_19 d_Machine_count_1 ?_
  exact s_iret B d_Machine_count_4
set_option maxRecDepth 100000 in
set_option maxHeartbeats 4000000 in
theorem ct_Machine_count {l : Launch} {D : va_G} {base : Nat} {g : Nat → ClassId} (a0 : Nat) (M : MS) (r : MS × Int32) (hr : m_Machine_count a0 M = some r) : Ct l y_Machine_count (Cond.code y_Machine_count b_Machine_count 1 (some .int) :: x_T) 0 0 D x_cl (xty g) base (xwd g) cM x_g0 [.ref a0] M r.1 (ovI r.2) :=
  x_met (ov := ovI) (by decide) (Nat.le_of_ble_eq_true rfl) (fun p e R s m args below meth c az B => t_Machine_count B a0 M) r hr
end
theorem d_D_states_0 : decode b_D_states 0 = .ok (.iload_n 1, 1) := by decide +kernel
theorem d_D_states_1 : decode b_D_states 1 = .ok (.invokestatic 61, 3) := by decide +kernel
theorem d_D_states_4 : decode b_D_states 4 = .ok (.aload_n 0, 1) := by decide +kernel
theorem d_D_states_5 : decode b_D_states 5 = .ok (.getfield 23, 3) := by decide +kernel
theorem d_D_states_8 : decode b_D_states 8 = .ok (.iload_n 1, 1) := by decide +kernel
theorem d_D_states_9 : decode b_D_states 9 = .ok (.aload_n 0, 1) := by decide +kernel
theorem d_D_states_10 : decode b_D_states 10 = .ok (.getfield 16, 3) := by decide +kernel
theorem d_D_states_13 : decode b_D_states 13 = .ok (.aload_n 0, 1) := by decide +kernel
theorem d_D_states_14 : decode b_D_states 14 = .ok (.getfield 9, 3) := by decide +kernel
theorem d_D_states_17 : decode b_D_states 17 = .ok (.invokevirtual 98, 3) := by decide +kernel
theorem d_D_states_20 : decode b_D_states 20 = .ok (.invokevirtual 102, 3) := by decide +kernel
theorem d_D_states_23 : decode b_D_states 23 = .ok (.ireturn, 1) := by decide +kernel
section
variable {p : Program} {l : Launch} {e : Env} {R : Room} {s : State} {m : MethodId} {args : Array Value} {below : List Frame} {meth : Method} {c : Code} {D : va_G} {base : Nat} {g : Nat → ClassId} {az : Nat → Nat} {kz : Nat × Nat}
set_option maxRecDepth 100000 in
set_option maxHeartbeats 4000000 in
theorem t_D_states (B : xB p R s m args meth c b_D_states 2 R_D (Cond.code y_D_states b_D_states 2 (some .int) :: x_T) (some .int) 10 240 D x_cl (xty g) base) (a1 : Int32) (M : MS) : Sn p l e R s m args below meth c 2 D x_cl base (xwd g) cM x_gr az kz (xfc cM) (xZ below args s D x_cl (xty g) base (xwd g) cM x_gr az kz ovI) 0 [] [(0, .ref 0), (1, .int a1)] M (m_D_states a1 M) := by
  unfold m_D_states
  refine s_iload_n B d_D_states_0 rfl ?_
  refine s_pick (lv1 := [(0, .ref 0), (1, .int a1)]) [0, 1] rfl ?_
  refine s_callU (av := [.int a1]) (rest := []) B (lk_S B d_D_states_1 (gl_D_61 _) (List.mem_cons_of_mem _ st_D_checkSlot) (List.mem_cons_of_mem _ in_D) (List.mem_cons_of_mem _ ml_D_61) rfl hs_D_checkSlot (by decide) (by decide)) rfl x_rcS (fun _ _ => rfl) rfl rfl (by simp [Value.category]) rfl (fun r1 e9 => ct_D_checkSlot _ _ r1 e9) (fun r1 _ => ?_)
  refine s_aload_n B d_D_states_4 rfl ?_
  refine s_getS (k := 2) (n := 24) B xc_D kd_0 (by decide) rfl rfl fl_D_23 sr_0_2 d_D_states_5 ?_
  refine s_iload_n B d_D_states_8 rfl ?_
  refine s_aload_n B d_D_states_9 rfl ?_
  refine s_getS (k := 1) (n := 2) B xc_D kd_0 (by decide) rfl rfl fl_D_16 sr_0_1 d_D_states_10 ?_
  refine s_aload_n B d_D_states_13 rfl ?_
  refine s_getS (k := 0) (n := 1) B xc_D kd_0 (by decide) rfl rfl fl_D_9 sr_0_0 d_D_states_14 ?_
  refine s_pick (lv1 := []) [] rfl ?_
  refine s_callR (av := [.ref 24, .int a1, .ref 2, .ref 1]) (rest := []) B (lk_V B d_D_states_17 (gl_D_98 _) rfl hv_Explorer_machineOf (by decide) (by decide)) rfl (x_rcV B xc_Explorer kd_24) (fun _ h => h) rfl rfl (by simp [Value.category]) rfl (fun r2 e9 => ct_Explorer_machineOf _ _ r2 e9) (fun r2 _ => ?_)
  refine s_guard (fun h3 => ?_)
  refine s_pick (lv1 := []) [] rfl ?_
  refine s_callI (av := [.ref r2.2]) (rest := []) B (lk_V B d_D_states_20 (gl_D_102 _) rfl hv_Machine_count (by decide) (by decide)) rfl (x_rcV B xc_Machine h3) (fun _ _ => rfl) rfl rfl (by simp [Value.category]) rfl (fun r4 e9 => ct_Machine_count _ _ r4 e9) (fun r4 _ => ?_)
  exact s_iret B d_D_states_23
set_option maxRecDepth 100000 in
set_option maxHeartbeats 4000000 in
theorem ct_D_states {l : Launch} {D : va_G} {base : Nat} {g : Nat → ClassId} (a1 : Int32) (M : MS) (r : MS × Int32) (hr : m_D_states a1 M = some r) : Ct l y_D_states (Cond.code y_D_states b_D_states 2 (some .int) :: x_T) 10 240 D x_cl (xty g) base (xwd g) cM x_gr [.ref 0, .int a1] M r.1 (ovI r.2) :=
  x_met (ov := ovI) (by decide) (Nat.le_of_ble_eq_true rfl) (fun p e R s m args below meth c az B => t_D_states B a1 M) r hr
end
theorem d_Machine_isTooLarge_0 : decode b_Machine_isTooLarge 0 = .ok (.aload_n 0, 1) := by decide +kernel
theorem d_Machine_isTooLarge_1 : decode b_Machine_isTooLarge 1 = .ok (.getfield 19, 3) := by decide +kernel
theorem d_Machine_isTooLarge_4 : decode b_Machine_isTooLarge 4 = .ok (.iconst (-1), 1) := by decide +kernel
theorem d_Machine_isTooLarge_5 : decode b_Machine_isTooLarge 5 = .ok (.if_icmp .ne (7), 3) := by decide +kernel
theorem d_Machine_isTooLarge_8 : decode b_Machine_isTooLarge 8 = .ok (.iconst (1), 1) := by decide +kernel
theorem d_Machine_isTooLarge_9 : decode b_Machine_isTooLarge 9 = .ok (.goto (4), 3) := by decide +kernel
theorem d_Machine_isTooLarge_12 : decode b_Machine_isTooLarge 12 = .ok (.iconst (0), 1) := by decide +kernel
theorem d_Machine_isTooLarge_13 : decode b_Machine_isTooLarge 13 = .ok (.ireturn, 1) := by decide +kernel
section
variable {p : Program} {l : Launch} {e : Env} {R : Room} {s : State} {m : MethodId} {args : Array Value} {below : List Frame} {meth : Method} {c : Code} {D : va_G} {base : Nat} {g : Nat → ClassId} {az : Nat → Nat} {kz : Nat × Nat}
set_option maxRecDepth 100000 in
set_option maxHeartbeats 4000000 in
theorem t_Machine_isTooLarge (B : xB p R s m args meth c b_Machine_isTooLarge 1 R_Machine (Cond.code y_Machine_isTooLarge b_Machine_isTooLarge 1 (some .boolean) :: x_T) (some .boolean) 0 0 D x_cl (xty g) base) (a0 : Nat) (M : MS) : Sn p l e R s m args below meth c 1 D x_cl base (xwd g) cM x_g0 az kz (xfc cM) (xZ below args s D x_cl (xty g) base (xwd g) cM x_g0 az kz ovI) 0 [] [(0, .ref a0)] M (m_Machine_isTooLarge a0 M) := by
  unfold m_Machine_isTooLarge
  refine s_guard (fun ha0 => ?_)
  refine s_aload_n B d_Machine_isTooLarge_0 rfl ?_
  refine s_getI (k := 2) B xc_Machine ha0 (by decide) rfl rfl fl_Machine_19 d_Machine_isTooLarge_1 ?_
  refine s_iconst (v := (-1:Int32)) B d_Machine_isTooLarge_4 (by decide) ?_
  refine s_icmp_ne B d_Machine_isTooLarge_5 rfl (fun _ => ?_) (fun _ => ?_)
  · refine s_iconst (v := (0:Int32)) B d_Machine_isTooLarge_12 (by decide) ?_
    exact s_zret0 rfl B d_Machine_isTooLarge_13
  · refine s_iconst (v := (1:Int32)) B d_Machine_isTooLarge_8 (by decide) ?_
    refine s_goto B d_Machine_isTooLarge_9 rfl ?_
    exact s_zret0 rfl B d_Machine_isTooLarge_13
set_option maxRecDepth 100000 in
set_option maxHeartbeats 4000000 in
theorem ct_Machine_isTooLarge {l : Launch} {D : va_G} {base : Nat} {g : Nat → ClassId} (a0 : Nat) (M : MS) (r : MS × Int32) (hr : m_Machine_isTooLarge a0 M = some r) : Ct l y_Machine_isTooLarge (Cond.code y_Machine_isTooLarge b_Machine_isTooLarge 1 (some .boolean) :: x_T) 0 0 D x_cl (xty g) base (xwd g) cM x_g0 [.ref a0] M r.1 (ovI r.2) :=
  x_met (ov := ovI) (by decide) (Nat.le_of_ble_eq_true rfl) (fun p e R s m args below meth c az B => t_Machine_isTooLarge B a0 M) r hr
end
theorem d_Machine_isAccepting_0 : decode b_Machine_isAccepting 0 = .ok (.aload_n 0, 1) := by decide +kernel
theorem d_Machine_isAccepting_1 : decode b_Machine_isAccepting 1 = .ok (.getfield 15, 3) := by decide +kernel
theorem d_Machine_isAccepting_4 : decode b_Machine_isAccepting 4 = .ok (.iload_n 1, 1) := by decide +kernel
theorem d_Machine_isAccepting_5 : decode b_Machine_isAccepting 5 = .ok (.baload, 1) := by decide +kernel
theorem d_Machine_isAccepting_6 : decode b_Machine_isAccepting 6 = .ok (.ireturn, 1) := by decide +kernel
section
variable {p : Program} {l : Launch} {e : Env} {R : Room} {s : State} {m : MethodId} {args : Array Value} {below : List Frame} {meth : Method} {c : Code} {D : va_G} {base : Nat} {g : Nat → ClassId} {az : Nat → Nat} {kz : Nat × Nat}
set_option maxRecDepth 100000 in
set_option maxHeartbeats 4000000 in
theorem t_Machine_isAccepting (B : xB p R s m args meth c b_Machine_isAccepting 2 R_Machine (Cond.code y_Machine_isAccepting b_Machine_isAccepting 2 (some .boolean) :: x_T) (some .boolean) 0 0 D x_cl (xty g) base) (a0 : Nat) (a1 : Int32) (M : MS) : Sn p l e R s m args below meth c 2 D x_cl base (xwd g) cM x_g0 az kz (xfc cM) (xZ below args s D x_cl (xty g) base (xwd g) cM x_g0 az kz ovI) 0 [] [(0, .ref a0), (1, .int a1)] M (m_Machine_isAccepting a0 a1 M) := by
  unfold m_Machine_isAccepting
  refine s_guard (fun ha0 => ?_)
  refine s_aload_n B d_Machine_isAccepting_0 rfl ?_
  refine s_getS (k := 1) (n := (x_sr a0 1)) B xc_Machine ha0 (by decide) rfl rfl fl_Machine_15 rfl d_Machine_isAccepting_1 ?_
  refine s_iload_n B d_Machine_isAccepting_4 rfl ?_
  refine s_zald B (srk_Machine_1 ha0) d_Machine_isAccepting_5 (fun v1 _ => ?_)
  exact s_zret B d_Machine_isAccepting_6
set_option maxRecDepth 100000 in
set_option maxHeartbeats 4000000 in
theorem ct_Machine_isAccepting {l : Launch} {D : va_G} {base : Nat} {g : Nat → ClassId} (a0 : Nat) (a1 : Int32) (M : MS) (r : MS × Int32) (hr : m_Machine_isAccepting a0 a1 M = some r) : Ct l y_Machine_isAccepting (Cond.code y_Machine_isAccepting b_Machine_isAccepting 2 (some .boolean) :: x_T) 0 0 D x_cl (xty g) base (xwd g) cM x_g0 [.ref a0, .int a1] M r.1 (ovI r.2) :=
  x_met (ov := ovI) (by decide) (Nat.le_of_ble_eq_true rfl) (fun p e R s m args below meth c az B => t_Machine_isAccepting B a0 a1 M) r hr
end
theorem d_Splitter_splitByEmptyWord_0 : decode b_Splitter_splitByEmptyWord 0 = .ok (.iconst (1), 1) := by decide +kernel
theorem d_Splitter_splitByEmptyWord_1 : decode b_Splitter_splitByEmptyWord 1 = .ok (.istore_n 2, 1) := by decide +kernel
theorem d_Splitter_splitByEmptyWord_2 : decode b_Splitter_splitByEmptyWord 2 = .ok (.iconst (0), 1) := by decide +kernel
theorem d_Splitter_splitByEmptyWord_3 : decode b_Splitter_splitByEmptyWord 3 = .ok (.istore_n 3, 1) := by decide +kernel
theorem d_Splitter_splitByEmptyWord_4 : decode b_Splitter_splitByEmptyWord 4 = .ok (.iload_n 3, 1) := by decide +kernel
theorem d_Splitter_splitByEmptyWord_5 : decode b_Splitter_splitByEmptyWord 5 = .ok (.aload_n 1, 1) := by decide +kernel
theorem d_Splitter_splitByEmptyWord_6 : decode b_Splitter_splitByEmptyWord 6 = .ok (.invokevirtual 35, 3) := by decide +kernel
theorem d_Splitter_splitByEmptyWord_9 : decode b_Splitter_splitByEmptyWord 9 = .ok (.if_icmp .ge (56), 3) := by decide +kernel
theorem d_Splitter_splitByEmptyWord_12 : decode b_Splitter_splitByEmptyWord 12 = .ok (.aload_n 1, 1) := by decide +kernel
theorem d_Splitter_splitByEmptyWord_13 : decode b_Splitter_splitByEmptyWord 13 = .ok (.iload_n 3, 1) := by decide +kernel
theorem d_Splitter_splitByEmptyWord_14 : decode b_Splitter_splitByEmptyWord 14 = .ok (.invokevirtual 41, 3) := by decide +kernel
theorem d_Splitter_splitByEmptyWord_17 : decode b_Splitter_splitByEmptyWord 17 = .ok (.aload_n 1, 1) := by decide +kernel
theorem d_Splitter_splitByEmptyWord_18 : decode b_Splitter_splitByEmptyWord 18 = .ok (.iconst (0), 1) := by decide +kernel
theorem d_Splitter_splitByEmptyWord_19 : decode b_Splitter_splitByEmptyWord 19 = .ok (.invokevirtual 41, 3) := by decide +kernel
theorem d_Splitter_splitByEmptyWord_22 : decode b_Splitter_splitByEmptyWord 22 = .ok (.if_icmp .ne (7), 3) := by decide +kernel
theorem d_Splitter_splitByEmptyWord_25 : decode b_Splitter_splitByEmptyWord 25 = .ok (.iconst (1), 1) := by decide +kernel
theorem d_Splitter_splitByEmptyWord_26 : decode b_Splitter_splitByEmptyWord 26 = .ok (.goto (4), 3) := by decide +kernel
theorem d_Splitter_splitByEmptyWord_29 : decode b_Splitter_splitByEmptyWord 29 = .ok (.iconst (0), 1) := by decide +kernel
theorem d_Splitter_splitByEmptyWord_30 : decode b_Splitter_splitByEmptyWord 30 = .ok (.istore 4, 2) := by decide +kernel
theorem d_Splitter_splitByEmptyWord_32 : decode b_Splitter_splitByEmptyWord 32 = .ok (.aload_n 0, 1) := by decide +kernel
theorem d_Splitter_splitByEmptyWord_33 : decode b_Splitter_splitByEmptyWord 33 = .ok (.getfield 9, 3) := by decide +kernel
theorem d_Splitter_splitByEmptyWord_36 : decode b_Splitter_splitByEmptyWord 36 = .ok (.iload_n 3, 1) := by decide +kernel
theorem d_Splitter_splitByEmptyWord_37 : decode b_Splitter_splitByEmptyWord 37 = .ok (.iload 4, 2) := by decide +kernel
theorem d_Splitter_splitByEmptyWord_39 : decode b_Splitter_splitByEmptyWord 39 = .ok (.ifCond .eq (7), 3) := by decide +kernel
theorem d_Splitter_splitByEmptyWord_42 : decode b_Splitter_splitByEmptyWord 42 = .ok (.iconst (0), 1) := by decide +kernel
theorem d_Splitter_splitByEmptyWord_43 : decode b_Splitter_splitByEmptyWord 43 = .ok (.goto (4), 3) := by decide +kernel
theorem d_Splitter_splitByEmptyWord_46 : decode b_Splitter_splitByEmptyWord 46 = .ok (.iconst (1), 1) := by decide +kernel
theorem d_Splitter_splitByEmptyWord_47 : decode b_Splitter_splitByEmptyWord 47 = .ok (.iastore, 1) := by decide +kernel
theorem d_Splitter_splitByEmptyWord_48 : decode b_Splitter_splitByEmptyWord 48 = .ok (.iload 4, 2) := by decide +kernel
theorem d_Splitter_splitByEmptyWord_50 : decode b_Splitter_splitByEmptyWord 50 = .ok (.ifCond .eq (7), 3) := by decide +kernel
theorem d_Splitter_splitByEmptyWord_53 : decode b_Splitter_splitByEmptyWord 53 = .ok (.iload_n 2, 1) := by decide +kernel
theorem d_Splitter_splitByEmptyWord_54 : decode b_Splitter_splitByEmptyWord 54 = .ok (.goto (4), 3) := by decide +kernel
theorem d_Splitter_splitByEmptyWord_57 : decode b_Splitter_splitByEmptyWord 57 = .ok (.iconst (2), 1) := by decide +kernel
theorem d_Splitter_splitByEmptyWord_58 : decode b_Splitter_splitByEmptyWord 58 = .ok (.istore_n 2, 1) := by decide +kernel
theorem d_Splitter_splitByEmptyWord_59 : decode b_Splitter_splitByEmptyWord 59 = .ok (.iinc 3 (1), 3) := by decide +kernel
theorem d_Splitter_splitByEmptyWord_62 : decode b_Splitter_splitByEmptyWord 62 = .ok (.goto (-58), 3) := by decide +kernel
theorem d_Splitter_splitByEmptyWord_65 : decode b_Splitter_splitByEmptyWord 65 = .ok (.iload_n 2, 1) := by decide +kernel
theorem d_Splitter_splitByEmptyWord_66 : decode b_Splitter_splitByEmptyWord 66 = .ok (.ireturn, 1) := by decide +kernel
section
variable {p : Program} {l : Launch} {e : Env} {R : Room} {s : State} {m : MethodId} {args : Array Value} {below : List Frame} {meth : Method} {c : Code} {D : va_G} {base : Nat} {g : Nat → ClassId} {az : Nat → Nat} {kz : Nat × Nat}
set_option maxRecDepth 100000 in
set_option maxHeartbeats 4000000 in
theorem t_Splitter_splitByEmptyWord_47 {k4 : Nat × Int32 × Int32 × MS → Option (MS × Int32)} (B : xB p R s m args meth c b_Splitter_splitByEmptyWord 5 R_Splitter (Cond.code y_Splitter_splitByEmptyWord b_Splitter_splitByEmptyWord 5 (some .int) :: x_T) (some .int) 1 21 D x_cl (xty g) base) (hk4 : ∀ (l1 : Nat) (l2 : Int32) (l3 : Int32) (M : MS) (hl1 : x_kd l1 = 4), Sn p l e R s m args below meth c 5 D x_cl base (xwd g) cM x_g0 az kz (xfc cM) (xZ below args s D x_cl (xty g) base (xwd g) cM x_g0 az kz ovI) 4 [] [(0, .ref 80), (1, .ref l1), (2, .int l2), (3, .int l3)] M (k4 (l1, l2, l3, M))) (l1 : Nat) (l2 : Int32) (l3 : Int32) (l4 : Int32) (s1 : Int32) (s2 : Int32) (M : MS) (hl1 : x_kd l1 = 4) : Sn p l e R s m args below meth c 5 D x_cl base (xwd g) cM x_g0 az kz (xfc cM) (xZ below args s D x_cl (xty g) base (xwd g) cM x_g0 az kz ovI) 47 [.int s2, .int s1, .ref 81] [(0, .ref 80), (1, .ref l1), (2, .int l2), (3, .int l3), (4, .int l4)] M (m_Splitter_splitByEmptyWord_47 k4 l1 l2 l3 l4 s1 s2 M) := by
  unfold m_Splitter_splitByEmptyWord_47
  refine s_iast B (Or.inl kd_81) d_Splitter_splitByEmptyWord_47 (fun M1 _ => ?_)
  refine s_iload B d_Splitter_splitByEmptyWord_48 rfl ?_
  refine s_if_eq B d_Splitter_splitByEmptyWord_50 rfl (fun _ => ?_) (fun _ => ?_)
  · refine s_iconst (v := (2:Int32)) B d_Splitter_splitByEmptyWord_57 (by decide) ?_
    refine s_istore_n B d_Splitter_splitByEmptyWord_58 (by decide) ?_
    refine s_iinc (w := (1:Int32)) B d_Splitter_splitByEmptyWord_59 rfl (by decide) (by decide) ?_
    refine s_goto B d_Splitter_splitByEmptyWord_62 rfl ?_
    refine s_pick (lv1 := [(0, .ref 80), (1, .ref l1), (2, .int (2:Int32)), (3, .int (l3 + (1:Int32)))]) [0, 1, 2, 3] rfl ?_
    exact hk4 l1 (2:Int32) (l3 + (1:Int32)) M1 hl1
  · refine s_iload_n B d_Splitter_splitByEmptyWord_53 rfl ?_
    refine s_goto B d_Splitter_splitByEmptyWord_54 rfl ?_
    refine s_istore_n B d_Splitter_splitByEmptyWord_58 (by decide) ?_
    refine s_iinc (w := (1:Int32)) B d_Splitter_splitByEmptyWord_59 rfl (by decide) (by decide) ?_
    refine s_goto B d_Splitter_splitByEmptyWord_62 rfl ?_
    refine s_pick (lv1 := [(0, .ref 80), (1, .ref l1), (2, .int l2), (3, .int (l3 + (1:Int32)))]) [0, 1, 2, 3] rfl ?_
    exact hk4 l1 l2 (l3 + (1:Int32)) M1 hl1
set_option maxRecDepth 100000 in
set_option maxHeartbeats 4000000 in
theorem t_Splitter_splitByEmptyWord_30 {k4 : Nat × Int32 × Int32 × MS → Option (MS × Int32)} (B : xB p R s m args meth c b_Splitter_splitByEmptyWord 5 R_Splitter (Cond.code y_Splitter_splitByEmptyWord b_Splitter_splitByEmptyWord 5 (some .int) :: x_T) (some .int) 1 21 D x_cl (xty g) base) (hk4 : ∀ (l1 : Nat) (l2 : Int32) (l3 : Int32) (M : MS) (hl1 : x_kd l1 = 4), Sn p l e R s m args below meth c 5 D x_cl base (xwd g) cM x_g0 az kz (xfc cM) (xZ below args s D x_cl (xty g) base (xwd g) cM x_g0 az kz ovI) 4 [] [(0, .ref 80), (1, .ref l1), (2, .int l2), (3, .int l3)] M (k4 (l1, l2, l3, M))) (l1 : Nat) (l2 : Int32) (l3 : Int32) (s0 : Int32) (M : MS) (hl1 : x_kd l1 = 4) : Sn p l e R s m args below meth c 5 D x_cl base (xwd g) cM x_g0 az kz (xfc cM) (xZ below args s D x_cl (xty g) base (xwd g) cM x_g0 az kz ovI) 30 [.int s0] [(0, .ref 80), (1, .ref l1), (2, .int l2), (3, .int l3)] M (m_Splitter_splitByEmptyWord_30 k4 l1 l2 l3 s0 M) := by
  unfold m_Splitter_splitByEmptyWord_30
  refine s_istore B d_Splitter_splitByEmptyWord_30 (by decide) ?_
  refine s_aload_n B d_Splitter_splitByEmptyWord_32 rfl ?_
  refine s_getS (k := 0) (n := 81) B xc_Splitter kd_80 (by decide) rfl rfl fl_Splitter_9 sr_80_0 d_Splitter_splitByEmptyWord_33 ?_
  refine s_iload_n B d_Splitter_splitByEmptyWord_36 rfl ?_
  refine s_iload B d_Splitter_splitByEmptyWord_37 rfl ?_
  refine s_if_eq B d_Splitter_splitByEmptyWord_39 rfl (fun _ => ?_) (fun _ => ?_)
  · refine s_iconst (v := (1:Int32)) B d_Splitter_splitByEmptyWord_46 (by decide) ?_
    refine s_pick (lv1 := [(0, .ref 80), (1, .ref l1), (2, .int l2), (3, .int l3), (4, .int s0)]) [0, 1, 2, 3, 4] rfl ?_
    exact t_Splitter_splitByEmptyWord_47 B hk4 l1 l2 l3 s0 l3 (1:Int32) M hl1
  · refine s_iconst (v := (0:Int32)) B d_Splitter_splitByEmptyWord_42 (by decide) ?_
    refine s_goto B d_Splitter_splitByEmptyWord_43 rfl ?_
    refine s_pick (lv1 := [(0, .ref 80), (1, .ref l1), (2, .int l2), (3, .int l3), (4, .int s0)]) [0, 1, 2, 3, 4] rfl ?_
    exact t_Splitter_splitByEmptyWord_47 B hk4 l1 l2 l3 s0 l3 (0:Int32) M hl1
set_option maxRecDepth 100000 in
set_option maxHeartbeats 4000000 in
theorem t_Splitter_splitByEmptyWord_4b {k4 : Nat × Int32 × Int32 × MS → Option (MS × Int32)} (B : xB p R s m args meth c b_Splitter_splitByEmptyWord 5 R_Splitter (Cond.code y_Splitter_splitByEmptyWord b_Splitter_splitByEmptyWord 5 (some .int) :: x_T) (some .int) 1 21 D x_cl (xty g) base) (hk4 : ∀ (l1 : Nat) (l2 : Int32) (l3 : Int32) (M : MS) (hl1 : x_kd l1 = 4), Sn p l e R s m args below meth c 5 D x_cl base (xwd g) cM x_g0 az kz (xfc cM) (xZ below args s D x_cl (xty g) base (xwd g) cM x_g0 az kz ovI) 4 [] [(0, .ref 80), (1, .ref l1), (2, .int l2), (3, .int l3)] M (k4 (l1, l2, l3, M))) (l1 : Nat) (l2 : Int32) (l3 : Int32) (M : MS) (hl1 : x_kd l1 = 4) : Sn p l e R s m args below meth c 5 D x_cl base (xwd g) cM x_g0 az kz (xfc cM) (xZ below args s D x_cl (xty g) base (xwd g) cM x_g0 az kz ovI) 4 [] [(0, .ref 80), (1, .ref l1), (2, .int l2), (3, .int l3)] M (m_Splitter_splitByEmptyWord_4b k4 l1 l2 l3 M) := by
  unfold m_Splitter_splitByEmptyWord_4b
  refine s_iload_n B d_Splitter_splitByEmptyWord_4 rfl ?_
  refine s_aload_n B d_Splitter_splitByEmptyWord_5 rfl ?_
  refine s_pick (lv1 := [(0, .ref 80), (1, .ref l1), (2, .int l2), (3, .int l3)]) [0, 1, 2, 3] rfl ?_
  refine s_callI (av := [.ref l1]) (rest := [.int l3]) B (lk_V B d_Splitter_splitByEmptyWord_6 (gl_Splitter_35 _) rfl hv_Machine_count (by decide) (by decide)) rfl (x_rcV B xc_Machine hl1) (fun _ _ => rfl) rfl rfl (by simp [Value.category]) rfl (fun r1 e9 => ct_Machine_count _ _ r1 e9) (fun r1 _ => ?_)
  refine s_icmp_ge B d_Splitter_splitByEmptyWord_9 rfl (fun _ => ?_) (fun _ => ?_)
  · refine s_iload_n B d_Splitter_splitByEmptyWord_65 rfl ?_
    exact s_iret B d_Splitter_splitByEmptyWord_66
  · refine s_aload_n B d_Splitter_splitByEmptyWord_12 rfl ?_
    refine s_iload_n B d_Splitter_splitByEmptyWord_13 rfl ?_
    refine s_pick (lv1 := [(0, .ref 80), (1, .ref l1), (2, .int l2), (3, .int l3)]) [0, 1, 2, 3] rfl ?_
    refine s_callI (av := [.ref l1, .int l3]) (rest := []) B (lk_V B d_Splitter_splitByEmptyWord_14 (gl_Splitter_41 _) rfl hv_Machine_isAccepting (by decide) (by decide)) rfl (x_rcV B xc_Machine hl1) (fun _ _ => rfl) rfl rfl (by simp [Value.category]) rfl (fun r2 e9 => ct_Machine_isAccepting _ _ _ r2 e9) (fun r2 _ => ?_)
    refine s_aload_n B d_Splitter_splitByEmptyWord_17 rfl ?_
    refine s_iconst (v := (0:Int32)) B d_Splitter_splitByEmptyWord_18 (by decide) ?_
    refine s_pick (lv1 := [(0, .ref 80), (1, .ref l1), (2, .int l2), (3, .int l3)]) [0, 1, 2, 3] rfl ?_
    refine s_callI (av := [.ref l1, .int (0:Int32)]) (rest := [.int r2.2]) B (lk_V B d_Splitter_splitByEmptyWord_19 (gl_Splitter_41 _) rfl hv_Machine_isAccepting (by decide) (by decide)) rfl (x_rcV B xc_Machine hl1) (fun _ _ => rfl) rfl rfl (by simp [Value.category]) rfl (fun r3 e9 => ct_Machine_isAccepting _ _ _ r3 e9) (fun r3 _ => ?_)
    refine s_icmp_ne B d_Splitter_splitByEmptyWord_22 rfl (fun _ => ?_) (fun _ => ?_)
    · refine s_iconst (v := (0:Int32)) B d_Splitter_splitByEmptyWord_29 (by decide) ?_
      refine s_pick (lv1 := [(0, .ref 80), (1, .ref l1), (2, .int l2), (3, .int l3)]) [0, 1, 2, 3] rfl ?_
      exact t_Splitter_splitByEmptyWord_30 B hk4 l1 l2 l3 (0:Int32) r3.1 hl1
    · refine s_iconst (v := (1:Int32)) B d_Splitter_splitByEmptyWord_25 (by decide) ?_
      refine s_goto B d_Splitter_splitByEmptyWord_26 rfl ?_
      refine s_pick (lv1 := [(0, .ref 80), (1, .ref l1), (2, .int l2), (3, .int l3)]) [0, 1, 2, 3] rfl ?_
      exact t_Splitter_splitByEmptyWord_30 B hk4 l1 l2 l3 (1:Int32) r3.1 hl1
set_option maxRecDepth 100000 in
set_option maxHeartbeats 4000000 in
theorem t_Splitter_splitByEmptyWord_4  (B : xB p R s m args meth c b_Splitter_splitByEmptyWord 5 R_Splitter (Cond.code y_Splitter_splitByEmptyWord b_Splitter_splitByEmptyWord 5 (some .int) :: x_T) (some .int) 1 21 D x_cl (xty g) base)  (l1 : Nat) (l2 : Int32) (l3 : Int32) (M : MS) (hl1 : x_kd l1 = 4) : Sn p l e R s m args below meth c 5 D x_cl base (xwd g) cM x_g0 az kz (xfc cM) (xZ below args s D x_cl (xty g) base (xwd g) cM x_g0 az kz ovI) 4 [] [(0, .ref 80), (1, .ref l1), (2, .int l2), (3, .int l3)] M (m_Splitter_splitByEmptyWord_4 (l1, l2, l3, M)) := by
  have q : ∀ (F : Nat) (i : Nat × Int32 × Int32 × MS), x_kd i.1 = 4 → Sn p l e R s m args below meth c 5 D x_cl base (xwd g) cM x_g0 az kz (xfc cM) (xZ below args s D x_cl (xty g) base (xwd g) cM x_g0 az kz ovI) 4 [] [(0, .ref 80), (1, .ref i.1), (2, .int i.2.1), (3, .int i.2.2.1)] i.2.2.2 (fx (fun (k : Nat × Int32 × Int32 × MS → Option (MS × Int32)) (i : Nat × Int32 × Int32 × MS) => m_Splitter_splitByEmptyWord_4b k i.1 i.2.1 i.2.2.1 i.2.2.2) F i) := by
    intro F
    induction F with
    | zero => intro i h0; exact s_none
    | succ F ih => intro i h0; exact t_Splitter_splitByEmptyWord_4b B  (fun l1 l2 l3 M h0 => ih (l1, l2, l3, M) h0) i.1 i.2.1 i.2.2.1 i.2.2.2 h0
  exact q FU (l1, l2, l3, M) hl1
set_option maxRecDepth 100000 in
set_option maxHeartbeats 4000000 in
theorem t_Splitter_splitByEmptyWord (B : xB p R s m args meth c b_Splitter_splitByEmptyWord 5 R_Splitter (Cond.code y_Splitter_splitByEmptyWord b_Splitter_splitByEmptyWord 5 (some .int) :: x_T) (some .int) 1 21 D x_cl (xty g) base) (a1 : Nat) (M : MS) : Sn p l e R s m args below meth c 5 D x_cl base (xwd g) cM x_g0 az kz (xfc cM) (xZ below args s D x_cl (xty g) base (xwd g) cM x_g0 az kz ovI) 0 [] [(0, .ref 80), (1, .ref a1)] M (m_Splitter_splitByEmptyWord a1 M) := by
  unfold m_Splitter_splitByEmptyWord
  refine s_guard (fun ha1 => ?_)
  refine s_iconst (v := (1:Int32)) B d_Splitter_splitByEmptyWord_0 (by decide) ?_
  refine s_istore_n B d_Splitter_splitByEmptyWord_1 (by decide) ?_
  refine s_iconst (v := (0:Int32)) B d_Splitter_splitByEmptyWord_2 (by decide) ?_
  refine s_istore_n B d_Splitter_splitByEmptyWord_3 (by decide) ?_
  refine s_pick (lv1 := [(0, .ref 80), (1, .ref a1), (2, .int (1:Int32)), (3, .int (0:Int32))]) [0, 1, 2, 3] rfl ?_
  exact t_Splitter_splitByEmptyWord_4 B a1 (1:Int32) (0:Int32) M ha1
set_option maxRecDepth 100000 in
set_option maxHeartbeats 4000000 in
theorem ct_Splitter_splitByEmptyWord {l : Launch} {D : va_G} {base : Nat} {g : Nat → ClassId} (a1 : Nat) (M : MS) (r : MS × Int32) (hr : m_Splitter_splitByEmptyWord a1 M = some r) : Ct l y_Splitter_splitByEmptyWord (Cond.code y_Splitter_splitByEmptyWord b_Splitter_splitByEmptyWord 5 (some .int) :: x_T) 1 21 D x_cl (xty g) base (xwd g) cM x_g0 [.ref 80, .ref a1] M r.1 (ovI r.2) :=
  x_met (ov := ovI) (by decide) (Nat.le_of_ble_eq_true rfl) (fun p e R s m args below meth c az B => t_Splitter_splitByEmptyWord B a1 M) r hr
end
theorem d_Machine_next_0 : decode b_Machine_next 0 = .ok (.aload_n 0, 1) := by decide +kernel
theorem d_Machine_next_1 : decode b_Machine_next 1 = .ok (.getfield 9, 3) := by decide +kernel
theorem d_Machine_next_4 : decode b_Machine_next 4 = .ok (.iload_n 1, 1) := by decide +kernel
theorem d_Machine_next_5 : decode b_Machine_next 5 = .ok (.iconst (4), 1) := by decide +kernel
theorem d_Machine_next_6 : decode b_Machine_next 6 = .ok (.imul, 1) := by decide +kernel
theorem d_Machine_next_7 : decode b_Machine_next 7 = .ok (.iload_n 2, 1) := by decide +kernel
theorem d_Machine_next_8 : decode b_Machine_next 8 = .ok (.iadd, 1) := by decide +kernel
theorem d_Machine_next_9 : decode b_Machine_next 9 = .ok (.iaload, 1) := by decide +kernel
theorem d_Machine_next_10 : decode b_Machine_next 10 = .ok (.ireturn, 1) := by decide +kernel
section
variable {p : Program} {l : Launch} {e : Env} {R : Room} {s : State} {m : MethodId} {args : Array Value} {below : List Frame} {meth : Method} {c : Code} {D : va_G} {base : Nat} {g : Nat → ClassId} {az : Nat → Nat} {kz : Nat × Nat}
set_option maxRecDepth 100000 in
set_option maxHeartbeats 4000000 in
theorem t_Machine_next (B : xB p R s m args meth c b_Machine_next 3 R_Machine (Cond.code y_Machine_next b_Machine_next 3 (some .int) :: x_T) (some .int) 0 0 D x_cl (xty g) base) (a0 : Nat) (a1 : Int32) (a2 : Int32) (M : MS) : Sn p l e R s m args below meth c 3 D x_cl base (xwd g) cM x_g0 az kz (xfc cM) (xZ below args s D x_cl (xty g) base (xwd g) cM x_g0 az kz ovI) 0 [] [(0, .ref a0), (1, .int a1), (2, .int a2)] M (m_Machine_next a0 a1 a2 M) := by
  unfold m_Machine_next
  refine s_guard (fun ha0 => ?_)
  refine s_aload_n B d_Machine_next_0 rfl ?_
  refine s_getS (k := 0) (n := (x_sr a0 0)) B xc_Machine ha0 (by decide) rfl rfl fl_Machine_9 rfl d_Machine_next_1 ?_
  refine s_iload_n B d_Machine_next_4 rfl ?_
  refine s_iconst (v := (4:Int32)) B d_Machine_next_5 (by decide) ?_
  refine s_imul B d_Machine_next_6 ?_
  refine s_iload_n B d_Machine_next_7 rfl ?_
  refine s_iadd B d_Machine_next_8 ?_
  refine s_iald B (Or.inl (srk_Machine_0 ha0)) d_Machine_next_9 (fun v1 _ => ?_)
  exact s_iret B d_Machine_next_10
set_option maxRecDepth 100000 in
set_option maxHeartbeats 4000000 in
theorem ct_Machine_next {l : Launch} {D : va_G} {base : Nat} {g : Nat → ClassId} (a0 : Nat) (a1 : Int32) (a2 : Int32) (M : MS) (r : MS × Int32) (hr : m_Machine_next a0 a1 a2 M = some r) : Ct l y_Machine_next (Cond.code y_Machine_next b_Machine_next 3 (some .int) :: x_T) 0 0 D x_cl (xty g) base (xwd g) cM x_g0 [.ref a0, .int a1, .int a2] M r.1 (ovI r.2) :=
  x_met (ov := ovI) (by decide) (Nat.le_of_ble_eq_true rfl) (fun p e R s m args below meth c az B => t_Machine_next B a0 a1 a2 M) r hr
end
