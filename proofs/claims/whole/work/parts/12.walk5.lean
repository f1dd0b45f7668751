theorem d_Mo_isSlot_0 : decode b_Mo_isSlot 0 = .ok (.iload_n 0, 1) := by decide +kernel
theorem d_Mo_isSlot_1 : decode b_Mo_isSlot 1 = .ok (.ifCond .lt (13), 3) := by decide +kernel
theorem d_Mo_isSlot_4 : decode b_Mo_isSlot 4 = .ok (.iload_n 0, 1) := by decide +kernel
theorem d_Mo_isSlot_5 : decode b_Mo_isSlot 5 = .ok (.bipush (16), 2) := by decide +kernel
theorem d_Mo_isSlot_7 : decode b_Mo_isSlot 7 = .ok (.if_icmp .ge (7), 3) := by decide +kernel
theorem d_Mo_isSlot_10 : decode b_Mo_isSlot 10 = .ok (.iconst (1), 1) := by decide +kernel
theorem d_Mo_isSlot_11 : decode b_Mo_isSlot 11 = .ok (.goto (4), 3) := by decide +kernel
theorem d_Mo_isSlot_14 : decode b_Mo_isSlot 14 = .ok (.iconst (0), 1) := by decide +kernel
theorem d_Mo_isSlot_15 : decode b_Mo_isSlot 15 = .ok (.ireturn, 1) := by decide +kernel
section
variable {p : Program} {l : Launch} {e : Env} {R : Room} {s : State} {m : MethodId} {args : Array Value} {below : List Frame} {meth : Method} {c : Code} {D : va_G} {base : Nat} {g : Nat → ClassId} {az : Nat → Nat} {kz : Nat × Nat}
set_option maxRecDepth 100000 in
set_option maxHeartbeats 4000000 in
theorem t_Mo_isSlot (B : xB p R s m args meth c b_Mo_isSlot 1 R_Mo (Cond.code y_Mo_isSlot b_Mo_isSlot 1 (some .boolean) :: x_T) (some .boolean) 0 0 D x_cl (xty g) base) (a0 : Int32) (M : MS) : Sn p l e R s m args below meth c 1 D x_cl base (xwd g) cM x_g0 az kz (xfc cM) (xZ below args s D x_cl (xty g) base (xwd g) cM x_g0 az kz ovI) 0 [] [(0, .int a0)] M (m_Mo_isSlot a0 M) := by
  unfold m_Mo_isSlot
  refine s_iload_n B d_Mo_isSlot_0 rfl ?_
  refine s_if_lt B d_Mo_isSlot_1 rfl (fun _ => ?_) (fun _ => ?_)
  · refine s_iconst (v := (0:Int32)) B d_Mo_isSlot_14 (by decide) ?_
    exact s_zret0 rfl B d_Mo_isSlot_15
  · refine s_iload_n B d_Mo_isSlot_4 rfl ?_
    refine s_bipush (v := (16:Int32)) B d_Mo_isSlot_5 (by decide) ?_
    refine s_icmp_ge B d_Mo_isSlot_7 rfl (fun _ => ?_) (fun _ => ?_)
    · refine s_iconst (v := (0:Int32)) B d_Mo_isSlot_14 (by decide) ?_
      exact s_zret0 rfl B d_Mo_isSlot_15
    · refine s_iconst (v := (1:Int32)) B d_Mo_isSlot_10 (by decide) ?_
      refine s_goto B d_Mo_isSlot_11 rfl ?_
      exact s_zret0 rfl B d_Mo_isSlot_15
set_option maxRecDepth 100000 in
set_option maxHeartbeats 4000000 in
theorem ct_Mo_isSlot {l : Launch} {D : va_G} {base : Nat} {g : Nat → ClassId} (a0 : Int32) (M : MS) (r : MS × Int32) (hr : m_Mo_isSlot a0 M = some r) : Ct l y_Mo_isSlot (Cond.code y_Mo_isSlot b_Mo_isSlot 1 (some .boolean) :: x_T) 0 0 D x_cl (xty g) base (xwd g) cM x_g0 [.int a0] M r.1 (ovI r.2) :=
  x_met (ov := ovI) (by decide) (Nat.le_of_ble_eq_true rfl) (fun p e R s m args below meth c az B => t_Mo_isSlot B a0 M) r hr
end
theorem d_Mo_fails_0 : decode b_Mo_fails 0 = .ok (.aload_n 0, 1) := by decide +kernel
theorem d_Mo_fails_1 : decode b_Mo_fails 1 = .ok (.iload_n 1, 1) := by decide +kernel
theorem d_Mo_fails_2 : decode b_Mo_fails 2 = .ok (.ifCond .eq (7), 3) := by decide +kernel
theorem d_Mo_fails_5 : decode b_Mo_fails 5 = .ok (.iconst (1), 1) := by decide +kernel
theorem d_Mo_fails_6 : decode b_Mo_fails 6 = .ok (.goto (12), 3) := by decide +kernel
theorem d_Mo_fails_9 : decode b_Mo_fails 9 = .ok (.iload_n 2, 1) := by decide +kernel
theorem d_Mo_fails_10 : decode b_Mo_fails 10 = .ok (.ifCond .eq (7), 3) := by decide +kernel
theorem d_Mo_fails_13 : decode b_Mo_fails 13 = .ok (.iconst (2), 1) := by decide +kernel
theorem d_Mo_fails_14 : decode b_Mo_fails 14 = .ok (.goto (4), 3) := by decide +kernel
theorem d_Mo_fails_17 : decode b_Mo_fails 17 = .ok (.iconst (0), 1) := by decide +kernel
theorem d_Mo_fails_18 : decode b_Mo_fails 18 = .ok (.putfield 93, 3) := by decide +kernel
theorem d_Mo_fails_21 : decode b_Mo_fails 21 = .ok (.aload_n 0, 1) := by decide +kernel
theorem d_Mo_fails_22 : decode b_Mo_fails 22 = .ok (.getfield 93, 3) := by decide +kernel
theorem d_Mo_fails_25 : decode b_Mo_fails 25 = .ok (.ifCond .le (7), 3) := by decide +kernel
theorem d_Mo_fails_28 : decode b_Mo_fails 28 = .ok (.iconst (1), 1) := by decide +kernel
theorem d_Mo_fails_29 : decode b_Mo_fails 29 = .ok (.goto (4), 3) := by decide +kernel
theorem d_Mo_fails_32 : decode b_Mo_fails 32 = .ok (.iconst (0), 1) := by decide +kernel
theorem d_Mo_fails_33 : decode b_Mo_fails 33 = .ok (.ireturn, 1) := by decide +kernel
section
variable {p : Program} {l : Launch} {e : Env} {R : Room} {s : State} {m : MethodId} {args : Array Value} {below : List Frame} {meth : Method} {c : Code} {D : va_G} {base : Nat} {g : Nat → ClassId} {az : Nat → Nat} {kz : Nat × Nat}
set_option maxRecDepth 100000 in
set_option maxHeartbeats 4000000 in
theorem t_Mo_fails_18  (B : xB p R s m args meth c b_Mo_fails 3 R_Mo (Cond.code y_Mo_fails b_Mo_fails 3 (some .boolean) :: x_T) (some .boolean) 0 0 D x_cl (xty g) base)  (s1 : Int32) (M : MS)  : Sn p l e R s m args below meth c 3 D x_cl base (xwd g) cM x_g0 az kz (xfc cM) (xZ below args s D x_cl (xty g) base (xwd g) cM x_g0 az kz ovI) 18 [.int s1, .ref 97] [(0, .ref 97)] M (m_Mo_fails_18 s1 M) := by
  unfold m_Mo_fails_18
  refine s_putI (k := 0) (ty := .int) B xc_Mo kd_97 (by decide) rfl rfl fl_Mo_93 rfl rfl rfl rfl d_Mo_fails_18 (fun M1 _ => ?_)
  refine s_aload_n B d_Mo_fails_21 rfl ?_
  refine s_getI (k := 0) B xc_Mo kd_97 (by decide) rfl rfl fl_Mo_93 d_Mo_fails_22 ?_
  refine s_if_le B d_Mo_fails_25 rfl (fun _ => ?_) (fun _ => ?_)
  · refine s_iconst (v := (0:Int32)) B d_Mo_fails_32 (by decide) ?_
    exact s_zret0 rfl B d_Mo_fails_33
  · refine s_iconst (v := (1:Int32)) B d_Mo_fails_28 (by decide) ?_
    refine s_goto B d_Mo_fails_29 rfl ?_
    exact s_zret0 rfl B d_Mo_fails_33
set_option maxRecDepth 100000 in
set_option maxHeartbeats 4000000 in
theorem t_Mo_fails (B : xB p R s m args meth c b_Mo_fails 3 R_Mo (Cond.code y_Mo_fails b_Mo_fails 3 (some .boolean) :: x_T) (some .boolean) 0 0 D x_cl (xty g) base) (a1 : Int32) (a2 : Int32) (M : MS) : Sn p l e R s m args below meth c 3 D x_cl base (xwd g) cM x_g0 az kz (xfc cM) (xZ below args s D x_cl (xty g) base (xwd g) cM x_g0 az kz ovI) 0 [] [(0, .ref 97), (1, .int a1), (2, .int a2)] M (m_Mo_fails a1 a2 M) := by
  unfold m_Mo_fails
  refine s_aload_n B d_Mo_fails_0 rfl ?_
  refine s_iload_n B d_Mo_fails_1 rfl ?_
  refine s_if_eq B d_Mo_fails_2 rfl (fun _ => ?_) (fun _ => ?_)
  · refine s_iload_n B d_Mo_fails_9 rfl ?_
    refine s_if_eq B d_Mo_fails_10 rfl (fun _ => ?_) (fun _ => ?_)
    · refine s_iconst (v := (0:Int32)) B d_Mo_fails_17 (by decide) ?_
      refine s_pick (lv1 := [(0, .ref 97)]) [0] rfl ?_
      exact t_Mo_fails_18 B (0:Int32) M
    · refine s_iconst (v := (2:Int32)) B d_Mo_fails_13 (by decide) ?_
      refine s_goto B d_Mo_fails_14 rfl ?_
      refine s_pick (lv1 := [(0, .ref 97)]) [0] rfl ?_
      exact t_Mo_fails_18 B (2:Int32) M
  · refine s_iconst (v := (1:Int32)) B d_Mo_fails_5 (by decide) ?_
    refine s_goto B d_Mo_fails_6 rfl ?_
    refine s_pick (lv1 := [(0, .ref 97)]) [0] rfl ?_
    exact t_Mo_fails_18 B (1:Int32) M
set_option maxRecDepth 100000 in
set_option maxHeartbeats 4000000 in
theorem ct_Mo_fails {l : Launch} {D : va_G} {base : Nat} {g : Nat → ClassId} (a1 : Int32) (a2 : Int32) (M : MS) (r : MS × Int32) (hr : m_Mo_fails a1 a2 M = some r) : Ct l y_Mo_fails (Cond.code y_Mo_fails b_Mo_fails 3 (some .boolean) :: x_T) 0 0 D x_cl (xty g) base (xwd g) cM x_g0 [.ref 97, .int a1, .int a2] M r.1 (ovI r.2) :=
  x_met (ov := ovI) (by decide) (Nat.le_of_ble_eq_true rfl) (fun p e R s m args below meth c az B => t_Mo_fails B a1 a2 M) r hr
end
theorem d_Mo_keep_0 : decode b_Mo_keep 0 = .ok (.iload_n 2, 1) := by decide +kernel
theorem d_Mo_keep_1 : decode b_Mo_keep 1 = .ok (.bipush (100), 2) := by decide +kernel
theorem d_Mo_keep_3 : decode b_Mo_keep 3 = .ok (.if_icmp .le (5), 3) := by decide +kernel
theorem d_Mo_keep_6 : decode b_Mo_keep 6 = .ok (.iconst (-1), 1) := by decide +kernel
theorem d_Mo_keep_7 : decode b_Mo_keep 7 = .ok (.ireturn, 1) := by decide +kernel
theorem d_Mo_keep_8 : decode b_Mo_keep 8 = .ok (.iconst (0), 1) := by decide +kernel
theorem d_Mo_keep_9 : decode b_Mo_keep 9 = .ok (.istore_n 3, 1) := by decide +kernel
theorem d_Mo_keep_10 : decode b_Mo_keep 10 = .ok (.iload_n 3, 1) := by decide +kernel
theorem d_Mo_keep_11 : decode b_Mo_keep 11 = .ok (.iload_n 2, 1) := by decide +kernel
theorem d_Mo_keep_12 : decode b_Mo_keep 12 = .ok (.if_icmp .ge (26), 3) := by decide +kernel
theorem d_Mo_keep_15 : decode b_Mo_keep 15 = .ok (.aload_n 0, 1) := by decide +kernel
theorem d_Mo_keep_16 : decode b_Mo_keep 16 = .ok (.getfield 7, 3) := by decide +kernel
theorem d_Mo_keep_19 : decode b_Mo_keep 19 = .ok (.bipush (100), 2) := by decide +kernel
theorem d_Mo_keep_21 : decode b_Mo_keep 21 = .ok (.iload_n 1, 1) := by decide +kernel
theorem d_Mo_keep_22 : decode b_Mo_keep 22 = .ok (.imul, 1) := by decide +kernel
theorem d_Mo_keep_23 : decode b_Mo_keep 23 = .ok (.iload_n 3, 1) := by decide +kernel
theorem d_Mo_keep_24 : decode b_Mo_keep 24 = .ok (.iadd, 1) := by decide +kernel
theorem d_Mo_keep_25 : decode b_Mo_keep 25 = .ok (.aload_n 0, 1) := by decide +kernel
theorem d_Mo_keep_26 : decode b_Mo_keep 26 = .ok (.getfield 20, 3) := by decide +kernel
theorem d_Mo_keep_29 : decode b_Mo_keep 29 = .ok (.iload_n 3, 1) := by decide +kernel
theorem d_Mo_keep_30 : decode b_Mo_keep 30 = .ok (.iaload, 1) := by decide +kernel
theorem d_Mo_keep_31 : decode b_Mo_keep 31 = .ok (.iastore, 1) := by decide +kernel
theorem d_Mo_keep_32 : decode b_Mo_keep 32 = .ok (.iinc 3 (1), 3) := by decide +kernel
theorem d_Mo_keep_35 : decode b_Mo_keep 35 = .ok (.goto (-25), 3) := by decide +kernel
theorem d_Mo_keep_38 : decode b_Mo_keep 38 = .ok (.aload_n 0, 1) := by decide +kernel
theorem d_Mo_keep_39 : decode b_Mo_keep 39 = .ok (.getfield 13, 3) := by decide +kernel
theorem d_Mo_keep_42 : decode b_Mo_keep 42 = .ok (.iload_n 1, 1) := by decide +kernel
theorem d_Mo_keep_43 : decode b_Mo_keep 43 = .ok (.iload_n 2, 1) := by decide +kernel
theorem d_Mo_keep_44 : decode b_Mo_keep 44 = .ok (.iastore, 1) := by decide +kernel
theorem d_Mo_keep_45 : decode b_Mo_keep 45 = .ok (.iload_n 2, 1) := by decide +kernel
theorem d_Mo_keep_46 : decode b_Mo_keep 46 = .ok (.ireturn, 1) := by decide +kernel
section
variable {p : Program} {l : Launch} {e : Env} {R : Room} {s : State} {m : MethodId} {args : Array Value} {below : List Frame} {meth : Method} {c : Code} {D : va_G} {base : Nat} {g : Nat → ClassId} {az : Nat → Nat} {kz : Nat × Nat}
set_option maxRecDepth 100000 in
set_option maxHeartbeats 4000000 in
theorem t_Mo_keep_38  (B : xB p R s m args meth c b_Mo_keep 4 R_Mo (Cond.code y_Mo_keep b_Mo_keep 4 (some .int) :: x_T) (some .int) 0 0 D x_cl (xty g) base)  (l1 : Int32) (l2 : Int32) (M : MS)  : Sn p l e R s m args below meth c 4 D x_cl base (xwd g) cM x_g0 az kz (xfc cM) (xZ below args s D x_cl (xty g) base (xwd g) cM x_g0 az kz ovI) 38 [] [(0, .ref 97), (1, .int l1), (2, .int l2)] M (m_Mo_keep_38 l1 l2 M) := by
  unfold m_Mo_keep_38
  refine s_aload_n B d_Mo_keep_38 rfl ?_
  refine s_getS (k := 2) (n := 99) B xc_Mo kd_97 (by decide) rfl rfl fl_Mo_13 sr_97_2 d_Mo_keep_39 ?_
  refine s_iload_n B d_Mo_keep_42 rfl ?_
  refine s_iload_n B d_Mo_keep_43 rfl ?_
  refine s_iast B (Or.inl kd_99) d_Mo_keep_44 (fun M1 _ => ?_)
  refine s_iload_n B d_Mo_keep_45 rfl ?_
  exact s_iret B d_Mo_keep_46
set_option maxRecDepth 100000 in
set_option maxHeartbeats 4000000 in
theorem t_Mo_keep_10b {k10 : Int32 × Int32 × Int32 × MS → Option (MS × Int32)} (B : xB p R s m args meth c b_Mo_keep 4 R_Mo (Cond.code y_Mo_keep b_Mo_keep 4 (some .int) :: x_T) (some .int) 0 0 D x_cl (xty g) base) (hk10 : ∀ (l1 : Int32) (l2 : Int32) (l3 : Int32) (M : MS) , Sn p l e R s m args below meth c 4 D x_cl base (xwd g) cM x_g0 az kz (xfc cM) (xZ below args s D x_cl (xty g) base (xwd g) cM x_g0 az kz ovI) 10 [] [(0, .ref 97), (1, .int l1), (2, .int l2), (3, .int l3)] M (k10 (l1, l2, l3, M))) (l1 : Int32) (l2 : Int32) (l3 : Int32) (M : MS)  : Sn p l e R s m args below meth c 4 D x_cl base (xwd g) cM x_g0 az kz (xfc cM) (xZ below args s D x_cl (xty g) base (xwd g) cM x_g0 az kz ovI) 10 [] [(0, .ref 97), (1, .int l1), (2, .int l2), (3, .int l3)] M (m_Mo_keep_10b k10 l1 l2 l3 M) := by
  unfold m_Mo_keep_10b
  refine s_iload_n B d_Mo_keep_10 rfl ?_
  refine s_iload_n B d_Mo_keep_11 rfl ?_
  refine s_icmp_ge B d_Mo_keep_12 rfl (fun _ => ?_) (fun _ => ?_)
  · refine s_pick (lv1 := [(0, .ref 97), (1, .int l1), (2, .int l2)]) [0, 1, 2] rfl ?_
    exact t_Mo_keep_38 B l1 l2 M
  · refine s_aload_n B d_Mo_keep_15 rfl ?_
    refine s_getS (k := 1) (n := 98) B xc_Mo kd_97 (by decide) rfl rfl fl_Mo_7 sr_97_1 d_Mo_keep_16 ?_
    refine s_bipush (v := (100:Int32)) B d_Mo_keep_19 (by decide) ?_
    refine s_iload_n B d_Mo_keep_21 rfl ?_
    refine s_imul B d_Mo_keep_22 ?_
    refine s_iload_n B d_Mo_keep_23 rfl ?_
    refine s_iadd B d_Mo_keep_24 ?_
    refine s_aload_n B d_Mo_keep_25 rfl ?_
    refine s_getS (k := 4) (n := 101) B xc_Mo kd_97 (by decide) rfl rfl fl_Mo_20 sr_97_4 d_Mo_keep_26 ?_
    refine s_iload_n B d_Mo_keep_29 rfl ?_
    refine s_iald B (Or.inl kd_101) d_Mo_keep_30 (fun v1 _ => ?_)
    refine s_iast B (Or.inl kd_98) d_Mo_keep_31 (fun M2 _ => ?_)
    refine s_iinc (w := (1:Int32)) B d_Mo_keep_32 rfl (by decide) (by decide) ?_
    refine s_goto B d_Mo_keep_35 rfl ?_
    refine s_pick (lv1 := [(0, .ref 97), (1, .int l1), (2, .int l2), (3, .int (l3 + (1:Int32)))]) [0, 1, 2, 3] rfl ?_
    exact hk10 l1 l2 (l3 + (1:Int32)) M2
set_option maxRecDepth 100000 in
set_option maxHeartbeats 4000000 in
theorem t_Mo_keep_10  (B : xB p R s m args meth c b_Mo_keep 4 R_Mo (Cond.code y_Mo_keep b_Mo_keep 4 (some .int) :: x_T) (some .int) 0 0 D x_cl (xty g) base)  (l1 : Int32) (l2 : Int32) (l3 : Int32) (M : MS)  : Sn p l e R s m args below meth c 4 D x_cl base (xwd g) cM x_g0 az kz (xfc cM) (xZ below args s D x_cl (xty g) base (xwd g) cM x_g0 az kz ovI) 10 [] [(0, .ref 97), (1, .int l1), (2, .int l2), (3, .int l3)] M (m_Mo_keep_10 (l1, l2, l3, M)) := by
  have q : ∀ (F : Nat) (i : Int32 × Int32 × Int32 × MS), Sn p l e R s m args below meth c 4 D x_cl base (xwd g) cM x_g0 az kz (xfc cM) (xZ below args s D x_cl (xty g) base (xwd g) cM x_g0 az kz ovI) 10 [] [(0, .ref 97), (1, .int i.1), (2, .int i.2.1), (3, .int i.2.2.1)] i.2.2.2 (fx (fun (k : Int32 × Int32 × Int32 × MS → Option (MS × Int32)) (i : Int32 × Int32 × Int32 × MS) => m_Mo_keep_10b k i.1 i.2.1 i.2.2.1 i.2.2.2) F i) := by
    intro F
    induction F with
    | zero => intro i ; exact s_none
    | succ F ih => intro i ; exact t_Mo_keep_10b B  (fun l1 l2 l3 M  => ih (l1, l2, l3, M) ) i.1 i.2.1 i.2.2.1 i.2.2.2 
  exact q FU (l1, l2, l3, M) 
set_option maxRecDepth 100000 in
set_option maxHeartbeats 4000000 in
theorem t_Mo_keep (B : xB p R s m args meth c b_Mo_keep 4 R_Mo (Cond.code y_Mo_keep b_Mo_keep 4 (some .int) :: x_T) (some .int) 0 0 D x_cl (xty g) base) (a1 : Int32) (a2 : Int32) (M : MS) : Sn p l e R s m args below meth c 4 D x_cl base (xwd g) cM x_g0 az kz (xfc cM) (xZ below args s D x_cl (xty g) base (xwd g) cM x_g0 az kz ovI) 0 [] [(0, .ref 97), (1, .int a1), (2, .int a2)] M (m_Mo_keep a1 a2 M) := by
  unfold m_Mo_keep
  refine s_iload_n B d_Mo_keep_0 rfl ?_
  refine s_bipush (v := (100:Int32)) B d_Mo_keep_1 (by decide) ?_
  refine s_icmp_le B d_Mo_keep_3 rfl (fun _ => ?_) (fun _ => ?_)
  · refine s_iconst (v := (0:Int32)) B d_Mo_keep_8 (by decide) ?_
    refine s_istore_n B d_Mo_keep_9 (by decide) ?_
    refine s_pick (lv1 := [(0, .ref 97), (1, .int a1), (2, .int a2), (3, .int (0:Int32))]) [0, 1, 2, 3] rfl ?_
    exact t_Mo_keep_10 B a1 a2 (0:Int32) M
  · refine s_iconst (v := (-1:Int32)) B d_Mo_keep_6 (by decide) ?_
    exact s_iret B d_Mo_keep_7
set_option maxRecDepth 100000 in
set_option maxHeartbeats 4000000 in
theorem ct_Mo_keep {l : Launch} {D : va_G} {base : Nat} {g : Nat → ClassId} (a1 : Int32) (a2 : Int32) (M : MS) (r : MS × Int32) (hr : m_Mo_keep a1 a2 M = some r) : Ct l y_Mo_keep (Cond.code y_Mo_keep b_Mo_keep 4 (some .int) :: x_T) 0 0 D x_cl (xty g) base (xwd g) cM x_g0 [.ref 97, .int a1, .int a2] M r.1 (ovI r.2) :=
  x_met (ov := ovI) (by decide) (Nat.le_of_ble_eq_true rfl) (fun p e R s m args below meth c az B => t_Mo_keep B a1 a2 M) r hr
end
theorem d_Mo_letters_0 : decode b_Mo_letters 0 = .ok (.iload_n 1, 1) := by decide +kernel
theorem d_Mo_letters_1 : decode b_Mo_letters 1 = .ok (.invokestatic 158, 3) := by decide +kernel
theorem d_Mo_letters_4 : decode b_Mo_letters 4 = .ok (.istore_n 3, 1) := by decide +kernel
theorem d_Mo_letters_5 : decode b_Mo_letters 5 = .ok (.aload_n 0, 1) := by decide +kernel
theorem d_Mo_letters_6 : decode b_Mo_letters 6 = .ok (.iload_n 3, 1) := by decide +kernel
theorem d_Mo_letters_7 : decode b_Mo_letters 7 = .ok (.ifCond .ne (7), 3) := by decide +kernel
theorem d_Mo_letters_10 : decode b_Mo_letters 10 = .ok (.iconst (1), 1) := by decide +kernel
theorem d_Mo_letters_11 : decode b_Mo_letters 11 = .ok (.goto (4), 3) := by decide +kernel
theorem d_Mo_letters_14 : decode b_Mo_letters 14 = .ok (.iconst (0), 1) := by decide +kernel
theorem d_Mo_letters_15 : decode b_Mo_letters 15 = .ok (.iload_n 3, 1) := by decide +kernel
theorem d_Mo_letters_16 : decode b_Mo_letters 16 = .ok (.ifCond .eq (17), 3) := by decide +kernel
theorem d_Mo_letters_19 : decode b_Mo_letters 19 = .ok (.iload_n 2, 1) := by decide +kernel
theorem d_Mo_letters_20 : decode b_Mo_letters 20 = .ok (.ifCond .lt (9), 3) := by decide +kernel
theorem d_Mo_letters_23 : decode b_Mo_letters 23 = .ok (.iload_n 2, 1) := by decide +kernel
theorem d_Mo_letters_24 : decode b_Mo_letters 24 = .ok (.bipush (16), 2) := by decide +kernel
theorem d_Mo_letters_26 : decode b_Mo_letters 26 = .ok (.if_icmp .le (7), 3) := by decide +kernel
theorem d_Mo_letters_29 : decode b_Mo_letters 29 = .ok (.iconst (1), 1) := by decide +kernel
theorem d_Mo_letters_30 : decode b_Mo_letters 30 = .ok (.goto (4), 3) := by decide +kernel
theorem d_Mo_letters_33 : decode b_Mo_letters 33 = .ok (.iconst (0), 1) := by decide +kernel
theorem d_Mo_letters_34 : decode b_Mo_letters 34 = .ok (.invokevirtual 161, 3) := by decide +kernel
theorem d_Mo_letters_37 : decode b_Mo_letters 37 = .ok (.ifCond .eq (5), 3) := by decide +kernel
theorem d_Mo_letters_40 : decode b_Mo_letters 40 = .ok (.iconst (0), 1) := by decide +kernel
theorem d_Mo_letters_41 : decode b_Mo_letters 41 = .ok (.ireturn, 1) := by decide +kernel
theorem d_Mo_letters_42 : decode b_Mo_letters 42 = .ok (.aload_n 0, 1) := by decide +kernel
theorem d_Mo_letters_43 : decode b_Mo_letters 43 = .ok (.getfield 20, 3) := by decide +kernel
theorem d_Mo_letters_46 : decode b_Mo_letters 46 = .ok (.iconst (0), 1) := by decide +kernel
theorem d_Mo_letters_47 : decode b_Mo_letters 47 = .ok (.iload_n 2, 1) := by decide +kernel
theorem d_Mo_letters_48 : decode b_Mo_letters 48 = .ok (.ifCond .ne (7), 3) := by decide +kernel
theorem d_Mo_letters_51 : decode b_Mo_letters 51 = .ok (.iconst (0), 1) := by decide +kernel
theorem d_Mo_letters_52 : decode b_Mo_letters 52 = .ok (.goto (18), 3) := by decide +kernel
theorem d_Mo_letters_55 : decode b_Mo_letters 55 = .ok (.iload_n 2, 1) := by decide +kernel
theorem d_Mo_letters_56 : decode b_Mo_letters 56 = .ok (.bipush (16), 2) := by decide +kernel
theorem d_Mo_letters_58 : decode b_Mo_letters 58 = .ok (.if_icmp .ne (7), 3) := by decide +kernel
theorem d_Mo_letters_61 : decode b_Mo_letters 61 = .ok (.iconst (1), 1) := by decide +kernel
theorem d_Mo_letters_62 : decode b_Mo_letters 62 = .ok (.goto (8), 3) := by decide +kernel
theorem d_Mo_letters_65 : decode b_Mo_letters 65 = .ok (.iconst (2), 1) := by decide +kernel
theorem d_Mo_letters_66 : decode b_Mo_letters 66 = .ok (.iload_n 2, 1) := by decide +kernel
theorem d_Mo_letters_67 : decode b_Mo_letters 67 = .ok (.iconst (3), 1) := by decide +kernel
theorem d_Mo_letters_68 : decode b_Mo_letters 68 = .ok (.ishl, 1) := by decide +kernel
theorem d_Mo_letters_69 : decode b_Mo_letters 69 = .ok (.ior, 1) := by decide +kernel
theorem d_Mo_letters_70 : decode b_Mo_letters 70 = .ok (.iastore, 1) := by decide +kernel
theorem d_Mo_letters_71 : decode b_Mo_letters 71 = .ok (.aload_n 0, 1) := by decide +kernel
theorem d_Mo_letters_72 : decode b_Mo_letters 72 = .ok (.iload_n 1, 1) := by decide +kernel
theorem d_Mo_letters_73 : decode b_Mo_letters 73 = .ok (.iconst (1), 1) := by decide +kernel
theorem d_Mo_letters_74 : decode b_Mo_letters 74 = .ok (.invokevirtual 165, 3) := by decide +kernel
theorem d_Mo_letters_77 : decode b_Mo_letters 77 = .ok (.ireturn, 1) := by decide +kernel
section
variable {p : Program} {l : Launch} {e : Env} {R : Room} {s : State} {m : MethodId} {args : Array Value} {below : List Frame} {meth : Method} {c : Code} {D : va_G} {base : Nat} {g : Nat → ClassId} {az : Nat → Nat} {kz : Nat × Nat}
set_option maxRecDepth 100000 in
set_option maxHeartbeats 4000000 in
theorem t_Mo_letters_70  (B : xB p R s m args meth c b_Mo_letters 4 R_Mo (Cond.code y_Mo_letters b_Mo_letters 4 (some .int) :: x_T) (some .int) 1 23 D x_cl (xty g) base)  (l1 : Int32) (s1 : Int32) (s2 : Int32) (M : MS)  : Sn p l e R s m args below meth c 4 D x_cl base (xwd g) cM x_g0 az kz (xfc cM) (xZ below args s D x_cl (xty g) base (xwd g) cM x_g0 az kz ovI) 70 [.int s2, .int s1, .ref 101] [(0, .ref 97), (1, .int l1)] M (m_Mo_letters_70 l1 s1 s2 M) := by
  unfold m_Mo_letters_70
  refine s_iast B (Or.inl kd_101) d_Mo_letters_70 (fun M1 _ => ?_)
  refine s_aload_n B d_Mo_letters_71 rfl ?_
  refine s_iload_n B d_Mo_letters_72 rfl ?_
  refine s_iconst (v := (1:Int32)) B d_Mo_letters_73 (by decide) ?_
  refine s_pick (lv1 := []) [] rfl ?_
  refine s_callI (av := [.ref 97, .int l1, .int (1:Int32)]) (rest := []) B (lk_V B d_Mo_letters_74 (gl_Mo_165 _) rfl hv_Mo_keep (by decide) (by decide)) rfl (x_rcV B xc_Mo kd_97) (fun _ _ => rfl) rfl rfl (by simp [Value.category]) rfl (fun r2 e9 => ct_Mo_keep _ _ _ r2 e9) (fun r2 _ => ?_)
  exact s_iret B d_Mo_letters_77
set_option maxRecDepth 100000 in
set_option maxHeartbeats 4000000 in
theorem t_Mo_letters_34  (B : xB p R s m args meth c b_Mo_letters 4 R_Mo (Cond.code y_Mo_letters b_Mo_letters 4 (some .int) :: x_T) (some .int) 1 23 D x_cl (xty g) base)  (l1 : Int32) (l2 : Int32) (s1 : Int32) (s2 : Int32) (M : MS)  : Sn p l e R s m args below meth c 4 D x_cl base (xwd g) cM x_g0 az kz (xfc cM) (xZ below args s D x_cl (xty g) base (xwd g) cM x_g0 az kz ovI) 34 [.int s2, .int s1, .ref 97] [(0, .ref 97), (1, .int l1), (2, .int l2)] M (m_Mo_letters_34 l1 l2 s1 s2 M) := by
  unfold m_Mo_letters_34
  refine s_pick (lv1 := [(0, .ref 97), (1, .int l1), (2, .int l2)]) [0, 1, 2] rfl ?_
  refine s_callI (av := [.ref 97, .int s1, .int s2]) (rest := []) B (lk_V B d_Mo_letters_34 (gl_Mo_161 _) rfl hv_Mo_fails (by decide) (by decide)) rfl (x_rcV B xc_Mo kd_97) (fun _ _ => rfl) rfl rfl (by simp [Value.category]) rfl (fun r1 e9 => ct_Mo_fails _ _ _ r1 e9) (fun r1 _ => ?_)
  refine s_if_eq B d_Mo_letters_37 rfl (fun _ => ?_) (fun _ => ?_)
  · refine s_aload_n B d_Mo_letters_42 rfl ?_
    refine s_getS (k := 4) (n := 101) B xc_Mo kd_97 (by decide) rfl rfl fl_Mo_20 sr_97_4 d_Mo_letters_43 ?_
    refine s_iconst (v := (0:Int32)) B d_Mo_letters_46 (by decide) ?_
    refine s_iload_n B d_Mo_letters_47 rfl ?_
    refine s_if_ne B d_Mo_letters_48 rfl (fun _ => ?_) (fun _ => ?_)
    · refine s_iload_n B d_Mo_letters_55 rfl ?_
      refine s_bipush (v := (16:Int32)) B d_Mo_letters_56 (by decide) ?_
      refine s_icmp_ne B d_Mo_letters_58 rfl (fun _ => ?_) (fun _ => ?_)
      · refine s_iconst (v := (2:Int32)) B d_Mo_letters_65 (by decide) ?_
        refine s_iload_n B d_Mo_letters_66 rfl ?_
        refine s_iconst (v := (3:Int32)) B d_Mo_letters_67 (by decide) ?_
        refine s_ishl B d_Mo_letters_68 ?_
        refine s_ior B d_Mo_letters_69 ?_
        refine s_pick (lv1 := [(0, .ref 97), (1, .int l1)]) [0, 1] rfl ?_
        exact t_Mo_letters_70 B l1 (0:Int32) ((2:Int32) ||| (l2 <<< ((3:Int32) &&& 31))) r1.1
      · refine s_iconst (v := (1:Int32)) B d_Mo_letters_61 (by decide) ?_
        refine s_goto B d_Mo_letters_62 rfl ?_
        refine s_pick (lv1 := [(0, .ref 97), (1, .int l1)]) [0, 1] rfl ?_
        exact t_Mo_letters_70 B l1 (0:Int32) (1:Int32) r1.1
    · refine s_iconst (v := (0:Int32)) B d_Mo_letters_51 (by decide) ?_
      refine s_goto B d_Mo_letters_52 rfl ?_
      refine s_pick (lv1 := [(0, .ref 97), (1, .int l1)]) [0, 1] rfl ?_
      exact t_Mo_letters_70 B l1 (0:Int32) (0:Int32) r1.1
  · refine s_iconst (v := (0:Int32)) B d_Mo_letters_40 (by decide) ?_
    exact s_iret B d_Mo_letters_41
set_option maxRecDepth 100000 in
set_option maxHeartbeats 4000000 in
theorem t_Mo_letters_33  (B : xB p R s m args meth c b_Mo_letters 4 R_Mo (Cond.code y_Mo_letters b_Mo_letters 4 (some .int) :: x_T) (some .int) 1 23 D x_cl (xty g) base)  (l1 : Int32) (l2 : Int32) (s1 : Int32) (M : MS)  : Sn p l e R s m args below meth c 4 D x_cl base (xwd g) cM x_g0 az kz (xfc cM) (xZ below args s D x_cl (xty g) base (xwd g) cM x_g0 az kz ovI) 33 [.int s1, .ref 97] [(0, .ref 97), (1, .int l1), (2, .int l2)] M (m_Mo_letters_33 l1 l2 s1 M) := by
  unfold m_Mo_letters_33
  refine s_iconst (v := (0:Int32)) B d_Mo_letters_33 (by decide) ?_
  refine s_pick (lv1 := [(0, .ref 97), (1, .int l1), (2, .int l2)]) [0, 1, 2] rfl ?_
  exact t_Mo_letters_34 B l1 l2 s1 (0:Int32) M
set_option maxRecDepth 100000 in
set_option maxHeartbeats 4000000 in
theorem t_Mo_letters_29  (B : xB p R s m args meth c b_Mo_letters 4 R_Mo (Cond.code y_Mo_letters b_Mo_letters 4 (some .int) :: x_T) (some .int) 1 23 D x_cl (xty g) base)  (l1 : Int32) (l2 : Int32) (s1 : Int32) (M : MS)  : Sn p l e R s m args below meth c 4 D x_cl base (xwd g) cM x_g0 az kz (xfc cM) (xZ below args s D x_cl (xty g) base (xwd g) cM x_g0 az kz ovI) 29 [.int s1, .ref 97] [(0, .ref 97), (1, .int l1), (2, .int l2)] M (m_Mo_letters_29 l1 l2 s1 M) := by
  unfold m_Mo_letters_29
  refine s_iconst (v := (1:Int32)) B d_Mo_letters_29 (by decide) ?_
  refine s_goto B d_Mo_letters_30 rfl ?_
  refine s_pick (lv1 := [(0, .ref 97), (1, .int l1), (2, .int l2)]) [0, 1, 2] rfl ?_
  exact t_Mo_letters_34 B l1 l2 s1 (1:Int32) M
set_option maxRecDepth 100000 in
set_option maxHeartbeats 4000000 in
theorem t_Mo_letters_15  (B : xB p R s m args meth c b_Mo_letters 4 R_Mo (Cond.code y_Mo_letters b_Mo_letters 4 (some .int) :: x_T) (some .int) 1 23 D x_cl (xty g) base)  (l1 : Int32) (l2 : Int32) (l3 : Int32) (s1 : Int32) (M : MS)  : Sn p l e R s m args below meth c 4 D x_cl base (xwd g) cM x_g0 az kz (xfc cM) (xZ below args s D x_cl (xty g) base (xwd g) cM x_g0 az kz ovI) 15 [.int s1, .ref 97] [(0, .ref 97), (1, .int l1), (2, .int l2), (3, .int l3)] M (m_Mo_letters_15 l1 l2 l3 s1 M) := by
  unfold m_Mo_letters_15
  refine s_iload_n B d_Mo_letters_15 rfl ?_
  refine s_if_eq B d_Mo_letters_16 rfl (fun _ => ?_) (fun _ => ?_)
  · refine s_pick (lv1 := [(0, .ref 97), (1, .int l1), (2, .int l2)]) [0, 1, 2] rfl ?_
    exact t_Mo_letters_33 B l1 l2 s1 M
  · refine s_iload_n B d_Mo_letters_19 rfl ?_
    refine s_if_lt B d_Mo_letters_20 rfl (fun _ => ?_) (fun _ => ?_)
    · refine s_pick (lv1 := [(0, .ref 97), (1, .int l1), (2, .int l2)]) [0, 1, 2] rfl ?_
      exact t_Mo_letters_29 B l1 l2 s1 M
    · refine s_iload_n B d_Mo_letters_23 rfl ?_
      refine s_bipush (v := (16:Int32)) B d_Mo_letters_24 (by decide) ?_
      refine s_icmp_le B d_Mo_letters_26 rfl (fun _ => ?_) (fun _ => ?_)
      · refine s_pick (lv1 := [(0, .ref 97), (1, .int l1), (2, .int l2)]) [0, 1, 2] rfl ?_
        exact t_Mo_letters_33 B l1 l2 s1 M
      · refine s_pick (lv1 := [(0, .ref 97), (1, .int l1), (2, .int l2)]) [0, 1, 2] rfl ?_
        exact t_Mo_letters_29 B l1 l2 s1 M
set_option maxRecDepth 100000 in
set_option maxHeartbeats 4000000 in
theorem t_Mo_letters (B : xB p R s m args meth c b_Mo_letters 4 R_Mo (Cond.code y_Mo_letters b_Mo_letters 4 (some .int) :: x_T) (some .int) 1 23 D x_cl (xty g) base) (a1 : Int32) (a2 : Int32) (M : MS) : Sn p l e R s m args below meth c 4 D x_cl base (xwd g) cM x_g0 az kz (xfc cM) (xZ below args s D x_cl (xty g) base (xwd g) cM x_g0 az kz ovI) 0 [] [(0, .ref 97), (1, .int a1), (2, .int a2)] M (m_Mo_letters a1 a2 M) := by
  unfold m_Mo_letters
  refine s_iload_n B d_Mo_letters_0 rfl ?_
  refine s_pick (lv1 := [(0, .ref 97), (1, .int a1), (2, .int a2)]) [0, 1, 2] rfl ?_
  refine s_callI (av := [.int a1]) (rest := []) B (lk_S B d_Mo_letters_1 (gl_Mo_158 _) (List.mem_cons_of_mem _ st_Mo_isSlot) (List.mem_cons_of_mem _ in_Mo) (List.mem_cons_of_mem _ ml_Mo_158) rfl hs_Mo_isSlot (by decide) (by decide)) rfl x_rcS (fun _ _ => rfl) rfl rfl (by simp [Value.category]) rfl (fun r1 e9 => ct_Mo_isSlot _ _ r1 e9) (fun r1 _ => ?_)
  refine s_istore_n B d_Mo_letters_4 (by decide) ?_
  refine s_aload_n B d_Mo_letters_5 rfl ?_
  refine s_iload_n B d_Mo_letters_6 rfl ?_
  refine s_if_ne B d_Mo_letters_7 rfl (fun _ => ?_) (fun _ => ?_)
  · refine s_iconst (v := (0:Int32)) B d_Mo_letters_14 (by decide) ?_
    refine s_pick (lv1 := [(0, .ref 97), (1, .int a1), (2, .int a2), (3, .int r1.2)]) [0, 1, 2, 3] rfl ?_
    exact t_Mo_letters_15 B a1 a2 r1.2 (0:Int32) r1.1
  · refine s_iconst (v := (1:Int32)) B d_Mo_letters_10 (by decide) ?_
    refine s_goto B d_Mo_letters_11 rfl ?_
    refine s_pick (lv1 := [(0, .ref 97), (1, .int a1), (2, .int a2), (3, .int r1.2)]) [0, 1, 2, 3] rfl ?_
    exact t_Mo_letters_15 B a1 a2 r1.2 (1:Int32) r1.1
set_option maxRecDepth 100000 in
set_option maxHeartbeats 4000000 in
theorem ct_Mo_letters {l : Launch} {D : va_G} {base : Nat} {g : Nat → ClassId} (a1 : Int32) (a2 : Int32) (M : MS) (r : MS × Int32) (hr : m_Mo_letters a1 a2 M = some r) : Ct l y_Mo_letters (Cond.code y_Mo_letters b_Mo_letters 4 (some .int) :: x_T) 1 23 D x_cl (xty g) base (xwd g) cM x_g0 [.ref 97, .int a1, .int a2] M r.1 (ovI r.2) :=
  x_met (ov := ovI) (by decide) (Nat.le_of_ble_eq_true rfl) (fun p e R s m args below meth c az B => t_Mo_letters B a1 a2 M) r hr
end
theorem d_Mo_sort_0 : decode b_Mo_sort 0 = .ok (.iload_n 0, 1) := by decide +kernel
theorem d_Mo_sort_1 : decode b_Mo_sort 1 = .ok (.bipush (7), 2) := by decide +kernel
theorem d_Mo_sort_3 : decode b_Mo_sort 3 = .ok (.iand, 1) := by decide +kernel
theorem d_Mo_sort_4 : decode b_Mo_sort 4 = .ok (.ireturn, 1) := by decide +kernel
section
variable {p : Program} {l : Launch} {e : Env} {R : Room} {s : State} {m : MethodId} {args : Array Value} {below : List Frame} {meth : Method} {c : Code} {D : va_G} {base : Nat} {g : Nat → ClassId} {az : Nat → Nat} {kz : Nat × Nat}
set_option maxRecDepth 100000 in
set_option maxHeartbeats 4000000 in
theorem t_Mo_sort (B : xB p R s m args meth c b_Mo_sort 1 R_Mo (Cond.code y_Mo_sort b_Mo_sort 1 (some .int) :: x_T) (some .int) 0 0 D x_cl (xty g) base) (a0 : Int32) (M : MS) : Sn p l e R s m args below meth c 1 D x_cl base (xwd g) cM x_g0 az kz (xfc cM) (xZ below args s D x_cl (xty g) base (xwd g) cM x_g0 az kz ovI) 0 [] [(0, .int a0)] M (m_Mo_sort a0 M) := by
  unfold m_Mo_sort
  refine s_iload_n B d_Mo_sort_0 rfl ?_
  refine s_bipush (v := (7:Int32)) B d_Mo_sort_1 (by decide) ?_
  refine s_iand B d_Mo_sort_3 ?_
  exact s_iret B d_Mo_sort_4
set_option maxRecDepth 100000 in
set_option maxHeartbeats 4000000 in
theorem ct_Mo_sort {l : Launch} {D : va_G} {base : Nat} {g : Nat → ClassId} (a0 : Int32) (M : MS) (r : MS × Int32) (hr : m_Mo_sort a0 M = some r) : Ct l y_Mo_sort (Cond.code y_Mo_sort b_Mo_sort 1 (some .int) :: x_T) 0 0 D x_cl (xty g) base (xwd g) cM x_g0 [.int a0] M r.1 (ovI r.2) :=
  x_met (ov := ovI) (by decide) (Nat.le_of_ble_eq_true rfl) (fun p e R s m args below meth c az B => t_Mo_sort B a0 M) r hr
end
theorem d_Mo_arity_0 : decode b_Mo_arity 0 = .ok (.iload_n 0, 1) := by decide +kernel
theorem d_Mo_arity_1 : decode b_Mo_arity 1 = .ok (.invokestatic 96, 3) := by decide +kernel
theorem d_Mo_arity_4 : decode b_Mo_arity 4 = .ok (.iconst (3), 1) := by decide +kernel
theorem d_Mo_arity_5 : decode b_Mo_arity 5 = .ok (.if_icmp .ge (7), 3) := by decide +kernel
theorem d_Mo_arity_8 : decode b_Mo_arity 8 = .ok (.iconst (0), 1) := by decide +kernel
theorem d_Mo_arity_9 : decode b_Mo_arity 9 = .ok (.goto (30), 3) := by decide +kernel
theorem d_Mo_arity_12 : decode b_Mo_arity 12 = .ok (.iload_n 0, 1) := by decide +kernel
theorem d_Mo_arity_13 : decode b_Mo_arity 13 = .ok (.invokestatic 96, 3) := by decide +kernel
theorem d_Mo_arity_16 : decode b_Mo_arity 16 = .ok (.iconst (3), 1) := by decide +kernel
theorem d_Mo_arity_17 : decode b_Mo_arity 17 = .ok (.if_icmp .ne (7), 3) := by decide +kernel
theorem d_Mo_arity_20 : decode b_Mo_arity 20 = .ok (.iconst (2), 1) := by decide +kernel
theorem d_Mo_arity_21 : decode b_Mo_arity 21 = .ok (.goto (18), 3) := by decide +kernel
theorem d_Mo_arity_24 : decode b_Mo_arity 24 = .ok (.iload_n 0, 1) := by decide +kernel
theorem d_Mo_arity_25 : decode b_Mo_arity 25 = .ok (.invokestatic 96, 3) := by decide +kernel
theorem d_Mo_arity_28 : decode b_Mo_arity 28 = .ok (.iconst (5), 1) := by decide +kernel
theorem d_Mo_arity_29 : decode b_Mo_arity 29 = .ok (.if_icmp .le (7), 3) := by decide +kernel
theorem d_Mo_arity_32 : decode b_Mo_arity 32 = .ok (.iconst (1), 1) := by decide +kernel
theorem d_Mo_arity_33 : decode b_Mo_arity 33 = .ok (.goto (6), 3) := by decide +kernel
theorem d_Mo_arity_36 : decode b_Mo_arity 36 = .ok (.iload_n 0, 1) := by decide +kernel
theorem d_Mo_arity_37 : decode b_Mo_arity 37 = .ok (.iconst (3), 1) := by decide +kernel
theorem d_Mo_arity_38 : decode b_Mo_arity 38 = .ok (.ishr, 1) := by decide +kernel
theorem d_Mo_arity_39 : decode b_Mo_arity 39 = .ok (.ireturn, 1) := by decide +kernel
section
variable {p : Program} {l : Launch} {e : Env} {R : Room} {s : State} {m : MethodId} {args : Array Value} {below : List Frame} {meth : Method} {c : Code} {D : va_G} {base : Nat} {g : Nat → ClassId} {az : Nat → Nat} {kz : Nat × Nat}
set_option maxRecDepth 100000 in
set_option maxHeartbeats 4000000 in
theorem t_Mo_arity (B : xB p R s m args meth c b_Mo_arity 1 R_Mo (Cond.code y_Mo_arity b_Mo_arity 1 (some .int) :: x_T) (some .int) 1 20 D x_cl (xty g) base) (a0 : Int32) (M : MS) : Sn p l e R s m args below meth c 1 D x_cl base (xwd g) cM x_g0 az kz (xfc cM) (xZ below args s D x_cl (xty g) base (xwd g) cM x_g0 az kz ovI) 0 [] [(0, .int a0)] M (m_Mo_arity a0 M) := by
  unfold m_Mo_arity
  refine s_iload_n B d_Mo_arity_0 rfl ?_
  refine s_pick (lv1 := [(0, .int a0)]) [0] rfl ?_
  refine s_callI (av := [.int a0]) (rest := []) B (lk_S B d_Mo_arity_1 (gl_Mo_96 _) (List.mem_cons_of_mem _ st_Mo_sort) (List.mem_cons_of_mem _ in_Mo) (List.mem_cons_of_mem _ ml_Mo_96) rfl hs_Mo_sort (by decide) (by decide)) rfl x_rcS (fun _ _ => rfl) rfl rfl (by simp [Value.category]) rfl (fun r1 e9 => ct_Mo_sort _ _ r1 e9) (fun r1 _ => ?_)
  refine s_iconst (v := (3:Int32)) B d_Mo_arity_4 (by decide) ?_
  refine s_icmp_ge B d_Mo_arity_5 rfl (fun _ => ?_) (fun _ => ?_)
  · refine s_iload_n B d_Mo_arity_12 rfl ?_
    refine s_pick (lv1 := [(0, .int a0)]) [0] rfl ?_
    refine s_callI (av := [.int a0]) (rest := []) B (lk_S B d_Mo_arity_13 (gl_Mo_96 _) (List.mem_cons_of_mem _ st_Mo_sort) (List.mem_cons_of_mem _ in_Mo) (List.mem_cons_of_mem _ ml_Mo_96) rfl hs_Mo_sort (by decide) (by decide)) rfl x_rcS (fun _ _ => rfl) rfl rfl (by simp [Value.category]) rfl (fun r2 e9 => ct_Mo_sort _ _ r2 e9) (fun r2 _ => ?_)
    refine s_iconst (v := (3:Int32)) B d_Mo_arity_16 (by decide) ?_
    refine s_icmp_ne B d_Mo_arity_17 rfl (fun _ => ?_) (fun _ => ?_)
    · refine s_iload_n B d_Mo_arity_24 rfl ?_
      refine s_pick (lv1 := [(0, .int a0)]) [0] rfl ?_
      refine s_callI (av := [.int a0]) (rest := []) B (lk_S B d_Mo_arity_25 (gl_Mo_96 _) (List.mem_cons_of_mem _ st_Mo_sort) (List.mem_cons_of_mem _ in_Mo) (List.mem_cons_of_mem _ ml_Mo_96) rfl hs_Mo_sort (by decide) (by decide)) rfl x_rcS (fun _ _ => rfl) rfl rfl (by simp [Value.category]) rfl (fun r3 e9 => ct_Mo_sort _ _ r3 e9) (fun r3 _ => ?_)
      refine s_iconst (v := (5:Int32)) B d_Mo_arity_28 (by decide) ?_
      refine s_icmp_le B d_Mo_arity_29 rfl (fun _ => ?_) (fun _ => ?_)
      · refine s_iload_n B d_Mo_arity_36 rfl ?_
        refine s_iconst (v := (3:Int32)) B d_Mo_arity_37 (by decide) ?_
        refine s_ishr B d_Mo_arity_38 ?_
        exact s_iret B d_Mo_arity_39
      · refine s_iconst (v := (1:Int32)) B d_Mo_arity_32 (by decide) ?_
        refine s_goto B d_Mo_arity_33 rfl ?_
        exact s_iret B d_Mo_arity_39
    · refine s_iconst (v := (2:Int32)) B d_Mo_arity_20 (by decide) ?_
      refine s_goto B d_Mo_arity_21 rfl ?_
      exact s_iret B d_Mo_arity_39
  · refine s_iconst (v := (0:Int32)) B d_Mo_arity_8 (by decide) ?_
    refine s_goto B d_Mo_arity_9 rfl ?_
    exact s_iret B d_Mo_arity_39
set_option maxRecDepth 100000 in
set_option maxHeartbeats 4000000 in
theorem ct_Mo_arity {l : Launch} {D : va_G} {base : Nat} {g : Nat → ClassId} (a0 : Int32) (M : MS) (r : MS × Int32) (hr : m_Mo_arity a0 M = some r) : Ct l y_Mo_arity (Cond.code y_Mo_arity b_Mo_arity 1 (some .int) :: x_T) 1 20 D x_cl (xty g) base (xwd g) cM x_g0 [.int a0] M r.1 (ovI r.2) :=
  x_met (ov := ovI) (by decide) (Nat.le_of_ble_eq_true rfl) (fun p e R s m args below meth c az B => t_Mo_arity B a0 M) r hr
end
theorem d_Mo_length_0 : decode b_Mo_length 0 = .ok (.iconst (1), 1) := by decide +kernel
theorem d_Mo_length_1 : decode b_Mo_length 1 = .ok (.istore_n 2, 1) := by decide +kernel
theorem d_Mo_length_2 : decode b_Mo_length 2 = .ok (.iload_n 1, 1) := by decide +kernel
theorem d_Mo_length_3 : decode b_Mo_length 3 = .ok (.istore_n 3, 1) := by decide +kernel
theorem d_Mo_length_4 : decode b_Mo_length 4 = .ok (.iload_n 2, 1) := by decide +kernel
theorem d_Mo_length_5 : decode b_Mo_length 5 = .ok (.ifCond .le (20), 3) := by decide +kernel
theorem d_Mo_length_8 : decode b_Mo_length 8 = .ok (.iload_n 2, 1) := by decide +kernel
theorem d_Mo_length_9 : decode b_Mo_length 9 = .ok (.aload_n 0, 1) := by decide +kernel
theorem d_Mo_length_10 : decode b_Mo_length 10 = .ok (.iload_n 3, 1) := by decide +kernel
theorem d_Mo_length_11 : decode b_Mo_length 11 = .ok (.iaload, 1) := by decide +kernel
theorem d_Mo_length_12 : decode b_Mo_length 12 = .ok (.invokestatic 100, 3) := by decide +kernel
theorem d_Mo_length_15 : decode b_Mo_length 15 = .ok (.iconst (1), 1) := by decide +kernel
theorem d_Mo_length_16 : decode b_Mo_length 16 = .ok (.isub, 1) := by decide +kernel
theorem d_Mo_length_17 : decode b_Mo_length 17 = .ok (.iadd, 1) := by decide +kernel
theorem d_Mo_length_18 : decode b_Mo_length 18 = .ok (.istore_n 2, 1) := by decide +kernel
theorem d_Mo_length_19 : decode b_Mo_length 19 = .ok (.iinc 3 (1), 3) := by decide +kernel
theorem d_Mo_length_22 : decode b_Mo_length 22 = .ok (.goto (-18), 3) := by decide +kernel
theorem d_Mo_length_25 : decode b_Mo_length 25 = .ok (.iload_n 3, 1) := by decide +kernel
theorem d_Mo_length_26 : decode b_Mo_length 26 = .ok (.iload_n 1, 1) := by decide +kernel
theorem d_Mo_length_27 : decode b_Mo_length 27 = .ok (.isub, 1) := by decide +kernel
theorem d_Mo_length_28 : decode b_Mo_length 28 = .ok (.ireturn, 1) := by decide +kernel
section
variable {p : Program} {l : Launch} {e : Env} {R : Room} {s : State} {m : MethodId} {args : Array Value} {below : List Frame} {meth : Method} {c : Code} {D : va_G} {base : Nat} {g : Nat → ClassId} {az : Nat → Nat} {kz : Nat × Nat}
set_option maxRecDepth 100000 in
set_option maxHeartbeats 4000000 in
theorem t_Mo_length_4b {k4 : Nat × Int32 × Int32 × Int32 × MS → Option (MS × Int32)} (B : xB p R s m args meth c b_Mo_length 4 R_Mo (Cond.code y_Mo_length b_Mo_length 4 (some .int) :: x_T) (some .int) 2 40 D x_cl (xty g) base) (hk4 : ∀ (l0 : Nat) (l1 : Int32) (l2 : Int32) (l3 : Int32) (M : MS) (hl0 : x_kd l0 = 20), Sn p l e R s m args below meth c 4 D x_cl base (xwd g) cM x_g0 az kz (xfc cM) (xZ below args s D x_cl (xty g) base (xwd g) cM x_g0 az kz ovI) 4 [] [(0, .ref l0), (1, .int l1), (2, .int l2), (3, .int l3)] M (k4 (l0, l1, l2, l3, M))) (l0 : Nat) (l1 : Int32) (l2 : Int32) (l3 : Int32) (M : MS) (hl0 : x_kd l0 = 20) : Sn p l e R s m args below meth c 4 D x_cl base (xwd g) cM x_g0 az kz (xfc cM) (xZ below args s D x_cl (xty g) base (xwd g) cM x_g0 az kz ovI) 4 [] [(0, .ref l0), (1, .int l1), (2, .int l2), (3, .int l3)] M (m_Mo_length_4b k4 l0 l1 l2 l3 M) := by
  unfold m_Mo_length_4b
  refine s_iload_n B d_Mo_length_4 rfl ?_
  refine s_if_le B d_Mo_length_5 rfl (fun _ => ?_) (fun _ => ?_)
  · refine s_iload_n B d_Mo_length_25 rfl ?_
    refine s_iload_n B d_Mo_length_26 rfl ?_
    refine s_isub B d_Mo_length_27 ?_
    exact s_iret B d_Mo_length_28
  · refine s_iload_n B d_Mo_length_8 rfl ?_
    refine s_aload_n B d_Mo_length_9 rfl ?_
    refine s_iload_n B d_Mo_length_10 rfl ?_
    refine s_iald B (Or.inl hl0) d_Mo_length_11 (fun v1 _ => ?_)
    refine s_pick (lv1 := [(0, .ref l0), (1, .int l1), (3, .int l3)]) [0, 1, 3] rfl ?_
    refine s_callI (av := [.int v1]) (rest := [.int l2]) B (lk_S B d_Mo_length_12 (gl_Mo_100 _) (List.mem_cons_of_mem _ st_Mo_arity) (List.mem_cons_of_mem _ in_Mo) (List.mem_cons_of_mem _ ml_Mo_100) rfl hs_Mo_arity (by decide) (by decide)) rfl x_rcS (fun _ _ => rfl) rfl rfl (by simp [Value.category]) rfl (fun r2 e9 => ct_Mo_arity _ _ r2 e9) (fun r2 _ => ?_)
    refine s_iconst (v := (1:Int32)) B d_Mo_length_15 (by decide) ?_
    refine s_isub B d_Mo_length_16 ?_
    refine s_iadd B d_Mo_length_17 ?_
    refine s_istore_n B d_Mo_length_18 (by decide) ?_
    refine s_iinc (w := (1:Int32)) B d_Mo_length_19 rfl (by decide) (by decide) ?_
    refine s_goto B d_Mo_length_22 rfl ?_
    refine s_pick (lv1 := [(0, .ref l0), (1, .int l1), (2, .int (l2 + (r2.2 - (1:Int32)))), (3, .int (l3 + (1:Int32)))]) [0, 1, 2, 3] rfl ?_
    exact hk4 l0 l1 (l2 + (r2.2 - (1:Int32))) (l3 + (1:Int32)) r2.1 hl0
set_option maxRecDepth 100000 in
set_option maxHeartbeats 4000000 in
theorem t_Mo_length_4  (B : xB p R s m args meth c b_Mo_length 4 R_Mo (Cond.code y_Mo_length b_Mo_length 4 (some .int) :: x_T) (some .int) 2 40 D x_cl (xty g) base)  (l0 : Nat) (l1 : Int32) (l2 : Int32) (l3 : Int32) (M : MS) (hl0 : x_kd l0 = 20) : Sn p l e R s m args below meth c 4 D x_cl base (xwd g) cM x_g0 az kz (xfc cM) (xZ below args s D x_cl (xty g) base (xwd g) cM x_g0 az kz ovI) 4 [] [(0, .ref l0), (1, .int l1), (2, .int l2), (3, .int l3)] M (m_Mo_length_4 (l0, l1, l2, l3, M)) := by
  have q : ∀ (F : Nat) (i : Nat × Int32 × Int32 × Int32 × MS), x_kd i.1 = 20 → Sn p l e R s m args below meth c 4 D x_cl base (xwd g) cM x_g0 az kz (xfc cM) (xZ below args s D x_cl (xty g) base (xwd g) cM x_g0 az kz ovI) 4 [] [(0, .ref i.1), (1, .int i.2.1), (2, .int i.2.2.1), (3, .int i.2.2.2.1)] i.2.2.2.2 (fx (fun (k : Nat × Int32 × Int32 × Int32 × MS → Option (MS × Int32)) (i : Nat × Int32 × Int32 × Int32 × MS) => m_Mo_length_4b k i.1 i.2.1 i.2.2.1 i.2.2.2.1 i.2.2.2.2) F i) := by
    intro F
    induction F with
    | zero => intro i h0; exact s_none
    | succ F ih => intro i h0; exact t_Mo_length_4b B  (fun l0 l1 l2 l3 M h0 => ih (l0, l1, l2, l3, M) h0) i.1 i.2.1 i.2.2.1 i.2.2.2.1 i.2.2.2.2 h0
  exact q FU (l0, l1, l2, l3, M) hl0
set_option maxRecDepth 100000 in
set_option maxHeartbeats 4000000 in
theorem t_Mo_length (B : xB p R s m args meth c b_Mo_length 4 R_Mo (Cond.code y_Mo_length b_Mo_length 4 (some .int) :: x_T) (some .int) 2 40 D x_cl (xty g) base) (a0 : Nat) (a1 : Int32) (M : MS) : Sn p l e R s m args below meth c 4 D x_cl base (xwd g) cM x_g0 az kz (xfc cM) (xZ below args s D x_cl (xty g) base (xwd g) cM x_g0 az kz ovI) 0 [] [(0, .ref a0), (1, .int a1)] M (m_Mo_length a0 a1 M) := by
  unfold m_Mo_length
  refine s_guard (fun ha0 => ?_)
  refine s_iconst (v := (1:Int32)) B d_Mo_length_0 (by decide) ?_
  refine s_istore_n B d_Mo_length_1 (by decide) ?_
  refine s_iload_n B d_Mo_length_2 rfl ?_
  refine s_istore_n B d_Mo_length_3 (by decide) ?_
  refine s_pick (lv1 := [(0, .ref a0), (1, .int a1), (2, .int (1:Int32)), (3, .int a1)]) [0, 1, 2, 3] rfl ?_
  exact t_Mo_length_4 B a0 a1 (1:Int32) a1 M ha0
set_option maxRecDepth 100000 in
set_option maxHeartbeats 4000000 in
theorem ct_Mo_length {l : Launch} {D : va_G} {base : Nat} {g : Nat → ClassId} (a0 : Nat) (a1 : Int32) (M : MS) (r : MS × Int32) (hr : m_Mo_length a0 a1 M = some r) : Ct l y_Mo_length (Cond.code y_Mo_length b_Mo_length 4 (some .int) :: x_T) 2 40 D x_cl (xty g) base (xwd g) cM x_g0 [.ref a0, .int a1] M r.1 (ovI r.2) :=
  x_met (ov := ovI) (by decide) (Nat.le_of_ble_eq_true rfl) (fun p e R s m args below meth c az B => t_Mo_length B a0 a1 M) r hr
end
theorem d_Mo_cat_0 : decode b_Mo_cat 0 = .ok (.aload_n 1, 1) := by decide +kernel
theorem d_Mo_cat_1 : decode b_Mo_cat 1 = .ok (.iload_n 2, 1) := by decide +kernel
theorem d_Mo_cat_2 : decode b_Mo_cat 2 = .ok (.iaload, 1) := by decide +kernel
theorem d_Mo_cat_3 : decode b_Mo_cat 3 = .ok (.ifCond .eq (11), 3) := by decide +kernel
theorem d_Mo_cat_6 : decode b_Mo_cat 6 = .ok (.aload 4, 2) := by decide +kernel
theorem d_Mo_cat_8 : decode b_Mo_cat 8 = .ok (.iload 5, 2) := by decide +kernel
theorem d_Mo_cat_10 : decode b_Mo_cat 10 = .ok (.iaload, 1) := by decide +kernel
theorem d_Mo_cat_11 : decode b_Mo_cat 11 = .ok (.ifCond .ne (7), 3) := by decide +kernel
theorem d_Mo_cat_14 : decode b_Mo_cat 14 = .ok (.iconst (1), 1) := by decide +kernel
theorem d_Mo_cat_15 : decode b_Mo_cat 15 = .ok (.goto (4), 3) := by decide +kernel
theorem d_Mo_cat_18 : decode b_Mo_cat 18 = .ok (.iconst (0), 1) := by decide +kernel
theorem d_Mo_cat_19 : decode b_Mo_cat 19 = .ok (.istore 7, 2) := by decide +kernel
theorem d_Mo_cat_21 : decode b_Mo_cat 21 = .ok (.iload 7, 2) := by decide +kernel
theorem d_Mo_cat_23 : decode b_Mo_cat 23 = .ok (.ifCond .eq (12), 3) := by decide +kernel
theorem d_Mo_cat_26 : decode b_Mo_cat 26 = .ok (.aload_n 0, 1) := by decide +kernel
theorem d_Mo_cat_27 : decode b_Mo_cat 27 = .ok (.getfield 20, 3) := by decide +kernel
theorem d_Mo_cat_30 : decode b_Mo_cat 30 = .ok (.iconst (0), 1) := by decide +kernel
theorem d_Mo_cat_31 : decode b_Mo_cat 31 = .ok (.iconst (0), 1) := by decide +kernel
theorem d_Mo_cat_32 : decode b_Mo_cat 32 = .ok (.iastore, 1) := by decide +kernel
theorem d_Mo_cat_33 : decode b_Mo_cat 33 = .ok (.iconst (1), 1) := by decide +kernel
theorem d_Mo_cat_34 : decode b_Mo_cat 34 = .ok (.ireturn, 1) := by decide +kernel
theorem d_Mo_cat_35 : decode b_Mo_cat 35 = .ok (.aload 4, 2) := by decide +kernel
theorem d_Mo_cat_37 : decode b_Mo_cat 37 = .ok (.iload 5, 2) := by decide +kernel
theorem d_Mo_cat_39 : decode b_Mo_cat 39 = .ok (.iaload, 1) := by decide +kernel
theorem d_Mo_cat_40 : decode b_Mo_cat 40 = .ok (.iconst (1), 1) := by decide +kernel
theorem d_Mo_cat_41 : decode b_Mo_cat 41 = .ok (.if_icmp .ne (7), 3) := by decide +kernel
theorem d_Mo_cat_44 : decode b_Mo_cat 44 = .ok (.iconst (1), 1) := by decide +kernel
theorem d_Mo_cat_45 : decode b_Mo_cat 45 = .ok (.goto (4), 3) := by decide +kernel
theorem d_Mo_cat_48 : decode b_Mo_cat 48 = .ok (.iconst (0), 1) := by decide +kernel
theorem d_Mo_cat_49 : decode b_Mo_cat 49 = .ok (.istore 8, 2) := by decide +kernel
theorem d_Mo_cat_51 : decode b_Mo_cat 51 = .ok (.aload_n 1, 1) := by decide +kernel
theorem d_Mo_cat_52 : decode b_Mo_cat 52 = .ok (.iload_n 2, 1) := by decide +kernel
theorem d_Mo_cat_53 : decode b_Mo_cat 53 = .ok (.iaload, 1) := by decide +kernel
theorem d_Mo_cat_54 : decode b_Mo_cat 54 = .ok (.iconst (1), 1) := by decide +kernel
theorem d_Mo_cat_55 : decode b_Mo_cat 55 = .ok (.if_icmp .ne (7), 3) := by decide +kernel
theorem d_Mo_cat_58 : decode b_Mo_cat 58 = .ok (.iconst (1), 1) := by decide +kernel
theorem d_Mo_cat_59 : decode b_Mo_cat 59 = .ok (.goto (4), 3) := by decide +kernel
theorem d_Mo_cat_62 : decode b_Mo_cat 62 = .ok (.iconst (0), 1) := by decide +kernel
theorem d_Mo_cat_63 : decode b_Mo_cat 63 = .ok (.istore 9, 2) := by decide +kernel
theorem d_Mo_cat_65 : decode b_Mo_cat 65 = .ok (.iconst (0), 1) := by decide +kernel
theorem d_Mo_cat_66 : decode b_Mo_cat 66 = .ok (.istore 10, 2) := by decide +kernel
theorem d_Mo_cat_68 : decode b_Mo_cat 68 = .ok (.iload_n 2, 1) := by decide +kernel
theorem d_Mo_cat_69 : decode b_Mo_cat 69 = .ok (.istore 11, 2) := by decide +kernel
theorem d_Mo_cat_71 : decode b_Mo_cat 71 = .ok (.aload_n 1, 1) := by decide +kernel
theorem d_Mo_cat_72 : decode b_Mo_cat 72 = .ok (.iload 11, 2) := by decide +kernel
theorem d_Mo_cat_74 : decode b_Mo_cat 74 = .ok (.iaload, 1) := by decide +kernel
theorem d_Mo_cat_75 : decode b_Mo_cat 75 = .ok (.invokestatic 96, 3) := by decide +kernel
theorem d_Mo_cat_78 : decode b_Mo_cat 78 = .ok (.iconst (3), 1) := by decide +kernel
theorem d_Mo_cat_79 : decode b_Mo_cat 79 = .ok (.if_icmp .ne (21), 3) := by decide +kernel
theorem d_Mo_cat_82 : decode b_Mo_cat 82 = .ok (.iload 11, 2) := by decide +kernel
theorem d_Mo_cat_84 : decode b_Mo_cat 84 = .ok (.iconst (1), 1) := by decide +kernel
theorem d_Mo_cat_85 : decode b_Mo_cat 85 = .ok (.aload_n 1, 1) := by decide +kernel
theorem d_Mo_cat_86 : decode b_Mo_cat 86 = .ok (.iload 11, 2) := by decide +kernel
theorem d_Mo_cat_88 : decode b_Mo_cat 88 = .ok (.iconst (1), 1) := by decide +kernel
theorem d_Mo_cat_89 : decode b_Mo_cat 89 = .ok (.iadd, 1) := by decide +kernel
theorem d_Mo_cat_90 : decode b_Mo_cat 90 = .ok (.invokestatic 103, 3) := by decide +kernel
theorem d_Mo_cat_93 : decode b_Mo_cat 93 = .ok (.iadd, 1) := by decide +kernel
theorem d_Mo_cat_94 : decode b_Mo_cat 94 = .ok (.iadd, 1) := by decide +kernel
theorem d_Mo_cat_95 : decode b_Mo_cat 95 = .ok (.istore 11, 2) := by decide +kernel
theorem d_Mo_cat_97 : decode b_Mo_cat 97 = .ok (.goto (-26), 3) := by decide +kernel
theorem d_Mo_cat_100 : decode b_Mo_cat 100 = .ok (.iload_n 2, 1) := by decide +kernel
theorem d_Mo_cat_101 : decode b_Mo_cat 101 = .ok (.istore 12, 2) := by decide +kernel
theorem d_Mo_cat_103 : decode b_Mo_cat 103 = .ok (.iload 12, 2) := by decide +kernel
theorem d_Mo_cat_105 : decode b_Mo_cat 105 = .ok (.iload_n 2, 1) := by decide +kernel
theorem d_Mo_cat_106 : decode b_Mo_cat 106 = .ok (.iload_n 3, 1) := by decide +kernel
theorem d_Mo_cat_107 : decode b_Mo_cat 107 = .ok (.iadd, 1) := by decide +kernel
theorem d_Mo_cat_108 : decode b_Mo_cat 108 = .ok (.if_icmp .ge (51), 3) := by decide +kernel
theorem d_Mo_cat_111 : decode b_Mo_cat 111 = .ok (.iload 9, 2) := by decide +kernel
theorem d_Mo_cat_113 : decode b_Mo_cat 113 = .ok (.ifCond .ne (46), 3) := by decide +kernel
theorem d_Mo_cat_116 : decode b_Mo_cat 116 = .ok (.iload 12, 2) := by decide +kernel
theorem d_Mo_cat_118 : decode b_Mo_cat 118 = .ok (.iload 11, 2) := by decide +kernel
theorem d_Mo_cat_120 : decode b_Mo_cat 120 = .ok (.if_icmp .ne (19), 3) := by decide +kernel
theorem d_Mo_cat_123 : decode b_Mo_cat 123 = .ok (.iload 8, 2) := by decide +kernel
theorem d_Mo_cat_125 : decode b_Mo_cat 125 = .ok (.ifCond .ne (14), 3) := by decide +kernel
theorem d_Mo_cat_128 : decode b_Mo_cat 128 = .ok (.aload_n 0, 1) := by decide +kernel
theorem d_Mo_cat_129 : decode b_Mo_cat 129 = .ok (.getfield 20, 3) := by decide +kernel
theorem d_Mo_cat_132 : decode b_Mo_cat 132 = .ok (.iload 10, 2) := by decide +kernel
theorem d_Mo_cat_134 : decode b_Mo_cat 134 = .ok (.iconst (3), 1) := by decide +kernel
theorem d_Mo_cat_135 : decode b_Mo_cat 135 = .ok (.iastore, 1) := by decide +kernel
theorem d_Mo_cat_136 : decode b_Mo_cat 136 = .ok (.iinc 10 (1), 3) := by decide +kernel
theorem d_Mo_cat_139 : decode b_Mo_cat 139 = .ok (.aload_n 0, 1) := by decide +kernel
theorem d_Mo_cat_140 : decode b_Mo_cat 140 = .ok (.getfield 20, 3) := by decide +kernel
theorem d_Mo_cat_143 : decode b_Mo_cat 143 = .ok (.iload 10, 2) := by decide +kernel
theorem d_Mo_cat_145 : decode b_Mo_cat 145 = .ok (.aload_n 1, 1) := by decide +kernel
theorem d_Mo_cat_146 : decode b_Mo_cat 146 = .ok (.iload 12, 2) := by decide +kernel
theorem d_Mo_cat_148 : decode b_Mo_cat 148 = .ok (.iaload, 1) := by decide +kernel
theorem d_Mo_cat_149 : decode b_Mo_cat 149 = .ok (.iastore, 1) := by decide +kernel
theorem d_Mo_cat_150 : decode b_Mo_cat 150 = .ok (.iinc 10 (1), 3) := by decide +kernel
theorem d_Mo_cat_153 : decode b_Mo_cat 153 = .ok (.iinc 12 (1), 3) := by decide +kernel
theorem d_Mo_cat_156 : decode b_Mo_cat 156 = .ok (.goto (-53), 3) := by decide +kernel
theorem d_Mo_cat_159 : decode b_Mo_cat 159 = .ok (.iload 5, 2) := by decide +kernel
theorem d_Mo_cat_161 : decode b_Mo_cat 161 = .ok (.istore 12, 2) := by decide +kernel
theorem d_Mo_cat_163 : decode b_Mo_cat 163 = .ok (.iload 12, 2) := by decide +kernel
theorem d_Mo_cat_165 : decode b_Mo_cat 165 = .ok (.iload 5, 2) := by decide +kernel
theorem d_Mo_cat_167 : decode b_Mo_cat 167 = .ok (.iload 6, 2) := by decide +kernel
theorem d_Mo_cat_169 : decode b_Mo_cat 169 = .ok (.iadd, 1) := by decide +kernel
theorem d_Mo_cat_170 : decode b_Mo_cat 170 = .ok (.if_icmp .ge (29), 3) := by decide +kernel
theorem d_Mo_cat_173 : decode b_Mo_cat 173 = .ok (.iload 8, 2) := by decide +kernel
theorem d_Mo_cat_175 : decode b_Mo_cat 175 = .ok (.ifCond .ne (24), 3) := by decide +kernel
theorem d_Mo_cat_178 : decode b_Mo_cat 178 = .ok (.aload_n 0, 1) := by decide +kernel
theorem d_Mo_cat_179 : decode b_Mo_cat 179 = .ok (.getfield 20, 3) := by decide +kernel
theorem d_Mo_cat_182 : decode b_Mo_cat 182 = .ok (.iload 10, 2) := by decide +kernel
theorem d_Mo_cat_184 : decode b_Mo_cat 184 = .ok (.aload 4, 2) := by decide +kernel
theorem d_Mo_cat_186 : decode b_Mo_cat 186 = .ok (.iload 12, 2) := by decide +kernel
theorem d_Mo_cat_188 : decode b_Mo_cat 188 = .ok (.iaload, 1) := by decide +kernel
theorem d_Mo_cat_189 : decode b_Mo_cat 189 = .ok (.iastore, 1) := by decide +kernel
theorem d_Mo_cat_190 : decode b_Mo_cat 190 = .ok (.iinc 10 (1), 3) := by decide +kernel
theorem d_Mo_cat_193 : decode b_Mo_cat 193 = .ok (.iinc 12 (1), 3) := by decide +kernel
theorem d_Mo_cat_196 : decode b_Mo_cat 196 = .ok (.goto (-33), 3) := by decide +kernel
theorem d_Mo_cat_199 : decode b_Mo_cat 199 = .ok (.iload 9, 2) := by decide +kernel
theorem d_Mo_cat_201 : decode b_Mo_cat 201 = .ok (.ifCond .eq (15), 3) := by decide +kernel
theorem d_Mo_cat_204 : decode b_Mo_cat 204 = .ok (.iload 8, 2) := by decide +kernel
theorem d_Mo_cat_206 : decode b_Mo_cat 206 = .ok (.ifCond .eq (10), 3) := by decide +kernel
theorem d_Mo_cat_209 : decode b_Mo_cat 209 = .ok (.aload_n 0, 1) := by decide +kernel
theorem d_Mo_cat_210 : decode b_Mo_cat 210 = .ok (.getfield 20, 3) := by decide +kernel
theorem d_Mo_cat_213 : decode b_Mo_cat 213 = .ok (.iconst (0), 1) := by decide +kernel
theorem d_Mo_cat_214 : decode b_Mo_cat 214 = .ok (.iconst (1), 1) := by decide +kernel
theorem d_Mo_cat_215 : decode b_Mo_cat 215 = .ok (.iastore, 1) := by decide +kernel
theorem d_Mo_cat_216 : decode b_Mo_cat 216 = .ok (.iload 9, 2) := by decide +kernel
theorem d_Mo_cat_218 : decode b_Mo_cat 218 = .ok (.ifCond .eq (12), 3) := by decide +kernel
theorem d_Mo_cat_221 : decode b_Mo_cat 221 = .ok (.iload 8, 2) := by decide +kernel
theorem d_Mo_cat_223 : decode b_Mo_cat 223 = .ok (.ifCond .eq (7), 3) := by decide +kernel
theorem d_Mo_cat_226 : decode b_Mo_cat 226 = .ok (.iconst (1), 1) := by decide +kernel
theorem d_Mo_cat_227 : decode b_Mo_cat 227 = .ok (.goto (5), 3) := by decide +kernel
theorem d_Mo_cat_230 : decode b_Mo_cat 230 = .ok (.iload 10, 2) := by decide +kernel
theorem d_Mo_cat_232 : decode b_Mo_cat 232 = .ok (.ireturn, 1) := by decide +kernel
section
variable {p : Program} {l : Launch} {e : Env} {R : Room} {s : State} {m : MethodId} {args : Array Value} {below : List Frame} {meth : Method} {c : Code} {D : va_G} {base : Nat} {g : Nat → ClassId} {az : Nat → Nat} {kz : Nat × Nat}
set_option maxRecDepth 100000 in
set_option maxHeartbeats 4000000 in
theorem t_Mo_cat_216  (B : xB p R s m args meth c b_Mo_cat 13 R_Mo (Cond.code y_Mo_cat b_Mo_cat 13 (some .int) :: x_T) (some .int) 3 63 D x_cl (xty g) base)  (l8 : Int32) (l9 : Int32) (l10 : Int32) (M : MS)  : Sn p l e R s m args below meth c 13 D x_cl base (xwd g) cM x_g0 az kz (xfc cM) (xZ below args s D x_cl (xty g) base (xwd g) cM x_g0 az kz ovI) 216 [] [(8, .int l8), (9, .int l9), (10, .int l10)] M (m_Mo_cat_216 l8 l9 l10 M) := by
  unfold m_Mo_cat_216
  refine s_iload B d_Mo_cat_216 rfl ?_
  refine s_if_eq B d_Mo_cat_218 rfl (fun _ => ?_) (fun _ => ?_)
  · refine s_iload B d_Mo_cat_230 rfl ?_
    exact s_iret B d_Mo_cat_232
  · refine s_iload B d_Mo_cat_221 rfl ?_
    refine s_if_eq B d_Mo_cat_223 rfl (fun _ => ?_) (fun _ => ?_)
    · refine s_iload B d_Mo_cat_230 rfl ?_
      exact s_iret B d_Mo_cat_232
    · refine s_iconst (v := (1:Int32)) B d_Mo_cat_226 (by decide) ?_
      refine s_goto B d_Mo_cat_227 rfl ?_
      exact s_iret B d_Mo_cat_232
set_option maxRecDepth 100000 in
set_option maxHeartbeats 4000000 in
theorem t_Mo_cat_199  (B : xB p R s m args meth c b_Mo_cat 13 R_Mo (Cond.code y_Mo_cat b_Mo_cat 13 (some .int) :: x_T) (some .int) 3 63 D x_cl (xty g) base)  (l8 : Int32) (l9 : Int32) (l10 : Int32) (M : MS)  : Sn p l e R s m args below meth c 13 D x_cl base (xwd g) cM x_g0 az kz (xfc cM) (xZ below args s D x_cl (xty g) base (xwd g) cM x_g0 az kz ovI) 199 [] [(0, .ref 97), (8, .int l8), (9, .int l9), (10, .int l10)] M (m_Mo_cat_199 l8 l9 l10 M) := by
  unfold m_Mo_cat_199
  refine s_iload B d_Mo_cat_199 rfl ?_
  refine s_if_eq B d_Mo_cat_201 rfl (fun _ => ?_) (fun _ => ?_)
  · refine s_pick (lv1 := [(8, .int l8), (9, .int l9), (10, .int l10)]) [8, 9, 10] rfl ?_
    exact t_Mo_cat_216 B l8 l9 l10 M
  · refine s_iload B d_Mo_cat_204 rfl ?_
    refine s_if_eq B d_Mo_cat_206 rfl (fun _ => ?_) (fun _ => ?_)
    · refine s_pick (lv1 := [(8, .int l8), (9, .int l9), (10, .int l10)]) [8, 9, 10] rfl ?_
      exact t_Mo_cat_216 B l8 l9 l10 M
    · refine s_aload_n B d_Mo_cat_209 rfl ?_
      refine s_getS (k := 4) (n := 101) B xc_Mo kd_97 (by decide) rfl rfl fl_Mo_20 sr_97_4 d_Mo_cat_210 ?_
      refine s_iconst (v := (0:Int32)) B d_Mo_cat_213 (by decide) ?_
      refine s_iconst (v := (1:Int32)) B d_Mo_cat_214 (by decide) ?_
      refine s_iast B (Or.inl kd_101) d_Mo_cat_215 (fun M1 _ => ?_)
      refine s_pick (lv1 := [(8, .int l8), (9, .int l9), (10, .int l10)]) [8, 9, 10] rfl ?_
      exact t_Mo_cat_216 B l8 l9 l10 M1
set_option maxRecDepth 100000 in
set_option maxHeartbeats 4000000 in
theorem t_Mo_cat_163b {k163 : Nat × Int32 × Int32 × Int32 × Int32 × Int32 × Int32 × MS → Option (MS × Int32)} (B : xB p R s m args meth c b_Mo_cat 13 R_Mo (Cond.code y_Mo_cat b_Mo_cat 13 (some .int) :: x_T) (some .int) 3 63 D x_cl (xty g) base) (hk163 : ∀ (l4 : Nat) (l5 : Int32) (l6 : Int32) (l8 : Int32) (l9 : Int32) (l10 : Int32) (l12 : Int32) (M : MS) (hl4 : x_kd l4 = 20), Sn p l e R s m args below meth c 13 D x_cl base (xwd g) cM x_g0 az kz (xfc cM) (xZ below args s D x_cl (xty g) base (xwd g) cM x_g0 az kz ovI) 163 [] [(0, .ref 97), (4, .ref l4), (5, .int l5), (6, .int l6), (8, .int l8), (9, .int l9), (10, .int l10), (12, .int l12)] M (k163 (l4, l5, l6, l8, l9, l10, l12, M))) (l4 : Nat) (l5 : Int32) (l6 : Int32) (l8 : Int32) (l9 : Int32) (l10 : Int32) (l12 : Int32) (M : MS) (hl4 : x_kd l4 = 20) : Sn p l e R s m args below meth c 13 D x_cl base (xwd g) cM x_g0 az kz (xfc cM) (xZ below args s D x_cl (xty g) base (xwd g) cM x_g0 az kz ovI) 163 [] [(0, .ref 97), (4, .ref l4), (5, .int l5), (6, .int l6), (8, .int l8), (9, .int l9), (10, .int l10), (12, .int l12)] M (m_Mo_cat_163b k163 l4 l5 l6 l8 l9 l10 l12 M) := by
  unfold m_Mo_cat_163b
  refine s_iload B d_Mo_cat_163 rfl ?_
  refine s_iload B d_Mo_cat_165 rfl ?_
  refine s_iload B d_Mo_cat_167 rfl ?_
  refine s_iadd B d_Mo_cat_169 ?_
  refine s_icmp_ge B d_Mo_cat_170 rfl (fun _ => ?_) (fun _ => ?_)
  · refine s_pick (lv1 := [(0, .ref 97), (8, .int l8), (9, .int l9), (10, .int l10)]) [0, 8, 9, 10] rfl ?_
    exact t_Mo_cat_199 B l8 l9 l10 M
  · refine s_iload B d_Mo_cat_173 rfl ?_
    refine s_if_ne B d_Mo_cat_175 rfl (fun _ => ?_) (fun _ => ?_)
    · refine s_pick (lv1 := [(0, .ref 97), (8, .int l8), (9, .int l9), (10, .int l10)]) [0, 8, 9, 10] rfl ?_
      exact t_Mo_cat_199 B l8 l9 l10 M
    · refine s_aload_n B d_Mo_cat_178 rfl ?_
      refine s_getS (k := 4) (n := 101) B xc_Mo kd_97 (by decide) rfl rfl fl_Mo_20 sr_97_4 d_Mo_cat_179 ?_
      refine s_iload B d_Mo_cat_182 rfl ?_
      refine s_aload B d_Mo_cat_184 rfl ?_
      refine s_iload B d_Mo_cat_186 rfl ?_
      refine s_iald B (Or.inl hl4) d_Mo_cat_188 (fun v1 _ => ?_)
      refine s_iast B (Or.inl kd_101) d_Mo_cat_189 (fun M2 _ => ?_)
      refine s_iinc (w := (1:Int32)) B d_Mo_cat_190 rfl (by decide) (by decide) ?_
      refine s_iinc (w := (1:Int32)) B d_Mo_cat_193 rfl (by decide) (by decide) ?_
      refine s_goto B d_Mo_cat_196 rfl ?_
      refine s_pick (lv1 := [(0, .ref 97), (4, .ref l4), (5, .int l5), (6, .int l6), (8, .int l8), (9, .int l9), (10, .int (l10 + (1:Int32))), (12, .int (l12 + (1:Int32)))]) [0, 4, 5, 6, 8, 9, 10, 12] rfl ?_
      exact hk163 l4 l5 l6 l8 l9 (l10 + (1:Int32)) (l12 + (1:Int32)) M2 hl4
set_option maxRecDepth 100000 in
set_option maxHeartbeats 4000000 in
theorem t_Mo_cat_163  (B : xB p R s m args meth c b_Mo_cat 13 R_Mo (Cond.code y_Mo_cat b_Mo_cat 13 (some .int) :: x_T) (some .int) 3 63 D x_cl (xty g) base)  (l4 : Nat) (l5 : Int32) (l6 : Int32) (l8 : Int32) (l9 : Int32) (l10 : Int32) (l12 : Int32) (M : MS) (hl4 : x_kd l4 = 20) : Sn p l e R s m args below meth c 13 D x_cl base (xwd g) cM x_g0 az kz (xfc cM) (xZ below args s D x_cl (xty g) base (xwd g) cM x_g0 az kz ovI) 163 [] [(0, .ref 97), (4, .ref l4), (5, .int l5), (6, .int l6), (8, .int l8), (9, .int l9), (10, .int l10), (12, .int l12)] M (m_Mo_cat_163 (l4, l5, l6, l8, l9, l10, l12, M)) := by
  have q : ∀ (F : Nat) (i : Nat × Int32 × Int32 × Int32 × Int32 × Int32 × Int32 × MS), x_kd i.1 = 20 → Sn p l e R s m args below meth c 13 D x_cl base (xwd g) cM x_g0 az kz (xfc cM) (xZ below args s D x_cl (xty g) base (xwd g) cM x_g0 az kz ovI) 163 [] [(0, .ref 97), (4, .ref i.1), (5, .int i.2.1), (6, .int i.2.2.1), (8, .int i.2.2.2.1), (9, .int i.2.2.2.2.1), (10, .int i.2.2.2.2.2.1), (12, .int i.2.2.2.2.2.2.1)] i.2.2.2.2.2.2.2 (fx (fun (k : Nat × Int32 × Int32 × Int32 × Int32 × Int32 × Int32 × MS → Option (MS × Int32)) (i : Nat × Int32 × Int32 × Int32 × Int32 × Int32 × Int32 × MS) => m_Mo_cat_163b k i.1 i.2.1 i.2.2.1 i.2.2.2.1 i.2.2.2.2.1 i.2.2.2.2.2.1 i.2.2.2.2.2.2.1 i.2.2.2.2.2.2.2) F i) := by
    intro F
    induction F with
    | zero => intro i h0; exact s_none
    | succ F ih => intro i h0; exact t_Mo_cat_163b B  (fun l4 l5 l6 l8 l9 l10 l12 M h0 => ih (l4, l5, l6, l8, l9, l10, l12, M) h0) i.1 i.2.1 i.2.2.1 i.2.2.2.1 i.2.2.2.2.1 i.2.2.2.2.2.1 i.2.2.2.2.2.2.1 i.2.2.2.2.2.2.2 h0
  exact q FU (l4, l5, l6, l8, l9, l10, l12, M) hl4
set_option maxRecDepth 100000 in
set_option maxHeartbeats 4000000 in
theorem t_Mo_cat_139 {k103 : Nat × Int32 × Int32 × Nat × Int32 × Int32 × Int32 × Int32 × Int32 × Int32 × Int32 × MS → Option (MS × Int32)} (B : xB p R s m args meth c b_Mo_cat 13 R_Mo (Cond.code y_Mo_cat b_Mo_cat 13 (some .int) :: x_T) (some .int) 3 63 D x_cl (xty g) base) (hk103 : ∀ (l1 : Nat) (l2 : Int32) (l3 : Int32) (l4 : Nat) (l5 : Int32) (l6 : Int32) (l8 : Int32) (l9 : Int32) (l10 : Int32) (l11 : Int32) (l12 : Int32) (M : MS) (hl1 : x_kd l1 = 20) (hl4 : x_kd l4 = 20), Sn p l e R s m args below meth c 13 D x_cl base (xwd g) cM x_g0 az kz (xfc cM) (xZ below args s D x_cl (xty g) base (xwd g) cM x_g0 az kz ovI) 103 [] [(0, .ref 97), (1, .ref l1), (2, .int l2), (3, .int l3), (4, .ref l4), (5, .int l5), (6, .int l6), (8, .int l8), (9, .int l9), (10, .int l10), (11, .int l11), (12, .int l12)] M (k103 (l1, l2, l3, l4, l5, l6, l8, l9, l10, l11, l12, M))) (l1 : Nat) (l2 : Int32) (l3 : Int32) (l4 : Nat) (l5 : Int32) (l6 : Int32) (l8 : Int32) (l9 : Int32) (l10 : Int32) (l11 : Int32) (l12 : Int32) (M : MS) (hl1 : x_kd l1 = 20) (hl4 : x_kd l4 = 20) : Sn p l e R s m args below meth c 13 D x_cl base (xwd g) cM x_g0 az kz (xfc cM) (xZ below args s D x_cl (xty g) base (xwd g) cM x_g0 az kz ovI) 139 [] [(0, .ref 97), (1, .ref l1), (2, .int l2), (3, .int l3), (4, .ref l4), (5, .int l5), (6, .int l6), (8, .int l8), (9, .int l9), (10, .int l10), (11, .int l11), (12, .int l12)] M (m_Mo_cat_139 k103 l1 l2 l3 l4 l5 l6 l8 l9 l10 l11 l12 M) := by
  unfold m_Mo_cat_139
  refine s_aload_n B d_Mo_cat_139 rfl ?_
  refine s_getS (k := 4) (n := 101) B xc_Mo kd_97 (by decide) rfl rfl fl_Mo_20 sr_97_4 d_Mo_cat_140 ?_
  refine s_iload B d_Mo_cat_143 rfl ?_
  refine s_aload_n B d_Mo_cat_145 rfl ?_
  refine s_iload B d_Mo_cat_146 rfl ?_
  refine s_iald B (Or.inl hl1) d_Mo_cat_148 (fun v1 _ => ?_)
  refine s_iast B (Or.inl kd_101) d_Mo_cat_149 (fun M2 _ => ?_)
  refine s_iinc (w := (1:Int32)) B d_Mo_cat_150 rfl (by decide) (by decide) ?_
  refine s_iinc (w := (1:Int32)) B d_Mo_cat_153 rfl (by decide) (by decide) ?_
  refine s_goto B d_Mo_cat_156 rfl ?_
  refine s_pick (lv1 := [(0, .ref 97), (1, .ref l1), (2, .int l2), (3, .int l3), (4, .ref l4), (5, .int l5), (6, .int l6), (8, .int l8), (9, .int l9), (10, .int (l10 + (1:Int32))), (11, .int l11), (12, .int (l12 + (1:Int32)))]) [0, 1, 2, 3, 4, 5, 6, 8, 9, 10, 11, 12] rfl ?_
  exact hk103 l1 l2 l3 l4 l5 l6 l8 l9 (l10 + (1:Int32)) l11 (l12 + (1:Int32)) M2 hl1 hl4
set_option maxRecDepth 100000 in
set_option maxHeartbeats 4000000 in
theorem t_Mo_cat_103b {k103 : Nat × Int32 × Int32 × Nat × Int32 × Int32 × Int32 × Int32 × Int32 × Int32 × Int32 × MS → Option (MS × Int32)} (B : xB p R s m args meth c b_Mo_cat 13 R_Mo (Cond.code y_Mo_cat b_Mo_cat 13 (some .int) :: x_T) (some .int) 3 63 D x_cl (xty g) base) (hk103 : ∀ (l1 : Nat) (l2 : Int32) (l3 : Int32) (l4 : Nat) (l5 : Int32) (l6 : Int32) (l8 : Int32) (l9 : Int32) (l10 : Int32) (l11 : Int32) (l12 : Int32) (M : MS) (hl1 : x_kd l1 = 20) (hl4 : x_kd l4 = 20), Sn p l e R s m args below meth c 13 D x_cl base (xwd g) cM x_g0 az kz (xfc cM) (xZ below args s D x_cl (xty g) base (xwd g) cM x_g0 az kz ovI) 103 [] [(0, .ref 97), (1, .ref l1), (2, .int l2), (3, .int l3), (4, .ref l4), (5, .int l5), (6, .int l6), (8, .int l8), (9, .int l9), (10, .int l10), (11, .int l11), (12, .int l12)] M (k103 (l1, l2, l3, l4, l5, l6, l8, l9, l10, l11, l12, M))) (l1 : Nat) (l2 : Int32) (l3 : Int32) (l4 : Nat) (l5 : Int32) (l6 : Int32) (l8 : Int32) (l9 : Int32) (l10 : Int32) (l11 : Int32) (l12 : Int32) (M : MS) (hl1 : x_kd l1 = 20) (hl4 : x_kd l4 = 20) : Sn p l e R s m args below meth c 13 D x_cl base (xwd g) cM x_g0 az kz (xfc cM) (xZ below args s D x_cl (xty g) base (xwd g) cM x_g0 az kz ovI) 103 [] [(0, .ref 97), (1, .ref l1), (2, .int l2), (3, .int l3), (4, .ref l4), (5, .int l5), (6, .int l6), (8, .int l8), (9, .int l9), (10, .int l10), (11, .int l11), (12, .int l12)] M (m_Mo_cat_103b k103 l1 l2 l3 l4 l5 l6 l8 l9 l10 l11 l12 M) := by
  unfold m_Mo_cat_103b
  refine s_iload B d_Mo_cat_103 rfl ?_
  refine s_iload_n B d_Mo_cat_105 rfl ?_
  refine s_iload_n B d_Mo_cat_106 rfl ?_
  refine s_iadd B d_Mo_cat_107 ?_
  refine s_icmp_ge B d_Mo_cat_108 rfl (fun _ => ?_) (fun _ => ?_)
  · refine s_iload B d_Mo_cat_159 rfl ?_
    refine s_istore B d_Mo_cat_161 (by decide) ?_
    refine s_pick (lv1 := [(0, .ref 97), (4, .ref l4), (5, .int l5), (6, .int l6), (8, .int l8), (9, .int l9), (10, .int l10), (12, .int l5)]) [0, 4, 5, 6, 8, 9, 10, 12] rfl ?_
    exact t_Mo_cat_163 B l4 l5 l6 l8 l9 l10 l5 M hl4
  · refine s_iload B d_Mo_cat_111 rfl ?_
    refine s_if_ne B d_Mo_cat_113 rfl (fun _ => ?_) (fun _ => ?_)
    · refine s_iload B d_Mo_cat_159 rfl ?_
      refine s_istore B d_Mo_cat_161 (by decide) ?_
      refine s_pick (lv1 := [(0, .ref 97), (4, .ref l4), (5, .int l5), (6, .int l6), (8, .int l8), (9, .int l9), (10, .int l10), (12, .int l5)]) [0, 4, 5, 6, 8, 9, 10, 12] rfl ?_
      exact t_Mo_cat_163 B l4 l5 l6 l8 l9 l10 l5 M hl4
    · refine s_iload B d_Mo_cat_116 rfl ?_
      refine s_iload B d_Mo_cat_118 rfl ?_
      refine s_icmp_ne B d_Mo_cat_120 rfl (fun _ => ?_) (fun _ => ?_)
      · refine s_pick (lv1 := [(0, .ref 97), (1, .ref l1), (2, .int l2), (3, .int l3), (4, .ref l4), (5, .int l5), (6, .int l6), (8, .int l8), (9, .int l9), (10, .int l10), (11, .int l11), (12, .int l12)]) [0, 1, 2, 3, 4, 5, 6, 8, 9, 10, 11, 12] rfl ?_
        exact t_Mo_cat_139 B hk103 l1 l2 l3 l4 l5 l6 l8 l9 l10 l11 l12 M hl1 hl4
      · refine s_iload B d_Mo_cat_123 rfl ?_
        refine s_if_ne B d_Mo_cat_125 rfl (fun _ => ?_) (fun _ => ?_)
        · refine s_pick (lv1 := [(0, .ref 97), (1, .ref l1), (2, .int l2), (3, .int l3), (4, .ref l4), (5, .int l5), (6, .int l6), (8, .int l8), (9, .int l9), (10, .int l10), (11, .int l11), (12, .int l12)]) [0, 1, 2, 3, 4, 5, 6, 8, 9, 10, 11, 12] rfl ?_
          exact t_Mo_cat_139 B hk103 l1 l2 l3 l4 l5 l6 l8 l9 l10 l11 l12 M hl1 hl4
        · refine s_aload_n B d_Mo_cat_128 rfl ?_
          refine s_getS (k := 4) (n := 101) B xc_Mo kd_97 (by decide) rfl rfl fl_Mo_20 sr_97_4 d_Mo_cat_129 ?_
          refine s_iload B d_Mo_cat_132 rfl ?_
          refine s_iconst (v := (3:Int32)) B d_Mo_cat_134 (by decide) ?_
          refine s_iast B (Or.inl kd_101) d_Mo_cat_135 (fun M1 _ => ?_)
          refine s_iinc (w := (1:Int32)) B d_Mo_cat_136 rfl (by decide) (by decide) ?_
          refine s_pick (lv1 := [(0, .ref 97), (1, .ref l1), (2, .int l2), (3, .int l3), (4, .ref l4), (5, .int l5), (6, .int l6), (8, .int l8), (9, .int l9), (10, .int (l10 + (1:Int32))), (11, .int l11), (12, .int l12)]) [0, 1, 2, 3, 4, 5, 6, 8, 9, 10, 11, 12] rfl ?_
          exact t_Mo_cat_139 B hk103 l1 l2 l3 l4 l5 l6 l8 l9 (l10 + (1:Int32)) l11 l12 M1 hl1 hl4
set_option maxRecDepth 100000 in
set_option maxHeartbeats 4000000 in
theorem t_Mo_cat_103  (B : xB p R s m args meth c b_Mo_cat 13 R_Mo (Cond.code y_Mo_cat b_Mo_cat 13 (some .int) :: x_T) (some .int) 3 63 D x_cl (xty g) base)  (l1 : Nat) (l2 : Int32) (l3 : Int32) (l4 : Nat) (l5 : Int32) (l6 : Int32) (l8 : Int32) (l9 : Int32) (l10 : Int32) (l11 : Int32) (l12 : Int32) (M : MS) (hl1 : x_kd l1 = 20) (hl4 : x_kd l4 = 20) : Sn p l e R s m args below meth c 13 D x_cl base (xwd g) cM x_g0 az kz (xfc cM) (xZ below args s D x_cl (xty g) base (xwd g) cM x_g0 az kz ovI) 103 [] [(0, .ref 97), (1, .ref l1), (2, .int l2), (3, .int l3), (4, .ref l4), (5, .int l5), (6, .int l6), (8, .int l8), (9, .int l9), (10, .int l10), (11, .int l11), (12, .int l12)] M (m_Mo_cat_103 (l1, l2, l3, l4, l5, l6, l8, l9, l10, l11, l12, M)) := by
  have q : ∀ (F : Nat) (i : Nat × Int32 × Int32 × Nat × Int32 × Int32 × Int32 × Int32 × Int32 × Int32 × Int32 × MS), x_kd i.1 = 20 → x_kd i.2.2.2.1 = 20 → Sn p l e R s m args below meth c 13 D x_cl base (xwd g) cM x_g0 az kz (xfc cM) (xZ below args s D x_cl (xty g) base (xwd g) cM x_g0 az kz ovI) 103 [] [(0, .ref 97), (1, .ref i.1), (2, .int i.2.1), (3, .int i.2.2.1), (4, .ref i.2.2.2.1), (5, .int i.2.2.2.2.1), (6, .int i.2.2.2.2.2.1), (8, .int i.2.2.2.2.2.2.1), (9, .int i.2.2.2.2.2.2.2.1), (10, .int i.2.2.2.2.2.2.2.2.1), (11, .int i.2.2.2.2.2.2.2.2.2.1), (12, .int i.2.2.2.2.2.2.2.2.2.2.1)] i.2.2.2.2.2.2.2.2.2.2.2 (fx (fun (k : Nat × Int32 × Int32 × Nat × Int32 × Int32 × Int32 × Int32 × Int32 × Int32 × Int32 × MS → Option (MS × Int32)) (i : Nat × Int32 × Int32 × Nat × Int32 × Int32 × Int32 × Int32 × Int32 × Int32 × Int32 × MS) => m_Mo_cat_103b k i.1 i.2.1 i.2.2.1 i.2.2.2.1 i.2.2.2.2.1 i.2.2.2.2.2.1 i.2.2.2.2.2.2.1 i.2.2.2.2.2.2.2.1 i.2.2.2.2.2.2.2.2.1 i.2.2.2.2.2.2.2.2.2.1 i.2.2.2.2.2.2.2.2.2.2.1 i.2.2.2.2.2.2.2.2.2.2.2) F i) := by
    intro F
    induction F with
    | zero => intro i h0 h1; exact s_none
    | succ F ih => intro i h0 h1; exact t_Mo_cat_103b B  (fun l1 l2 l3 l4 l5 l6 l8 l9 l10 l11 l12 M h0 h1 => ih (l1, l2, l3, l4, l5, l6, l8, l9, l10, l11, l12, M) h0 h1) i.1 i.2.1 i.2.2.1 i.2.2.2.1 i.2.2.2.2.1 i.2.2.2.2.2.1 i.2.2.2.2.2.2.1 i.2.2.2.2.2.2.2.1 i.2.2.2.2.2.2.2.2.1 i.2.2.2.2.2.2.2.2.2.1 i.2.2.2.2.2.2.2.2.2.2.1 i.2.2.2.2.2.2.2.2.2.2.2 h0 h1
  exact q FU (l1, l2, l3, l4, l5, l6, l8, l9, l10, l11, l12, M) hl1 hl4
set_option maxRecDepth 100000 in
set_option maxHeartbeats 4000000 in
theorem t_Mo_cat_71b {k71 : Nat × Int32 × Int32 × Nat × Int32 × Int32 × Int32 × Int32 × Int32 × Int32 × MS → Option (MS × Int32)} (B : xB p R s m args meth c b_Mo_cat 13 R_Mo (Cond.code y_Mo_cat b_Mo_cat 13 (some .int) :: x_T) (some .int) 3 63 D x_cl (xty g) base) (hk71 : ∀ (l1 : Nat) (l2 : Int32) (l3 : Int32) (l4 : Nat) (l5 : Int32) (l6 : Int32) (l8 : Int32) (l9 : Int32) (l10 : Int32) (l11 : Int32) (M : MS) (hl1 : x_kd l1 = 20) (hl4 : x_kd l4 = 20), Sn p l e R s m args below meth c 13 D x_cl base (xwd g) cM x_g0 az kz (xfc cM) (xZ below args s D x_cl (xty g) base (xwd g) cM x_g0 az kz ovI) 71 [] [(0, .ref 97), (1, .ref l1), (2, .int l2), (3, .int l3), (4, .ref l4), (5, .int l5), (6, .int l6), (8, .int l8), (9, .int l9), (10, .int l10), (11, .int l11)] M (k71 (l1, l2, l3, l4, l5, l6, l8, l9, l10, l11, M))) (l1 : Nat) (l2 : Int32) (l3 : Int32) (l4 : Nat) (l5 : Int32) (l6 : Int32) (l8 : Int32) (l9 : Int32) (l10 : Int32) (l11 : Int32) (M : MS) (hl1 : x_kd l1 = 20) (hl4 : x_kd l4 = 20) : Sn p l e R s m args below meth c 13 D x_cl base (xwd g) cM x_g0 az kz (xfc cM) (xZ below args s D x_cl (xty g) base (xwd g) cM x_g0 az kz ovI) 71 [] [(0, .ref 97), (1, .ref l1), (2, .int l2), (3, .int l3), (4, .ref l4), (5, .int l5), (6, .int l6), (8, .int l8), (9, .int l9), (10, .int l10), (11, .int l11)] M (m_Mo_cat_71b k71 l1 l2 l3 l4 l5 l6 l8 l9 l10 l11 M) := by
  unfold m_Mo_cat_71b
  refine s_aload_n B d_Mo_cat_71 rfl ?_
  refine s_iload B d_Mo_cat_72 rfl ?_
  refine s_iald B (Or.inl hl1) d_Mo_cat_74 (fun v1 _ => ?_)
  refine s_pick (lv1 := [(0, .ref 97), (1, .ref l1), (2, .int l2), (3, .int l3), (4, .ref l4), (5, .int l5), (6, .int l6), (8, .int l8), (9, .int l9), (10, .int l10), (11, .int l11)]) [0, 1, 2, 3, 4, 5, 6, 8, 9, 10, 11] rfl ?_
  refine s_callI (av := [.int v1]) (rest := []) B (lk_S B d_Mo_cat_75 (gl_Mo_96 _) (List.mem_cons_of_mem _ st_Mo_sort) (List.mem_cons_of_mem _ in_Mo) (List.mem_cons_of_mem _ ml_Mo_96) rfl hs_Mo_sort (by decide) (by decide)) rfl x_rcS (fun _ _ => rfl) rfl rfl (by simp [Value.category]) rfl (fun r2 e9 => ct_Mo_sort _ _ r2 e9) (fun r2 _ => ?_)
  refine s_iconst (v := (3:Int32)) B d_Mo_cat_78 (by decide) ?_
  refine s_icmp_ne B d_Mo_cat_79 rfl (fun _ => ?_) (fun _ => ?_)
  · refine s_iload_n B d_Mo_cat_100 rfl ?_
    refine s_istore B d_Mo_cat_101 (by decide) ?_
    refine s_pick (lv1 := [(0, .ref 97), (1, .ref l1), (2, .int l2), (3, .int l3), (4, .ref l4), (5, .int l5), (6, .int l6), (8, .int l8), (9, .int l9), (10, .int l10), (11, .int l11), (12, .int l2)]) [0, 1, 2, 3, 4, 5, 6, 8, 9, 10, 11, 12] rfl ?_
    exact t_Mo_cat_103 B l1 l2 l3 l4 l5 l6 l8 l9 l10 l11 l2 r2.1 hl1 hl4
  · refine s_iload B d_Mo_cat_82 rfl ?_
    refine s_iconst (v := (1:Int32)) B d_Mo_cat_84 (by decide) ?_
    refine s_aload_n B d_Mo_cat_85 rfl ?_
    refine s_iload B d_Mo_cat_86 rfl ?_
    refine s_iconst (v := (1:Int32)) B d_Mo_cat_88 (by decide) ?_
    refine s_iadd B d_Mo_cat_89 ?_
    refine s_pick (lv1 := [(0, .ref 97), (1, .ref l1), (2, .int l2), (3, .int l3), (4, .ref l4), (5, .int l5), (6, .int l6), (8, .int l8), (9, .int l9), (10, .int l10)]) [0, 1, 2, 3, 4, 5, 6, 8, 9, 10] rfl ?_
    refine s_callI (av := [.ref l1, .int (l11 + (1:Int32))]) (rest := [.int (1:Int32), .int l11]) B (lk_S B d_Mo_cat_90 (gl_Mo_103 _) (List.mem_cons_of_mem _ st_Mo_length) (List.mem_cons_of_mem _ in_Mo) (List.mem_cons_of_mem _ ml_Mo_103) rfl hs_Mo_length (by decide) (by decide)) rfl x_rcS (fun _ _ => rfl) rfl rfl (by simp [Value.category]) rfl (fun r3 e9 => ct_Mo_length _ _ _ r3 e9) (fun r3 _ => ?_)
    refine s_iadd B d_Mo_cat_93 ?_
    refine s_iadd B d_Mo_cat_94 ?_
    refine s_istore B d_Mo_cat_95 (by decide) ?_
    refine s_goto B d_Mo_cat_97 rfl ?_
    refine s_pick (lv1 := [(0, .ref 97), (1, .ref l1), (2, .int l2), (3, .int l3), (4, .ref l4), (5, .int l5), (6, .int l6), (8, .int l8), (9, .int l9), (10, .int l10), (11, .int (l11 + ((1:Int32) + r3.2)))]) [0, 1, 2, 3, 4, 5, 6, 8, 9, 10, 11] rfl ?_
    exact hk71 l1 l2 l3 l4 l5 l6 l8 l9 l10 (l11 + ((1:Int32) + r3.2)) r3.1 hl1 hl4
set_option maxRecDepth 100000 in
set_option maxHeartbeats 4000000 in
theorem t_Mo_cat_71  (B : xB p R s m args meth c b_Mo_cat 13 R_Mo (Cond.code y_Mo_cat b_Mo_cat 13 (some .int) :: x_T) (some .int) 3 63 D x_cl (xty g) base)  (l1 : Nat) (l2 : Int32) (l3 : Int32) (l4 : Nat) (l5 : Int32) (l6 : Int32) (l8 : Int32) (l9 : Int32) (l10 : Int32) (l11 : Int32) (M : MS) (hl1 : x_kd l1 = 20) (hl4 : x_kd l4 = 20) : Sn p l e R s m args below meth c 13 D x_cl base (xwd g) cM x_g0 az kz (xfc cM) (xZ below args s D x_cl (xty g) base (xwd g) cM x_g0 az kz ovI) 71 [] [(0, .ref 97), (1, .ref l1), (2, .int l2), (3, .int l3), (4, .ref l4), (5, .int l5), (6, .int l6), (8, .int l8), (9, .int l9), (10, .int l10), (11, .int l11)] M (m_Mo_cat_71 (l1, l2, l3, l4, l5, l6, l8, l9, l10, l11, M)) := by
  have q : ∀ (F : Nat) (i : Nat × Int32 × Int32 × Nat × Int32 × Int32 × Int32 × Int32 × Int32 × Int32 × MS), x_kd i.1 = 20 → x_kd i.2.2.2.1 = 20 → Sn p l e R s m args below meth c 13 D x_cl base (xwd g) cM x_g0 az kz (xfc cM) (xZ below args s D x_cl (xty g) base (xwd g) cM x_g0 az kz ovI) 71 [] [(0, .ref 97), (1, .ref i.1), (2, .int i.2.1), (3, .int i.2.2.1), (4, .ref i.2.2.2.1), (5, .int i.2.2.2.2.1), (6, .int i.2.2.2.2.2.1), (8, .int i.2.2.2.2.2.2.1), (9, .int i.2.2.2.2.2.2.2.1), (10, .int i.2.2.2.2.2.2.2.2.1), (11, .int i.2.2.2.2.2.2.2.2.2.1)] i.2.2.2.2.2.2.2.2.2.2 (fx (fun (k : Nat × Int32 × Int32 × Nat × Int32 × Int32 × Int32 × Int32 × Int32 × Int32 × MS → Option (MS × Int32)) (i : Nat × Int32 × Int32 × Nat × Int32 × Int32 × Int32 × Int32 × Int32 × Int32 × MS) => m_Mo_cat_71b k i.1 i.2.1 i.2.2.1 i.2.2.2.1 i.2.2.2.2.1 i.2.2.2.2.2.1 i.2.2.2.2.2.2.1 i.2.2.2.2.2.2.2.1 i.2.2.2.2.2.2.2.2.1 i.2.2.2.2.2.2.2.2.2.1 i.2.2.2.2.2.2.2.2.2.2) F i) := by
    intro F
    induction F with
    | zero => intro i h0 h1; exact s_none
    | succ F ih => intro i h0 h1; exact t_Mo_cat_71b B  (fun l1 l2 l3 l4 l5 l6 l8 l9 l10 l11 M h0 h1 => ih (l1, l2, l3, l4, l5, l6, l8, l9, l10, l11, M) h0 h1) i.1 i.2.1 i.2.2.1 i.2.2.2.1 i.2.2.2.2.1 i.2.2.2.2.2.1 i.2.2.2.2.2.2.1 i.2.2.2.2.2.2.2.1 i.2.2.2.2.2.2.2.2.1 i.2.2.2.2.2.2.2.2.2.1 i.2.2.2.2.2.2.2.2.2.2 h0 h1
  exact q FU (l1, l2, l3, l4, l5, l6, l8, l9, l10, l11, M) hl1 hl4
set_option maxRecDepth 100000 in
set_option maxHeartbeats 4000000 in
theorem t_Mo_cat_49  (B : xB p R s m args meth c b_Mo_cat 13 R_Mo (Cond.code y_Mo_cat b_Mo_cat 13 (some .int) :: x_T) (some .int) 3 63 D x_cl (xty g) base)  (l1 : Nat) (l2 : Int32) (l3 : Int32) (l4 : Nat) (l5 : Int32) (l6 : Int32) (s0 : Int32) (M : MS) (hl1 : x_kd l1 = 20) (hl4 : x_kd l4 = 20) : Sn p l e R s m args below meth c 13 D x_cl base (xwd g) cM x_g0 az kz (xfc cM) (xZ below args s D x_cl (xty g) base (xwd g) cM x_g0 az kz ovI) 49 [.int s0] [(0, .ref 97), (1, .ref l1), (2, .int l2), (3, .int l3), (4, .ref l4), (5, .int l5), (6, .int l6)] M (m_Mo_cat_49 l1 l2 l3 l4 l5 l6 s0 M) := by
  unfold m_Mo_cat_49
  refine s_istore B d_Mo_cat_49 (by decide) ?_
  refine s_aload_n B d_Mo_cat_51 rfl ?_
  refine s_iload_n B d_Mo_cat_52 rfl ?_
  refine s_iald B (Or.inl hl1) d_Mo_cat_53 (fun v1 _ => ?_)
  refine s_iconst (v := (1:Int32)) B d_Mo_cat_54 (by decide) ?_
  refine s_icmp_ne B d_Mo_cat_55 rfl (fun _ => ?_) (fun _ => ?_)
  · refine s_iconst (v := (0:Int32)) B d_Mo_cat_62 (by decide) ?_
    refine s_istore B d_Mo_cat_63 (by decide) ?_
    refine s_iconst (v := (0:Int32)) B d_Mo_cat_65 (by decide) ?_
    refine s_istore B d_Mo_cat_66 (by decide) ?_
    refine s_iload_n B d_Mo_cat_68 rfl ?_
    refine s_istore B d_Mo_cat_69 (by decide) ?_
    refine s_pick (lv1 := [(0, .ref 97), (1, .ref l1), (2, .int l2), (3, .int l3), (4, .ref l4), (5, .int l5), (6, .int l6), (8, .int s0), (9, .int (0:Int32)), (10, .int (0:Int32)), (11, .int l2)]) [0, 1, 2, 3, 4, 5, 6, 8, 9, 10, 11] rfl ?_
    exact t_Mo_cat_71 B l1 l2 l3 l4 l5 l6 s0 (0:Int32) (0:Int32) l2 M hl1 hl4
  · refine s_iconst (v := (1:Int32)) B d_Mo_cat_58 (by decide) ?_
    refine s_goto B d_Mo_cat_59 rfl ?_
    refine s_istore B d_Mo_cat_63 (by decide) ?_
    refine s_iconst (v := (0:Int32)) B d_Mo_cat_65 (by decide) ?_
    refine s_istore B d_Mo_cat_66 (by decide) ?_
    refine s_iload_n B d_Mo_cat_68 rfl ?_
    refine s_istore B d_Mo_cat_69 (by decide) ?_
    refine s_pick (lv1 := [(0, .ref 97), (1, .ref l1), (2, .int l2), (3, .int l3), (4, .ref l4), (5, .int l5), (6, .int l6), (8, .int s0), (9, .int (1:Int32)), (10, .int (0:Int32)), (11, .int l2)]) [0, 1, 2, 3, 4, 5, 6, 8, 9, 10, 11] rfl ?_
    exact t_Mo_cat_71 B l1 l2 l3 l4 l5 l6 s0 (1:Int32) (0:Int32) l2 M hl1 hl4
set_option maxRecDepth 100000 in
set_option maxHeartbeats 4000000 in
theorem t_Mo_cat_19  (B : xB p R s m args meth c b_Mo_cat 13 R_Mo (Cond.code y_Mo_cat b_Mo_cat 13 (some .int) :: x_T) (some .int) 3 63 D x_cl (xty g) base)  (l1 : Nat) (l2 : Int32) (l3 : Int32) (l4 : Nat) (l5 : Int32) (l6 : Int32) (s0 : Int32) (M : MS) (hl1 : x_kd l1 = 20) (hl4 : x_kd l4 = 20) : Sn p l e R s m args below meth c 13 D x_cl base (xwd g) cM x_g0 az kz (xfc cM) (xZ below args s D x_cl (xty g) base (xwd g) cM x_g0 az kz ovI) 19 [.int s0] [(0, .ref 97), (1, .ref l1), (2, .int l2), (3, .int l3), (4, .ref l4), (5, .int l5), (6, .int l6)] M (m_Mo_cat_19 l1 l2 l3 l4 l5 l6 s0 M) := by
  unfold m_Mo_cat_19
  refine s_istore B d_Mo_cat_19 (by decide) ?_
  refine s_iload B d_Mo_cat_21 rfl ?_
  refine s_if_eq B d_Mo_cat_23 rfl (fun _ => ?_) (fun _ => ?_)
  · refine s_aload B d_Mo_cat_35 rfl ?_
    refine s_iload B d_Mo_cat_37 rfl ?_
    refine s_iald B (Or.inl hl4) d_Mo_cat_39 (fun v1 _ => ?_)
    refine s_iconst (v := (1:Int32)) B d_Mo_cat_40 (by decide) ?_
    refine s_icmp_ne B d_Mo_cat_41 rfl (fun _ => ?_) (fun _ => ?_)
    · refine s_iconst (v := (0:Int32)) B d_Mo_cat_48 (by decide) ?_
      refine s_pick (lv1 := [(0, .ref 97), (1, .ref l1), (2, .int l2), (3, .int l3), (4, .ref l4), (5, .int l5), (6, .int l6)]) [0, 1, 2, 3, 4, 5, 6] rfl ?_
      exact t_Mo_cat_49 B l1 l2 l3 l4 l5 l6 (0:Int32) M hl1 hl4
    · refine s_iconst (v := (1:Int32)) B d_Mo_cat_44 (by decide) ?_
      refine s_goto B d_Mo_cat_45 rfl ?_
      refine s_pick (lv1 := [(0, .ref 97), (1, .ref l1), (2, .int l2), (3, .int l3), (4, .ref l4), (5, .int l5), (6, .int l6)]) [0, 1, 2, 3, 4, 5, 6] rfl ?_
      exact t_Mo_cat_49 B l1 l2 l3 l4 l5 l6 (1:Int32) M hl1 hl4
  · refine s_aload_n B d_Mo_cat_26 rfl ?_
    refine s_getS (k := 4) (n := 101) B xc_Mo kd_97 (by decide) rfl rfl fl_Mo_20 sr_97_4 d_Mo_cat_27 ?_
    refine s_iconst (v := (0:Int32)) B d_Mo_cat_30 (by decide) ?_
    refine s_iconst (v := (0:Int32)) B d_Mo_cat_31 (by decide) ?_
    refine s_iast B (Or.inl kd_101) d_Mo_cat_32 (fun M2 _ => ?_)
    refine s_iconst (v := (1:Int32)) B d_Mo_cat_33 (by decide) ?_
    exact s_iret B d_Mo_cat_34
set_option maxRecDepth 100000 in
set_option maxHeartbeats 4000000 in
theorem t_Mo_cat_14  (B : xB p R s m args meth c b_Mo_cat 13 R_Mo (Cond.code y_Mo_cat b_Mo_cat 13 (some .int) :: x_T) (some .int) 3 63 D x_cl (xty g) base)  (l1 : Nat) (l2 : Int32) (l3 : Int32) (l4 : Nat) (l5 : Int32) (l6 : Int32) (M : MS) (hl1 : x_kd l1 = 20) (hl4 : x_kd l4 = 20) : Sn p l e R s m args below meth c 13 D x_cl base (xwd g) cM x_g0 az kz (xfc cM) (xZ below args s D x_cl (xty g) base (xwd g) cM x_g0 az kz ovI) 14 [] [(0, .ref 97), (1, .ref l1), (2, .int l2), (3, .int l3), (4, .ref l4), (5, .int l5), (6, .int l6)] M (m_Mo_cat_14 l1 l2 l3 l4 l5 l6 M) := by
  unfold m_Mo_cat_14
  refine s_iconst (v := (1:Int32)) B d_Mo_cat_14 (by decide) ?_
  refine s_goto B d_Mo_cat_15 rfl ?_
  refine s_pick (lv1 := [(0, .ref 97), (1, .ref l1), (2, .int l2), (3, .int l3), (4, .ref l4), (5, .int l5), (6, .int l6)]) [0, 1, 2, 3, 4, 5, 6] rfl ?_
  exact t_Mo_cat_19 B l1 l2 l3 l4 l5 l6 (1:Int32) M hl1 hl4
set_option maxRecDepth 100000 in
set_option maxHeartbeats 4000000 in
theorem t_Mo_cat (B : xB p R s m args meth c b_Mo_cat 13 R_Mo (Cond.code y_Mo_cat b_Mo_cat 13 (some .int) :: x_T) (some .int) 3 63 D x_cl (xty g) base) (a1 : Nat) (a2 : Int32) (a3 : Int32) (a4 : Nat) (a5 : Int32) (a6 : Int32) (M : MS) : Sn p l e R s m args below meth c 13 D x_cl base (xwd g) cM x_g0 az kz (xfc cM) (xZ below args s D x_cl (xty g) base (xwd g) cM x_g0 az kz ovI) 0 [] [(0, .ref 97), (1, .ref a1), (2, .int a2), (3, .int a3), (4, .ref a4), (5, .int a5), (6, .int a6)] M (m_Mo_cat a1 a2 a3 a4 a5 a6 M) := by
  unfold m_Mo_cat
  refine s_guard (fun ha1 => ?_)
  refine s_guard (fun ha4 => ?_)
  refine s_aload_n B d_Mo_cat_0 rfl ?_
  refine s_iload_n B d_Mo_cat_1 rfl ?_
  refine s_iald B (Or.inl ha1) d_Mo_cat_2 (fun v1 _ => ?_)
  refine s_if_eq B d_Mo_cat_3 rfl (fun _ => ?_) (fun _ => ?_)
  · refine s_pick (lv1 := [(0, .ref 97), (1, .ref a1), (2, .int a2), (3, .int a3), (4, .ref a4), (5, .int a5), (6, .int a6)]) [0, 1, 2, 3, 4, 5, 6] rfl ?_
    exact t_Mo_cat_14 B a1 a2 a3 a4 a5 a6 M ha1 ha4
  · refine s_aload B d_Mo_cat_6 rfl ?_
    refine s_iload B d_Mo_cat_8 rfl ?_
    refine s_iald B (Or.inl ha4) d_Mo_cat_10 (fun v2 _ => ?_)
    refine s_if_ne B d_Mo_cat_11 rfl (fun _ => ?_) (fun _ => ?_)
    · refine s_iconst (v := (0:Int32)) B d_Mo_cat_18 (by decide) ?_
      refine s_pick (lv1 := [(0, .ref 97), (1, .ref a1), (2, .int a2), (3, .int a3), (4, .ref a4), (5, .int a5), (6, .int a6)]) [0, 1, 2, 3, 4, 5, 6] rfl ?_
      exact t_Mo_cat_19 B a1 a2 a3 a4 a5 a6 (0:Int32) M ha1 ha4
    · refine s_pick (lv1 := [(0, .ref 97), (1, .ref a1), (2, .int a2), (3, .int a3), (4, .ref a4), (5, .int a5), (6, .int a6)]) [0, 1, 2, 3, 4, 5, 6] rfl ?_
      exact t_Mo_cat_14 B a1 a2 a3 a4 a5 a6 M ha1 ha4
set_option maxRecDepth 100000 in
set_option maxHeartbeats 4000000 in
theorem ct_Mo_cat {l : Launch} {D : va_G} {base : Nat} {g : Nat → ClassId} (a1 : Nat) (a2 : Int32) (a3 : Int32) (a4 : Nat) (a5 : Int32) (a6 : Int32) (M : MS) (r : MS × Int32) (hr : m_Mo_cat a1 a2 a3 a4 a5 a6 M = some r) : Ct l y_Mo_cat (Cond.code y_Mo_cat b_Mo_cat 13 (some .int) :: x_T) 3 63 D x_cl (xty g) base (xwd g) cM x_g0 [.ref 97, .ref a1, .int a2, .int a3, .ref a4, .int a5, .int a6] M r.1 (ovI r.2) :=
  x_met (ov := ovI) (by decide) (Nat.le_of_ble_eq_true rfl) (fun p e R s m args below meth c az B => t_Mo_cat B a1 a2 a3 a4 a5 a6 M) r hr
end
theorem d_Mo_part_0 : decode b_Mo_part 0 = .ok (.iload_n 1, 1) := by decide +kernel
theorem d_Mo_part_1 : decode b_Mo_part 1 = .ok (.istore 4, 2) := by decide +kernel
theorem d_Mo_part_3 : decode b_Mo_part 3 = .ok (.aload_n 0, 1) := by decide +kernel
theorem d_Mo_part_4 : decode b_Mo_part 4 = .ok (.getfield 17, 3) := by decide +kernel
theorem d_Mo_part_7 : decode b_Mo_part 7 = .ok (.iload_n 1, 1) := by decide +kernel
theorem d_Mo_part_8 : decode b_Mo_part 8 = .ok (.iaload, 1) := by decide +kernel
theorem d_Mo_part_9 : decode b_Mo_part 9 = .ok (.invokestatic 96, 3) := by decide +kernel
theorem d_Mo_part_12 : decode b_Mo_part 12 = .ok (.iload_n 3, 1) := by decide +kernel
theorem d_Mo_part_13 : decode b_Mo_part 13 = .ok (.if_icmp .ne (7), 3) := by decide +kernel
theorem d_Mo_part_16 : decode b_Mo_part 16 = .ok (.iconst (1), 1) := by decide +kernel
theorem d_Mo_part_17 : decode b_Mo_part 17 = .ok (.goto (4), 3) := by decide +kernel
theorem d_Mo_part_20 : decode b_Mo_part 20 = .ok (.iconst (0), 1) := by decide +kernel
theorem d_Mo_part_21 : decode b_Mo_part 21 = .ok (.istore 5, 2) := by decide +kernel
theorem d_Mo_part_23 : decode b_Mo_part 23 = .ok (.iload 5, 2) := by decide +kernel
theorem d_Mo_part_25 : decode b_Mo_part 25 = .ok (.ifCond .eq (6), 3) := by decide +kernel
theorem d_Mo_part_28 : decode b_Mo_part 28 = .ok (.iinc 4 (1), 3) := by decide +kernel
theorem d_Mo_part_31 : decode b_Mo_part 31 = .ok (.iload 4, 2) := by decide +kernel
theorem d_Mo_part_33 : decode b_Mo_part 33 = .ok (.iload_n 1, 1) := by decide +kernel
theorem d_Mo_part_34 : decode b_Mo_part 34 = .ok (.iload_n 2, 1) := by decide +kernel
theorem d_Mo_part_35 : decode b_Mo_part 35 = .ok (.iadd, 1) := by decide +kernel
theorem d_Mo_part_36 : decode b_Mo_part 36 = .ok (.if_icmp .ge (68), 3) := by decide +kernel
theorem d_Mo_part_39 : decode b_Mo_part 39 = .ok (.aload_n 0, 1) := by decide +kernel
theorem d_Mo_part_40 : decode b_Mo_part 40 = .ok (.getfield 36, 3) := by decide +kernel
theorem d_Mo_part_43 : decode b_Mo_part 43 = .ok (.aload_n 0, 1) := by decide +kernel
theorem d_Mo_part_44 : decode b_Mo_part 44 = .ok (.getfield 107, 3) := by decide +kernel
theorem d_Mo_part_47 : decode b_Mo_part 47 = .ok (.iload 4, 2) := by decide +kernel
theorem d_Mo_part_49 : decode b_Mo_part 49 = .ok (.iastore, 1) := by decide +kernel
theorem d_Mo_part_50 : decode b_Mo_part 50 = .ok (.aload_n 0, 1) := by decide +kernel
theorem d_Mo_part_51 : decode b_Mo_part 51 = .ok (.getfield 39, 3) := by decide +kernel
theorem d_Mo_part_54 : decode b_Mo_part 54 = .ok (.aload_n 0, 1) := by decide +kernel
theorem d_Mo_part_55 : decode b_Mo_part 55 = .ok (.getfield 107, 3) := by decide +kernel
theorem d_Mo_part_58 : decode b_Mo_part 58 = .ok (.iload 5, 2) := by decide +kernel
theorem d_Mo_part_60 : decode b_Mo_part 60 = .ok (.ifCond .eq (15), 3) := by decide +kernel
theorem d_Mo_part_63 : decode b_Mo_part 63 = .ok (.aload_n 0, 1) := by decide +kernel
theorem d_Mo_part_64 : decode b_Mo_part 64 = .ok (.getfield 17, 3) := by decide +kernel
theorem d_Mo_part_67 : decode b_Mo_part 67 = .ok (.iload 4, 2) := by decide +kernel
theorem d_Mo_part_69 : decode b_Mo_part 69 = .ok (.invokestatic 103, 3) := by decide +kernel
theorem d_Mo_part_72 : decode b_Mo_part 72 = .ok (.goto (4), 3) := by decide +kernel
theorem d_Mo_part_75 : decode b_Mo_part 75 = .ok (.iload_n 2, 1) := by decide +kernel
theorem d_Mo_part_76 : decode b_Mo_part 76 = .ok (.iastore, 1) := by decide +kernel
theorem d_Mo_part_77 : decode b_Mo_part 77 = .ok (.iload 4, 2) := by decide +kernel
theorem d_Mo_part_79 : decode b_Mo_part 79 = .ok (.aload_n 0, 1) := by decide +kernel
theorem d_Mo_part_80 : decode b_Mo_part 80 = .ok (.getfield 39, 3) := by decide +kernel
theorem d_Mo_part_83 : decode b_Mo_part 83 = .ok (.aload_n 0, 1) := by decide +kernel
theorem d_Mo_part_84 : decode b_Mo_part 84 = .ok (.getfield 107, 3) := by decide +kernel
theorem d_Mo_part_87 : decode b_Mo_part 87 = .ok (.iaload, 1) := by decide +kernel
theorem d_Mo_part_88 : decode b_Mo_part 88 = .ok (.iadd, 1) := by decide +kernel
theorem d_Mo_part_89 : decode b_Mo_part 89 = .ok (.istore 4, 2) := by decide +kernel
theorem d_Mo_part_91 : decode b_Mo_part 91 = .ok (.aload_n 0, 1) := by decide +kernel
theorem d_Mo_part_92 : decode b_Mo_part 92 = .ok (.dup, 1) := by decide +kernel
theorem d_Mo_part_93 : decode b_Mo_part 93 = .ok (.getfield 107, 3) := by decide +kernel
theorem d_Mo_part_96 : decode b_Mo_part 96 = .ok (.iconst (1), 1) := by decide +kernel
theorem d_Mo_part_97 : decode b_Mo_part 97 = .ok (.iadd, 1) := by decide +kernel
theorem d_Mo_part_98 : decode b_Mo_part 98 = .ok (.putfield 107, 3) := by decide +kernel
theorem d_Mo_part_101 : decode b_Mo_part 101 = .ok (.goto (-70), 3) := by decide +kernel
theorem d_Mo_part_104 : decode b_Mo_part 104 = .ok (.return_, 1) := by decide +kernel
section
variable {p : Program} {l : Launch} {e : Env} {R : Room} {s : State} {m : MethodId} {args : Array Value} {below : List Frame} {meth : Method} {c : Code} {D : va_G} {base : Nat} {g : Nat → ClassId} {az : Nat → Nat} {kz : Nat × Nat}
set_option maxRecDepth 100000 in
set_option maxHeartbeats 4000000 in
theorem t_Mo_part_76 {k31 : Int32 × Int32 × Int32 × Int32 × MS → Option (MS × Unit)} (B : xB p R s m args meth c b_Mo_part 6 R_Mo (Cond.code y_Mo_part b_Mo_part 6 none :: x_T) none 3 63 D x_cl (xty g) base) (hk31 : ∀ (l1 : Int32) (l2 : Int32) (l4 : Int32) (l5 : Int32) (M : MS) , Sn p l e R s m args below meth c 6 D x_cl base (xwd g) cM x_g0 az kz (xfc cM) (xZ below args s D x_cl (xty g) base (xwd g) cM x_g0 az kz ovU) 31 [] [(0, .ref 97), (1, .int l1), (2, .int l2), (4, .int l4), (5, .int l5)] M (k31 (l1, l2, l4, l5, M))) (l1 : Int32) (l2 : Int32) (l4 : Int32) (l5 : Int32) (s1 : Int32) (s2 : Int32) (M : MS)  : Sn p l e R s m args below meth c 6 D x_cl base (xwd g) cM x_g0 az kz (xfc cM) (xZ below args s D x_cl (xty g) base (xwd g) cM x_g0 az kz ovU) 76 [.int s2, .int s1, .ref 107] [(0, .ref 97), (1, .int l1), (2, .int l2), (4, .int l4), (5, .int l5)] M (m_Mo_part_76 k31 l1 l2 l4 l5 s1 s2 M) := by
  unfold m_Mo_part_76
  refine s_iast B (Or.inl kd_107) d_Mo_part_76 (fun M1 _ => ?_)
  refine s_iload B d_Mo_part_77 rfl ?_
  refine s_aload_n B d_Mo_part_79 rfl ?_
  refine s_getS (k := 12) (n := 107) B xc_Mo kd_97 (by decide) rfl rfl fl_Mo_39 sr_97_12 d_Mo_part_80 ?_
  refine s_aload_n B d_Mo_part_83 rfl ?_
  refine s_getI (k := 13) B xc_Mo kd_97 (by decide) rfl rfl fl_Mo_107 d_Mo_part_84 ?_
  refine s_iald B (Or.inl kd_107) d_Mo_part_87 (fun v2 _ => ?_)
  refine s_iadd B d_Mo_part_88 ?_
  refine s_istore B d_Mo_part_89 (by decide) ?_
  refine s_aload_n B d_Mo_part_91 rfl ?_
  refine s_dup B d_Mo_part_92 rfl ?_
  refine s_getI (k := 13) B xc_Mo kd_97 (by decide) rfl rfl fl_Mo_107 d_Mo_part_93 ?_
  refine s_iconst (v := (1:Int32)) B d_Mo_part_96 (by decide) ?_
  refine s_iadd B d_Mo_part_97 ?_
  refine s_putI (k := 13) (ty := .int) B xc_Mo kd_97 (by decide) rfl rfl fl_Mo_107 rfl rfl rfl rfl d_Mo_part_98 (fun M3 _ => ?_)
  refine s_goto B d_Mo_part_101 rfl ?_
  refine s_pick (lv1 := [(0, .ref 97), (1, .int l1), (2, .int l2), (4, .int (l4 + v2)), (5, .int l5)]) [0, 1, 2, 4, 5] rfl ?_
  exact hk31 l1 l2 (l4 + v2) l5 M3
set_option maxRecDepth 100000 in
set_option maxHeartbeats 4000000 in
theorem t_Mo_part_31b {k31 : Int32 × Int32 × Int32 × Int32 × MS → Option (MS × Unit)} (B : xB p R s m args meth c b_Mo_part 6 R_Mo (Cond.code y_Mo_part b_Mo_part 6 none :: x_T) none 3 63 D x_cl (xty g) base) (hk31 : ∀ (l1 : Int32) (l2 : Int32) (l4 : Int32) (l5 : Int32) (M : MS) , Sn p l e R s m args below meth c 6 D x_cl base (xwd g) cM x_g0 az kz (xfc cM) (xZ below args s D x_cl (xty g) base (xwd g) cM x_g0 az kz ovU) 31 [] [(0, .ref 97), (1, .int l1), (2, .int l2), (4, .int l4), (5, .int l5)] M (k31 (l1, l2, l4, l5, M))) (l1 : Int32) (l2 : Int32) (l4 : Int32) (l5 : Int32) (M : MS)  : Sn p l e R s m args below meth c 6 D x_cl base (xwd g) cM x_g0 az kz (xfc cM) (xZ below args s D x_cl (xty g) base (xwd g) cM x_g0 az kz ovU) 31 [] [(0, .ref 97), (1, .int l1), (2, .int l2), (4, .int l4), (5, .int l5)] M (m_Mo_part_31b k31 l1 l2 l4 l5 M) := by
  unfold m_Mo_part_31b
  refine s_iload B d_Mo_part_31 rfl ?_
  refine s_iload_n B d_Mo_part_33 rfl ?_
  refine s_iload_n B d_Mo_part_34 rfl ?_
  refine s_iadd B d_Mo_part_35 ?_
  refine s_icmp_ge B d_Mo_part_36 rfl (fun _ => ?_) (fun _ => ?_)
  · exact s_vret B d_Mo_part_104
  · refine s_aload_n B d_Mo_part_39 rfl ?_
    refine s_getS (k := 11) (n := 106) B xc_Mo kd_97 (by decide) rfl rfl fl_Mo_36 sr_97_11 d_Mo_part_40 ?_
    refine s_aload_n B d_Mo_part_43 rfl ?_
    refine s_getI (k := 13) B xc_Mo kd_97 (by decide) rfl rfl fl_Mo_107 d_Mo_part_44 ?_
    refine s_iload B d_Mo_part_47 rfl ?_
    refine s_iast B (Or.inl kd_106) d_Mo_part_49 (fun M1 _ => ?_)
    refine s_aload_n B d_Mo_part_50 rfl ?_
    refine s_getS (k := 12) (n := 107) B xc_Mo kd_97 (by decide) rfl rfl fl_Mo_39 sr_97_12 d_Mo_part_51 ?_
    refine s_aload_n B d_Mo_part_54 rfl ?_
    refine s_getI (k := 13) B xc_Mo kd_97 (by decide) rfl rfl fl_Mo_107 d_Mo_part_55 ?_
    refine s_iload B d_Mo_part_58 rfl ?_
    refine s_if_eq B d_Mo_part_60 rfl (fun _ => ?_) (fun _ => ?_)
    · refine s_iload_n B d_Mo_part_75 rfl ?_
      refine s_pick (lv1 := [(0, .ref 97), (1, .int l1), (2, .int l2), (4, .int l4), (5, .int l5)]) [0, 1, 2, 4, 5] rfl ?_
      exact t_Mo_part_76 B hk31 l1 l2 l4 l5 (gI M1 97 13) l2 M1
    · refine s_aload_n B d_Mo_part_63 rfl ?_
      refine s_getS (k := 3) (n := 100) B xc_Mo kd_97 (by decide) rfl rfl fl_Mo_17 sr_97_3 d_Mo_part_64 ?_
      refine s_iload B d_Mo_part_67 rfl ?_
      refine s_pick (lv1 := [(0, .ref 97), (1, .int l1), (2, .int l2), (4, .int l4), (5, .int l5)]) [0, 1, 2, 4, 5] rfl ?_
      refine s_callI (av := [.ref 100, .int l4]) (rest := [.int (gI M1 97 13), .ref 107]) B (lk_S B d_Mo_part_69 (gl_Mo_103 _) (List.mem_cons_of_mem _ st_Mo_length) (List.mem_cons_of_mem _ in_Mo) (List.mem_cons_of_mem _ ml_Mo_103) rfl hs_Mo_length (by decide) (by decide)) rfl x_rcS (fun _ _ => rfl) rfl rfl (by simp [Value.category]) rfl (fun r2 e9 => ct_Mo_length _ _ _ r2 e9) (fun r2 _ => ?_)
      refine s_goto B d_Mo_part_72 rfl ?_
      refine s_pick (lv1 := [(0, .ref 97), (1, .int l1), (2, .int l2), (4, .int l4), (5, .int l5)]) [0, 1, 2, 4, 5] rfl ?_
      exact t_Mo_part_76 B hk31 l1 l2 l4 l5 (gI M1 97 13) r2.2 r2.1
set_option maxRecDepth 100000 in
set_option maxHeartbeats 4000000 in
theorem t_Mo_part_31  (B : xB p R s m args meth c b_Mo_part 6 R_Mo (Cond.code y_Mo_part b_Mo_part 6 none :: x_T) none 3 63 D x_cl (xty g) base)  (l1 : Int32) (l2 : Int32) (l4 : Int32) (l5 : Int32) (M : MS)  : Sn p l e R s m args below meth c 6 D x_cl base (xwd g) cM x_g0 az kz (xfc cM) (xZ below args s D x_cl (xty g) base (xwd g) cM x_g0 az kz ovU) 31 [] [(0, .ref 97), (1, .int l1), (2, .int l2), (4, .int l4), (5, .int l5)] M (m_Mo_part_31 (l1, l2, l4, l5, M)) := by
  have q : ∀ (F : Nat) (i : Int32 × Int32 × Int32 × Int32 × MS), Sn p l e R s m args below meth c 6 D x_cl base (xwd g) cM x_g0 az kz (xfc cM) (xZ below args s D x_cl (xty g) base (xwd g) cM x_g0 az kz ovU) 31 [] [(0, .ref 97), (1, .int i.1), (2, .int i.2.1), (4, .int i.2.2.1), (5, .int i.2.2.2.1)] i.2.2.2.2 (fx (fun (k : Int32 × Int32 × Int32 × Int32 × MS → Option (MS × Unit)) (i : Int32 × Int32 × Int32 × Int32 × MS) => m_Mo_part_31b k i.1 i.2.1 i.2.2.1 i.2.2.2.1 i.2.2.2.2) F i) := by
    intro F
    induction F with
    | zero => intro i ; exact s_none
    | succ F ih => intro i ; exact t_Mo_part_31b B  (fun l1 l2 l4 l5 M  => ih (l1, l2, l4, l5, M) ) i.1 i.2.1 i.2.2.1 i.2.2.2.1 i.2.2.2.2 
  exact q FU (l1, l2, l4, l5, M) 
set_option maxRecDepth 100000 in
set_option maxHeartbeats 4000000 in
theorem t_Mo_part_21  (B : xB p R s m args meth c b_Mo_part 6 R_Mo (Cond.code y_Mo_part b_Mo_part 6 none :: x_T) none 3 63 D x_cl (xty g) base)  (l1 : Int32) (l2 : Int32) (l4 : Int32) (s0 : Int32) (M : MS)  : Sn p l e R s m args below meth c 6 D x_cl base (xwd g) cM x_g0 az kz (xfc cM) (xZ below args s D x_cl (xty g) base (xwd g) cM x_g0 az kz ovU) 21 [.int s0] [(0, .ref 97), (1, .int l1), (2, .int l2), (4, .int l4)] M (m_Mo_part_21 l1 l2 l4 s0 M) := by
  unfold m_Mo_part_21
  refine s_istore B d_Mo_part_21 (by decide) ?_
  refine s_iload B d_Mo_part_23 rfl ?_
  refine s_if_eq B d_Mo_part_25 rfl (fun _ => ?_) (fun _ => ?_)
  · refine s_pick (lv1 := [(0, .ref 97), (1, .int l1), (2, .int l2), (4, .int l4), (5, .int s0)]) [0, 1, 2, 4, 5] rfl ?_
    exact t_Mo_part_31 B l1 l2 l4 s0 M
  · refine s_iinc (w := (1:Int32)) B d_Mo_part_28 rfl (by decide) (by decide) ?_
    refine s_pick (lv1 := [(0, .ref 97), (1, .int l1), (2, .int l2), (4, .int (l4 + (1:Int32))), (5, .int s0)]) [0, 1, 2, 4, 5] rfl ?_
    exact t_Mo_part_31 B l1 l2 (l4 + (1:Int32)) s0 M
set_option maxRecDepth 100000 in
set_option maxHeartbeats 4000000 in
theorem t_Mo_part (B : xB p R s m args meth c b_Mo_part 6 R_Mo (Cond.code y_Mo_part b_Mo_part 6 none :: x_T) none 3 63 D x_cl (xty g) base) (a1 : Int32) (a2 : Int32) (a3 : Int32) (M : MS) : Sn p l e R s m args below meth c 6 D x_cl base (xwd g) cM x_g0 az kz (xfc cM) (xZ below args s D x_cl (xty g) base (xwd g) cM x_g0 az kz ovU) 0 [] [(0, .ref 97), (1, .int a1), (2, .int a2), (3, .int a3)] M (m_Mo_part a1 a2 a3 M) := by
  unfold m_Mo_part
  refine s_iload_n B d_Mo_part_0 rfl ?_
  refine s_istore B d_Mo_part_1 (by decide) ?_
  refine s_aload_n B d_Mo_part_3 rfl ?_
  refine s_getS (k := 3) (n := 100) B xc_Mo kd_97 (by decide) rfl rfl fl_Mo_17 sr_97_3 d_Mo_part_4 ?_
  refine s_iload_n B d_Mo_part_7 rfl ?_
  refine s_iald B (Or.inl kd_100) d_Mo_part_8 (fun v1 _ => ?_)
  refine s_pick (lv1 := [(0, .ref 97), (1, .int a1), (2, .int a2), (3, .int a3), (4, .int a1)]) [0, 1, 2, 3, 4] rfl ?_
  refine s_callI (av := [.int v1]) (rest := []) B (lk_S B d_Mo_part_9 (gl_Mo_96 _) (List.mem_cons_of_mem _ st_Mo_sort) (List.mem_cons_of_mem _ in_Mo) (List.mem_cons_of_mem _ ml_Mo_96) rfl hs_Mo_sort (by decide) (by decide)) rfl x_rcS (fun _ _ => rfl) rfl rfl (by simp [Value.category]) rfl (fun r2 e9 => ct_Mo_sort _ _ r2 e9) (fun r2 _ => ?_)
  refine s_iload_n B d_Mo_part_12 rfl ?_
  refine s_icmp_ne B d_Mo_part_13 rfl (fun _ => ?_) (fun _ => ?_)
  · refine s_iconst (v := (0:Int32)) B d_Mo_part_20 (by decide) ?_
    refine s_pick (lv1 := [(0, .ref 97), (1, .int a1), (2, .int a2), (4, .int a1)]) [0, 1, 2, 4] rfl ?_
    exact t_Mo_part_21 B a1 a2 a1 (0:Int32) r2.1
  · refine s_iconst (v := (1:Int32)) B d_Mo_part_16 (by decide) ?_
    refine s_goto B d_Mo_part_17 rfl ?_
    refine s_pick (lv1 := [(0, .ref 97), (1, .int a1), (2, .int a2), (4, .int a1)]) [0, 1, 2, 4] rfl ?_
    exact t_Mo_part_21 B a1 a2 a1 (1:Int32) r2.1
set_option maxRecDepth 100000 in
set_option maxHeartbeats 4000000 in
theorem ct_Mo_part {l : Launch} {D : va_G} {base : Nat} {g : Nat → ClassId} (a1 : Int32) (a2 : Int32) (a3 : Int32) (M : MS) (r : MS × Unit) (hr : m_Mo_part a1 a2 a3 M = some r) : Ct l y_Mo_part (Cond.code y_Mo_part b_Mo_part 6 none :: x_T) 3 63 D x_cl (xty g) base (xwd g) cM x_g0 [.ref 97, .int a1, .int a2, .int a3] M r.1 (ovU r.2) :=
  x_met (ov := ovU) (by decide) (Nat.le_of_ble_eq_true rfl) (fun p e R s m args below meth c az B => t_Mo_part B a1 a2 a3 M) r hr
end
theorem d_Mo_isAll_0 : decode b_Mo_isAll 0 = .ok (.aload_n 0, 1) := by decide +kernel
theorem d_Mo_isAll_1 : decode b_Mo_isAll 1 = .ok (.getfield 39, 3) := by decide +kernel
theorem d_Mo_isAll_4 : decode b_Mo_isAll 4 = .ok (.iload_n 1, 1) := by decide +kernel
theorem d_Mo_isAll_5 : decode b_Mo_isAll 5 = .ok (.iaload, 1) := by decide +kernel
theorem d_Mo_isAll_6 : decode b_Mo_isAll 6 = .ok (.iconst (2), 1) := by decide +kernel
theorem d_Mo_isAll_7 : decode b_Mo_isAll 7 = .ok (.if_icmp .ne (39), 3) := by decide +kernel
theorem d_Mo_isAll_10 : decode b_Mo_isAll 10 = .ok (.aload_n 0, 1) := by decide +kernel
theorem d_Mo_isAll_11 : decode b_Mo_isAll 11 = .ok (.getfield 17, 3) := by decide +kernel
theorem d_Mo_isAll_14 : decode b_Mo_isAll 14 = .ok (.aload_n 0, 1) := by decide +kernel
theorem d_Mo_isAll_15 : decode b_Mo_isAll 15 = .ok (.getfield 36, 3) := by decide +kernel
theorem d_Mo_isAll_18 : decode b_Mo_isAll 18 = .ok (.iload_n 1, 1) := by decide +kernel
theorem d_Mo_isAll_19 : decode b_Mo_isAll 19 = .ok (.iaload, 1) := by decide +kernel
theorem d_Mo_isAll_20 : decode b_Mo_isAll 20 = .ok (.iaload, 1) := by decide +kernel
theorem d_Mo_isAll_21 : decode b_Mo_isAll 21 = .ok (.bipush (6), 2) := by decide +kernel
theorem d_Mo_isAll_23 : decode b_Mo_isAll 23 = .ok (.if_icmp .ne (23), 3) := by decide +kernel
theorem d_Mo_isAll_26 : decode b_Mo_isAll 26 = .ok (.aload_n 0, 1) := by decide +kernel
theorem d_Mo_isAll_27 : decode b_Mo_isAll 27 = .ok (.getfield 17, 3) := by decide +kernel
theorem d_Mo_isAll_30 : decode b_Mo_isAll 30 = .ok (.aload_n 0, 1) := by decide +kernel
theorem d_Mo_isAll_31 : decode b_Mo_isAll 31 = .ok (.getfield 36, 3) := by decide +kernel
theorem d_Mo_isAll_34 : decode b_Mo_isAll 34 = .ok (.iload_n 1, 1) := by decide +kernel
theorem d_Mo_isAll_35 : decode b_Mo_isAll 35 = .ok (.iaload, 1) := by decide +kernel
theorem d_Mo_isAll_36 : decode b_Mo_isAll 36 = .ok (.iconst (1), 1) := by decide +kernel
theorem d_Mo_isAll_37 : decode b_Mo_isAll 37 = .ok (.iadd, 1) := by decide +kernel
theorem d_Mo_isAll_38 : decode b_Mo_isAll 38 = .ok (.iaload, 1) := by decide +kernel
theorem d_Mo_isAll_39 : decode b_Mo_isAll 39 = .ok (.ifCond .ne (7), 3) := by decide +kernel
theorem d_Mo_isAll_42 : decode b_Mo_isAll 42 = .ok (.iconst (1), 1) := by decide +kernel
theorem d_Mo_isAll_43 : decode b_Mo_isAll 43 = .ok (.goto (4), 3) := by decide +kernel
theorem d_Mo_isAll_46 : decode b_Mo_isAll 46 = .ok (.iconst (0), 1) := by decide +kernel
theorem d_Mo_isAll_47 : decode b_Mo_isAll 47 = .ok (.ireturn, 1) := by decide +kernel
section
variable {p : Program} {l : Launch} {e : Env} {R : Room} {s : State} {m : MethodId} {args : Array Value} {below : List Frame} {meth : Method} {c : Code} {D : va_G} {base : Nat} {g : Nat → ClassId} {az : Nat → Nat} {kz : Nat × Nat}
set_option maxRecDepth 100000 in
set_option maxHeartbeats 4000000 in
theorem t_Mo_isAll (B : xB p R s m args meth c b_Mo_isAll 2 R_Mo (Cond.code y_Mo_isAll b_Mo_isAll 2 (some .boolean) :: x_T) (some .boolean) 0 0 D x_cl (xty g) base) (a1 : Int32) (M : MS) : Sn p l e R s m args below meth c 2 D x_cl base (xwd g) cM x_g0 az kz (xfc cM) (xZ below args s D x_cl (xty g) base (xwd g) cM x_g0 az kz ovI) 0 [] [(0, .ref 97), (1, .int a1)] M (m_Mo_isAll a1 M) := by
  unfold m_Mo_isAll
  refine s_aload_n B d_Mo_isAll_0 rfl ?_
  refine s_getS (k := 12) (n := 107) B xc_Mo kd_97 (by decide) rfl rfl fl_Mo_39 sr_97_12 d_Mo_isAll_1 ?_
  refine s_iload_n B d_Mo_isAll_4 rfl ?_
  refine s_iald B (Or.inl kd_107) d_Mo_isAll_5 (fun v1 _ => ?_)
  refine s_iconst (v := (2:Int32)) B d_Mo_isAll_6 (by decide) ?_
  refine s_icmp_ne B d_Mo_isAll_7 rfl (fun _ => ?_) (fun _ => ?_)
  · refine s_iconst (v := (0:Int32)) B d_Mo_isAll_46 (by decide) ?_
    exact s_zret0 rfl B d_Mo_isAll_47
  · refine s_aload_n B d_Mo_isAll_10 rfl ?_
    refine s_getS (k := 3) (n := 100) B xc_Mo kd_97 (by decide) rfl rfl fl_Mo_17 sr_97_3 d_Mo_isAll_11 ?_
    refine s_aload_n B d_Mo_isAll_14 rfl ?_
    refine s_getS (k := 11) (n := 106) B xc_Mo kd_97 (by decide) rfl rfl fl_Mo_36 sr_97_11 d_Mo_isAll_15 ?_
    refine s_iload_n B d_Mo_isAll_18 rfl ?_
    refine s_iald B (Or.inl kd_106) d_Mo_isAll_19 (fun v2 _ => ?_)
    refine s_iald B (Or.inl kd_100) d_Mo_isAll_20 (fun v3 _ => ?_)
    refine s_bipush (v := (6:Int32)) B d_Mo_isAll_21 (by decide) ?_
    refine s_icmp_ne B d_Mo_isAll_23 rfl (fun _ => ?_) (fun _ => ?_)
    · refine s_iconst (v := (0:Int32)) B d_Mo_isAll_46 (by decide) ?_
      exact s_zret0 rfl B d_Mo_isAll_47
    · refine s_aload_n B d_Mo_isAll_26 rfl ?_
      refine s_getS (k := 3) (n := 100) B xc_Mo kd_97 (by decide) rfl rfl fl_Mo_17 sr_97_3 d_Mo_isAll_27 ?_
      refine s_aload_n B d_Mo_isAll_30 rfl ?_
      refine s_getS (k := 11) (n := 106) B xc_Mo kd_97 (by decide) rfl rfl fl_Mo_36 sr_97_11 d_Mo_isAll_31 ?_
      refine s_iload_n B d_Mo_isAll_34 rfl ?_
      refine s_iald B (Or.inl kd_106) d_Mo_isAll_35 (fun v4 _ => ?_)
      refine s_iconst (v := (1:Int32)) B d_Mo_isAll_36 (by decide) ?_
      refine s_iadd B d_Mo_isAll_37 ?_
      refine s_iald B (Or.inl kd_100) d_Mo_isAll_38 (fun v5 _ => ?_)
      refine s_if_ne B d_Mo_isAll_39 rfl (fun _ => ?_) (fun _ => ?_)
      · refine s_iconst (v := (0:Int32)) B d_Mo_isAll_46 (by decide) ?_
        exact s_zret0 rfl B d_Mo_isAll_47
      · refine s_iconst (v := (1:Int32)) B d_Mo_isAll_42 (by decide) ?_
        refine s_goto B d_Mo_isAll_43 rfl ?_
        exact s_zret0 rfl B d_Mo_isAll_47
set_option maxRecDepth 100000 in
set_option maxHeartbeats 4000000 in
theorem ct_Mo_isAll {l : Launch} {D : va_G} {base : Nat} {g : Nat → ClassId} (a1 : Int32) (M : MS) (r : MS × Int32) (hr : m_Mo_isAll a1 M = some r) : Ct l y_Mo_isAll (Cond.code y_Mo_isAll b_Mo_isAll 2 (some .boolean) :: x_T) 0 0 D x_cl (xty g) base (xwd g) cM x_g0 [.ref 97, .int a1] M r.1 (ovI r.2) :=
  x_met (ov := ovI) (by decide) (Nat.le_of_ble_eq_true rfl) (fun p e R s m args below meth c az B => t_Mo_isAll B a1 M) r hr
end
theorem d_Mo_simple_0 : decode b_Mo_simple 0 = .ok (.aload_n 0, 1) := by decide +kernel
theorem d_Mo_simple_1 : decode b_Mo_simple 1 = .ok (.getfield 20, 3) := by decide +kernel
theorem d_Mo_simple_4 : decode b_Mo_simple 4 = .ok (.iconst (0), 1) := by decide +kernel
theorem d_Mo_simple_5 : decode b_Mo_simple 5 = .ok (.iload_n 2, 1) := by decide +kernel
theorem d_Mo_simple_6 : decode b_Mo_simple 6 = .ok (.ifCond .eq (8), 3) := by decide +kernel
theorem d_Mo_simple_9 : decode b_Mo_simple 9 = .ok (.bipush (6), 2) := by decide +kernel
theorem d_Mo_simple_11 : decode b_Mo_simple 11 = .ok (.goto (4), 3) := by decide +kernel
theorem d_Mo_simple_14 : decode b_Mo_simple 14 = .ok (.iconst (0), 1) := by decide +kernel
theorem d_Mo_simple_15 : decode b_Mo_simple 15 = .ok (.iastore, 1) := by decide +kernel
theorem d_Mo_simple_16 : decode b_Mo_simple 16 = .ok (.aload_n 0, 1) := by decide +kernel
theorem d_Mo_simple_17 : decode b_Mo_simple 17 = .ok (.getfield 20, 3) := by decide +kernel
theorem d_Mo_simple_20 : decode b_Mo_simple 20 = .ok (.iconst (1), 1) := by decide +kernel
theorem d_Mo_simple_21 : decode b_Mo_simple 21 = .ok (.iconst (0), 1) := by decide +kernel
theorem d_Mo_simple_22 : decode b_Mo_simple 22 = .ok (.iastore, 1) := by decide +kernel
theorem d_Mo_simple_23 : decode b_Mo_simple 23 = .ok (.iload_n 2, 1) := by decide +kernel
theorem d_Mo_simple_24 : decode b_Mo_simple 24 = .ok (.ifCond .eq (7), 3) := by decide +kernel
theorem d_Mo_simple_27 : decode b_Mo_simple 27 = .ok (.iconst (2), 1) := by decide +kernel
theorem d_Mo_simple_28 : decode b_Mo_simple 28 = .ok (.goto (4), 3) := by decide +kernel
theorem d_Mo_simple_31 : decode b_Mo_simple 31 = .ok (.iconst (1), 1) := by decide +kernel
theorem d_Mo_simple_32 : decode b_Mo_simple 32 = .ok (.ireturn, 1) := by decide +kernel
section
variable {p : Program} {l : Launch} {e : Env} {R : Room} {s : State} {m : MethodId} {args : Array Value} {below : List Frame} {meth : Method} {c : Code} {D : va_G} {base : Nat} {g : Nat → ClassId} {az : Nat → Nat} {kz : Nat × Nat}
set_option maxRecDepth 100000 in
set_option maxHeartbeats 4000000 in
theorem t_Mo_simple_15  (B : xB p R s m args meth c b_Mo_simple 3 R_Mo (Cond.code y_Mo_simple b_Mo_simple 3 (some .int) :: x_T) (some .int) 0 0 D x_cl (xty g) base)  (l2 : Int32) (s1 : Int32) (s2 : Int32) (M : MS)  : Sn p l e R s m args below meth c 3 D x_cl base (xwd g) cM x_g0 az kz (xfc cM) (xZ below args s D x_cl (xty g) base (xwd g) cM x_g0 az kz ovI) 15 [.int s2, .int s1, .ref 101] [(0, .ref 97), (2, .int l2)] M (m_Mo_simple_15 l2 s1 s2 M) := by
  unfold m_Mo_simple_15
  refine s_iast B (Or.inl kd_101) d_Mo_simple_15 (fun M1 _ => ?_)
  refine s_aload_n B d_Mo_simple_16 rfl ?_
  refine s_getS (k := 4) (n := 101) B xc_Mo kd_97 (by decide) rfl rfl fl_Mo_20 sr_97_4 d_Mo_simple_17 ?_
  refine s_iconst (v := (1:Int32)) B d_Mo_simple_20 (by decide) ?_
  refine s_iconst (v := (0:Int32)) B d_Mo_simple_21 (by decide) ?_
  refine s_iast B (Or.inl kd_101) d_Mo_simple_22 (fun M2 _ => ?_)
  refine s_iload_n B d_Mo_simple_23 rfl ?_
  refine s_if_eq B d_Mo_simple_24 rfl (fun _ => ?_) (fun _ => ?_)
  · refine s_iconst (v := (1:Int32)) B d_Mo_simple_31 (by decide) ?_
    exact s_iret B d_Mo_simple_32
  · refine s_iconst (v := (2:Int32)) B d_Mo_simple_27 (by decide) ?_
    refine s_goto B d_Mo_simple_28 rfl ?_
    exact s_iret B d_Mo_simple_32
set_option maxRecDepth 100000 in
set_option maxHeartbeats 4000000 in
theorem t_Mo_simple (B : xB p R s m args meth c b_Mo_simple 3 R_Mo (Cond.code y_Mo_simple b_Mo_simple 3 (some .int) :: x_T) (some .int) 0 0 D x_cl (xty g) base) (a1 : Int32) (a2 : Int32) (M : MS) : Sn p l e R s m args below meth c 3 D x_cl base (xwd g) cM x_g0 az kz (xfc cM) (xZ below args s D x_cl (xty g) base (xwd g) cM x_g0 az kz ovI) 0 [] [(0, .ref 97), (1, .int a1), (2, .int a2)] M (m_Mo_simple a1 a2 M) := by
  unfold m_Mo_simple
  refine s_aload_n B d_Mo_simple_0 rfl ?_
  refine s_getS (k := 4) (n := 101) B xc_Mo kd_97 (by decide) rfl rfl fl_Mo_20 sr_97_4 d_Mo_simple_1 ?_
  refine s_iconst (v := (0:Int32)) B d_Mo_simple_4 (by decide) ?_
  refine s_iload_n B d_Mo_simple_5 rfl ?_
  refine s_if_eq B d_Mo_simple_6 rfl (fun _ => ?_) (fun _ => ?_)
  · refine s_iconst (v := (0:Int32)) B d_Mo_simple_14 (by decide) ?_
    refine s_pick (lv1 := [(0, .ref 97), (2, .int a2)]) [0, 2] rfl ?_
    exact t_Mo_simple_15 B a2 (0:Int32) (0:Int32) M
  · refine s_bipush (v := (6:Int32)) B d_Mo_simple_9 (by decide) ?_
    refine s_goto B d_Mo_simple_11 rfl ?_
    refine s_pick (lv1 := [(0, .ref 97), (2, .int a2)]) [0, 2] rfl ?_
    exact t_Mo_simple_15 B a2 (0:Int32) (6:Int32) M
set_option maxRecDepth 100000 in
set_option maxHeartbeats 4000000 in
theorem ct_Mo_simple {l : Launch} {D : va_G} {base : Nat} {g : Nat → ClassId} (a1 : Int32) (a2 : Int32) (M : MS) (r : MS × Int32) (hr : m_Mo_simple a1 a2 M = some r) : Ct l y_Mo_simple (Cond.code y_Mo_simple b_Mo_simple 3 (some .int) :: x_T) 0 0 D x_cl (xty g) base (xwd g) cM x_g0 [.ref 97, .int a1, .int a2] M r.1 (ovI r.2) :=
  x_met (ov := ovI) (by decide) (Nat.le_of_ble_eq_true rfl) (fun p e R s m args below meth c az B => t_Mo_simple B a1 a2 M) r hr
end
theorem d_Mo_compare_0 : decode b_Mo_compare 0 = .ok (.iconst (0), 1) := by decide +kernel
theorem d_Mo_compare_1 : decode b_Mo_compare 1 = .ok (.istore 5, 2) := by decide +kernel
theorem d_Mo_compare_3 : decode b_Mo_compare 3 = .ok (.iload 5, 2) := by decide +kernel
theorem d_Mo_compare_5 : decode b_Mo_compare 5 = .ok (.iload_n 2, 1) := by decide +kernel
theorem d_Mo_compare_6 : decode b_Mo_compare 6 = .ok (.if_icmp .ge (31), 3) := by decide +kernel
theorem d_Mo_compare_9 : decode b_Mo_compare 9 = .ok (.iload 5, 2) := by decide +kernel
theorem d_Mo_compare_11 : decode b_Mo_compare 11 = .ok (.iload 4, 2) := by decide +kernel
theorem d_Mo_compare_13 : decode b_Mo_compare 13 = .ok (.if_icmp .ge (24), 3) := by decide +kernel
theorem d_Mo_compare_16 : decode b_Mo_compare 16 = .ok (.aload_n 0, 1) := by decide +kernel
theorem d_Mo_compare_17 : decode b_Mo_compare 17 = .ok (.iload_n 1, 1) := by decide +kernel
theorem d_Mo_compare_18 : decode b_Mo_compare 18 = .ok (.iload 5, 2) := by decide +kernel
theorem d_Mo_compare_20 : decode b_Mo_compare 20 = .ok (.iadd, 1) := by decide +kernel
theorem d_Mo_compare_21 : decode b_Mo_compare 21 = .ok (.iaload, 1) := by decide +kernel
theorem d_Mo_compare_22 : decode b_Mo_compare 22 = .ok (.aload_n 0, 1) := by decide +kernel
theorem d_Mo_compare_23 : decode b_Mo_compare 23 = .ok (.iload_n 3, 1) := by decide +kernel
theorem d_Mo_compare_24 : decode b_Mo_compare 24 = .ok (.iload 5, 2) := by decide +kernel
theorem d_Mo_compare_26 : decode b_Mo_compare 26 = .ok (.iadd, 1) := by decide +kernel
theorem d_Mo_compare_27 : decode b_Mo_compare 27 = .ok (.iaload, 1) := by decide +kernel
theorem d_Mo_compare_28 : decode b_Mo_compare 28 = .ok (.if_icmp .ne (9), 3) := by decide +kernel
theorem d_Mo_compare_31 : decode b_Mo_compare 31 = .ok (.iinc 5 (1), 3) := by decide +kernel
theorem d_Mo_compare_34 : decode b_Mo_compare 34 = .ok (.goto (-31), 3) := by decide +kernel
theorem d_Mo_compare_37 : decode b_Mo_compare 37 = .ok (.iload 5, 2) := by decide +kernel
theorem d_Mo_compare_39 : decode b_Mo_compare 39 = .ok (.iload_n 2, 1) := by decide +kernel
theorem d_Mo_compare_40 : decode b_Mo_compare 40 = .ok (.if_icmp .eq (10), 3) := by decide +kernel
theorem d_Mo_compare_43 : decode b_Mo_compare 43 = .ok (.iload 5, 2) := by decide +kernel
theorem d_Mo_compare_45 : decode b_Mo_compare 45 = .ok (.iload 4, 2) := by decide +kernel
theorem d_Mo_compare_47 : decode b_Mo_compare 47 = .ok (.if_icmp .ne (10), 3) := by decide +kernel
theorem d_Mo_compare_50 : decode b_Mo_compare 50 = .ok (.iload_n 2, 1) := by decide +kernel
theorem d_Mo_compare_51 : decode b_Mo_compare 51 = .ok (.iload 4, 2) := by decide +kernel
theorem d_Mo_compare_53 : decode b_Mo_compare 53 = .ok (.isub, 1) := by decide +kernel
theorem d_Mo_compare_54 : decode b_Mo_compare 54 = .ok (.goto (16), 3) := by decide +kernel
theorem d_Mo_compare_57 : decode b_Mo_compare 57 = .ok (.aload_n 0, 1) := by decide +kernel
theorem d_Mo_compare_58 : decode b_Mo_compare 58 = .ok (.iload_n 1, 1) := by decide +kernel
theorem d_Mo_compare_59 : decode b_Mo_compare 59 = .ok (.iload 5, 2) := by decide +kernel
theorem d_Mo_compare_61 : decode b_Mo_compare 61 = .ok (.iadd, 1) := by decide +kernel
theorem d_Mo_compare_62 : decode b_Mo_compare 62 = .ok (.iaload, 1) := by decide +kernel
theorem d_Mo_compare_63 : decode b_Mo_compare 63 = .ok (.aload_n 0, 1) := by decide +kernel
theorem d_Mo_compare_64 : decode b_Mo_compare 64 = .ok (.iload_n 3, 1) := by decide +kernel
theorem d_Mo_compare_65 : decode b_Mo_compare 65 = .ok (.iload 5, 2) := by decide +kernel
theorem d_Mo_compare_67 : decode b_Mo_compare 67 = .ok (.iadd, 1) := by decide +kernel
theorem d_Mo_compare_68 : decode b_Mo_compare 68 = .ok (.iaload, 1) := by decide +kernel
theorem d_Mo_compare_69 : decode b_Mo_compare 69 = .ok (.isub, 1) := by decide +kernel
theorem d_Mo_compare_70 : decode b_Mo_compare 70 = .ok (.ireturn, 1) := by decide +kernel
section
variable {p : Program} {l : Launch} {e : Env} {R : Room} {s : State} {m : MethodId} {args : Array Value} {below : List Frame} {meth : Method} {c : Code} {D : va_G} {base : Nat} {g : Nat → ClassId} {az : Nat → Nat} {kz : Nat × Nat}
set_option maxRecDepth 100000 in
set_option maxHeartbeats 4000000 in
theorem t_Mo_compare_37  (B : xB p R s m args meth c b_Mo_compare 6 R_Mo (Cond.code y_Mo_compare b_Mo_compare 6 (some .int) :: x_T) (some .int) 0 0 D x_cl (xty g) base)  (l1 : Int32) (l2 : Int32) (l3 : Int32) (l4 : Int32) (l5 : Int32) (M : MS)  : Sn p l e R s m args below meth c 6 D x_cl base (xwd g) cM x_g0 az kz (xfc cM) (xZ below args s D x_cl (xty g) base (xwd g) cM x_g0 az kz ovI) 37 [] [(0, .ref 100), (1, .int l1), (2, .int l2), (3, .int l3), (4, .int l4), (5, .int l5)] M (m_Mo_compare_37 l1 l2 l3 l4 l5 M) := by
  unfold m_Mo_compare_37
  refine s_iload B d_Mo_compare_37 rfl ?_
  refine s_iload_n B d_Mo_compare_39 rfl ?_
  refine s_icmp_eq B d_Mo_compare_40 rfl (fun _ => ?_) (fun _ => ?_)
  · refine s_iload_n B d_Mo_compare_50 rfl ?_
    refine s_iload B d_Mo_compare_51 rfl ?_
    refine s_isub B d_Mo_compare_53 ?_
    refine s_goto B d_Mo_compare_54 rfl ?_
    exact s_iret B d_Mo_compare_70
  · refine s_iload B d_Mo_compare_43 rfl ?_
    refine s_iload B d_Mo_compare_45 rfl ?_
    refine s_icmp_ne B d_Mo_compare_47 rfl (fun _ => ?_) (fun _ => ?_)
    · refine s_aload_n B d_Mo_compare_57 rfl ?_
      refine s_iload_n B d_Mo_compare_58 rfl ?_
      refine s_iload B d_Mo_compare_59 rfl ?_
      refine s_iadd B d_Mo_compare_61 ?_
      refine s_iald B (Or.inl kd_100) d_Mo_compare_62 (fun v1 _ => ?_)
      refine s_aload_n B d_Mo_compare_63 rfl ?_
      refine s_iload_n B d_Mo_compare_64 rfl ?_
      refine s_iload B d_Mo_compare_65 rfl ?_
      refine s_iadd B d_Mo_compare_67 ?_
      refine s_iald B (Or.inl kd_100) d_Mo_compare_68 (fun v2 _ => ?_)
      refine s_isub B d_Mo_compare_69 ?_
      exact s_iret B d_Mo_compare_70
    · refine s_iload_n B d_Mo_compare_50 rfl ?_
      refine s_iload B d_Mo_compare_51 rfl ?_
      refine s_isub B d_Mo_compare_53 ?_
      refine s_goto B d_Mo_compare_54 rfl ?_
      exact s_iret B d_Mo_compare_70
set_option maxRecDepth 100000 in
set_option maxHeartbeats 4000000 in
theorem t_Mo_compare_3b {k3 : Int32 × Int32 × Int32 × Int32 × Int32 × MS → Option (MS × Int32)} (B : xB p R s m args meth c b_Mo_compare 6 R_Mo (Cond.code y_Mo_compare b_Mo_compare 6 (some .int) :: x_T) (some .int) 0 0 D x_cl (xty g) base) (hk3 : ∀ (l1 : Int32) (l2 : Int32) (l3 : Int32) (l4 : Int32) (l5 : Int32) (M : MS) , Sn p l e R s m args below meth c 6 D x_cl base (xwd g) cM x_g0 az kz (xfc cM) (xZ below args s D x_cl (xty g) base (xwd g) cM x_g0 az kz ovI) 3 [] [(0, .ref 100), (1, .int l1), (2, .int l2), (3, .int l3), (4, .int l4), (5, .int l5)] M (k3 (l1, l2, l3, l4, l5, M))) (l1 : Int32) (l2 : Int32) (l3 : Int32) (l4 : Int32) (l5 : Int32) (M : MS)  : Sn p l e R s m args below meth c 6 D x_cl base (xwd g) cM x_g0 az kz (xfc cM) (xZ below args s D x_cl (xty g) base (xwd g) cM x_g0 az kz ovI) 3 [] [(0, .ref 100), (1, .int l1), (2, .int l2), (3, .int l3), (4, .int l4), (5, .int l5)] M (m_Mo_compare_3b k3 l1 l2 l3 l4 l5 M) := by
  unfold m_Mo_compare_3b
  refine s_iload B d_Mo_compare_3 rfl ?_
  refine s_iload_n B d_Mo_compare_5 rfl ?_
  refine s_icmp_ge B d_Mo_compare_6 rfl (fun _ => ?_) (fun _ => ?_)
  · refine s_pick (lv1 := [(0, .ref 100), (1, .int l1), (2, .int l2), (3, .int l3), (4, .int l4), (5, .int l5)]) [0, 1, 2, 3, 4, 5] rfl ?_
    exact t_Mo_compare_37 B l1 l2 l3 l4 l5 M
  · refine s_iload B d_Mo_compare_9 rfl ?_
    refine s_iload B d_Mo_compare_11 rfl ?_
    refine s_icmp_ge B d_Mo_compare_13 rfl (fun _ => ?_) (fun _ => ?_)
    · refine s_pick (lv1 := [(0, .ref 100), (1, .int l1), (2, .int l2), (3, .int l3), (4, .int l4), (5, .int l5)]) [0, 1, 2, 3, 4, 5] rfl ?_
      exact t_Mo_compare_37 B l1 l2 l3 l4 l5 M
    · refine s_aload_n B d_Mo_compare_16 rfl ?_
      refine s_iload_n B d_Mo_compare_17 rfl ?_
      refine s_iload B d_Mo_compare_18 rfl ?_
      refine s_iadd B d_Mo_compare_20 ?_
      refine s_iald B (Or.inl kd_100) d_Mo_compare_21 (fun v1 _ => ?_)
      refine s_aload_n B d_Mo_compare_22 rfl ?_
      refine s_iload_n B d_Mo_compare_23 rfl ?_
      refine s_iload B d_Mo_compare_24 rfl ?_
      refine s_iadd B d_Mo_compare_26 ?_
      refine s_iald B (Or.inl kd_100) d_Mo_compare_27 (fun v2 _ => ?_)
      refine s_icmp_ne B d_Mo_compare_28 rfl (fun _ => ?_) (fun _ => ?_)
      · refine s_pick (lv1 := [(0, .ref 100), (1, .int l1), (2, .int l2), (3, .int l3), (4, .int l4), (5, .int l5)]) [0, 1, 2, 3, 4, 5] rfl ?_
        exact t_Mo_compare_37 B l1 l2 l3 l4 l5 M
      · refine s_iinc (w := (1:Int32)) B d_Mo_compare_31 rfl (by decide) (by decide) ?_
        refine s_goto B d_Mo_compare_34 rfl ?_
        refine s_pick (lv1 := [(0, .ref 100), (1, .int l1), (2, .int l2), (3, .int l3), (4, .int l4), (5, .int (l5 + (1:Int32)))]) [0, 1, 2, 3, 4, 5] rfl ?_
        exact hk3 l1 l2 l3 l4 (l5 + (1:Int32)) M
set_option maxRecDepth 100000 in
set_option maxHeartbeats 4000000 in
theorem t_Mo_compare_3  (B : xB p R s m args meth c b_Mo_compare 6 R_Mo (Cond.code y_Mo_compare b_Mo_compare 6 (some .int) :: x_T) (some .int) 0 0 D x_cl (xty g) base)  (l1 : Int32) (l2 : Int32) (l3 : Int32) (l4 : Int32) (l5 : Int32) (M : MS)  : Sn p l e R s m args below meth c 6 D x_cl base (xwd g) cM x_g0 az kz (xfc cM) (xZ below args s D x_cl (xty g) base (xwd g) cM x_g0 az kz ovI) 3 [] [(0, .ref 100), (1, .int l1), (2, .int l2), (3, .int l3), (4, .int l4), (5, .int l5)] M (m_Mo_compare_3 (l1, l2, l3, l4, l5, M)) := by
  have q : ∀ (F : Nat) (i : Int32 × Int32 × Int32 × Int32 × Int32 × MS), Sn p l e R s m args below meth c 6 D x_cl base (xwd g) cM x_g0 az kz (xfc cM) (xZ below args s D x_cl (xty g) base (xwd g) cM x_g0 az kz ovI) 3 [] [(0, .ref 100), (1, .int i.1), (2, .int i.2.1), (3, .int i.2.2.1), (4, .int i.2.2.2.1), (5, .int i.2.2.2.2.1)] i.2.2.2.2.2 (fx (fun (k : Int32 × Int32 × Int32 × Int32 × Int32 × MS → Option (MS × Int32)) (i : Int32 × Int32 × Int32 × Int32 × Int32 × MS) => m_Mo_compare_3b k i.1 i.2.1 i.2.2.1 i.2.2.2.1 i.2.2.2.2.1 i.2.2.2.2.2) F i) := by
    intro F
    induction F with
    | zero => intro i ; exact s_none
    | succ F ih => intro i ; exact t_Mo_compare_3b B  (fun l1 l2 l3 l4 l5 M  => ih (l1, l2, l3, l4, l5, M) ) i.1 i.2.1 i.2.2.1 i.2.2.2.1 i.2.2.2.2.1 i.2.2.2.2.2 
  exact q FU (l1, l2, l3, l4, l5, M) 
set_option maxRecDepth 100000 in
set_option maxHeartbeats 4000000 in
theorem t_Mo_compare (B : xB p R s m args meth c b_Mo_compare 6 R_Mo (Cond.code y_Mo_compare b_Mo_compare 6 (some .int) :: x_T) (some .int) 0 0 D x_cl (xty g) base) (a1 : Int32) (a2 : Int32) (a3 : Int32) (a4 : Int32) (M : MS) : Sn p l e R s m args below meth c 6 D x_cl base (xwd g) cM x_g0 az kz (xfc cM) (xZ below args s D x_cl (xty g) base (xwd g) cM x_g0 az kz ovI) 0 [] [(0, .ref 100), (1, .int a1), (2, .int a2), (3, .int a3), (4, .int a4)] M (m_Mo_compare a1 a2 a3 a4 M) := by
  unfold m_Mo_compare
  refine s_iconst (v := (0:Int32)) B d_Mo_compare_0 (by decide) ?_
  refine s_istore B d_Mo_compare_1 (by decide) ?_
  refine s_pick (lv1 := [(0, .ref 100), (1, .int a1), (2, .int a2), (3, .int a3), (4, .int a4), (5, .int (0:Int32))]) [0, 1, 2, 3, 4, 5] rfl ?_
  exact t_Mo_compare_3 B a1 a2 a3 a4 (0:Int32) M
set_option maxRecDepth 100000 in
set_option maxHeartbeats 4000000 in
theorem ct_Mo_compare {l : Launch} {D : va_G} {base : Nat} {g : Nat → ClassId} (a1 : Int32) (a2 : Int32) (a3 : Int32) (a4 : Int32) (M : MS) (r : MS × Int32) (hr : m_Mo_compare a1 a2 a3 a4 M = some r) : Ct l y_Mo_compare (Cond.code y_Mo_compare b_Mo_compare 6 (some .int) :: x_T) 0 0 D x_cl (xty g) base (xwd g) cM x_g0 [.ref 100, .int a1, .int a2, .int a3, .int a4] M r.1 (ovI r.2) :=
  x_met (ov := ovI) (by decide) (Nat.le_of_ble_eq_true rfl) (fun p e R s m args below meth c az B => t_Mo_compare B a1 a2 a3 a4 M) r hr
end
theorem d_Mo_order_0 : decode b_Mo_order 0 = .ok (.iconst (0), 1) := by decide +kernel
theorem d_Mo_order_1 : decode b_Mo_order 1 = .ok (.istore_n 2, 1) := by decide +kernel
theorem d_Mo_order_2 : decode b_Mo_order 2 = .ok (.iconst (0), 1) := by decide +kernel
theorem d_Mo_order_3 : decode b_Mo_order 3 = .ok (.istore_n 3, 1) := by decide +kernel
theorem d_Mo_order_4 : decode b_Mo_order 4 = .ok (.iload_n 3, 1) := by decide +kernel
theorem d_Mo_order_5 : decode b_Mo_order 5 = .ok (.iload_n 1, 1) := by decide +kernel
theorem d_Mo_order_6 : decode b_Mo_order 6 = .ok (.if_icmp .ge (180), 3) := by decide +kernel
theorem d_Mo_order_9 : decode b_Mo_order 9 = .ok (.aload_n 0, 1) := by decide +kernel
theorem d_Mo_order_10 : decode b_Mo_order 10 = .ok (.getfield 36, 3) := by decide +kernel
theorem d_Mo_order_13 : decode b_Mo_order 13 = .ok (.iload_n 3, 1) := by decide +kernel
theorem d_Mo_order_14 : decode b_Mo_order 14 = .ok (.iaload, 1) := by decide +kernel
theorem d_Mo_order_15 : decode b_Mo_order 15 = .ok (.istore 4, 2) := by decide +kernel
theorem d_Mo_order_17 : decode b_Mo_order 17 = .ok (.aload_n 0, 1) := by decide +kernel
theorem d_Mo_order_18 : decode b_Mo_order 18 = .ok (.getfield 39, 3) := by decide +kernel
theorem d_Mo_order_21 : decode b_Mo_order 21 = .ok (.iload_n 3, 1) := by decide +kernel
theorem d_Mo_order_22 : decode b_Mo_order 22 = .ok (.iaload, 1) := by decide +kernel
theorem d_Mo_order_23 : decode b_Mo_order 23 = .ok (.istore 5, 2) := by decide +kernel
theorem d_Mo_order_25 : decode b_Mo_order 25 = .ok (.iload_n 2, 1) := by decide +kernel
theorem d_Mo_order_26 : decode b_Mo_order 26 = .ok (.istore 6, 2) := by decide +kernel
theorem d_Mo_order_28 : decode b_Mo_order 28 = .ok (.iload 6, 2) := by decide +kernel
theorem d_Mo_order_30 : decode b_Mo_order 30 = .ok (.ifCond .le (41), 3) := by decide +kernel
theorem d_Mo_order_33 : decode b_Mo_order 33 = .ok (.aload_n 0, 1) := by decide +kernel
theorem d_Mo_order_34 : decode b_Mo_order 34 = .ok (.getfield 17, 3) := by decide +kernel
theorem d_Mo_order_37 : decode b_Mo_order 37 = .ok (.iload 4, 2) := by decide +kernel
theorem d_Mo_order_39 : decode b_Mo_order 39 = .ok (.iload 5, 2) := by decide +kernel
theorem d_Mo_order_41 : decode b_Mo_order 41 = .ok (.aload_n 0, 1) := by decide +kernel
theorem d_Mo_order_42 : decode b_Mo_order 42 = .ok (.getfield 36, 3) := by decide +kernel
theorem d_Mo_order_45 : decode b_Mo_order 45 = .ok (.iload 6, 2) := by decide +kernel
theorem d_Mo_order_47 : decode b_Mo_order 47 = .ok (.iconst (1), 1) := by decide +kernel
theorem d_Mo_order_48 : decode b_Mo_order 48 = .ok (.isub, 1) := by decide +kernel
theorem d_Mo_order_49 : decode b_Mo_order 49 = .ok (.iaload, 1) := by decide +kernel
theorem d_Mo_order_50 : decode b_Mo_order 50 = .ok (.aload_n 0, 1) := by decide +kernel
theorem d_Mo_order_51 : decode b_Mo_order 51 = .ok (.getfield 39, 3) := by decide +kernel
theorem d_Mo_order_54 : decode b_Mo_order 54 = .ok (.iload 6, 2) := by decide +kernel
theorem d_Mo_order_56 : decode b_Mo_order 56 = .ok (.iconst (1), 1) := by decide +kernel
theorem d_Mo_order_57 : decode b_Mo_order 57 = .ok (.isub, 1) := by decide +kernel
theorem d_Mo_order_58 : decode b_Mo_order 58 = .ok (.iaload, 1) := by decide +kernel
theorem d_Mo_order_59 : decode b_Mo_order 59 = .ok (.invokestatic 124, 3) := by decide +kernel
theorem d_Mo_order_62 : decode b_Mo_order 62 = .ok (.ifCond .ge (9), 3) := by decide +kernel
theorem d_Mo_order_65 : decode b_Mo_order 65 = .ok (.iinc 6 (-1), 3) := by decide +kernel
theorem d_Mo_order_68 : decode b_Mo_order 68 = .ok (.goto (-40), 3) := by decide +kernel
theorem d_Mo_order_71 : decode b_Mo_order 71 = .ok (.iload 6, 2) := by decide +kernel
theorem d_Mo_order_73 : decode b_Mo_order 73 = .ok (.ifCond .le (38), 3) := by decide +kernel
theorem d_Mo_order_76 : decode b_Mo_order 76 = .ok (.aload_n 0, 1) := by decide +kernel
theorem d_Mo_order_77 : decode b_Mo_order 77 = .ok (.getfield 17, 3) := by decide +kernel
theorem d_Mo_order_80 : decode b_Mo_order 80 = .ok (.iload 4, 2) := by decide +kernel
theorem d_Mo_order_82 : decode b_Mo_order 82 = .ok (.iload 5, 2) := by decide +kernel
theorem d_Mo_order_84 : decode b_Mo_order 84 = .ok (.aload_n 0, 1) := by decide +kernel
theorem d_Mo_order_85 : decode b_Mo_order 85 = .ok (.getfield 36, 3) := by decide +kernel
theorem d_Mo_order_88 : decode b_Mo_order 88 = .ok (.iload 6, 2) := by decide +kernel
theorem d_Mo_order_90 : decode b_Mo_order 90 = .ok (.iconst (1), 1) := by decide +kernel
theorem d_Mo_order_91 : decode b_Mo_order 91 = .ok (.isub, 1) := by decide +kernel
theorem d_Mo_order_92 : decode b_Mo_order 92 = .ok (.iaload, 1) := by decide +kernel
theorem d_Mo_order_93 : decode b_Mo_order 93 = .ok (.aload_n 0, 1) := by decide +kernel
theorem d_Mo_order_94 : decode b_Mo_order 94 = .ok (.getfield 39, 3) := by decide +kernel
theorem d_Mo_order_97 : decode b_Mo_order 97 = .ok (.iload 6, 2) := by decide +kernel
theorem d_Mo_order_99 : decode b_Mo_order 99 = .ok (.iconst (1), 1) := by decide +kernel
theorem d_Mo_order_100 : decode b_Mo_order 100 = .ok (.isub, 1) := by decide +kernel
theorem d_Mo_order_101 : decode b_Mo_order 101 = .ok (.iaload, 1) := by decide +kernel
theorem d_Mo_order_102 : decode b_Mo_order 102 = .ok (.invokestatic 124, 3) := by decide +kernel
theorem d_Mo_order_105 : decode b_Mo_order 105 = .ok (.ifCond .ne (6), 3) := by decide +kernel
theorem d_Mo_order_108 : decode b_Mo_order 108 = .ok (.goto (72), 3) := by decide +kernel
theorem d_Mo_order_111 : decode b_Mo_order 111 = .ok (.iload_n 2, 1) := by decide +kernel
theorem d_Mo_order_112 : decode b_Mo_order 112 = .ok (.istore 7, 2) := by decide +kernel
theorem d_Mo_order_114 : decode b_Mo_order 114 = .ok (.iload 7, 2) := by decide +kernel
theorem d_Mo_order_116 : decode b_Mo_order 116 = .ok (.iload 6, 2) := by decide +kernel
theorem d_Mo_order_118 : decode b_Mo_order 118 = .ok (.if_icmp .le (41), 3) := by decide +kernel
theorem d_Mo_order_121 : decode b_Mo_order 121 = .ok (.aload_n 0, 1) := by decide +kernel
theorem d_Mo_order_122 : decode b_Mo_order 122 = .ok (.getfield 36, 3) := by decide +kernel
theorem d_Mo_order_125 : decode b_Mo_order 125 = .ok (.iload 7, 2) := by decide +kernel
theorem d_Mo_order_127 : decode b_Mo_order 127 = .ok (.aload_n 0, 1) := by decide +kernel
theorem d_Mo_order_128 : decode b_Mo_order 128 = .ok (.getfield 36, 3) := by decide +kernel
theorem d_Mo_order_131 : decode b_Mo_order 131 = .ok (.iload 7, 2) := by decide +kernel
theorem d_Mo_order_133 : decode b_Mo_order 133 = .ok (.iconst (1), 1) := by decide +kernel
theorem d_Mo_order_134 : decode b_Mo_order 134 = .ok (.isub, 1) := by decide +kernel
theorem d_Mo_order_135 : decode b_Mo_order 135 = .ok (.iaload, 1) := by decide +kernel
theorem d_Mo_order_136 : decode b_Mo_order 136 = .ok (.iastore, 1) := by decide +kernel
theorem d_Mo_order_137 : decode b_Mo_order 137 = .ok (.aload_n 0, 1) := by decide +kernel
theorem d_Mo_order_138 : decode b_Mo_order 138 = .ok (.getfield 39, 3) := by decide +kernel
theorem d_Mo_order_141 : decode b_Mo_order 141 = .ok (.iload 7, 2) := by decide +kernel
theorem d_Mo_order_143 : decode b_Mo_order 143 = .ok (.aload_n 0, 1) := by decide +kernel
theorem d_Mo_order_144 : decode b_Mo_order 144 = .ok (.getfield 39, 3) := by decide +kernel
theorem d_Mo_order_147 : decode b_Mo_order 147 = .ok (.iload 7, 2) := by decide +kernel
theorem d_Mo_order_149 : decode b_Mo_order 149 = .ok (.iconst (1), 1) := by decide +kernel
theorem d_Mo_order_150 : decode b_Mo_order 150 = .ok (.isub, 1) := by decide +kernel
theorem d_Mo_order_151 : decode b_Mo_order 151 = .ok (.iaload, 1) := by decide +kernel
theorem d_Mo_order_152 : decode b_Mo_order 152 = .ok (.iastore, 1) := by decide +kernel
theorem d_Mo_order_153 : decode b_Mo_order 153 = .ok (.iinc 7 (-1), 3) := by decide +kernel
theorem d_Mo_order_156 : decode b_Mo_order 156 = .ok (.goto (-42), 3) := by decide +kernel
theorem d_Mo_order_159 : decode b_Mo_order 159 = .ok (.aload_n 0, 1) := by decide +kernel
theorem d_Mo_order_160 : decode b_Mo_order 160 = .ok (.getfield 36, 3) := by decide +kernel
theorem d_Mo_order_163 : decode b_Mo_order 163 = .ok (.iload 6, 2) := by decide +kernel
theorem d_Mo_order_165 : decode b_Mo_order 165 = .ok (.iload 4, 2) := by decide +kernel
theorem d_Mo_order_167 : decode b_Mo_order 167 = .ok (.iastore, 1) := by decide +kernel
theorem d_Mo_order_168 : decode b_Mo_order 168 = .ok (.aload_n 0, 1) := by decide +kernel
theorem d_Mo_order_169 : decode b_Mo_order 169 = .ok (.getfield 39, 3) := by decide +kernel
theorem d_Mo_order_172 : decode b_Mo_order 172 = .ok (.iload 6, 2) := by decide +kernel
theorem d_Mo_order_174 : decode b_Mo_order 174 = .ok (.iload 5, 2) := by decide +kernel
theorem d_Mo_order_176 : decode b_Mo_order 176 = .ok (.iastore, 1) := by decide +kernel
theorem d_Mo_order_177 : decode b_Mo_order 177 = .ok (.iinc 2 (1), 3) := by decide +kernel
theorem d_Mo_order_180 : decode b_Mo_order 180 = .ok (.iinc 3 (1), 3) := by decide +kernel
theorem d_Mo_order_183 : decode b_Mo_order 183 = .ok (.goto (-179), 3) := by decide +kernel
theorem d_Mo_order_186 : decode b_Mo_order 186 = .ok (.iload_n 2, 1) := by decide +kernel
theorem d_Mo_order_187 : decode b_Mo_order 187 = .ok (.ireturn, 1) := by decide +kernel
section
variable {p : Program} {l : Launch} {e : Env} {R : Room} {s : State} {m : MethodId} {args : Array Value} {below : List Frame} {meth : Method} {c : Code} {D : va_G} {base : Nat} {g : Nat → ClassId} {az : Nat → Nat} {kz : Nat × Nat}
set_option maxRecDepth 100000 in
set_option maxHeartbeats 4000000 in
theorem t_Mo_order_159 {k4 : Int32 × Int32 × Int32 × MS → Option (MS × Int32)} (B : xB p R s m args meth c b_Mo_order 8 R_Mo (Cond.code y_Mo_order b_Mo_order 8 (some .int) :: x_T) (some .int) 1 25 D x_cl (xty g) base) (hk4 : ∀ (l1 : Int32) (l2 : Int32) (l3 : Int32) (M : MS) , Sn p l e R s m args below meth c 8 D x_cl base (xwd g) cM x_g0 az kz (xfc cM) (xZ below args s D x_cl (xty g) base (xwd g) cM x_g0 az kz ovI) 4 [] [(0, .ref 97), (1, .int l1), (2, .int l2), (3, .int l3)] M (k4 (l1, l2, l3, M))) (l1 : Int32) (l2 : Int32) (l3 : Int32) (l4 : Int32) (l5 : Int32) (l6 : Int32) (M : MS)  : Sn p l e R s m args below meth c 8 D x_cl base (xwd g) cM x_g0 az kz (xfc cM) (xZ below args s D x_cl (xty g) base (xwd g) cM x_g0 az kz ovI) 159 [] [(0, .ref 97), (1, .int l1), (2, .int l2), (3, .int l3), (4, .int l4), (5, .int l5), (6, .int l6)] M (m_Mo_order_159 k4 l1 l2 l3 l4 l5 l6 M) := by
  unfold m_Mo_order_159
  refine s_aload_n B d_Mo_order_159 rfl ?_
  refine s_getS (k := 11) (n := 106) B xc_Mo kd_97 (by decide) rfl rfl fl_Mo_36 sr_97_11 d_Mo_order_160 ?_
  refine s_iload B d_Mo_order_163 rfl ?_
  refine s_iload B d_Mo_order_165 rfl ?_
  refine s_iast B (Or.inl kd_106) d_Mo_order_167 (fun M1 _ => ?_)
  refine s_aload_n B d_Mo_order_168 rfl ?_
  refine s_getS (k := 12) (n := 107) B xc_Mo kd_97 (by decide) rfl rfl fl_Mo_39 sr_97_12 d_Mo_order_169 ?_
  refine s_iload B d_Mo_order_172 rfl ?_
  refine s_iload B d_Mo_order_174 rfl ?_
  refine s_iast B (Or.inl kd_107) d_Mo_order_176 (fun M2 _ => ?_)
  refine s_iinc (w := (1:Int32)) B d_Mo_order_177 rfl (by decide) (by decide) ?_
  refine s_iinc (w := (1:Int32)) B d_Mo_order_180 rfl (by decide) (by decide) ?_
  refine s_goto B d_Mo_order_183 rfl ?_
  refine s_pick (lv1 := [(0, .ref 97), (1, .int l1), (2, .int (l2 + (1:Int32))), (3, .int (l3 + (1:Int32)))]) [0, 1, 2, 3] rfl ?_
  exact hk4 l1 (l2 + (1:Int32)) (l3 + (1:Int32)) M2
set_option maxRecDepth 100000 in
set_option maxHeartbeats 4000000 in
theorem t_Mo_order_114b {k4 : Int32 × Int32 × Int32 × MS → Option (MS × Int32)} {k114 : Int32 × Int32 × Int32 × Int32 × Int32 × Int32 × Int32 × MS → Option (MS × Int32)} (B : xB p R s m args meth c b_Mo_order 8 R_Mo (Cond.code y_Mo_order b_Mo_order 8 (some .int) :: x_T) (some .int) 1 25 D x_cl (xty g) base) (hk4 : ∀ (l1 : Int32) (l2 : Int32) (l3 : Int32) (M : MS) , Sn p l e R s m args below meth c 8 D x_cl base (xwd g) cM x_g0 az kz (xfc cM) (xZ below args s D x_cl (xty g) base (xwd g) cM x_g0 az kz ovI) 4 [] [(0, .ref 97), (1, .int l1), (2, .int l2), (3, .int l3)] M (k4 (l1, l2, l3, M))) (hk114 : ∀ (l1 : Int32) (l2 : Int32) (l3 : Int32) (l4 : Int32) (l5 : Int32) (l6 : Int32) (l7 : Int32) (M : MS) , Sn p l e R s m args below meth c 8 D x_cl base (xwd g) cM x_g0 az kz (xfc cM) (xZ below args s D x_cl (xty g) base (xwd g) cM x_g0 az kz ovI) 114 [] [(0, .ref 97), (1, .int l1), (2, .int l2), (3, .int l3), (4, .int l4), (5, .int l5), (6, .int l6), (7, .int l7)] M (k114 (l1, l2, l3, l4, l5, l6, l7, M))) (l1 : Int32) (l2 : Int32) (l3 : Int32) (l4 : Int32) (l5 : Int32) (l6 : Int32) (l7 : Int32) (M : MS)  : Sn p l e R s m args below meth c 8 D x_cl base (xwd g) cM x_g0 az kz (xfc cM) (xZ below args s D x_cl (xty g) base (xwd g) cM x_g0 az kz ovI) 114 [] [(0, .ref 97), (1, .int l1), (2, .int l2), (3, .int l3), (4, .int l4), (5, .int l5), (6, .int l6), (7, .int l7)] M (m_Mo_order_114b k4 k114 l1 l2 l3 l4 l5 l6 l7 M) := by
  unfold m_Mo_order_114b
  refine s_iload B d_Mo_order_114 rfl ?_
  refine s_iload B d_Mo_order_116 rfl ?_
  refine s_icmp_le B d_Mo_order_118 rfl (fun _ => ?_) (fun _ => ?_)
  · refine s_pick (lv1 := [(0, .ref 97), (1, .int l1), (2, .int l2), (3, .int l3), (4, .int l4), (5, .int l5), (6, .int l6)]) [0, 1, 2, 3, 4, 5, 6] rfl ?_
    exact t_Mo_order_159 B hk4 l1 l2 l3 l4 l5 l6 M
  · refine s_aload_n B d_Mo_order_121 rfl ?_
    refine s_getS (k := 11) (n := 106) B xc_Mo kd_97 (by decide) rfl rfl fl_Mo_36 sr_97_11 d_Mo_order_122 ?_
    refine s_iload B d_Mo_order_125 rfl ?_
    refine s_aload_n B d_Mo_order_127 rfl ?_
    refine s_getS (k := 11) (n := 106) B xc_Mo kd_97 (by decide) rfl rfl fl_Mo_36 sr_97_11 d_Mo_order_128 ?_
    refine s_iload B d_Mo_order_131 rfl ?_
    refine s_iconst (v := (1:Int32)) B d_Mo_order_133 (by decide) ?_
    refine s_isub B d_Mo_order_134 ?_
    refine s_iald B (Or.inl kd_106) d_Mo_order_135 (fun v1 _ => ?_)
    refine s_iast B (Or.inl kd_106) d_Mo_order_136 (fun M2 _ => ?_)
    refine s_aload_n B d_Mo_order_137 rfl ?_
    refine s_getS (k := 12) (n := 107) B xc_Mo kd_97 (by decide) rfl rfl fl_Mo_39 sr_97_12 d_Mo_order_138 ?_
    refine s_iload B d_Mo_order_141 rfl ?_
    refine s_aload_n B d_Mo_order_143 rfl ?_
    refine s_getS (k := 12) (n := 107) B xc_Mo kd_97 (by decide) rfl rfl fl_Mo_39 sr_97_12 d_Mo_order_144 ?_
    refine s_iload B d_Mo_order_147 rfl ?_
    refine s_iconst (v := (1:Int32)) B d_Mo_order_149 (by decide) ?_
    refine s_isub B d_Mo_order_150 ?_
    refine s_iald B (Or.inl kd_107) d_Mo_order_151 (fun v3 _ => ?_)
    refine s_iast B (Or.inl kd_107) d_Mo_order_152 (fun M4 _ => ?_)
    refine s_iinc (w := (-1:Int32)) B d_Mo_order_153 rfl (by decide) (by decide) ?_
    refine s_goto B d_Mo_order_156 rfl ?_
    refine s_pick (lv1 := [(0, .ref 97), (1, .int l1), (2, .int l2), (3, .int l3), (4, .int l4), (5, .int l5), (6, .int l6), (7, .int (l7 + (-1:Int32)))]) [0, 1, 2, 3, 4, 5, 6, 7] rfl ?_
    exact hk114 l1 l2 l3 l4 l5 l6 (l7 + (-1:Int32)) M4
set_option maxRecDepth 100000 in
set_option maxHeartbeats 4000000 in
theorem t_Mo_order_114 {k4 : Int32 × Int32 × Int32 × MS → Option (MS × Int32)} (B : xB p R s m args meth c b_Mo_order 8 R_Mo (Cond.code y_Mo_order b_Mo_order 8 (some .int) :: x_T) (some .int) 1 25 D x_cl (xty g) base) (hk4 : ∀ (l1 : Int32) (l2 : Int32) (l3 : Int32) (M : MS) , Sn p l e R s m args below meth c 8 D x_cl base (xwd g) cM x_g0 az kz (xfc cM) (xZ below args s D x_cl (xty g) base (xwd g) cM x_g0 az kz ovI) 4 [] [(0, .ref 97), (1, .int l1), (2, .int l2), (3, .int l3)] M (k4 (l1, l2, l3, M))) (l1 : Int32) (l2 : Int32) (l3 : Int32) (l4 : Int32) (l5 : Int32) (l6 : Int32) (l7 : Int32) (M : MS)  : Sn p l e R s m args below meth c 8 D x_cl base (xwd g) cM x_g0 az kz (xfc cM) (xZ below args s D x_cl (xty g) base (xwd g) cM x_g0 az kz ovI) 114 [] [(0, .ref 97), (1, .int l1), (2, .int l2), (3, .int l3), (4, .int l4), (5, .int l5), (6, .int l6), (7, .int l7)] M (m_Mo_order_114 k4 (l1, l2, l3, l4, l5, l6, l7, M)) := by
  have q : ∀ (F : Nat) (i : Int32 × Int32 × Int32 × Int32 × Int32 × Int32 × Int32 × MS), Sn p l e R s m args below meth c 8 D x_cl base (xwd g) cM x_g0 az kz (xfc cM) (xZ below args s D x_cl (xty g) base (xwd g) cM x_g0 az kz ovI) 114 [] [(0, .ref 97), (1, .int i.1), (2, .int i.2.1), (3, .int i.2.2.1), (4, .int i.2.2.2.1), (5, .int i.2.2.2.2.1), (6, .int i.2.2.2.2.2.1), (7, .int i.2.2.2.2.2.2.1)] i.2.2.2.2.2.2.2 (fx (fun (k : Int32 × Int32 × Int32 × Int32 × Int32 × Int32 × Int32 × MS → Option (MS × Int32)) (i : Int32 × Int32 × Int32 × Int32 × Int32 × Int32 × Int32 × MS) => m_Mo_order_114b k4 k i.1 i.2.1 i.2.2.1 i.2.2.2.1 i.2.2.2.2.1 i.2.2.2.2.2.1 i.2.2.2.2.2.2.1 i.2.2.2.2.2.2.2) F i) := by
    intro F
    induction F with
    | zero => intro i ; exact s_none
    | succ F ih => intro i ; exact t_Mo_order_114b B hk4 (fun l1 l2 l3 l4 l5 l6 l7 M  => ih (l1, l2, l3, l4, l5, l6, l7, M) ) i.1 i.2.1 i.2.2.1 i.2.2.2.1 i.2.2.2.2.1 i.2.2.2.2.2.1 i.2.2.2.2.2.2.1 i.2.2.2.2.2.2.2 
  exact q FU (l1, l2, l3, l4, l5, l6, l7, M) 
set_option maxRecDepth 100000 in
set_option maxHeartbeats 4000000 in
theorem t_Mo_order_71 {k4 : Int32 × Int32 × Int32 × MS → Option (MS × Int32)} (B : xB p R s m args meth c b_Mo_order 8 R_Mo (Cond.code y_Mo_order b_Mo_order 8 (some .int) :: x_T) (some .int) 1 25 D x_cl (xty g) base) (hk4 : ∀ (l1 : Int32) (l2 : Int32) (l3 : Int32) (M : MS) , Sn p l e R s m args below meth c 8 D x_cl base (xwd g) cM x_g0 az kz (xfc cM) (xZ below args s D x_cl (xty g) base (xwd g) cM x_g0 az kz ovI) 4 [] [(0, .ref 97), (1, .int l1), (2, .int l2), (3, .int l3)] M (k4 (l1, l2, l3, M))) (l1 : Int32) (l2 : Int32) (l3 : Int32) (l4 : Int32) (l5 : Int32) (l6 : Int32) (M : MS)  : Sn p l e R s m args below meth c 8 D x_cl base (xwd g) cM x_g0 az kz (xfc cM) (xZ below args s D x_cl (xty g) base (xwd g) cM x_g0 az kz ovI) 71 [] [(0, .ref 97), (1, .int l1), (2, .int l2), (3, .int l3), (4, .int l4), (5, .int l5), (6, .int l6)] M (m_Mo_order_71 k4 l1 l2 l3 l4 l5 l6 M) := by
  unfold m_Mo_order_71
  refine s_iload B d_Mo_order_71 rfl ?_
  refine s_if_le B d_Mo_order_73 rfl (fun _ => ?_) (fun _ => ?_)
  · refine s_iload_n B d_Mo_order_111 rfl ?_
    refine s_istore B d_Mo_order_112 (by decide) ?_
    refine s_pick (lv1 := [(0, .ref 97), (1, .int l1), (2, .int l2), (3, .int l3), (4, .int l4), (5, .int l5), (6, .int l6), (7, .int l2)]) [0, 1, 2, 3, 4, 5, 6, 7] rfl ?_
    exact t_Mo_order_114 B hk4 l1 l2 l3 l4 l5 l6 l2 M
  · refine s_aload_n B d_Mo_order_76 rfl ?_
    refine s_getS (k := 3) (n := 100) B xc_Mo kd_97 (by decide) rfl rfl fl_Mo_17 sr_97_3 d_Mo_order_77 ?_
    refine s_iload B d_Mo_order_80 rfl ?_
    refine s_iload B d_Mo_order_82 rfl ?_
    refine s_aload_n B d_Mo_order_84 rfl ?_
    refine s_getS (k := 11) (n := 106) B xc_Mo kd_97 (by decide) rfl rfl fl_Mo_36 sr_97_11 d_Mo_order_85 ?_
    refine s_iload B d_Mo_order_88 rfl ?_
    refine s_iconst (v := (1:Int32)) B d_Mo_order_90 (by decide) ?_
    refine s_isub B d_Mo_order_91 ?_
    refine s_iald B (Or.inl kd_106) d_Mo_order_92 (fun v1 _ => ?_)
    refine s_aload_n B d_Mo_order_93 rfl ?_
    refine s_getS (k := 12) (n := 107) B xc_Mo kd_97 (by decide) rfl rfl fl_Mo_39 sr_97_12 d_Mo_order_94 ?_
    refine s_iload B d_Mo_order_97 rfl ?_
    refine s_iconst (v := (1:Int32)) B d_Mo_order_99 (by decide) ?_
    refine s_isub B d_Mo_order_100 ?_
    refine s_iald B (Or.inl kd_107) d_Mo_order_101 (fun v2 _ => ?_)
    refine s_pick (lv1 := [(0, .ref 97), (1, .int l1), (2, .int l2), (3, .int l3), (4, .int l4), (5, .int l5), (6, .int l6)]) [0, 1, 2, 3, 4, 5, 6] rfl ?_
    refine s_callI (av := [.ref 100, .int l4, .int l5, .int v1, .int v2]) (rest := []) B (lk_S B d_Mo_order_102 (gl_Mo_124 _) (List.mem_cons_of_mem _ st_Mo_compare) (List.mem_cons_of_mem _ in_Mo) (List.mem_cons_of_mem _ ml_Mo_124) rfl hs_Mo_compare (by decide) (by decide)) rfl x_rcS (fun _ _ => rfl) rfl rfl (by simp [Value.category]) rfl (fun r3 e9 => ct_Mo_compare _ _ _ _ _ r3 e9) (fun r3 _ => ?_)
    refine s_if_ne B d_Mo_order_105 rfl (fun _ => ?_) (fun _ => ?_)
    · refine s_iload_n B d_Mo_order_111 rfl ?_
      refine s_istore B d_Mo_order_112 (by decide) ?_
      refine s_pick (lv1 := [(0, .ref 97), (1, .int l1), (2, .int l2), (3, .int l3), (4, .int l4), (5, .int l5), (6, .int l6), (7, .int l2)]) [0, 1, 2, 3, 4, 5, 6, 7] rfl ?_
      exact t_Mo_order_114 B hk4 l1 l2 l3 l4 l5 l6 l2 r3.1
    · refine s_goto B d_Mo_order_108 rfl ?_
      refine s_iinc (w := (1:Int32)) B d_Mo_order_180 rfl (by decide) (by decide) ?_
      refine s_goto B d_Mo_order_183 rfl ?_
      refine s_pick (lv1 := [(0, .ref 97), (1, .int l1), (2, .int l2), (3, .int (l3 + (1:Int32)))]) [0, 1, 2, 3] rfl ?_
      exact hk4 l1 l2 (l3 + (1:Int32)) r3.1
set_option maxRecDepth 100000 in
set_option maxHeartbeats 4000000 in
theorem t_Mo_order_28b {k4 : Int32 × Int32 × Int32 × MS → Option (MS × Int32)} {k28 : Int32 × Int32 × Int32 × Int32 × Int32 × Int32 × MS → Option (MS × Int32)} (B : xB p R s m args meth c b_Mo_order 8 R_Mo (Cond.code y_Mo_order b_Mo_order 8 (some .int) :: x_T) (some .int) 1 25 D x_cl (xty g) base) (hk4 : ∀ (l1 : Int32) (l2 : Int32) (l3 : Int32) (M : MS) , Sn p l e R s m args below meth c 8 D x_cl base (xwd g) cM x_g0 az kz (xfc cM) (xZ below args s D x_cl (xty g) base (xwd g) cM x_g0 az kz ovI) 4 [] [(0, .ref 97), (1, .int l1), (2, .int l2), (3, .int l3)] M (k4 (l1, l2, l3, M))) (hk28 : ∀ (l1 : Int32) (l2 : Int32) (l3 : Int32) (l4 : Int32) (l5 : Int32) (l6 : Int32) (M : MS) , Sn p l e R s m args below meth c 8 D x_cl base (xwd g) cM x_g0 az kz (xfc cM) (xZ below args s D x_cl (xty g) base (xwd g) cM x_g0 az kz ovI) 28 [] [(0, .ref 97), (1, .int l1), (2, .int l2), (3, .int l3), (4, .int l4), (5, .int l5), (6, .int l6)] M (k28 (l1, l2, l3, l4, l5, l6, M))) (l1 : Int32) (l2 : Int32) (l3 : Int32) (l4 : Int32) (l5 : Int32) (l6 : Int32) (M : MS)  : Sn p l e R s m args below meth c 8 D x_cl base (xwd g) cM x_g0 az kz (xfc cM) (xZ below args s D x_cl (xty g) base (xwd g) cM x_g0 az kz ovI) 28 [] [(0, .ref 97), (1, .int l1), (2, .int l2), (3, .int l3), (4, .int l4), (5, .int l5), (6, .int l6)] M (m_Mo_order_28b k4 k28 l1 l2 l3 l4 l5 l6 M) := by
  unfold m_Mo_order_28b
  refine s_iload B d_Mo_order_28 rfl ?_
  refine s_if_le B d_Mo_order_30 rfl (fun _ => ?_) (fun _ => ?_)
  · refine s_pick (lv1 := [(0, .ref 97), (1, .int l1), (2, .int l2), (3, .int l3), (4, .int l4), (5, .int l5), (6, .int l6)]) [0, 1, 2, 3, 4, 5, 6] rfl ?_
    exact t_Mo_order_71 B hk4 l1 l2 l3 l4 l5 l6 M
  · refine s_aload_n B d_Mo_order_33 rfl ?_
    refine s_getS (k := 3) (n := 100) B xc_Mo kd_97 (by decide) rfl rfl fl_Mo_17 sr_97_3 d_Mo_order_34 ?_
    refine s_iload B d_Mo_order_37 rfl ?_
    refine s_iload B d_Mo_order_39 rfl ?_
    refine s_aload_n B d_Mo_order_41 rfl ?_
    refine s_getS (k := 11) (n := 106) B xc_Mo kd_97 (by decide) rfl rfl fl_Mo_36 sr_97_11 d_Mo_order_42 ?_
    refine s_iload B d_Mo_order_45 rfl ?_
    refine s_iconst (v := (1:Int32)) B d_Mo_order_47 (by decide) ?_
    refine s_isub B d_Mo_order_48 ?_
    refine s_iald B (Or.inl kd_106) d_Mo_order_49 (fun v1 _ => ?_)
    refine s_aload_n B d_Mo_order_50 rfl ?_
    refine s_getS (k := 12) (n := 107) B xc_Mo kd_97 (by decide) rfl rfl fl_Mo_39 sr_97_12 d_Mo_order_51 ?_
    refine s_iload B d_Mo_order_54 rfl ?_
    refine s_iconst (v := (1:Int32)) B d_Mo_order_56 (by decide) ?_
    refine s_isub B d_Mo_order_57 ?_
    refine s_iald B (Or.inl kd_107) d_Mo_order_58 (fun v2 _ => ?_)
    refine s_pick (lv1 := [(0, .ref 97), (1, .int l1), (2, .int l2), (3, .int l3), (4, .int l4), (5, .int l5), (6, .int l6)]) [0, 1, 2, 3, 4, 5, 6] rfl ?_
    refine s_callI (av := [.ref 100, .int l4, .int l5, .int v1, .int v2]) (rest := []) B (lk_S B d_Mo_order_59 (gl_Mo_124 _) (List.mem_cons_of_mem _ st_Mo_compare) (List.mem_cons_of_mem _ in_Mo) (List.mem_cons_of_mem _ ml_Mo_124) rfl hs_Mo_compare (by decide) (by decide)) rfl x_rcS (fun _ _ => rfl) rfl rfl (by simp [Value.category]) rfl (fun r3 e9 => ct_Mo_compare _ _ _ _ _ r3 e9) (fun r3 _ => ?_)
    refine s_if_ge B d_Mo_order_62 rfl (fun _ => ?_) (fun _ => ?_)
    · refine s_pick (lv1 := [(0, .ref 97), (1, .int l1), (2, .int l2), (3, .int l3), (4, .int l4), (5, .int l5), (6, .int l6)]) [0, 1, 2, 3, 4, 5, 6] rfl ?_
      exact t_Mo_order_71 B hk4 l1 l2 l3 l4 l5 l6 r3.1
    · refine s_iinc (w := (-1:Int32)) B d_Mo_order_65 rfl (by decide) (by decide) ?_
      refine s_goto B d_Mo_order_68 rfl ?_
      refine s_pick (lv1 := [(0, .ref 97), (1, .int l1), (2, .int l2), (3, .int l3), (4, .int l4), (5, .int l5), (6, .int (l6 + (-1:Int32)))]) [0, 1, 2, 3, 4, 5, 6] rfl ?_
      exact hk28 l1 l2 l3 l4 l5 (l6 + (-1:Int32)) r3.1
set_option maxRecDepth 100000 in
set_option maxHeartbeats 4000000 in
theorem t_Mo_order_28 {k4 : Int32 × Int32 × Int32 × MS → Option (MS × Int32)} (B : xB p R s m args meth c b_Mo_order 8 R_Mo (Cond.code y_Mo_order b_Mo_order 8 (some .int) :: x_T) (some .int) 1 25 D x_cl (xty g) base) (hk4 : ∀ (l1 : Int32) (l2 : Int32) (l3 : Int32) (M : MS) , Sn p l e R s m args below meth c 8 D x_cl base (xwd g) cM x_g0 az kz (xfc cM) (xZ below args s D x_cl (xty g) base (xwd g) cM x_g0 az kz ovI) 4 [] [(0, .ref 97), (1, .int l1), (2, .int l2), (3, .int l3)] M (k4 (l1, l2, l3, M))) (l1 : Int32) (l2 : Int32) (l3 : Int32) (l4 : Int32) (l5 : Int32) (l6 : Int32) (M : MS)  : Sn p l e R s m args below meth c 8 D x_cl base (xwd g) cM x_g0 az kz (xfc cM) (xZ below args s D x_cl (xty g) base (xwd g) cM x_g0 az kz ovI) 28 [] [(0, .ref 97), (1, .int l1), (2, .int l2), (3, .int l3), (4, .int l4), (5, .int l5), (6, .int l6)] M (m_Mo_order_28 k4 (l1, l2, l3, l4, l5, l6, M)) := by
  have q : ∀ (F : Nat) (i : Int32 × Int32 × Int32 × Int32 × Int32 × Int32 × MS), Sn p l e R s m args below meth c 8 D x_cl base (xwd g) cM x_g0 az kz (xfc cM) (xZ below args s D x_cl (xty g) base (xwd g) cM x_g0 az kz ovI) 28 [] [(0, .ref 97), (1, .int i.1), (2, .int i.2.1), (3, .int i.2.2.1), (4, .int i.2.2.2.1), (5, .int i.2.2.2.2.1), (6, .int i.2.2.2.2.2.1)] i.2.2.2.2.2.2 (fx (fun (k : Int32 × Int32 × Int32 × Int32 × Int32 × Int32 × MS → Option (MS × Int32)) (i : Int32 × Int32 × Int32 × Int32 × Int32 × Int32 × MS) => m_Mo_order_28b k4 k i.1 i.2.1 i.2.2.1 i.2.2.2.1 i.2.2.2.2.1 i.2.2.2.2.2.1 i.2.2.2.2.2.2) F i) := by
    intro F
    induction F with
    | zero => intro i ; exact s_none
    | succ F ih => intro i ; exact t_Mo_order_28b B hk4 (fun l1 l2 l3 l4 l5 l6 M  => ih (l1, l2, l3, l4, l5, l6, M) ) i.1 i.2.1 i.2.2.1 i.2.2.2.1 i.2.2.2.2.1 i.2.2.2.2.2.1 i.2.2.2.2.2.2 
  exact q FU (l1, l2, l3, l4, l5, l6, M) 
set_option maxRecDepth 100000 in
set_option maxHeartbeats 4000000 in
theorem t_Mo_order_4b {k4 : Int32 × Int32 × Int32 × MS → Option (MS × Int32)} (B : xB p R s m args meth c b_Mo_order 8 R_Mo (Cond.code y_Mo_order b_Mo_order 8 (some .int) :: x_T) (some .int) 1 25 D x_cl (xty g) base) (hk4 : ∀ (l1 : Int32) (l2 : Int32) (l3 : Int32) (M : MS) , Sn p l e R s m args below meth c 8 D x_cl base (xwd g) cM x_g0 az kz (xfc cM) (xZ below args s D x_cl (xty g) base (xwd g) cM x_g0 az kz ovI) 4 [] [(0, .ref 97), (1, .int l1), (2, .int l2), (3, .int l3)] M (k4 (l1, l2, l3, M))) (l1 : Int32) (l2 : Int32) (l3 : Int32) (M : MS)  : Sn p l e R s m args below meth c 8 D x_cl base (xwd g) cM x_g0 az kz (xfc cM) (xZ below args s D x_cl (xty g) base (xwd g) cM x_g0 az kz ovI) 4 [] [(0, .ref 97), (1, .int l1), (2, .int l2), (3, .int l3)] M (m_Mo_order_4b k4 l1 l2 l3 M) := by
  unfold m_Mo_order_4b
  refine s_iload_n B d_Mo_order_4 rfl ?_
  refine s_iload_n B d_Mo_order_5 rfl ?_
  refine s_icmp_ge B d_Mo_order_6 rfl (fun _ => ?_) (fun _ => ?_)
  · refine s_iload_n B d_Mo_order_186 rfl ?_
    exact s_iret B d_Mo_order_187
  · refine s_aload_n B d_Mo_order_9 rfl ?_
    refine s_getS (k := 11) (n := 106) B xc_Mo kd_97 (by decide) rfl rfl fl_Mo_36 sr_97_11 d_Mo_order_10 ?_
    refine s_iload_n B d_Mo_order_13 rfl ?_
    refine s_iald B (Or.inl kd_106) d_Mo_order_14 (fun v1 _ => ?_)
    refine s_istore B d_Mo_order_15 (by decide) ?_
    refine s_aload_n B d_Mo_order_17 rfl ?_
    refine s_getS (k := 12) (n := 107) B xc_Mo kd_97 (by decide) rfl rfl fl_Mo_39 sr_97_12 d_Mo_order_18 ?_
    refine s_iload_n B d_Mo_order_21 rfl ?_
    refine s_iald B (Or.inl kd_107) d_Mo_order_22 (fun v2 _ => ?_)
    refine s_istore B d_Mo_order_23 (by decide) ?_
    refine s_iload_n B d_Mo_order_25 rfl ?_
    refine s_istore B d_Mo_order_26 (by decide) ?_
    refine s_pick (lv1 := [(0, .ref 97), (1, .int l1), (2, .int l2), (3, .int l3), (4, .int v1), (5, .int v2), (6, .int l2)]) [0, 1, 2, 3, 4, 5, 6] rfl ?_
    exact t_Mo_order_28 B hk4 l1 l2 l3 v1 v2 l2 M
set_option maxRecDepth 100000 in
set_option maxHeartbeats 4000000 in
theorem t_Mo_order_4  (B : xB p R s m args meth c b_Mo_order 8 R_Mo (Cond.code y_Mo_order b_Mo_order 8 (some .int) :: x_T) (some .int) 1 25 D x_cl (xty g) base)  (l1 : Int32) (l2 : Int32) (l3 : Int32) (M : MS)  : Sn p l e R s m args below meth c 8 D x_cl base (xwd g) cM x_g0 az kz (xfc cM) (xZ below args s D x_cl (xty g) base (xwd g) cM x_g0 az kz ovI) 4 [] [(0, .ref 97), (1, .int l1), (2, .int l2), (3, .int l3)] M (m_Mo_order_4 (l1, l2, l3, M)) := by
  have q : ∀ (F : Nat) (i : Int32 × Int32 × Int32 × MS), Sn p l e R s m args below meth c 8 D x_cl base (xwd g) cM x_g0 az kz (xfc cM) (xZ below args s D x_cl (xty g) base (xwd g) cM x_g0 az kz ovI) 4 [] [(0, .ref 97), (1, .int i.1), (2, .int i.2.1), (3, .int i.2.2.1)] i.2.2.2 (fx (fun (k : Int32 × Int32 × Int32 × MS → Option (MS × Int32)) (i : Int32 × Int32 × Int32 × MS) => m_Mo_order_4b k i.1 i.2.1 i.2.2.1 i.2.2.2) F i) := by
    intro F
    induction F with
    | zero => intro i ; exact s_none
    | succ F ih => intro i ; exact t_Mo_order_4b B  (fun l1 l2 l3 M  => ih (l1, l2, l3, M) ) i.1 i.2.1 i.2.2.1 i.2.2.2 
  exact q FU (l1, l2, l3, M) 
set_option maxRecDepth 100000 in
set_option maxHeartbeats 4000000 in
theorem t_Mo_order (B : xB p R s m args meth c b_Mo_order 8 R_Mo (Cond.code y_Mo_order b_Mo_order 8 (some .int) :: x_T) (some .int) 1 25 D x_cl (xty g) base) (a1 : Int32) (M : MS) : Sn p l e R s m args below meth c 8 D x_cl base (xwd g) cM x_g0 az kz (xfc cM) (xZ below args s D x_cl (xty g) base (xwd g) cM x_g0 az kz ovI) 0 [] [(0, .ref 97), (1, .int a1)] M (m_Mo_order a1 M) := by
  unfold m_Mo_order
  refine s_iconst (v := (0:Int32)) B d_Mo_order_0 (by decide) ?_
  refine s_istore_n B d_Mo_order_1 (by decide) ?_
  refine s_iconst (v := (0:Int32)) B d_Mo_order_2 (by decide) ?_
  refine s_istore_n B d_Mo_order_3 (by decide) ?_
  refine s_pick (lv1 := [(0, .ref 97), (1, .int a1), (2, .int (0:Int32)), (3, .int (0:Int32))]) [0, 1, 2, 3] rfl ?_
  exact t_Mo_order_4 B a1 (0:Int32) (0:Int32) M
set_option maxRecDepth 100000 in
set_option maxHeartbeats 4000000 in
theorem ct_Mo_order {l : Launch} {D : va_G} {base : Nat} {g : Nat → ClassId} (a1 : Int32) (M : MS) (r : MS × Int32) (hr : m_Mo_order a1 M = some r) : Ct l y_Mo_order (Cond.code y_Mo_order b_Mo_order 8 (some .int) :: x_T) 1 25 D x_cl (xty g) base (xwd g) cM x_g0 [.ref 97, .int a1] M r.1 (ovI r.2) :=
  x_met (ov := ovI) (by decide) (Nat.le_of_ble_eq_true rfl) (fun p e R s m args below meth c az B => t_Mo_order B a1 M) r hr
end
theorem d_Mo_unite_0 : decode b_Mo_unite 0 = .ok (.iload_n 1, 1) := by decide +kernel
theorem d_Mo_unite_1 : decode b_Mo_unite 1 = .ok (.iconst (4), 1) := by decide +kernel
theorem d_Mo_unite_2 : decode b_Mo_unite 2 = .ok (.if_icmp .ne (7), 3) := by decide +kernel
theorem d_Mo_unite_5 : decode b_Mo_unite 5 = .ok (.iconst (1), 1) := by decide +kernel
theorem d_Mo_unite_6 : decode b_Mo_unite 6 = .ok (.goto (4), 3) := by decide +kernel
theorem d_Mo_unite_9 : decode b_Mo_unite 9 = .ok (.iconst (0), 1) := by decide +kernel
theorem d_Mo_unite_10 : decode b_Mo_unite 10 = .ok (.istore_n 2, 1) := by decide +kernel
theorem d_Mo_unite_11 : decode b_Mo_unite 11 = .ok (.iload_n 2, 1) := by decide +kernel
theorem d_Mo_unite_12 : decode b_Mo_unite 12 = .ok (.ifCond .eq (7), 3) := by decide +kernel
theorem d_Mo_unite_15 : decode b_Mo_unite 15 = .ok (.iconst (0), 1) := by decide +kernel
theorem d_Mo_unite_16 : decode b_Mo_unite 16 = .ok (.goto (5), 3) := by decide +kernel
theorem d_Mo_unite_19 : decode b_Mo_unite 19 = .ok (.bipush (15), 2) := by decide +kernel
theorem d_Mo_unite_21 : decode b_Mo_unite 21 = .ok (.istore_n 3, 1) := by decide +kernel
theorem d_Mo_unite_22 : decode b_Mo_unite 22 = .ok (.iconst (0), 1) := by decide +kernel
theorem d_Mo_unite_23 : decode b_Mo_unite 23 = .ok (.istore 4, 2) := by decide +kernel
theorem d_Mo_unite_25 : decode b_Mo_unite 25 = .ok (.iconst (0), 1) := by decide +kernel
theorem d_Mo_unite_26 : decode b_Mo_unite 26 = .ok (.istore 5, 2) := by decide +kernel
theorem d_Mo_unite_28 : decode b_Mo_unite 28 = .ok (.iconst (0), 1) := by decide +kernel
theorem d_Mo_unite_29 : decode b_Mo_unite 29 = .ok (.istore 6, 2) := by decide +kernel
theorem d_Mo_unite_31 : decode b_Mo_unite 31 = .ok (.iload 6, 2) := by decide +kernel
theorem d_Mo_unite_33 : decode b_Mo_unite 33 = .ok (.aload_n 0, 1) := by decide +kernel
theorem d_Mo_unite_34 : decode b_Mo_unite 34 = .ok (.getfield 107, 3) := by decide +kernel
theorem d_Mo_unite_37 : decode b_Mo_unite 37 = .ok (.if_icmp .ge (141), 3) := by decide +kernel
theorem d_Mo_unite_40 : decode b_Mo_unite 40 = .ok (.aload_n 0, 1) := by decide +kernel
theorem d_Mo_unite_41 : decode b_Mo_unite 41 = .ok (.getfield 17, 3) := by decide +kernel
theorem d_Mo_unite_44 : decode b_Mo_unite 44 = .ok (.aload_n 0, 1) := by decide +kernel
theorem d_Mo_unite_45 : decode b_Mo_unite 45 = .ok (.getfield 36, 3) := by decide +kernel
theorem d_Mo_unite_48 : decode b_Mo_unite 48 = .ok (.iload 6, 2) := by decide +kernel
theorem d_Mo_unite_50 : decode b_Mo_unite 50 = .ok (.iaload, 1) := by decide +kernel
theorem d_Mo_unite_51 : decode b_Mo_unite 51 = .ok (.iaload, 1) := by decide +kernel
theorem d_Mo_unite_52 : decode b_Mo_unite 52 = .ok (.istore 7, 2) := by decide +kernel
theorem d_Mo_unite_54 : decode b_Mo_unite 54 = .ok (.iload_n 2, 1) := by decide +kernel
theorem d_Mo_unite_55 : decode b_Mo_unite 55 = .ok (.ifCond .eq (15), 3) := by decide +kernel
theorem d_Mo_unite_58 : decode b_Mo_unite 58 = .ok (.aload_n 0, 1) := by decide +kernel
theorem d_Mo_unite_59 : decode b_Mo_unite 59 = .ok (.iload 6, 2) := by decide +kernel
theorem d_Mo_unite_61 : decode b_Mo_unite 61 = .ok (.invokevirtual 110, 3) := by decide +kernel
theorem d_Mo_unite_64 : decode b_Mo_unite 64 = .ok (.ifCond .eq (18), 3) := by decide +kernel
theorem d_Mo_unite_67 : decode b_Mo_unite 67 = .ok (.goto (8), 3) := by decide +kernel
theorem d_Mo_unite_70 : decode b_Mo_unite 70 = .ok (.iload 7, 2) := by decide +kernel
theorem d_Mo_unite_72 : decode b_Mo_unite 72 = .ok (.ifCond .ne (10), 3) := by decide +kernel
theorem d_Mo_unite_75 : decode b_Mo_unite 75 = .ok (.aload_n 0, 1) := by decide +kernel
theorem d_Mo_unite_76 : decode b_Mo_unite 76 = .ok (.iload_n 1, 1) := by decide +kernel
theorem d_Mo_unite_77 : decode b_Mo_unite 77 = .ok (.iload_n 2, 1) := by decide +kernel
theorem d_Mo_unite_78 : decode b_Mo_unite 78 = .ok (.invokevirtual 114, 3) := by decide +kernel
theorem d_Mo_unite_81 : decode b_Mo_unite 81 = .ok (.ireturn, 1) := by decide +kernel
theorem d_Mo_unite_82 : decode b_Mo_unite 82 = .ok (.iload_n 2, 1) := by decide +kernel
theorem d_Mo_unite_83 : decode b_Mo_unite 83 = .ok (.ifCond .eq (11), 3) := by decide +kernel
theorem d_Mo_unite_86 : decode b_Mo_unite 86 = .ok (.iload 7, 2) := by decide +kernel
theorem d_Mo_unite_88 : decode b_Mo_unite 88 = .ok (.ifCond .ne (18), 3) := by decide +kernel
theorem d_Mo_unite_91 : decode b_Mo_unite 91 = .ok (.goto (81), 3) := by decide +kernel
theorem d_Mo_unite_94 : decode b_Mo_unite 94 = .ok (.aload_n 0, 1) := by decide +kernel
theorem d_Mo_unite_95 : decode b_Mo_unite 95 = .ok (.iload 6, 2) := by decide +kernel
theorem d_Mo_unite_97 : decode b_Mo_unite 97 = .ok (.invokevirtual 110, 3) := by decide +kernel
theorem d_Mo_unite_100 : decode b_Mo_unite 100 = .ok (.ifCond .eq (6), 3) := by decide +kernel
theorem d_Mo_unite_103 : decode b_Mo_unite 103 = .ok (.goto (69), 3) := by decide +kernel
theorem d_Mo_unite_106 : decode b_Mo_unite 106 = .ok (.iload 7, 2) := by decide +kernel
theorem d_Mo_unite_108 : decode b_Mo_unite 108 = .ok (.invokestatic 96, 3) := by decide +kernel
theorem d_Mo_unite_111 : decode b_Mo_unite 111 = .ok (.iconst (2), 1) := by decide +kernel
theorem d_Mo_unite_112 : decode b_Mo_unite 112 = .ok (.if_icmp .ne (29), 3) := by decide +kernel
theorem d_Mo_unite_115 : decode b_Mo_unite 115 = .ok (.iconst (1), 1) := by decide +kernel
theorem d_Mo_unite_116 : decode b_Mo_unite 116 = .ok (.istore 4, 2) := by decide +kernel
theorem d_Mo_unite_118 : decode b_Mo_unite 118 = .ok (.iload_n 2, 1) := by decide +kernel
theorem d_Mo_unite_119 : decode b_Mo_unite 119 = .ok (.ifCond .eq (12), 3) := by decide +kernel
theorem d_Mo_unite_122 : decode b_Mo_unite 122 = .ok (.iload_n 3, 1) := by decide +kernel
theorem d_Mo_unite_123 : decode b_Mo_unite 123 = .ok (.iload 7, 2) := by decide +kernel
theorem d_Mo_unite_125 : decode b_Mo_unite 125 = .ok (.iconst (3), 1) := by decide +kernel
theorem d_Mo_unite_126 : decode b_Mo_unite 126 = .ok (.ishr, 1) := by decide +kernel
theorem d_Mo_unite_127 : decode b_Mo_unite 127 = .ok (.ior, 1) := by decide +kernel
theorem d_Mo_unite_128 : decode b_Mo_unite 128 = .ok (.goto (9), 3) := by decide +kernel
theorem d_Mo_unite_131 : decode b_Mo_unite 131 = .ok (.iload_n 3, 1) := by decide +kernel
theorem d_Mo_unite_132 : decode b_Mo_unite 132 = .ok (.iload 7, 2) := by decide +kernel
theorem d_Mo_unite_134 : decode b_Mo_unite 134 = .ok (.iconst (3), 1) := by decide +kernel
theorem d_Mo_unite_135 : decode b_Mo_unite 135 = .ok (.ishr, 1) := by decide +kernel
theorem d_Mo_unite_136 : decode b_Mo_unite 136 = .ok (.iand, 1) := by decide +kernel
theorem d_Mo_unite_137 : decode b_Mo_unite 137 = .ok (.istore_n 3, 1) := by decide +kernel
theorem d_Mo_unite_138 : decode b_Mo_unite 138 = .ok (.goto (34), 3) := by decide +kernel
theorem d_Mo_unite_141 : decode b_Mo_unite 141 = .ok (.aload_n 0, 1) := by decide +kernel
theorem d_Mo_unite_142 : decode b_Mo_unite 142 = .ok (.getfield 36, 3) := by decide +kernel
theorem d_Mo_unite_145 : decode b_Mo_unite 145 = .ok (.iload 5, 2) := by decide +kernel
theorem d_Mo_unite_147 : decode b_Mo_unite 147 = .ok (.aload_n 0, 1) := by decide +kernel
theorem d_Mo_unite_148 : decode b_Mo_unite 148 = .ok (.getfield 36, 3) := by decide +kernel
theorem d_Mo_unite_151 : decode b_Mo_unite 151 = .ok (.iload 6, 2) := by decide +kernel
theorem d_Mo_unite_153 : decode b_Mo_unite 153 = .ok (.iaload, 1) := by decide +kernel
theorem d_Mo_unite_154 : decode b_Mo_unite 154 = .ok (.iastore, 1) := by decide +kernel
theorem d_Mo_unite_155 : decode b_Mo_unite 155 = .ok (.aload_n 0, 1) := by decide +kernel
theorem d_Mo_unite_156 : decode b_Mo_unite 156 = .ok (.getfield 39, 3) := by decide +kernel
theorem d_Mo_unite_159 : decode b_Mo_unite 159 = .ok (.iload 5, 2) := by decide +kernel
theorem d_Mo_unite_161 : decode b_Mo_unite 161 = .ok (.aload_n 0, 1) := by decide +kernel
theorem d_Mo_unite_162 : decode b_Mo_unite 162 = .ok (.getfield 39, 3) := by decide +kernel
theorem d_Mo_unite_165 : decode b_Mo_unite 165 = .ok (.iload 6, 2) := by decide +kernel
theorem d_Mo_unite_167 : decode b_Mo_unite 167 = .ok (.iaload, 1) := by decide +kernel
theorem d_Mo_unite_168 : decode b_Mo_unite 168 = .ok (.iastore, 1) := by decide +kernel
theorem d_Mo_unite_169 : decode b_Mo_unite 169 = .ok (.iinc 5 (1), 3) := by decide +kernel
theorem d_Mo_unite_172 : decode b_Mo_unite 172 = .ok (.iinc 6 (1), 3) := by decide +kernel
theorem d_Mo_unite_175 : decode b_Mo_unite 175 = .ok (.goto (-144), 3) := by decide +kernel
theorem d_Mo_unite_178 : decode b_Mo_unite 178 = .ok (.iload 4, 2) := by decide +kernel
theorem d_Mo_unite_180 : decode b_Mo_unite 180 = .ok (.ifCond .eq (14), 3) := by decide +kernel
theorem d_Mo_unite_183 : decode b_Mo_unite 183 = .ok (.iload_n 3, 1) := by decide +kernel
theorem d_Mo_unite_184 : decode b_Mo_unite 184 = .ok (.ifCond .ne (10), 3) := by decide +kernel
theorem d_Mo_unite_187 : decode b_Mo_unite 187 = .ok (.aload_n 0, 1) := by decide +kernel
theorem d_Mo_unite_188 : decode b_Mo_unite 188 = .ok (.iload_n 1, 1) := by decide +kernel
theorem d_Mo_unite_189 : decode b_Mo_unite 189 = .ok (.iconst (0), 1) := by decide +kernel
theorem d_Mo_unite_190 : decode b_Mo_unite 190 = .ok (.invokevirtual 114, 3) := by decide +kernel
theorem d_Mo_unite_193 : decode b_Mo_unite 193 = .ok (.ireturn, 1) := by decide +kernel
theorem d_Mo_unite_194 : decode b_Mo_unite 194 = .ok (.iload 4, 2) := by decide +kernel
theorem d_Mo_unite_196 : decode b_Mo_unite 196 = .ok (.ifCond .eq (39), 3) := by decide +kernel
theorem d_Mo_unite_199 : decode b_Mo_unite 199 = .ok (.aload_n 0, 1) := by decide +kernel
theorem d_Mo_unite_200 : decode b_Mo_unite 200 = .ok (.getfield 17, 3) := by decide +kernel
theorem d_Mo_unite_203 : decode b_Mo_unite 203 = .ok (.aload_n 0, 1) := by decide +kernel
theorem d_Mo_unite_204 : decode b_Mo_unite 204 = .ok (.getfield 118, 3) := by decide +kernel
theorem d_Mo_unite_207 : decode b_Mo_unite 207 = .ok (.iconst (2), 1) := by decide +kernel
theorem d_Mo_unite_208 : decode b_Mo_unite 208 = .ok (.iload_n 3, 1) := by decide +kernel
theorem d_Mo_unite_209 : decode b_Mo_unite 209 = .ok (.iconst (3), 1) := by decide +kernel
theorem d_Mo_unite_210 : decode b_Mo_unite 210 = .ok (.ishl, 1) := by decide +kernel
theorem d_Mo_unite_211 : decode b_Mo_unite 211 = .ok (.ior, 1) := by decide +kernel
theorem d_Mo_unite_212 : decode b_Mo_unite 212 = .ok (.iastore, 1) := by decide +kernel
theorem d_Mo_unite_213 : decode b_Mo_unite 213 = .ok (.aload_n 0, 1) := by decide +kernel
theorem d_Mo_unite_214 : decode b_Mo_unite 214 = .ok (.getfield 36, 3) := by decide +kernel
theorem d_Mo_unite_217 : decode b_Mo_unite 217 = .ok (.iload 5, 2) := by decide +kernel
theorem d_Mo_unite_219 : decode b_Mo_unite 219 = .ok (.aload_n 0, 1) := by decide +kernel
theorem d_Mo_unite_220 : decode b_Mo_unite 220 = .ok (.getfield 118, 3) := by decide +kernel
theorem d_Mo_unite_223 : decode b_Mo_unite 223 = .ok (.iastore, 1) := by decide +kernel
theorem d_Mo_unite_224 : decode b_Mo_unite 224 = .ok (.aload_n 0, 1) := by decide +kernel
theorem d_Mo_unite_225 : decode b_Mo_unite 225 = .ok (.getfield 39, 3) := by decide +kernel
theorem d_Mo_unite_228 : decode b_Mo_unite 228 = .ok (.iload 5, 2) := by decide +kernel
theorem d_Mo_unite_230 : decode b_Mo_unite 230 = .ok (.iconst (1), 1) := by decide +kernel
theorem d_Mo_unite_231 : decode b_Mo_unite 231 = .ok (.iastore, 1) := by decide +kernel
theorem d_Mo_unite_232 : decode b_Mo_unite 232 = .ok (.iinc 5 (1), 3) := by decide +kernel
theorem d_Mo_unite_235 : decode b_Mo_unite 235 = .ok (.aload_n 0, 1) := by decide +kernel
theorem d_Mo_unite_236 : decode b_Mo_unite 236 = .ok (.aload_n 0, 1) := by decide +kernel
theorem d_Mo_unite_237 : decode b_Mo_unite 237 = .ok (.iload 5, 2) := by decide +kernel
theorem d_Mo_unite_239 : decode b_Mo_unite 239 = .ok (.invokevirtual 121, 3) := by decide +kernel
theorem d_Mo_unite_242 : decode b_Mo_unite 242 = .ok (.putfield 107, 3) := by decide +kernel
theorem d_Mo_unite_245 : decode b_Mo_unite 245 = .ok (.aload_n 0, 1) := by decide +kernel
theorem d_Mo_unite_246 : decode b_Mo_unite 246 = .ok (.getfield 107, 3) := by decide +kernel
theorem d_Mo_unite_249 : decode b_Mo_unite 249 = .ok (.ifCond .ne (18), 3) := by decide +kernel
theorem d_Mo_unite_252 : decode b_Mo_unite 252 = .ok (.aload_n 0, 1) := by decide +kernel
theorem d_Mo_unite_253 : decode b_Mo_unite 253 = .ok (.iload_n 1, 1) := by decide +kernel
theorem d_Mo_unite_254 : decode b_Mo_unite 254 = .ok (.iload_n 2, 1) := by decide +kernel
theorem d_Mo_unite_255 : decode b_Mo_unite 255 = .ok (.ifCond .ne (7), 3) := by decide +kernel
theorem d_Mo_unite_258 : decode b_Mo_unite 258 = .ok (.iconst (1), 1) := by decide +kernel
theorem d_Mo_unite_259 : decode b_Mo_unite 259 = .ok (.goto (4), 3) := by decide +kernel
theorem d_Mo_unite_262 : decode b_Mo_unite 262 = .ok (.iconst (0), 1) := by decide +kernel
theorem d_Mo_unite_263 : decode b_Mo_unite 263 = .ok (.invokevirtual 114, 3) := by decide +kernel
theorem d_Mo_unite_266 : decode b_Mo_unite 266 = .ok (.ireturn, 1) := by decide +kernel
theorem d_Mo_unite_267 : decode b_Mo_unite 267 = .ok (.iconst (0), 1) := by decide +kernel
theorem d_Mo_unite_268 : decode b_Mo_unite 268 = .ok (.istore 6, 2) := by decide +kernel
theorem d_Mo_unite_270 : decode b_Mo_unite 270 = .ok (.aload_n 0, 1) := by decide +kernel
theorem d_Mo_unite_271 : decode b_Mo_unite 271 = .ok (.getfield 107, 3) := by decide +kernel
theorem d_Mo_unite_274 : decode b_Mo_unite 274 = .ok (.iconst (1), 1) := by decide +kernel
theorem d_Mo_unite_275 : decode b_Mo_unite 275 = .ok (.if_icmp .le (20), 3) := by decide +kernel
theorem d_Mo_unite_278 : decode b_Mo_unite 278 = .ok (.aload_n 0, 1) := by decide +kernel
theorem d_Mo_unite_279 : decode b_Mo_unite 279 = .ok (.getfield 20, 3) := by decide +kernel
theorem d_Mo_unite_282 : decode b_Mo_unite 282 = .ok (.iconst (0), 1) := by decide +kernel
theorem d_Mo_unite_283 : decode b_Mo_unite 283 = .ok (.iload_n 1, 1) := by decide +kernel
theorem d_Mo_unite_284 : decode b_Mo_unite 284 = .ok (.aload_n 0, 1) := by decide +kernel
theorem d_Mo_unite_285 : decode b_Mo_unite 285 = .ok (.getfield 107, 3) := by decide +kernel
theorem d_Mo_unite_288 : decode b_Mo_unite 288 = .ok (.iconst (3), 1) := by decide +kernel
theorem d_Mo_unite_289 : decode b_Mo_unite 289 = .ok (.ishl, 1) := by decide +kernel
theorem d_Mo_unite_290 : decode b_Mo_unite 290 = .ok (.ior, 1) := by decide +kernel
theorem d_Mo_unite_291 : decode b_Mo_unite 291 = .ok (.iastore, 1) := by decide +kernel
theorem d_Mo_unite_292 : decode b_Mo_unite 292 = .ok (.iconst (1), 1) := by decide +kernel
theorem d_Mo_unite_293 : decode b_Mo_unite 293 = .ok (.istore 6, 2) := by decide +kernel
theorem d_Mo_unite_295 : decode b_Mo_unite 295 = .ok (.iconst (0), 1) := by decide +kernel
theorem d_Mo_unite_296 : decode b_Mo_unite 296 = .ok (.istore 7, 2) := by decide +kernel
theorem d_Mo_unite_298 : decode b_Mo_unite 298 = .ok (.iload 7, 2) := by decide +kernel
theorem d_Mo_unite_300 : decode b_Mo_unite 300 = .ok (.aload_n 0, 1) := by decide +kernel
theorem d_Mo_unite_301 : decode b_Mo_unite 301 = .ok (.getfield 107, 3) := by decide +kernel
theorem d_Mo_unite_304 : decode b_Mo_unite 304 = .ok (.if_icmp .ge (67), 3) := by decide +kernel
theorem d_Mo_unite_307 : decode b_Mo_unite 307 = .ok (.iconst (0), 1) := by decide +kernel
theorem d_Mo_unite_308 : decode b_Mo_unite 308 = .ok (.istore 8, 2) := by decide +kernel
theorem d_Mo_unite_310 : decode b_Mo_unite 310 = .ok (.iload 8, 2) := by decide +kernel
theorem d_Mo_unite_312 : decode b_Mo_unite 312 = .ok (.aload_n 0, 1) := by decide +kernel
theorem d_Mo_unite_313 : decode b_Mo_unite 313 = .ok (.getfield 39, 3) := by decide +kernel
theorem d_Mo_unite_316 : decode b_Mo_unite 316 = .ok (.iload 7, 2) := by decide +kernel
theorem d_Mo_unite_318 : decode b_Mo_unite 318 = .ok (.iaload, 1) := by decide +kernel
theorem d_Mo_unite_319 : decode b_Mo_unite 319 = .ok (.if_icmp .ge (34), 3) := by decide +kernel
theorem d_Mo_unite_322 : decode b_Mo_unite 322 = .ok (.aload_n 0, 1) := by decide +kernel
theorem d_Mo_unite_323 : decode b_Mo_unite 323 = .ok (.getfield 20, 3) := by decide +kernel
theorem d_Mo_unite_326 : decode b_Mo_unite 326 = .ok (.iload 6, 2) := by decide +kernel
theorem d_Mo_unite_328 : decode b_Mo_unite 328 = .ok (.iload 8, 2) := by decide +kernel
theorem d_Mo_unite_330 : decode b_Mo_unite 330 = .ok (.iadd, 1) := by decide +kernel
theorem d_Mo_unite_331 : decode b_Mo_unite 331 = .ok (.aload_n 0, 1) := by decide +kernel
theorem d_Mo_unite_332 : decode b_Mo_unite 332 = .ok (.getfield 17, 3) := by decide +kernel
theorem d_Mo_unite_335 : decode b_Mo_unite 335 = .ok (.aload_n 0, 1) := by decide +kernel
theorem d_Mo_unite_336 : decode b_Mo_unite 336 = .ok (.getfield 36, 3) := by decide +kernel
theorem d_Mo_unite_339 : decode b_Mo_unite 339 = .ok (.iload 7, 2) := by decide +kernel
theorem d_Mo_unite_341 : decode b_Mo_unite 341 = .ok (.iaload, 1) := by decide +kernel
theorem d_Mo_unite_342 : decode b_Mo_unite 342 = .ok (.iload 8, 2) := by decide +kernel
theorem d_Mo_unite_344 : decode b_Mo_unite 344 = .ok (.iadd, 1) := by decide +kernel
theorem d_Mo_unite_345 : decode b_Mo_unite 345 = .ok (.iaload, 1) := by decide +kernel
theorem d_Mo_unite_346 : decode b_Mo_unite 346 = .ok (.iastore, 1) := by decide +kernel
theorem d_Mo_unite_347 : decode b_Mo_unite 347 = .ok (.iinc 8 (1), 3) := by decide +kernel
theorem d_Mo_unite_350 : decode b_Mo_unite 350 = .ok (.goto (-40), 3) := by decide +kernel
theorem d_Mo_unite_353 : decode b_Mo_unite 353 = .ok (.iload 6, 2) := by decide +kernel
theorem d_Mo_unite_355 : decode b_Mo_unite 355 = .ok (.aload_n 0, 1) := by decide +kernel
theorem d_Mo_unite_356 : decode b_Mo_unite 356 = .ok (.getfield 39, 3) := by decide +kernel
theorem d_Mo_unite_359 : decode b_Mo_unite 359 = .ok (.iload 7, 2) := by decide +kernel
theorem d_Mo_unite_361 : decode b_Mo_unite 361 = .ok (.iaload, 1) := by decide +kernel
theorem d_Mo_unite_362 : decode b_Mo_unite 362 = .ok (.iadd, 1) := by decide +kernel
theorem d_Mo_unite_363 : decode b_Mo_unite 363 = .ok (.istore 6, 2) := by decide +kernel
theorem d_Mo_unite_365 : decode b_Mo_unite 365 = .ok (.iinc 7 (1), 3) := by decide +kernel
theorem d_Mo_unite_368 : decode b_Mo_unite 368 = .ok (.goto (-70), 3) := by decide +kernel
theorem d_Mo_unite_371 : decode b_Mo_unite 371 = .ok (.iload 6, 2) := by decide +kernel
theorem d_Mo_unite_373 : decode b_Mo_unite 373 = .ok (.ireturn, 1) := by decide +kernel
section
variable {p : Program} {l : Launch} {e : Env} {R : Room} {s : State} {m : MethodId} {args : Array Value} {below : List Frame} {meth : Method} {c : Code} {D : va_G} {base : Nat} {g : Nat → ClassId} {az : Nat → Nat} {kz : Nat × Nat}
set_option maxRecDepth 100000 in
set_option maxHeartbeats 4000000 in
theorem t_Mo_unite_353 {k298 : Int32 × Int32 × MS → Option (MS × Int32)} (B : xB p R s m args meth c b_Mo_unite 9 R_Mo (Cond.code y_Mo_unite b_Mo_unite 9 (some .int) :: x_T) (some .int) 2 52 D x_cl (xty g) base) (hk298 : ∀ (l6 : Int32) (l7 : Int32) (M : MS) , Sn p l e R s m args below meth c 9 D x_cl base (xwd g) cM x_g0 az kz (xfc cM) (xZ below args s D x_cl (xty g) base (xwd g) cM x_g0 az kz ovI) 298 [] [(0, .ref 97), (6, .int l6), (7, .int l7)] M (k298 (l6, l7, M))) (l6 : Int32) (l7 : Int32) (M : MS)  : Sn p l e R s m args below meth c 9 D x_cl base (xwd g) cM x_g0 az kz (xfc cM) (xZ below args s D x_cl (xty g) base (xwd g) cM x_g0 az kz ovI) 353 [] [(0, .ref 97), (6, .int l6), (7, .int l7)] M (m_Mo_unite_353 k298 l6 l7 M) := by
  unfold m_Mo_unite_353
  refine s_iload B d_Mo_unite_353 rfl ?_
  refine s_aload_n B d_Mo_unite_355 rfl ?_
  refine s_getS (k := 12) (n := 107) B xc_Mo kd_97 (by decide) rfl rfl fl_Mo_39 sr_97_12 d_Mo_unite_356 ?_
  refine s_iload B d_Mo_unite_359 rfl ?_
  refine s_iald B (Or.inl kd_107) d_Mo_unite_361 (fun v1 _ => ?_)
  refine s_iadd B d_Mo_unite_362 ?_
  refine s_istore B d_Mo_unite_363 (by decide) ?_
  refine s_iinc (w := (1:Int32)) B d_Mo_unite_365 rfl (by decide) (by decide) ?_
  refine s_goto B d_Mo_unite_368 rfl ?_
  refine s_pick (lv1 := [(0, .ref 97), (6, .int (l6 + v1)), (7, .int (l7 + (1:Int32)))]) [0, 6, 7] rfl ?_
  exact hk298 (l6 + v1) (l7 + (1:Int32)) M
set_option maxRecDepth 100000 in
set_option maxHeartbeats 4000000 in
theorem t_Mo_unite_310b {k298 : Int32 × Int32 × MS → Option (MS × Int32)} {k310 : Int32 × Int32 × Int32 × MS → Option (MS × Int32)} (B : xB p R s m args meth c b_Mo_unite 9 R_Mo (Cond.code y_Mo_unite b_Mo_unite 9 (some .int) :: x_T) (some .int) 2 52 D x_cl (xty g) base) (hk298 : ∀ (l6 : Int32) (l7 : Int32) (M : MS) , Sn p l e R s m args below meth c 9 D x_cl base (xwd g) cM x_g0 az kz (xfc cM) (xZ below args s D x_cl (xty g) base (xwd g) cM x_g0 az kz ovI) 298 [] [(0, .ref 97), (6, .int l6), (7, .int l7)] M (k298 (l6, l7, M))) (hk310 : ∀ (l6 : Int32) (l7 : Int32) (l8 : Int32) (M : MS) , Sn p l e R s m args below meth c 9 D x_cl base (xwd g) cM x_g0 az kz (xfc cM) (xZ below args s D x_cl (xty g) base (xwd g) cM x_g0 az kz ovI) 310 [] [(0, .ref 97), (6, .int l6), (7, .int l7), (8, .int l8)] M (k310 (l6, l7, l8, M))) (l6 : Int32) (l7 : Int32) (l8 : Int32) (M : MS)  : Sn p l e R s m args below meth c 9 D x_cl base (xwd g) cM x_g0 az kz (xfc cM) (xZ below args s D x_cl (xty g) base (xwd g) cM x_g0 az kz ovI) 310 [] [(0, .ref 97), (6, .int l6), (7, .int l7), (8, .int l8)] M (m_Mo_unite_310b k298 k310 l6 l7 l8 M) := by
  unfold m_Mo_unite_310b
  refine s_iload B d_Mo_unite_310 rfl ?_
  refine s_aload_n B d_Mo_unite_312 rfl ?_
  refine s_getS (k := 12) (n := 107) B xc_Mo kd_97 (by decide) rfl rfl fl_Mo_39 sr_97_12 d_Mo_unite_313 ?_
  refine s_iload B d_Mo_unite_316 rfl ?_
  refine s_iald B (Or.inl kd_107) d_Mo_unite_318 (fun v1 _ => ?_)
  refine s_icmp_ge B d_Mo_unite_319 rfl (fun _ => ?_) (fun _ => ?_)
  · refine s_pick (lv1 := [(0, .ref 97), (6, .int l6), (7, .int l7)]) [0, 6, 7] rfl ?_
    exact t_Mo_unite_353 B hk298 l6 l7 M
  · refine s_aload_n B d_Mo_unite_322 rfl ?_
    refine s_getS (k := 4) (n := 101) B xc_Mo kd_97 (by decide) rfl rfl fl_Mo_20 sr_97_4 d_Mo_unite_323 ?_
    refine s_iload B d_Mo_unite_326 rfl ?_
    refine s_iload B d_Mo_unite_328 rfl ?_
    refine s_iadd B d_Mo_unite_330 ?_
    refine s_aload_n B d_Mo_unite_331 rfl ?_
    refine s_getS (k := 3) (n := 100) B xc_Mo kd_97 (by decide) rfl rfl fl_Mo_17 sr_97_3 d_Mo_unite_332 ?_
    refine s_aload_n B d_Mo_unite_335 rfl ?_
    refine s_getS (k := 11) (n := 106) B xc_Mo kd_97 (by decide) rfl rfl fl_Mo_36 sr_97_11 d_Mo_unite_336 ?_
    refine s_iload B d_Mo_unite_339 rfl ?_
    refine s_iald B (Or.inl kd_106) d_Mo_unite_341 (fun v2 _ => ?_)
    refine s_iload B d_Mo_unite_342 rfl ?_
    refine s_iadd B d_Mo_unite_344 ?_
    refine s_iald B (Or.inl kd_100) d_Mo_unite_345 (fun v3 _ => ?_)
    refine s_iast B (Or.inl kd_101) d_Mo_unite_346 (fun M4 _ => ?_)
    refine s_iinc (w := (1:Int32)) B d_Mo_unite_347 rfl (by decide) (by decide) ?_
    refine s_goto B d_Mo_unite_350 rfl ?_
    refine s_pick (lv1 := [(0, .ref 97), (6, .int l6), (7, .int l7), (8, .int (l8 + (1:Int32)))]) [0, 6, 7, 8] rfl ?_
    exact hk310 l6 l7 (l8 + (1:Int32)) M4
set_option maxRecDepth 100000 in
set_option maxHeartbeats 4000000 in
theorem t_Mo_unite_310 {k298 : Int32 × Int32 × MS → Option (MS × Int32)} (B : xB p R s m args meth c b_Mo_unite 9 R_Mo (Cond.code y_Mo_unite b_Mo_unite 9 (some .int) :: x_T) (some .int) 2 52 D x_cl (xty g) base) (hk298 : ∀ (l6 : Int32) (l7 : Int32) (M : MS) , Sn p l e R s m args below meth c 9 D x_cl base (xwd g) cM x_g0 az kz (xfc cM) (xZ below args s D x_cl (xty g) base (xwd g) cM x_g0 az kz ovI) 298 [] [(0, .ref 97), (6, .int l6), (7, .int l7)] M (k298 (l6, l7, M))) (l6 : Int32) (l7 : Int32) (l8 : Int32) (M : MS)  : Sn p l e R s m args below meth c 9 D x_cl base (xwd g) cM x_g0 az kz (xfc cM) (xZ below args s D x_cl (xty g) base (xwd g) cM x_g0 az kz ovI) 310 [] [(0, .ref 97), (6, .int l6), (7, .int l7), (8, .int l8)] M (m_Mo_unite_310 k298 (l6, l7, l8, M)) := by
  have q : ∀ (F : Nat) (i : Int32 × Int32 × Int32 × MS), Sn p l e R s m args below meth c 9 D x_cl base (xwd g) cM x_g0 az kz (xfc cM) (xZ below args s D x_cl (xty g) base (xwd g) cM x_g0 az kz ovI) 310 [] [(0, .ref 97), (6, .int i.1), (7, .int i.2.1), (8, .int i.2.2.1)] i.2.2.2 (fx (fun (k : Int32 × Int32 × Int32 × MS → Option (MS × Int32)) (i : Int32 × Int32 × Int32 × MS) => m_Mo_unite_310b k298 k i.1 i.2.1 i.2.2.1 i.2.2.2) F i) := by
    intro F
    induction F with
    | zero => intro i ; exact s_none
    | succ F ih => intro i ; exact t_Mo_unite_310b B hk298 (fun l6 l7 l8 M  => ih (l6, l7, l8, M) ) i.1 i.2.1 i.2.2.1 i.2.2.2 
  exact q FU (l6, l7, l8, M) 
set_option maxRecDepth 100000 in
set_option maxHeartbeats 4000000 in
theorem t_Mo_unite_298b {k298 : Int32 × Int32 × MS → Option (MS × Int32)} (B : xB p R s m args meth c b_Mo_unite 9 R_Mo (Cond.code y_Mo_unite b_Mo_unite 9 (some .int) :: x_T) (some .int) 2 52 D x_cl (xty g) base) (hk298 : ∀ (l6 : Int32) (l7 : Int32) (M : MS) , Sn p l e R s m args below meth c 9 D x_cl base (xwd g) cM x_g0 az kz (xfc cM) (xZ below args s D x_cl (xty g) base (xwd g) cM x_g0 az kz ovI) 298 [] [(0, .ref 97), (6, .int l6), (7, .int l7)] M (k298 (l6, l7, M))) (l6 : Int32) (l7 : Int32) (M : MS)  : Sn p l e R s m args below meth c 9 D x_cl base (xwd g) cM x_g0 az kz (xfc cM) (xZ below args s D x_cl (xty g) base (xwd g) cM x_g0 az kz ovI) 298 [] [(0, .ref 97), (6, .int l6), (7, .int l7)] M (m_Mo_unite_298b k298 l6 l7 M) := by
  unfold m_Mo_unite_298b
  refine s_iload B d_Mo_unite_298 rfl ?_
  refine s_aload_n B d_Mo_unite_300 rfl ?_
  refine s_getI (k := 13) B xc_Mo kd_97 (by decide) rfl rfl fl_Mo_107 d_Mo_unite_301 ?_
  refine s_icmp_ge B d_Mo_unite_304 rfl (fun _ => ?_) (fun _ => ?_)
  · refine s_iload B d_Mo_unite_371 rfl ?_
    exact s_iret B d_Mo_unite_373
  · refine s_iconst (v := (0:Int32)) B d_Mo_unite_307 (by decide) ?_
    refine s_istore B d_Mo_unite_308 (by decide) ?_
    refine s_pick (lv1 := [(0, .ref 97), (6, .int l6), (7, .int l7), (8, .int (0:Int32))]) [0, 6, 7, 8] rfl ?_
    exact t_Mo_unite_310 B hk298 l6 l7 (0:Int32) M
set_option maxRecDepth 100000 in
set_option maxHeartbeats 4000000 in
theorem t_Mo_unite_298  (B : xB p R s m args meth c b_Mo_unite 9 R_Mo (Cond.code y_Mo_unite b_Mo_unite 9 (some .int) :: x_T) (some .int) 2 52 D x_cl (xty g) base)  (l6 : Int32) (l7 : Int32) (M : MS)  : Sn p l e R s m args below meth c 9 D x_cl base (xwd g) cM x_g0 az kz (xfc cM) (xZ below args s D x_cl (xty g) base (xwd g) cM x_g0 az kz ovI) 298 [] [(0, .ref 97), (6, .int l6), (7, .int l7)] M (m_Mo_unite_298 (l6, l7, M)) := by
  have q : ∀ (F : Nat) (i : Int32 × Int32 × MS), Sn p l e R s m args below meth c 9 D x_cl base (xwd g) cM x_g0 az kz (xfc cM) (xZ below args s D x_cl (xty g) base (xwd g) cM x_g0 az kz ovI) 298 [] [(0, .ref 97), (6, .int i.1), (7, .int i.2.1)] i.2.2 (fx (fun (k : Int32 × Int32 × MS → Option (MS × Int32)) (i : Int32 × Int32 × MS) => m_Mo_unite_298b k i.1 i.2.1 i.2.2) F i) := by
    intro F
    induction F with
    | zero => intro i ; exact s_none
    | succ F ih => intro i ; exact t_Mo_unite_298b B  (fun l6 l7 M  => ih (l6, l7, M) ) i.1 i.2.1 i.2.2 
  exact q FU (l6, l7, M) 
set_option maxRecDepth 100000 in
set_option maxHeartbeats 4000000 in
theorem t_Mo_unite_263  (B : xB p R s m args meth c b_Mo_unite 9 R_Mo (Cond.code y_Mo_unite b_Mo_unite 9 (some .int) :: x_T) (some .int) 2 52 D x_cl (xty g) base)  (s1 : Int32) (s2 : Int32) (M : MS)  : Sn p l e R s m args below meth c 9 D x_cl base (xwd g) cM x_g0 az kz (xfc cM) (xZ below args s D x_cl (xty g) base (xwd g) cM x_g0 az kz ovI) 263 [.int s2, .int s1, .ref 97] [] M (m_Mo_unite_263 s1 s2 M) := by
  unfold m_Mo_unite_263
  refine s_pick (lv1 := []) [] rfl ?_
  refine s_callI (av := [.ref 97, .int s1, .int s2]) (rest := []) B (lk_V B d_Mo_unite_263 (gl_Mo_114 _) rfl hv_Mo_simple (by decide) (by decide)) rfl (x_rcV B xc_Mo kd_97) (fun _ _ => rfl) rfl rfl (by simp [Value.category]) rfl (fun r1 e9 => ct_Mo_simple _ _ _ r1 e9) (fun r1 _ => ?_)
  exact s_iret B d_Mo_unite_266
set_option maxRecDepth 100000 in
set_option maxHeartbeats 4000000 in
theorem t_Mo_unite_235  (B : xB p R s m args meth c b_Mo_unite 9 R_Mo (Cond.code y_Mo_unite b_Mo_unite 9 (some .int) :: x_T) (some .int) 2 52 D x_cl (xty g) base)  (l1 : Int32) (l2 : Int32) (l5 : Int32) (M : MS)  : Sn p l e R s m args below meth c 9 D x_cl base (xwd g) cM x_g0 az kz (xfc cM) (xZ below args s D x_cl (xty g) base (xwd g) cM x_g0 az kz ovI) 235 [] [(0, .ref 97), (1, .int l1), (2, .int l2), (5, .int l5)] M (m_Mo_unite_235 l1 l2 l5 M) := by
  unfold m_Mo_unite_235
  refine s_aload_n B d_Mo_unite_235 rfl ?_
  refine s_aload_n B d_Mo_unite_236 rfl ?_
  refine s_iload B d_Mo_unite_237 rfl ?_
  refine s_pick (lv1 := [(0, .ref 97), (1, .int l1), (2, .int l2)]) [0, 1, 2] rfl ?_
  refine s_callI (av := [.ref 97, .int l5]) (rest := [.ref 97]) B (lk_V B d_Mo_unite_239 (gl_Mo_121 _) rfl hv_Mo_order (by decide) (by decide)) rfl (x_rcV B xc_Mo kd_97) (fun _ _ => rfl) rfl rfl (by simp [Value.category]) rfl (fun r1 e9 => ct_Mo_order _ _ r1 e9) (fun r1 _ => ?_)
  refine s_putI (k := 13) (ty := .int) B xc_Mo kd_97 (by decide) rfl rfl fl_Mo_107 rfl rfl rfl rfl d_Mo_unite_242 (fun M2 _ => ?_)
  refine s_aload_n B d_Mo_unite_245 rfl ?_
  refine s_getI (k := 13) B xc_Mo kd_97 (by decide) rfl rfl fl_Mo_107 d_Mo_unite_246 ?_
  refine s_if_ne B d_Mo_unite_249 rfl (fun _ => ?_) (fun _ => ?_)
  · refine s_iconst (v := (0:Int32)) B d_Mo_unite_267 (by decide) ?_
    refine s_istore B d_Mo_unite_268 (by decide) ?_
    refine s_aload_n B d_Mo_unite_270 rfl ?_
    refine s_getI (k := 13) B xc_Mo kd_97 (by decide) rfl rfl fl_Mo_107 d_Mo_unite_271 ?_
    refine s_iconst (v := (1:Int32)) B d_Mo_unite_274 (by decide) ?_
    refine s_icmp_le B d_Mo_unite_275 rfl (fun _ => ?_) (fun _ => ?_)
    · refine s_iconst (v := (0:Int32)) B d_Mo_unite_295 (by decide) ?_
      refine s_istore B d_Mo_unite_296 (by decide) ?_
      refine s_pick (lv1 := [(0, .ref 97), (6, .int (0:Int32)), (7, .int (0:Int32))]) [0, 6, 7] rfl ?_
      exact t_Mo_unite_298 B (0:Int32) (0:Int32) M2
    · refine s_aload_n B d_Mo_unite_278 rfl ?_
      refine s_getS (k := 4) (n := 101) B xc_Mo kd_97 (by decide) rfl rfl fl_Mo_20 sr_97_4 d_Mo_unite_279 ?_
      refine s_iconst (v := (0:Int32)) B d_Mo_unite_282 (by decide) ?_
      refine s_iload_n B d_Mo_unite_283 rfl ?_
      refine s_aload_n B d_Mo_unite_284 rfl ?_
      refine s_getI (k := 13) B xc_Mo kd_97 (by decide) rfl rfl fl_Mo_107 d_Mo_unite_285 ?_
      refine s_iconst (v := (3:Int32)) B d_Mo_unite_288 (by decide) ?_
      refine s_ishl B d_Mo_unite_289 ?_
      refine s_ior B d_Mo_unite_290 ?_
      refine s_iast B (Or.inl kd_101) d_Mo_unite_291 (fun M3 _ => ?_)
      refine s_iconst (v := (1:Int32)) B d_Mo_unite_292 (by decide) ?_
      refine s_istore B d_Mo_unite_293 (by decide) ?_
      refine s_iconst (v := (0:Int32)) B d_Mo_unite_295 (by decide) ?_
      refine s_istore B d_Mo_unite_296 (by decide) ?_
      refine s_pick (lv1 := [(0, .ref 97), (6, .int (1:Int32)), (7, .int (0:Int32))]) [0, 6, 7] rfl ?_
      exact t_Mo_unite_298 B (1:Int32) (0:Int32) M3
  · refine s_aload_n B d_Mo_unite_252 rfl ?_
    refine s_iload_n B d_Mo_unite_253 rfl ?_
    refine s_iload_n B d_Mo_unite_254 rfl ?_
    refine s_if_ne B d_Mo_unite_255 rfl (fun _ => ?_) (fun _ => ?_)
    · refine s_iconst (v := (0:Int32)) B d_Mo_unite_262 (by decide) ?_
      refine s_pick (lv1 := []) [] rfl ?_
      exact t_Mo_unite_263 B l1 (0:Int32) M2
    · refine s_iconst (v := (1:Int32)) B d_Mo_unite_258 (by decide) ?_
      refine s_goto B d_Mo_unite_259 rfl ?_
      refine s_pick (lv1 := []) [] rfl ?_
      exact t_Mo_unite_263 B l1 (1:Int32) M2
set_option maxRecDepth 100000 in
set_option maxHeartbeats 4000000 in
theorem t_Mo_unite_194  (B : xB p R s m args meth c b_Mo_unite 9 R_Mo (Cond.code y_Mo_unite b_Mo_unite 9 (some .int) :: x_T) (some .int) 2 52 D x_cl (xty g) base)  (l1 : Int32) (l2 : Int32) (l3 : Int32) (l4 : Int32) (l5 : Int32) (M : MS)  : Sn p l e R s m args below meth c 9 D x_cl base (xwd g) cM x_g0 az kz (xfc cM) (xZ below args s D x_cl (xty g) base (xwd g) cM x_g0 az kz ovI) 194 [] [(0, .ref 97), (1, .int l1), (2, .int l2), (3, .int l3), (4, .int l4), (5, .int l5)] M (m_Mo_unite_194 l1 l2 l3 l4 l5 M) := by
  unfold m_Mo_unite_194
  refine s_iload B d_Mo_unite_194 rfl ?_
  refine s_if_eq B d_Mo_unite_196 rfl (fun _ => ?_) (fun _ => ?_)
  · refine s_pick (lv1 := [(0, .ref 97), (1, .int l1), (2, .int l2), (5, .int l5)]) [0, 1, 2, 5] rfl ?_
    exact t_Mo_unite_235 B l1 l2 l5 M
  · refine s_aload_n B d_Mo_unite_199 rfl ?_
    refine s_getS (k := 3) (n := 100) B xc_Mo kd_97 (by decide) rfl rfl fl_Mo_17 sr_97_3 d_Mo_unite_200 ?_
    refine s_aload_n B d_Mo_unite_203 rfl ?_
    refine s_getI (k := 10) B xc_Mo kd_97 (by decide) rfl rfl fl_Mo_118 d_Mo_unite_204 ?_
    refine s_iconst (v := (2:Int32)) B d_Mo_unite_207 (by decide) ?_
    refine s_iload_n B d_Mo_unite_208 rfl ?_
    refine s_iconst (v := (3:Int32)) B d_Mo_unite_209 (by decide) ?_
    refine s_ishl B d_Mo_unite_210 ?_
    refine s_ior B d_Mo_unite_211 ?_
    refine s_iast B (Or.inl kd_100) d_Mo_unite_212 (fun M1 _ => ?_)
    refine s_aload_n B d_Mo_unite_213 rfl ?_
    refine s_getS (k := 11) (n := 106) B xc_Mo kd_97 (by decide) rfl rfl fl_Mo_36 sr_97_11 d_Mo_unite_214 ?_
    refine s_iload B d_Mo_unite_217 rfl ?_
    refine s_aload_n B d_Mo_unite_219 rfl ?_
    refine s_getI (k := 10) B xc_Mo kd_97 (by decide) rfl rfl fl_Mo_118 d_Mo_unite_220 ?_
    refine s_iast B (Or.inl kd_106) d_Mo_unite_223 (fun M2 _ => ?_)
    refine s_aload_n B d_Mo_unite_224 rfl ?_
    refine s_getS (k := 12) (n := 107) B xc_Mo kd_97 (by decide) rfl rfl fl_Mo_39 sr_97_12 d_Mo_unite_225 ?_
    refine s_iload B d_Mo_unite_228 rfl ?_
    refine s_iconst (v := (1:Int32)) B d_Mo_unite_230 (by decide) ?_
    refine s_iast B (Or.inl kd_107) d_Mo_unite_231 (fun M3 _ => ?_)
    refine s_iinc (w := (1:Int32)) B d_Mo_unite_232 rfl (by decide) (by decide) ?_
    refine s_pick (lv1 := [(0, .ref 97), (1, .int l1), (2, .int l2), (5, .int (l5 + (1:Int32)))]) [0, 1, 2, 5] rfl ?_
    exact t_Mo_unite_235 B l1 l2 (l5 + (1:Int32)) M3
set_option maxRecDepth 100000 in
set_option maxHeartbeats 4000000 in
theorem t_Mo_unite_178  (B : xB p R s m args meth c b_Mo_unite 9 R_Mo (Cond.code y_Mo_unite b_Mo_unite 9 (some .int) :: x_T) (some .int) 2 52 D x_cl (xty g) base)  (l1 : Int32) (l2 : Int32) (l3 : Int32) (l4 : Int32) (l5 : Int32) (M : MS)  : Sn p l e R s m args below meth c 9 D x_cl base (xwd g) cM x_g0 az kz (xfc cM) (xZ below args s D x_cl (xty g) base (xwd g) cM x_g0 az kz ovI) 178 [] [(0, .ref 97), (1, .int l1), (2, .int l2), (3, .int l3), (4, .int l4), (5, .int l5)] M (m_Mo_unite_178 l1 l2 l3 l4 l5 M) := by
  unfold m_Mo_unite_178
  refine s_iload B d_Mo_unite_178 rfl ?_
  refine s_if_eq B d_Mo_unite_180 rfl (fun _ => ?_) (fun _ => ?_)
  · refine s_pick (lv1 := [(0, .ref 97), (1, .int l1), (2, .int l2), (3, .int l3), (4, .int l4), (5, .int l5)]) [0, 1, 2, 3, 4, 5] rfl ?_
    exact t_Mo_unite_194 B l1 l2 l3 l4 l5 M
  · refine s_iload_n B d_Mo_unite_183 rfl ?_
    refine s_if_ne B d_Mo_unite_184 rfl (fun _ => ?_) (fun _ => ?_)
    · refine s_pick (lv1 := [(0, .ref 97), (1, .int l1), (2, .int l2), (3, .int l3), (4, .int l4), (5, .int l5)]) [0, 1, 2, 3, 4, 5] rfl ?_
      exact t_Mo_unite_194 B l1 l2 l3 l4 l5 M
    · refine s_aload_n B d_Mo_unite_187 rfl ?_
      refine s_iload_n B d_Mo_unite_188 rfl ?_
      refine s_iconst (v := (0:Int32)) B d_Mo_unite_189 (by decide) ?_
      refine s_pick (lv1 := []) [] rfl ?_
      refine s_callI (av := [.ref 97, .int l1, .int (0:Int32)]) (rest := []) B (lk_V B d_Mo_unite_190 (gl_Mo_114 _) rfl hv_Mo_simple (by decide) (by decide)) rfl (x_rcV B xc_Mo kd_97) (fun _ _ => rfl) rfl rfl (by simp [Value.category]) rfl (fun r1 e9 => ct_Mo_simple _ _ _ r1 e9) (fun r1 _ => ?_)
      exact s_iret B d_Mo_unite_193
set_option maxRecDepth 100000 in
set_option maxHeartbeats 4000000 in
theorem t_Mo_unite_106 {k31 : Int32 × Int32 × Int32 × Int32 × Int32 × Int32 × MS → Option (MS × Int32)} (B : xB p R s m args meth c b_Mo_unite 9 R_Mo (Cond.code y_Mo_unite b_Mo_unite 9 (some .int) :: x_T) (some .int) 2 52 D x_cl (xty g) base) (hk31 : ∀ (l1 : Int32) (l2 : Int32) (l3 : Int32) (l4 : Int32) (l5 : Int32) (l6 : Int32) (M : MS) , Sn p l e R s m args below meth c 9 D x_cl base (xwd g) cM x_g0 az kz (xfc cM) (xZ below args s D x_cl (xty g) base (xwd g) cM x_g0 az kz ovI) 31 [] [(0, .ref 97), (1, .int l1), (2, .int l2), (3, .int l3), (4, .int l4), (5, .int l5), (6, .int l6)] M (k31 (l1, l2, l3, l4, l5, l6, M))) (l1 : Int32) (l2 : Int32) (l3 : Int32) (l4 : Int32) (l5 : Int32) (l6 : Int32) (l7 : Int32) (M : MS)  : Sn p l e R s m args below meth c 9 D x_cl base (xwd g) cM x_g0 az kz (xfc cM) (xZ below args s D x_cl (xty g) base (xwd g) cM x_g0 az kz ovI) 106 [] [(0, .ref 97), (1, .int l1), (2, .int l2), (3, .int l3), (4, .int l4), (5, .int l5), (6, .int l6), (7, .int l7)] M (m_Mo_unite_106 k31 l1 l2 l3 l4 l5 l6 l7 M) := by
  unfold m_Mo_unite_106
  refine s_iload B d_Mo_unite_106 rfl ?_
  refine s_pick (lv1 := [(0, .ref 97), (1, .int l1), (2, .int l2), (3, .int l3), (4, .int l4), (5, .int l5), (6, .int l6), (7, .int l7)]) [0, 1, 2, 3, 4, 5, 6, 7] rfl ?_
  refine s_callI (av := [.int l7]) (rest := []) B (lk_S B d_Mo_unite_108 (gl_Mo_96 _) (List.mem_cons_of_mem _ st_Mo_sort) (List.mem_cons_of_mem _ in_Mo) (List.mem_cons_of_mem _ ml_Mo_96) rfl hs_Mo_sort (by decide) (by decide)) rfl x_rcS (fun _ _ => rfl) rfl rfl (by simp [Value.category]) rfl (fun r1 e9 => ct_Mo_sort _ _ r1 e9) (fun r1 _ => ?_)
  refine s_iconst (v := (2:Int32)) B d_Mo_unite_111 (by decide) ?_
  refine s_icmp_ne B d_Mo_unite_112 rfl (fun _ => ?_) (fun _ => ?_)
  · refine s_aload_n B d_Mo_unite_141 rfl ?_
    refine s_getS (k := 11) (n := 106) B xc_Mo kd_97 (by decide) rfl rfl fl_Mo_36 sr_97_11 d_Mo_unite_142 ?_
    refine s_iload B d_Mo_unite_145 rfl ?_
    refine s_aload_n B d_Mo_unite_147 rfl ?_
    refine s_getS (k := 11) (n := 106) B xc_Mo kd_97 (by decide) rfl rfl fl_Mo_36 sr_97_11 d_Mo_unite_148 ?_
    refine s_iload B d_Mo_unite_151 rfl ?_
    refine s_iald B (Or.inl kd_106) d_Mo_unite_153 (fun v2 _ => ?_)
    refine s_iast B (Or.inl kd_106) d_Mo_unite_154 (fun M3 _ => ?_)
    refine s_aload_n B d_Mo_unite_155 rfl ?_
    refine s_getS (k := 12) (n := 107) B xc_Mo kd_97 (by decide) rfl rfl fl_Mo_39 sr_97_12 d_Mo_unite_156 ?_
    refine s_iload B d_Mo_unite_159 rfl ?_
    refine s_aload_n B d_Mo_unite_161 rfl ?_
    refine s_getS (k := 12) (n := 107) B xc_Mo kd_97 (by decide) rfl rfl fl_Mo_39 sr_97_12 d_Mo_unite_162 ?_
    refine s_iload B d_Mo_unite_165 rfl ?_
    refine s_iald B (Or.inl kd_107) d_Mo_unite_167 (fun v4 _ => ?_)
    refine s_iast B (Or.inl kd_107) d_Mo_unite_168 (fun M5 _ => ?_)
    refine s_iinc (w := (1:Int32)) B d_Mo_unite_169 rfl (by decide) (by decide) ?_
    refine s_iinc (w := (1:Int32)) B d_Mo_unite_172 rfl (by decide) (by decide) ?_
    refine s_goto B d_Mo_unite_175 rfl ?_
    refine s_pick (lv1 := [(0, .ref 97), (1, .int l1), (2, .int l2), (3, .int l3), (4, .int l4), (5, .int (l5 + (1:Int32))), (6, .int (l6 + (1:Int32)))]) [0, 1, 2, 3, 4, 5, 6] rfl ?_
    exact hk31 l1 l2 l3 l4 (l5 + (1:Int32)) (l6 + (1:Int32)) M5
  · refine s_iconst (v := (1:Int32)) B d_Mo_unite_115 (by decide) ?_
    refine s_istore B d_Mo_unite_116 (by decide) ?_
    refine s_iload_n B d_Mo_unite_118 rfl ?_
    refine s_if_eq B d_Mo_unite_119 rfl (fun _ => ?_) (fun _ => ?_)
    · refine s_iload_n B d_Mo_unite_131 rfl ?_
      refine s_iload B d_Mo_unite_132 rfl ?_
      refine s_iconst (v := (3:Int32)) B d_Mo_unite_134 (by decide) ?_
      refine s_ishr B d_Mo_unite_135 ?_
      refine s_iand B d_Mo_unite_136 ?_
      refine s_istore_n B d_Mo_unite_137 (by decide) ?_
      refine s_goto B d_Mo_unite_138 rfl ?_
      refine s_iinc (w := (1:Int32)) B d_Mo_unite_172 rfl (by decide) (by decide) ?_
      refine s_goto B d_Mo_unite_175 rfl ?_
      refine s_pick (lv1 := [(0, .ref 97), (1, .int l1), (2, .int l2), (3, .int (l3 &&& (l7 >>> ((3:Int32) &&& 31)))), (4, .int (1:Int32)), (5, .int l5), (6, .int (l6 + (1:Int32)))]) [0, 1, 2, 3, 4, 5, 6] rfl ?_
      exact hk31 l1 l2 (l3 &&& (l7 >>> ((3:Int32) &&& 31))) (1:Int32) l5 (l6 + (1:Int32)) r1.1
    · refine s_iload_n B d_Mo_unite_122 rfl ?_
      refine s_iload B d_Mo_unite_123 rfl ?_
      refine s_iconst (v := (3:Int32)) B d_Mo_unite_125 (by decide) ?_
      refine s_ishr B d_Mo_unite_126 ?_
      refine s_ior B d_Mo_unite_127 ?_
      refine s_goto B d_Mo_unite_128 rfl ?_
      refine s_istore_n B d_Mo_unite_137 (by decide) ?_
      refine s_goto B d_Mo_unite_138 rfl ?_
      refine s_iinc (w := (1:Int32)) B d_Mo_unite_172 rfl (by decide) (by decide) ?_
      refine s_goto B d_Mo_unite_175 rfl ?_
      refine s_pick (lv1 := [(0, .ref 97), (1, .int l1), (2, .int l2), (3, .int (l3 ||| (l7 >>> ((3:Int32) &&& 31)))), (4, .int (1:Int32)), (5, .int l5), (6, .int (l6 + (1:Int32)))]) [0, 1, 2, 3, 4, 5, 6] rfl ?_
      exact hk31 l1 l2 (l3 ||| (l7 >>> ((3:Int32) &&& 31))) (1:Int32) l5 (l6 + (1:Int32)) r1.1
set_option maxRecDepth 100000 in
set_option maxHeartbeats 4000000 in
theorem t_Mo_unite_82 {k31 : Int32 × Int32 × Int32 × Int32 × Int32 × Int32 × MS → Option (MS × Int32)} (B : xB p R s m args meth c b_Mo_unite 9 R_Mo (Cond.code y_Mo_unite b_Mo_unite 9 (some .int) :: x_T) (some .int) 2 52 D x_cl (xty g) base) (hk31 : ∀ (l1 : Int32) (l2 : Int32) (l3 : Int32) (l4 : Int32) (l5 : Int32) (l6 : Int32) (M : MS) , Sn p l e R s m args below meth c 9 D x_cl base (xwd g) cM x_g0 az kz (xfc cM) (xZ below args s D x_cl (xty g) base (xwd g) cM x_g0 az kz ovI) 31 [] [(0, .ref 97), (1, .int l1), (2, .int l2), (3, .int l3), (4, .int l4), (5, .int l5), (6, .int l6)] M (k31 (l1, l2, l3, l4, l5, l6, M))) (l1 : Int32) (l2 : Int32) (l3 : Int32) (l4 : Int32) (l5 : Int32) (l6 : Int32) (l7 : Int32) (M : MS)  : Sn p l e R s m args below meth c 9 D x_cl base (xwd g) cM x_g0 az kz (xfc cM) (xZ below args s D x_cl (xty g) base (xwd g) cM x_g0 az kz ovI) 82 [] [(0, .ref 97), (1, .int l1), (2, .int l2), (3, .int l3), (4, .int l4), (5, .int l5), (6, .int l6), (7, .int l7)] M (m_Mo_unite_82 k31 l1 l2 l3 l4 l5 l6 l7 M) := by
  unfold m_Mo_unite_82
  refine s_iload_n B d_Mo_unite_82 rfl ?_
  refine s_if_eq B d_Mo_unite_83 rfl (fun _ => ?_) (fun _ => ?_)
  · refine s_aload_n B d_Mo_unite_94 rfl ?_
    refine s_iload B d_Mo_unite_95 rfl ?_
    refine s_pick (lv1 := [(0, .ref 97), (1, .int l1), (2, .int l2), (3, .int l3), (4, .int l4), (5, .int l5), (6, .int l6), (7, .int l7)]) [0, 1, 2, 3, 4, 5, 6, 7] rfl ?_
    refine s_callI (av := [.ref 97, .int l6]) (rest := []) B (lk_V B d_Mo_unite_97 (gl_Mo_110 _) rfl hv_Mo_isAll (by decide) (by decide)) rfl (x_rcV B xc_Mo kd_97) (fun _ _ => rfl) rfl rfl (by simp [Value.category]) rfl (fun r1 e9 => ct_Mo_isAll _ _ r1 e9) (fun r1 _ => ?_)
    refine s_if_eq B d_Mo_unite_100 rfl (fun _ => ?_) (fun _ => ?_)
    · refine s_pick (lv1 := [(0, .ref 97), (1, .int l1), (2, .int l2), (3, .int l3), (4, .int l4), (5, .int l5), (6, .int l6), (7, .int l7)]) [0, 1, 2, 3, 4, 5, 6, 7] rfl ?_
      exact t_Mo_unite_106 B hk31 l1 l2 l3 l4 l5 l6 l7 r1.1
    · refine s_goto B d_Mo_unite_103 rfl ?_
      refine s_iinc (w := (1:Int32)) B d_Mo_unite_172 rfl (by decide) (by decide) ?_
      refine s_goto B d_Mo_unite_175 rfl ?_
      refine s_pick (lv1 := [(0, .ref 97), (1, .int l1), (2, .int l2), (3, .int l3), (4, .int l4), (5, .int l5), (6, .int (l6 + (1:Int32)))]) [0, 1, 2, 3, 4, 5, 6] rfl ?_
      exact hk31 l1 l2 l3 l4 l5 (l6 + (1:Int32)) r1.1
  · refine s_iload B d_Mo_unite_86 rfl ?_
    refine s_if_ne B d_Mo_unite_88 rfl (fun _ => ?_) (fun _ => ?_)
    · refine s_pick (lv1 := [(0, .ref 97), (1, .int l1), (2, .int l2), (3, .int l3), (4, .int l4), (5, .int l5), (6, .int l6), (7, .int l7)]) [0, 1, 2, 3, 4, 5, 6, 7] rfl ?_
      exact t_Mo_unite_106 B hk31 l1 l2 l3 l4 l5 l6 l7 M
    · refine s_goto B d_Mo_unite_91 rfl ?_
      refine s_iinc (w := (1:Int32)) B d_Mo_unite_172 rfl (by decide) (by decide) ?_
      refine s_goto B d_Mo_unite_175 rfl ?_
      refine s_pick (lv1 := [(0, .ref 97), (1, .int l1), (2, .int l2), (3, .int l3), (4, .int l4), (5, .int l5), (6, .int (l6 + (1:Int32)))]) [0, 1, 2, 3, 4, 5, 6] rfl ?_
      exact hk31 l1 l2 l3 l4 l5 (l6 + (1:Int32)) M
set_option maxRecDepth 100000 in
set_option maxHeartbeats 4000000 in
theorem t_Mo_unite_75  (B : xB p R s m args meth c b_Mo_unite 9 R_Mo (Cond.code y_Mo_unite b_Mo_unite 9 (some .int) :: x_T) (some .int) 2 52 D x_cl (xty g) base)  (l1 : Int32) (l2 : Int32) (M : MS)  : Sn p l e R s m args below meth c 9 D x_cl base (xwd g) cM x_g0 az kz (xfc cM) (xZ below args s D x_cl (xty g) base (xwd g) cM x_g0 az kz ovI) 75 [] [(0, .ref 97), (1, .int l1), (2, .int l2)] M (m_Mo_unite_75 l1 l2 M) := by
  unfold m_Mo_unite_75
  refine s_aload_n B d_Mo_unite_75 rfl ?_
  refine s_iload_n B d_Mo_unite_76 rfl ?_
  refine s_iload_n B d_Mo_unite_77 rfl ?_
  refine s_pick (lv1 := []) [] rfl ?_
  refine s_callI (av := [.ref 97, .int l1, .int l2]) (rest := []) B (lk_V B d_Mo_unite_78 (gl_Mo_114 _) rfl hv_Mo_simple (by decide) (by decide)) rfl (x_rcV B xc_Mo kd_97) (fun _ _ => rfl) rfl rfl (by simp [Value.category]) rfl (fun r1 e9 => ct_Mo_simple _ _ _ r1 e9) (fun r1 _ => ?_)
  exact s_iret B d_Mo_unite_81
set_option maxRecDepth 100000 in
set_option maxHeartbeats 4000000 in
theorem t_Mo_unite_67  (B : xB p R s m args meth c b_Mo_unite 9 R_Mo (Cond.code y_Mo_unite b_Mo_unite 9 (some .int) :: x_T) (some .int) 2 52 D x_cl (xty g) base)  (l1 : Int32) (l2 : Int32) (M : MS)  : Sn p l e R s m args below meth c 9 D x_cl base (xwd g) cM x_g0 az kz (xfc cM) (xZ below args s D x_cl (xty g) base (xwd g) cM x_g0 az kz ovI) 67 [] [(0, .ref 97), (1, .int l1), (2, .int l2)] M (m_Mo_unite_67 l1 l2 M) := by
  unfold m_Mo_unite_67
  refine s_goto B d_Mo_unite_67 rfl ?_
  refine s_pick (lv1 := [(0, .ref 97), (1, .int l1), (2, .int l2)]) [0, 1, 2] rfl ?_
  exact t_Mo_unite_75 B l1 l2 M
set_option maxRecDepth 100000 in
set_option maxHeartbeats 4000000 in
theorem t_Mo_unite_31b {k31 : Int32 × Int32 × Int32 × Int32 × Int32 × Int32 × MS → Option (MS × Int32)} (B : xB p R s m args meth c b_Mo_unite 9 R_Mo (Cond.code y_Mo_unite b_Mo_unite 9 (some .int) :: x_T) (some .int) 2 52 D x_cl (xty g) base) (hk31 : ∀ (l1 : Int32) (l2 : Int32) (l3 : Int32) (l4 : Int32) (l5 : Int32) (l6 : Int32) (M : MS) , Sn p l e R s m args below meth c 9 D x_cl base (xwd g) cM x_g0 az kz (xfc cM) (xZ below args s D x_cl (xty g) base (xwd g) cM x_g0 az kz ovI) 31 [] [(0, .ref 97), (1, .int l1), (2, .int l2), (3, .int l3), (4, .int l4), (5, .int l5), (6, .int l6)] M (k31 (l1, l2, l3, l4, l5, l6, M))) (l1 : Int32) (l2 : Int32) (l3 : Int32) (l4 : Int32) (l5 : Int32) (l6 : Int32) (M : MS)  : Sn p l e R s m args below meth c 9 D x_cl base (xwd g) cM x_g0 az kz (xfc cM) (xZ below args s D x_cl (xty g) base (xwd g) cM x_g0 az kz ovI) 31 [] [(0, .ref 97), (1, .int l1), (2, .int l2), (3, .int l3), (4, .int l4), (5, .int l5), (6, .int l6)] M (m_Mo_unite_31b k31 l1 l2 l3 l4 l5 l6 M) := by
  unfold m_Mo_unite_31b
  refine s_iload B d_Mo_unite_31 rfl ?_
  refine s_aload_n B d_Mo_unite_33 rfl ?_
  refine s_getI (k := 13) B xc_Mo kd_97 (by decide) rfl rfl fl_Mo_107 d_Mo_unite_34 ?_
  refine s_icmp_ge B d_Mo_unite_37 rfl (fun _ => ?_) (fun _ => ?_)
  · refine s_pick (lv1 := [(0, .ref 97), (1, .int l1), (2, .int l2), (3, .int l3), (4, .int l4), (5, .int l5)]) [0, 1, 2, 3, 4, 5] rfl ?_
    exact t_Mo_unite_178 B l1 l2 l3 l4 l5 M
  · refine s_aload_n B d_Mo_unite_40 rfl ?_
    refine s_getS (k := 3) (n := 100) B xc_Mo kd_97 (by decide) rfl rfl fl_Mo_17 sr_97_3 d_Mo_unite_41 ?_
    refine s_aload_n B d_Mo_unite_44 rfl ?_
    refine s_getS (k := 11) (n := 106) B xc_Mo kd_97 (by decide) rfl rfl fl_Mo_36 sr_97_11 d_Mo_unite_45 ?_
    refine s_iload B d_Mo_unite_48 rfl ?_
    refine s_iald B (Or.inl kd_106) d_Mo_unite_50 (fun v1 _ => ?_)
    refine s_iald B (Or.inl kd_100) d_Mo_unite_51 (fun v2 _ => ?_)
    refine s_istore B d_Mo_unite_52 (by decide) ?_
    refine s_iload_n B d_Mo_unite_54 rfl ?_
    refine s_if_eq B d_Mo_unite_55 rfl (fun _ => ?_) (fun _ => ?_)
    · refine s_iload B d_Mo_unite_70 rfl ?_
      refine s_if_ne B d_Mo_unite_72 rfl (fun _ => ?_) (fun _ => ?_)
      · refine s_pick (lv1 := [(0, .ref 97), (1, .int l1), (2, .int l2), (3, .int l3), (4, .int l4), (5, .int l5), (6, .int l6), (7, .int v2)]) [0, 1, 2, 3, 4, 5, 6, 7] rfl ?_
        exact t_Mo_unite_82 B hk31 l1 l2 l3 l4 l5 l6 v2 M
      · refine s_pick (lv1 := [(0, .ref 97), (1, .int l1), (2, .int l2)]) [0, 1, 2] rfl ?_
        exact t_Mo_unite_75 B l1 l2 M
    · refine s_aload_n B d_Mo_unite_58 rfl ?_
      refine s_iload B d_Mo_unite_59 rfl ?_
      refine s_pick (lv1 := [(0, .ref 97), (1, .int l1), (2, .int l2), (3, .int l3), (4, .int l4), (5, .int l5), (6, .int l6), (7, .int v2)]) [0, 1, 2, 3, 4, 5, 6, 7] rfl ?_
      refine s_callI (av := [.ref 97, .int l6]) (rest := []) B (lk_V B d_Mo_unite_61 (gl_Mo_110 _) rfl hv_Mo_isAll (by decide) (by decide)) rfl (x_rcV B xc_Mo kd_97) (fun _ _ => rfl) rfl rfl (by simp [Value.category]) rfl (fun r3 e9 => ct_Mo_isAll _ _ r3 e9) (fun r3 _ => ?_)
      refine s_if_eq B d_Mo_unite_64 rfl (fun _ => ?_) (fun _ => ?_)
      · refine s_pick (lv1 := [(0, .ref 97), (1, .int l1), (2, .int l2), (3, .int l3), (4, .int l4), (5, .int l5), (6, .int l6), (7, .int v2)]) [0, 1, 2, 3, 4, 5, 6, 7] rfl ?_
        exact t_Mo_unite_82 B hk31 l1 l2 l3 l4 l5 l6 v2 r3.1
      · refine s_pick (lv1 := [(0, .ref 97), (1, .int l1), (2, .int l2)]) [0, 1, 2] rfl ?_
        exact t_Mo_unite_67 B l1 l2 r3.1
set_option maxRecDepth 100000 in
set_option maxHeartbeats 4000000 in
theorem t_Mo_unite_31  (B : xB p R s m args meth c b_Mo_unite 9 R_Mo (Cond.code y_Mo_unite b_Mo_unite 9 (some .int) :: x_T) (some .int) 2 52 D x_cl (xty g) base)  (l1 : Int32) (l2 : Int32) (l3 : Int32) (l4 : Int32) (l5 : Int32) (l6 : Int32) (M : MS)  : Sn p l e R s m args below meth c 9 D x_cl base (xwd g) cM x_g0 az kz (xfc cM) (xZ below args s D x_cl (xty g) base (xwd g) cM x_g0 az kz ovI) 31 [] [(0, .ref 97), (1, .int l1), (2, .int l2), (3, .int l3), (4, .int l4), (5, .int l5), (6, .int l6)] M (m_Mo_unite_31 (l1, l2, l3, l4, l5, l6, M)) := by
  have q : ∀ (F : Nat) (i : Int32 × Int32 × Int32 × Int32 × Int32 × Int32 × MS), Sn p l e R s m args below meth c 9 D x_cl base (xwd g) cM x_g0 az kz (xfc cM) (xZ below args s D x_cl (xty g) base (xwd g) cM x_g0 az kz ovI) 31 [] [(0, .ref 97), (1, .int i.1), (2, .int i.2.1), (3, .int i.2.2.1), (4, .int i.2.2.2.1), (5, .int i.2.2.2.2.1), (6, .int i.2.2.2.2.2.1)] i.2.2.2.2.2.2 (fx (fun (k : Int32 × Int32 × Int32 × Int32 × Int32 × Int32 × MS → Option (MS × Int32)) (i : Int32 × Int32 × Int32 × Int32 × Int32 × Int32 × MS) => m_Mo_unite_31b k i.1 i.2.1 i.2.2.1 i.2.2.2.1 i.2.2.2.2.1 i.2.2.2.2.2.1 i.2.2.2.2.2.2) F i) := by
    intro F
    induction F with
    | zero => intro i ; exact s_none
    | succ F ih => intro i ; exact t_Mo_unite_31b B  (fun l1 l2 l3 l4 l5 l6 M  => ih (l1, l2, l3, l4, l5, l6, M) ) i.1 i.2.1 i.2.2.1 i.2.2.2.1 i.2.2.2.2.1 i.2.2.2.2.2.1 i.2.2.2.2.2.2 
  exact q FU (l1, l2, l3, l4, l5, l6, M) 
set_option maxRecDepth 100000 in
set_option maxHeartbeats 4000000 in
theorem t_Mo_unite_21  (B : xB p R s m args meth c b_Mo_unite 9 R_Mo (Cond.code y_Mo_unite b_Mo_unite 9 (some .int) :: x_T) (some .int) 2 52 D x_cl (xty g) base)  (l1 : Int32) (l2 : Int32) (s0 : Int32) (M : MS)  : Sn p l e R s m args below meth c 9 D x_cl base (xwd g) cM x_g0 az kz (xfc cM) (xZ below args s D x_cl (xty g) base (xwd g) cM x_g0 az kz ovI) 21 [.int s0] [(0, .ref 97), (1, .int l1), (2, .int l2)] M (m_Mo_unite_21 l1 l2 s0 M) := by
  unfold m_Mo_unite_21
  refine s_istore_n B d_Mo_unite_21 (by decide) ?_
  refine s_iconst (v := (0:Int32)) B d_Mo_unite_22 (by decide) ?_
  refine s_istore B d_Mo_unite_23 (by decide) ?_
  refine s_iconst (v := (0:Int32)) B d_Mo_unite_25 (by decide) ?_
  refine s_istore B d_Mo_unite_26 (by decide) ?_
  refine s_iconst (v := (0:Int32)) B d_Mo_unite_28 (by decide) ?_
  refine s_istore B d_Mo_unite_29 (by decide) ?_
  refine s_pick (lv1 := [(0, .ref 97), (1, .int l1), (2, .int l2), (3, .int s0), (4, .int (0:Int32)), (5, .int (0:Int32)), (6, .int (0:Int32))]) [0, 1, 2, 3, 4, 5, 6] rfl ?_
  exact t_Mo_unite_31 B l1 l2 s0 (0:Int32) (0:Int32) (0:Int32) M
set_option maxRecDepth 100000 in
set_option maxHeartbeats 4000000 in
theorem t_Mo_unite_10  (B : xB p R s m args meth c b_Mo_unite 9 R_Mo (Cond.code y_Mo_unite b_Mo_unite 9 (some .int) :: x_T) (some .int) 2 52 D x_cl (xty g) base)  (l1 : Int32) (s0 : Int32) (M : MS)  : Sn p l e R s m args below meth c 9 D x_cl base (xwd g) cM x_g0 az kz (xfc cM) (xZ below args s D x_cl (xty g) base (xwd g) cM x_g0 az kz ovI) 10 [.int s0] [(0, .ref 97), (1, .int l1)] M (m_Mo_unite_10 l1 s0 M) := by
  unfold m_Mo_unite_10
  refine s_istore_n B d_Mo_unite_10 (by decide) ?_
  refine s_iload_n B d_Mo_unite_11 rfl ?_
  refine s_if_eq B d_Mo_unite_12 rfl (fun _ => ?_) (fun _ => ?_)
  · refine s_bipush (v := (15:Int32)) B d_Mo_unite_19 (by decide) ?_
    refine s_pick (lv1 := [(0, .ref 97), (1, .int l1), (2, .int s0)]) [0, 1, 2] rfl ?_
    exact t_Mo_unite_21 B l1 s0 (15:Int32) M
  · refine s_iconst (v := (0:Int32)) B d_Mo_unite_15 (by decide) ?_
    refine s_goto B d_Mo_unite_16 rfl ?_
    refine s_pick (lv1 := [(0, .ref 97), (1, .int l1), (2, .int s0)]) [0, 1, 2] rfl ?_
    exact t_Mo_unite_21 B l1 s0 (0:Int32) M
set_option maxRecDepth 100000 in
set_option maxHeartbeats 4000000 in
theorem t_Mo_unite (B : xB p R s m args meth c b_Mo_unite 9 R_Mo (Cond.code y_Mo_unite b_Mo_unite 9 (some .int) :: x_T) (some .int) 2 52 D x_cl (xty g) base) (a1 : Int32) (M : MS) : Sn p l e R s m args below meth c 9 D x_cl base (xwd g) cM x_g0 az kz (xfc cM) (xZ below args s D x_cl (xty g) base (xwd g) cM x_g0 az kz ovI) 0 [] [(0, .ref 97), (1, .int a1)] M (m_Mo_unite a1 M) := by
  unfold m_Mo_unite
  refine s_iload_n B d_Mo_unite_0 rfl ?_
  refine s_iconst (v := (4:Int32)) B d_Mo_unite_1 (by decide) ?_
  refine s_icmp_ne B d_Mo_unite_2 rfl (fun _ => ?_) (fun _ => ?_)
  · refine s_iconst (v := (0:Int32)) B d_Mo_unite_9 (by decide) ?_
    refine s_pick (lv1 := [(0, .ref 97), (1, .int a1)]) [0, 1] rfl ?_
    exact t_Mo_unite_10 B a1 (0:Int32) M
  · refine s_iconst (v := (1:Int32)) B d_Mo_unite_5 (by decide) ?_
    refine s_goto B d_Mo_unite_6 rfl ?_
    refine s_pick (lv1 := [(0, .ref 97), (1, .int a1)]) [0, 1] rfl ?_
    exact t_Mo_unite_10 B a1 (1:Int32) M
set_option maxRecDepth 100000 in
set_option maxHeartbeats 4000000 in
theorem ct_Mo_unite {l : Launch} {D : va_G} {base : Nat} {g : Nat → ClassId} (a1 : Int32) (M : MS) (r : MS × Int32) (hr : m_Mo_unite a1 M = some r) : Ct l y_Mo_unite (Cond.code y_Mo_unite b_Mo_unite 9 (some .int) :: x_T) 2 52 D x_cl (xty g) base (xwd g) cM x_g0 [.ref 97, .int a1] M r.1 (ovI r.2) :=
  x_met (ov := ovI) (by decide) (Nat.le_of_ble_eq_true rfl) (fun p e R s m args below meth c az B => t_Mo_unite B a1 M) r hr
end
theorem d_Mo_join_0 : decode b_Mo_join 0 = .ok (.iload_n 1, 1) := by decide +kernel
theorem d_Mo_join_1 : decode b_Mo_join 1 = .ok (.invokestatic 158, 3) := by decide +kernel
theorem d_Mo_join_4 : decode b_Mo_join 4 = .ok (.ifCond .eq (21), 3) := by decide +kernel
theorem d_Mo_join_7 : decode b_Mo_join 7 = .ok (.iload_n 2, 1) := by decide +kernel
theorem d_Mo_join_8 : decode b_Mo_join 8 = .ok (.invokestatic 158, 3) := by decide +kernel
theorem d_Mo_join_11 : decode b_Mo_join 11 = .ok (.ifCond .eq (14), 3) := by decide +kernel
theorem d_Mo_join_14 : decode b_Mo_join 14 = .ok (.iload_n 3, 1) := by decide +kernel
theorem d_Mo_join_15 : decode b_Mo_join 15 = .ok (.invokestatic 158, 3) := by decide +kernel
theorem d_Mo_join_18 : decode b_Mo_join 18 = .ok (.ifCond .eq (7), 3) := by decide +kernel
theorem d_Mo_join_21 : decode b_Mo_join 21 = .ok (.iconst (1), 1) := by decide +kernel
theorem d_Mo_join_22 : decode b_Mo_join 22 = .ok (.goto (4), 3) := by decide +kernel
theorem d_Mo_join_25 : decode b_Mo_join 25 = .ok (.iconst (0), 1) := by decide +kernel
theorem d_Mo_join_26 : decode b_Mo_join 26 = .ok (.istore 5, 2) := by decide +kernel
theorem d_Mo_join_28 : decode b_Mo_join 28 = .ok (.aload_n 0, 1) := by decide +kernel
theorem d_Mo_join_29 : decode b_Mo_join 29 = .ok (.iload 5, 2) := by decide +kernel
theorem d_Mo_join_31 : decode b_Mo_join 31 = .ok (.ifCond .ne (7), 3) := by decide +kernel
theorem d_Mo_join_34 : decode b_Mo_join 34 = .ok (.iconst (1), 1) := by decide +kernel
theorem d_Mo_join_35 : decode b_Mo_join 35 = .ok (.goto (4), 3) := by decide +kernel
theorem d_Mo_join_38 : decode b_Mo_join 38 = .ok (.iconst (0), 1) := by decide +kernel
theorem d_Mo_join_39 : decode b_Mo_join 39 = .ok (.iload 5, 2) := by decide +kernel
theorem d_Mo_join_41 : decode b_Mo_join 41 = .ok (.ifCond .eq (18), 3) := by decide +kernel
theorem d_Mo_join_44 : decode b_Mo_join 44 = .ok (.iload 4, 2) := by decide +kernel
theorem d_Mo_join_46 : decode b_Mo_join 46 = .ok (.ifCond .lt (9), 3) := by decide +kernel
theorem d_Mo_join_49 : decode b_Mo_join 49 = .ok (.iload 4, 2) := by decide +kernel
theorem d_Mo_join_51 : decode b_Mo_join 51 = .ok (.iconst (2), 1) := by decide +kernel
theorem d_Mo_join_52 : decode b_Mo_join 52 = .ok (.if_icmp .le (7), 3) := by decide +kernel
theorem d_Mo_join_55 : decode b_Mo_join 55 = .ok (.iconst (1), 1) := by decide +kernel
theorem d_Mo_join_56 : decode b_Mo_join 56 = .ok (.goto (4), 3) := by decide +kernel
theorem d_Mo_join_59 : decode b_Mo_join 59 = .ok (.iconst (0), 1) := by decide +kernel
theorem d_Mo_join_60 : decode b_Mo_join 60 = .ok (.invokevirtual 161, 3) := by decide +kernel
theorem d_Mo_join_63 : decode b_Mo_join 63 = .ok (.ifCond .eq (5), 3) := by decide +kernel
theorem d_Mo_join_66 : decode b_Mo_join 66 = .ok (.iconst (0), 1) := by decide +kernel
theorem d_Mo_join_67 : decode b_Mo_join 67 = .ok (.ireturn, 1) := by decide +kernel
theorem d_Mo_join_68 : decode b_Mo_join 68 = .ok (.iload 4, 2) := by decide +kernel
theorem d_Mo_join_70 : decode b_Mo_join 70 = .ok (.ifCond .ne (41), 3) := by decide +kernel
theorem d_Mo_join_73 : decode b_Mo_join 73 = .ok (.aload_n 0, 1) := by decide +kernel
theorem d_Mo_join_74 : decode b_Mo_join 74 = .ok (.iload_n 1, 1) := by decide +kernel
theorem d_Mo_join_75 : decode b_Mo_join 75 = .ok (.aload_n 0, 1) := by decide +kernel
theorem d_Mo_join_76 : decode b_Mo_join 76 = .ok (.aload_n 0, 1) := by decide +kernel
theorem d_Mo_join_77 : decode b_Mo_join 77 = .ok (.getfield 7, 3) := by decide +kernel
theorem d_Mo_join_80 : decode b_Mo_join 80 = .ok (.bipush (100), 2) := by decide +kernel
theorem d_Mo_join_82 : decode b_Mo_join 82 = .ok (.iload_n 2, 1) := by decide +kernel
theorem d_Mo_join_83 : decode b_Mo_join 83 = .ok (.imul, 1) := by decide +kernel
theorem d_Mo_join_84 : decode b_Mo_join 84 = .ok (.aload_n 0, 1) := by decide +kernel
theorem d_Mo_join_85 : decode b_Mo_join 85 = .ok (.getfield 13, 3) := by decide +kernel
theorem d_Mo_join_88 : decode b_Mo_join 88 = .ok (.iload_n 2, 1) := by decide +kernel
theorem d_Mo_join_89 : decode b_Mo_join 89 = .ok (.iaload, 1) := by decide +kernel
theorem d_Mo_join_90 : decode b_Mo_join 90 = .ok (.aload_n 0, 1) := by decide +kernel
theorem d_Mo_join_91 : decode b_Mo_join 91 = .ok (.getfield 7, 3) := by decide +kernel
theorem d_Mo_join_94 : decode b_Mo_join 94 = .ok (.bipush (100), 2) := by decide +kernel
theorem d_Mo_join_96 : decode b_Mo_join 96 = .ok (.iload_n 3, 1) := by decide +kernel
theorem d_Mo_join_97 : decode b_Mo_join 97 = .ok (.imul, 1) := by decide +kernel
theorem d_Mo_join_98 : decode b_Mo_join 98 = .ok (.aload_n 0, 1) := by decide +kernel
theorem d_Mo_join_99 : decode b_Mo_join 99 = .ok (.getfield 13, 3) := by decide +kernel
theorem d_Mo_join_102 : decode b_Mo_join 102 = .ok (.iload_n 3, 1) := by decide +kernel
theorem d_Mo_join_103 : decode b_Mo_join 103 = .ok (.iaload, 1) := by decide +kernel
theorem d_Mo_join_104 : decode b_Mo_join 104 = .ok (.invokevirtual 139, 3) := by decide +kernel
theorem d_Mo_join_107 : decode b_Mo_join 107 = .ok (.invokevirtual 165, 3) := by decide +kernel
theorem d_Mo_join_110 : decode b_Mo_join 110 = .ok (.ireturn, 1) := by decide +kernel
theorem d_Mo_join_111 : decode b_Mo_join 111 = .ok (.iconst (0), 1) := by decide +kernel
theorem d_Mo_join_112 : decode b_Mo_join 112 = .ok (.istore 6, 2) := by decide +kernel
theorem d_Mo_join_114 : decode b_Mo_join 114 = .ok (.iload 6, 2) := by decide +kernel
theorem d_Mo_join_116 : decode b_Mo_join 116 = .ok (.aload_n 0, 1) := by decide +kernel
theorem d_Mo_join_117 : decode b_Mo_join 117 = .ok (.getfield 13, 3) := by decide +kernel
theorem d_Mo_join_120 : decode b_Mo_join 120 = .ok (.iload_n 2, 1) := by decide +kernel
theorem d_Mo_join_121 : decode b_Mo_join 121 = .ok (.iaload, 1) := by decide +kernel
theorem d_Mo_join_122 : decode b_Mo_join 122 = .ok (.if_icmp .ge (28), 3) := by decide +kernel
theorem d_Mo_join_125 : decode b_Mo_join 125 = .ok (.aload_n 0, 1) := by decide +kernel
theorem d_Mo_join_126 : decode b_Mo_join 126 = .ok (.getfield 17, 3) := by decide +kernel
theorem d_Mo_join_129 : decode b_Mo_join 129 = .ok (.iload 6, 2) := by decide +kernel
theorem d_Mo_join_131 : decode b_Mo_join 131 = .ok (.aload_n 0, 1) := by decide +kernel
theorem d_Mo_join_132 : decode b_Mo_join 132 = .ok (.getfield 7, 3) := by decide +kernel
theorem d_Mo_join_135 : decode b_Mo_join 135 = .ok (.bipush (100), 2) := by decide +kernel
theorem d_Mo_join_137 : decode b_Mo_join 137 = .ok (.iload_n 2, 1) := by decide +kernel
theorem d_Mo_join_138 : decode b_Mo_join 138 = .ok (.imul, 1) := by decide +kernel
theorem d_Mo_join_139 : decode b_Mo_join 139 = .ok (.iload 6, 2) := by decide +kernel
theorem d_Mo_join_141 : decode b_Mo_join 141 = .ok (.iadd, 1) := by decide +kernel
theorem d_Mo_join_142 : decode b_Mo_join 142 = .ok (.iaload, 1) := by decide +kernel
theorem d_Mo_join_143 : decode b_Mo_join 143 = .ok (.iastore, 1) := by decide +kernel
theorem d_Mo_join_144 : decode b_Mo_join 144 = .ok (.iinc 6 (1), 3) := by decide +kernel
theorem d_Mo_join_147 : decode b_Mo_join 147 = .ok (.goto (-33), 3) := by decide +kernel
theorem d_Mo_join_150 : decode b_Mo_join 150 = .ok (.iconst (0), 1) := by decide +kernel
theorem d_Mo_join_151 : decode b_Mo_join 151 = .ok (.istore 6, 2) := by decide +kernel
theorem d_Mo_join_153 : decode b_Mo_join 153 = .ok (.iload 6, 2) := by decide +kernel
theorem d_Mo_join_155 : decode b_Mo_join 155 = .ok (.aload_n 0, 1) := by decide +kernel
theorem d_Mo_join_156 : decode b_Mo_join 156 = .ok (.getfield 13, 3) := by decide +kernel
theorem d_Mo_join_159 : decode b_Mo_join 159 = .ok (.iload_n 3, 1) := by decide +kernel
theorem d_Mo_join_160 : decode b_Mo_join 160 = .ok (.iaload, 1) := by decide +kernel
theorem d_Mo_join_161 : decode b_Mo_join 161 = .ok (.if_icmp .ge (35), 3) := by decide +kernel
theorem d_Mo_join_164 : decode b_Mo_join 164 = .ok (.aload_n 0, 1) := by decide +kernel
theorem d_Mo_join_165 : decode b_Mo_join 165 = .ok (.getfield 17, 3) := by decide +kernel
theorem d_Mo_join_168 : decode b_Mo_join 168 = .ok (.aload_n 0, 1) := by decide +kernel
theorem d_Mo_join_169 : decode b_Mo_join 169 = .ok (.getfield 13, 3) := by decide +kernel
theorem d_Mo_join_172 : decode b_Mo_join 172 = .ok (.iload_n 2, 1) := by decide +kernel
theorem d_Mo_join_173 : decode b_Mo_join 173 = .ok (.iaload, 1) := by decide +kernel
theorem d_Mo_join_174 : decode b_Mo_join 174 = .ok (.iload 6, 2) := by decide +kernel
theorem d_Mo_join_176 : decode b_Mo_join 176 = .ok (.iadd, 1) := by decide +kernel
theorem d_Mo_join_177 : decode b_Mo_join 177 = .ok (.aload_n 0, 1) := by decide +kernel
theorem d_Mo_join_178 : decode b_Mo_join 178 = .ok (.getfield 7, 3) := by decide +kernel
theorem d_Mo_join_181 : decode b_Mo_join 181 = .ok (.bipush (100), 2) := by decide +kernel
theorem d_Mo_join_183 : decode b_Mo_join 183 = .ok (.iload_n 3, 1) := by decide +kernel
theorem d_Mo_join_184 : decode b_Mo_join 184 = .ok (.imul, 1) := by decide +kernel
theorem d_Mo_join_185 : decode b_Mo_join 185 = .ok (.iload 6, 2) := by decide +kernel
theorem d_Mo_join_187 : decode b_Mo_join 187 = .ok (.iadd, 1) := by decide +kernel
theorem d_Mo_join_188 : decode b_Mo_join 188 = .ok (.iaload, 1) := by decide +kernel
theorem d_Mo_join_189 : decode b_Mo_join 189 = .ok (.iastore, 1) := by decide +kernel
theorem d_Mo_join_190 : decode b_Mo_join 190 = .ok (.iinc 6 (1), 3) := by decide +kernel
theorem d_Mo_join_193 : decode b_Mo_join 193 = .ok (.goto (-40), 3) := by decide +kernel
theorem d_Mo_join_196 : decode b_Mo_join 196 = .ok (.aload_n 0, 1) := by decide +kernel
theorem d_Mo_join_197 : decode b_Mo_join 197 = .ok (.aload_n 0, 1) := by decide +kernel
theorem d_Mo_join_198 : decode b_Mo_join 198 = .ok (.getfield 13, 3) := by decide +kernel
theorem d_Mo_join_201 : decode b_Mo_join 201 = .ok (.iload_n 2, 1) := by decide +kernel
theorem d_Mo_join_202 : decode b_Mo_join 202 = .ok (.iaload, 1) := by decide +kernel
theorem d_Mo_join_203 : decode b_Mo_join 203 = .ok (.aload_n 0, 1) := by decide +kernel
theorem d_Mo_join_204 : decode b_Mo_join 204 = .ok (.getfield 13, 3) := by decide +kernel
theorem d_Mo_join_207 : decode b_Mo_join 207 = .ok (.iload_n 3, 1) := by decide +kernel
theorem d_Mo_join_208 : decode b_Mo_join 208 = .ok (.iaload, 1) := by decide +kernel
theorem d_Mo_join_209 : decode b_Mo_join 209 = .ok (.iadd, 1) := by decide +kernel
theorem d_Mo_join_210 : decode b_Mo_join 210 = .ok (.putfield 118, 3) := by decide +kernel
theorem d_Mo_join_213 : decode b_Mo_join 213 = .ok (.aload_n 0, 1) := by decide +kernel
theorem d_Mo_join_214 : decode b_Mo_join 214 = .ok (.iconst (0), 1) := by decide +kernel
theorem d_Mo_join_215 : decode b_Mo_join 215 = .ok (.putfield 107, 3) := by decide +kernel
theorem d_Mo_join_218 : decode b_Mo_join 218 = .ok (.aload_n 0, 1) := by decide +kernel
theorem d_Mo_join_219 : decode b_Mo_join 219 = .ok (.iconst (0), 1) := by decide +kernel
theorem d_Mo_join_220 : decode b_Mo_join 220 = .ok (.aload_n 0, 1) := by decide +kernel
theorem d_Mo_join_221 : decode b_Mo_join 221 = .ok (.getfield 13, 3) := by decide +kernel
theorem d_Mo_join_224 : decode b_Mo_join 224 = .ok (.iload_n 2, 1) := by decide +kernel
theorem d_Mo_join_225 : decode b_Mo_join 225 = .ok (.iaload, 1) := by decide +kernel
theorem d_Mo_join_226 : decode b_Mo_join 226 = .ok (.iload 4, 2) := by decide +kernel
theorem d_Mo_join_228 : decode b_Mo_join 228 = .ok (.iconst (1), 1) := by decide +kernel
theorem d_Mo_join_229 : decode b_Mo_join 229 = .ok (.if_icmp .ne (7), 3) := by decide +kernel
theorem d_Mo_join_232 : decode b_Mo_join 232 = .ok (.iconst (4), 1) := by decide +kernel
theorem d_Mo_join_233 : decode b_Mo_join 233 = .ok (.goto (4), 3) := by decide +kernel
theorem d_Mo_join_236 : decode b_Mo_join 236 = .ok (.iconst (5), 1) := by decide +kernel
theorem d_Mo_join_237 : decode b_Mo_join 237 = .ok (.invokevirtual 151, 3) := by decide +kernel
theorem d_Mo_join_240 : decode b_Mo_join 240 = .ok (.aload_n 0, 1) := by decide +kernel
theorem d_Mo_join_241 : decode b_Mo_join 241 = .ok (.aload_n 0, 1) := by decide +kernel
theorem d_Mo_join_242 : decode b_Mo_join 242 = .ok (.getfield 13, 3) := by decide +kernel
theorem d_Mo_join_245 : decode b_Mo_join 245 = .ok (.iload_n 2, 1) := by decide +kernel
theorem d_Mo_join_246 : decode b_Mo_join 246 = .ok (.iaload, 1) := by decide +kernel
theorem d_Mo_join_247 : decode b_Mo_join 247 = .ok (.aload_n 0, 1) := by decide +kernel
theorem d_Mo_join_248 : decode b_Mo_join 248 = .ok (.getfield 13, 3) := by decide +kernel
theorem d_Mo_join_251 : decode b_Mo_join 251 = .ok (.iload_n 3, 1) := by decide +kernel
theorem d_Mo_join_252 : decode b_Mo_join 252 = .ok (.iaload, 1) := by decide +kernel
theorem d_Mo_join_253 : decode b_Mo_join 253 = .ok (.iload 4, 2) := by decide +kernel
theorem d_Mo_join_255 : decode b_Mo_join 255 = .ok (.iconst (1), 1) := by decide +kernel
theorem d_Mo_join_256 : decode b_Mo_join 256 = .ok (.if_icmp .ne (7), 3) := by decide +kernel
theorem d_Mo_join_259 : decode b_Mo_join 259 = .ok (.iconst (4), 1) := by decide +kernel
theorem d_Mo_join_260 : decode b_Mo_join 260 = .ok (.goto (4), 3) := by decide +kernel
theorem d_Mo_join_263 : decode b_Mo_join 263 = .ok (.iconst (5), 1) := by decide +kernel
theorem d_Mo_join_264 : decode b_Mo_join 264 = .ok (.invokevirtual 151, 3) := by decide +kernel
theorem d_Mo_join_267 : decode b_Mo_join 267 = .ok (.aload_n 0, 1) := by decide +kernel
theorem d_Mo_join_268 : decode b_Mo_join 268 = .ok (.iload_n 1, 1) := by decide +kernel
theorem d_Mo_join_269 : decode b_Mo_join 269 = .ok (.aload_n 0, 1) := by decide +kernel
theorem d_Mo_join_270 : decode b_Mo_join 270 = .ok (.iload 4, 2) := by decide +kernel
theorem d_Mo_join_272 : decode b_Mo_join 272 = .ok (.iconst (1), 1) := by decide +kernel
theorem d_Mo_join_273 : decode b_Mo_join 273 = .ok (.if_icmp .ne (7), 3) := by decide +kernel
theorem d_Mo_join_276 : decode b_Mo_join 276 = .ok (.iconst (4), 1) := by decide +kernel
theorem d_Mo_join_277 : decode b_Mo_join 277 = .ok (.goto (4), 3) := by decide +kernel
theorem d_Mo_join_280 : decode b_Mo_join 280 = .ok (.iconst (5), 1) := by decide +kernel
theorem d_Mo_join_281 : decode b_Mo_join 281 = .ok (.invokevirtual 155, 3) := by decide +kernel
theorem d_Mo_join_284 : decode b_Mo_join 284 = .ok (.invokevirtual 165, 3) := by decide +kernel
theorem d_Mo_join_287 : decode b_Mo_join 287 = .ok (.ireturn, 1) := by decide +kernel
section
variable {p : Program} {l : Launch} {e : Env} {R : Room} {s : State} {m : MethodId} {args : Array Value} {below : List Frame} {meth : Method} {c : Code} {D : va_G} {base : Nat} {g : Nat → ClassId} {az : Nat → Nat} {kz : Nat × Nat}
set_option maxRecDepth 100000 in
set_option maxHeartbeats 4000000 in
theorem t_Mo_join_281  (B : xB p R s m args meth c b_Mo_join 7 R_Mo (Cond.code y_Mo_join b_Mo_join 7 (some .int) :: x_T) (some .int) 4 95 D x_cl (xty g) base)  (s1 : Int32) (s3 : Int32) (M : MS)  : Sn p l e R s m args below meth c 7 D x_cl base (xwd g) cM x_g0 az kz (xfc cM) (xZ below args s D x_cl (xty g) base (xwd g) cM x_g0 az kz ovI) 281 [.int s3, .ref 97, .int s1, .ref 97] [] M (m_Mo_join_281 s1 s3 M) := by
  unfold m_Mo_join_281
  refine s_pick (lv1 := []) [] rfl ?_
  refine s_callI (av := [.ref 97, .int s3]) (rest := [.int s1, .ref 97]) B (lk_V B d_Mo_join_281 (gl_Mo_155 _) rfl hv_Mo_unite (by decide) (by decide)) rfl (x_rcV B xc_Mo kd_97) (fun _ _ => rfl) rfl rfl (by simp [Value.category]) rfl (fun r1 e9 => ct_Mo_unite _ _ r1 e9) (fun r1 _ => ?_)
  refine s_pick (lv1 := []) [] rfl ?_
  refine s_callI (av := [.ref 97, .int s1, .int r1.2]) (rest := []) B (lk_V B d_Mo_join_284 (gl_Mo_165 _) rfl hv_Mo_keep (by decide) (by decide)) rfl (x_rcV B xc_Mo kd_97) (fun _ _ => rfl) rfl rfl (by simp [Value.category]) rfl (fun r2 e9 => ct_Mo_keep _ _ _ r2 e9) (fun r2 _ => ?_)
  exact s_iret B d_Mo_join_287
set_option maxRecDepth 100000 in
set_option maxHeartbeats 4000000 in
theorem t_Mo_join_264  (B : xB p R s m args meth c b_Mo_join 7 R_Mo (Cond.code y_Mo_join b_Mo_join 7 (some .int) :: x_T) (some .int) 4 95 D x_cl (xty g) base)  (l1 : Int32) (l4 : Int32) (s1 : Int32) (s2 : Int32) (s3 : Int32) (M : MS)  : Sn p l e R s m args below meth c 7 D x_cl base (xwd g) cM x_g0 az kz (xfc cM) (xZ below args s D x_cl (xty g) base (xwd g) cM x_g0 az kz ovI) 264 [.int s3, .int s2, .int s1, .ref 97] [(0, .ref 97), (1, .int l1), (4, .int l4)] M (m_Mo_join_264 l1 l4 s1 s2 s3 M) := by
  unfold m_Mo_join_264
  refine s_pick (lv1 := [(0, .ref 97), (1, .int l1), (4, .int l4)]) [0, 1, 4] rfl ?_
  refine s_callU (av := [.ref 97, .int s1, .int s2, .int s3]) (rest := []) B (lk_V B d_Mo_join_264 (gl_Mo_151 _) rfl hv_Mo_part (by decide) (by decide)) rfl (x_rcV B xc_Mo kd_97) (fun _ _ => rfl) rfl rfl (by simp [Value.category]) rfl (fun r1 e9 => ct_Mo_part _ _ _ _ r1 e9) (fun r1 _ => ?_)
  refine s_aload_n B d_Mo_join_267 rfl ?_
  refine s_iload_n B d_Mo_join_268 rfl ?_
  refine s_aload_n B d_Mo_join_269 rfl ?_
  refine s_iload B d_Mo_join_270 rfl ?_
  refine s_iconst (v := (1:Int32)) B d_Mo_join_272 (by decide) ?_
  refine s_icmp_ne B d_Mo_join_273 rfl (fun _ => ?_) (fun _ => ?_)
  · refine s_iconst (v := (5:Int32)) B d_Mo_join_280 (by decide) ?_
    refine s_pick (lv1 := []) [] rfl ?_
    exact t_Mo_join_281 B l1 (5:Int32) r1.1
  · refine s_iconst (v := (4:Int32)) B d_Mo_join_276 (by decide) ?_
    refine s_goto B d_Mo_join_277 rfl ?_
    refine s_pick (lv1 := []) [] rfl ?_
    exact t_Mo_join_281 B l1 (4:Int32) r1.1
set_option maxRecDepth 100000 in
set_option maxHeartbeats 4000000 in
theorem t_Mo_join_237  (B : xB p R s m args meth c b_Mo_join 7 R_Mo (Cond.code y_Mo_join b_Mo_join 7 (some .int) :: x_T) (some .int) 4 95 D x_cl (xty g) base)  (l1 : Int32) (l2 : Int32) (l3 : Int32) (l4 : Int32) (s1 : Int32) (s2 : Int32) (s3 : Int32) (M : MS)  : Sn p l e R s m args below meth c 7 D x_cl base (xwd g) cM x_g0 az kz (xfc cM) (xZ below args s D x_cl (xty g) base (xwd g) cM x_g0 az kz ovI) 237 [.int s3, .int s2, .int s1, .ref 97] [(0, .ref 97), (1, .int l1), (2, .int l2), (3, .int l3), (4, .int l4)] M (m_Mo_join_237 l1 l2 l3 l4 s1 s2 s3 M) := by
  unfold m_Mo_join_237
  refine s_pick (lv1 := [(0, .ref 97), (1, .int l1), (2, .int l2), (3, .int l3), (4, .int l4)]) [0, 1, 2, 3, 4] rfl ?_
  refine s_callU (av := [.ref 97, .int s1, .int s2, .int s3]) (rest := []) B (lk_V B d_Mo_join_237 (gl_Mo_151 _) rfl hv_Mo_part (by decide) (by decide)) rfl (x_rcV B xc_Mo kd_97) (fun _ _ => rfl) rfl rfl (by simp [Value.category]) rfl (fun r1 e9 => ct_Mo_part _ _ _ _ r1 e9) (fun r1 _ => ?_)
  refine s_aload_n B d_Mo_join_240 rfl ?_
  refine s_aload_n B d_Mo_join_241 rfl ?_
  refine s_getS (k := 2) (n := 99) B xc_Mo kd_97 (by decide) rfl rfl fl_Mo_13 sr_97_2 d_Mo_join_242 ?_
  refine s_iload_n B d_Mo_join_245 rfl ?_
  refine s_iald B (Or.inl kd_99) d_Mo_join_246 (fun v2 _ => ?_)
  refine s_aload_n B d_Mo_join_247 rfl ?_
  refine s_getS (k := 2) (n := 99) B xc_Mo kd_97 (by decide) rfl rfl fl_Mo_13 sr_97_2 d_Mo_join_248 ?_
  refine s_iload_n B d_Mo_join_251 rfl ?_
  refine s_iald B (Or.inl kd_99) d_Mo_join_252 (fun v3 _ => ?_)
  refine s_iload B d_Mo_join_253 rfl ?_
  refine s_iconst (v := (1:Int32)) B d_Mo_join_255 (by decide) ?_
  refine s_icmp_ne B d_Mo_join_256 rfl (fun _ => ?_) (fun _ => ?_)
  · refine s_iconst (v := (5:Int32)) B d_Mo_join_263 (by decide) ?_
    refine s_pick (lv1 := [(0, .ref 97), (1, .int l1), (4, .int l4)]) [0, 1, 4] rfl ?_
    exact t_Mo_join_264 B l1 l4 v2 v3 (5:Int32) r1.1
  · refine s_iconst (v := (4:Int32)) B d_Mo_join_259 (by decide) ?_
    refine s_goto B d_Mo_join_260 rfl ?_
    refine s_pick (lv1 := [(0, .ref 97), (1, .int l1), (4, .int l4)]) [0, 1, 4] rfl ?_
    exact t_Mo_join_264 B l1 l4 v2 v3 (4:Int32) r1.1
set_option maxRecDepth 100000 in
set_option maxHeartbeats 4000000 in
theorem t_Mo_join_196  (B : xB p R s m args meth c b_Mo_join 7 R_Mo (Cond.code y_Mo_join b_Mo_join 7 (some .int) :: x_T) (some .int) 4 95 D x_cl (xty g) base)  (l1 : Int32) (l2 : Int32) (l3 : Int32) (l4 : Int32) (M : MS)  : Sn p l e R s m args below meth c 7 D x_cl base (xwd g) cM x_g0 az kz (xfc cM) (xZ below args s D x_cl (xty g) base (xwd g) cM x_g0 az kz ovI) 196 [] [(0, .ref 97), (1, .int l1), (2, .int l2), (3, .int l3), (4, .int l4)] M (m_Mo_join_196 l1 l2 l3 l4 M) := by
  unfold m_Mo_join_196
  refine s_aload_n B d_Mo_join_196 rfl ?_
  refine s_aload_n B d_Mo_join_197 rfl ?_
  refine s_getS (k := 2) (n := 99) B xc_Mo kd_97 (by decide) rfl rfl fl_Mo_13 sr_97_2 d_Mo_join_198 ?_
  refine s_iload_n B d_Mo_join_201 rfl ?_
  refine s_iald B (Or.inl kd_99) d_Mo_join_202 (fun v1 _ => ?_)
  refine s_aload_n B d_Mo_join_203 rfl ?_
  refine s_getS (k := 2) (n := 99) B xc_Mo kd_97 (by decide) rfl rfl fl_Mo_13 sr_97_2 d_Mo_join_204 ?_
  refine s_iload_n B d_Mo_join_207 rfl ?_
  refine s_iald B (Or.inl kd_99) d_Mo_join_208 (fun v2 _ => ?_)
  refine s_iadd B d_Mo_join_209 ?_
  refine s_putI (k := 10) (ty := .int) B xc_Mo kd_97 (by decide) rfl rfl fl_Mo_118 rfl rfl rfl rfl d_Mo_join_210 (fun M3 _ => ?_)
  refine s_aload_n B d_Mo_join_213 rfl ?_
  refine s_iconst (v := (0:Int32)) B d_Mo_join_214 (by decide) ?_
  refine s_putI (k := 13) (ty := .int) B xc_Mo kd_97 (by decide) rfl rfl fl_Mo_107 rfl rfl rfl rfl d_Mo_join_215 (fun M4 _ => ?_)
  refine s_aload_n B d_Mo_join_218 rfl ?_
  refine s_iconst (v := (0:Int32)) B d_Mo_join_219 (by decide) ?_
  refine s_aload_n B d_Mo_join_220 rfl ?_
  refine s_getS (k := 2) (n := 99) B xc_Mo kd_97 (by decide) rfl rfl fl_Mo_13 sr_97_2 d_Mo_join_221 ?_
  refine s_iload_n B d_Mo_join_224 rfl ?_
  refine s_iald B (Or.inl kd_99) d_Mo_join_225 (fun v5 _ => ?_)
  refine s_iload B d_Mo_join_226 rfl ?_
  refine s_iconst (v := (1:Int32)) B d_Mo_join_228 (by decide) ?_
  refine s_icmp_ne B d_Mo_join_229 rfl (fun _ => ?_) (fun _ => ?_)
  · refine s_iconst (v := (5:Int32)) B d_Mo_join_236 (by decide) ?_
    refine s_pick (lv1 := [(0, .ref 97), (1, .int l1), (2, .int l2), (3, .int l3), (4, .int l4)]) [0, 1, 2, 3, 4] rfl ?_
    exact t_Mo_join_237 B l1 l2 l3 l4 (0:Int32) v5 (5:Int32) M4
  · refine s_iconst (v := (4:Int32)) B d_Mo_join_232 (by decide) ?_
    refine s_goto B d_Mo_join_233 rfl ?_
    refine s_pick (lv1 := [(0, .ref 97), (1, .int l1), (2, .int l2), (3, .int l3), (4, .int l4)]) [0, 1, 2, 3, 4] rfl ?_
    exact t_Mo_join_237 B l1 l2 l3 l4 (0:Int32) v5 (4:Int32) M4
set_option maxRecDepth 100000 in
set_option maxHeartbeats 4000000 in
theorem t_Mo_join_153b {k153 : Int32 × Int32 × Int32 × Int32 × Int32 × MS → Option (MS × Int32)} (B : xB p R s m args meth c b_Mo_join 7 R_Mo (Cond.code y_Mo_join b_Mo_join 7 (some .int) :: x_T) (some .int) 4 95 D x_cl (xty g) base) (hk153 : ∀ (l1 : Int32) (l2 : Int32) (l3 : Int32) (l4 : Int32) (l6 : Int32) (M : MS) , Sn p l e R s m args below meth c 7 D x_cl base (xwd g) cM x_g0 az kz (xfc cM) (xZ below args s D x_cl (xty g) base (xwd g) cM x_g0 az kz ovI) 153 [] [(0, .ref 97), (1, .int l1), (2, .int l2), (3, .int l3), (4, .int l4), (6, .int l6)] M (k153 (l1, l2, l3, l4, l6, M))) (l1 : Int32) (l2 : Int32) (l3 : Int32) (l4 : Int32) (l6 : Int32) (M : MS)  : Sn p l e R s m args below meth c 7 D x_cl base (xwd g) cM x_g0 az kz (xfc cM) (xZ below args s D x_cl (xty g) base (xwd g) cM x_g0 az kz ovI) 153 [] [(0, .ref 97), (1, .int l1), (2, .int l2), (3, .int l3), (4, .int l4), (6, .int l6)] M (m_Mo_join_153b k153 l1 l2 l3 l4 l6 M) := by
  unfold m_Mo_join_153b
  refine s_iload B d_Mo_join_153 rfl ?_
  refine s_aload_n B d_Mo_join_155 rfl ?_
  refine s_getS (k := 2) (n := 99) B xc_Mo kd_97 (by decide) rfl rfl fl_Mo_13 sr_97_2 d_Mo_join_156 ?_
  refine s_iload_n B d_Mo_join_159 rfl ?_
  refine s_iald B (Or.inl kd_99) d_Mo_join_160 (fun v1 _ => ?_)
  refine s_icmp_ge B d_Mo_join_161 rfl (fun _ => ?_) (fun _ => ?_)
  · refine s_pick (lv1 := [(0, .ref 97), (1, .int l1), (2, .int l2), (3, .int l3), (4, .int l4)]) [0, 1, 2, 3, 4] rfl ?_
    exact t_Mo_join_196 B l1 l2 l3 l4 M
  · refine s_aload_n B d_Mo_join_164 rfl ?_
    refine s_getS (k := 3) (n := 100) B xc_Mo kd_97 (by decide) rfl rfl fl_Mo_17 sr_97_3 d_Mo_join_165 ?_
    refine s_aload_n B d_Mo_join_168 rfl ?_
    refine s_getS (k := 2) (n := 99) B xc_Mo kd_97 (by decide) rfl rfl fl_Mo_13 sr_97_2 d_Mo_join_169 ?_
    refine s_iload_n B d_Mo_join_172 rfl ?_
    refine s_iald B (Or.inl kd_99) d_Mo_join_173 (fun v2 _ => ?_)
    refine s_iload B d_Mo_join_174 rfl ?_
    refine s_iadd B d_Mo_join_176 ?_
    refine s_aload_n B d_Mo_join_177 rfl ?_
    refine s_getS (k := 1) (n := 98) B xc_Mo kd_97 (by decide) rfl rfl fl_Mo_7 sr_97_1 d_Mo_join_178 ?_
    refine s_bipush (v := (100:Int32)) B d_Mo_join_181 (by decide) ?_
    refine s_iload_n B d_Mo_join_183 rfl ?_
    refine s_imul B d_Mo_join_184 ?_
    refine s_iload B d_Mo_join_185 rfl ?_
    refine s_iadd B d_Mo_join_187 ?_
    refine s_iald B (Or.inl kd_98) d_Mo_join_188 (fun v3 _ => ?_)
    refine s_iast B (Or.inl kd_100) d_Mo_join_189 (fun M4 _ => ?_)
    refine s_iinc (w := (1:Int32)) B d_Mo_join_190 rfl (by decide) (by decide) ?_
    refine s_goto B d_Mo_join_193 rfl ?_
    refine s_pick (lv1 := [(0, .ref 97), (1, .int l1), (2, .int l2), (3, .int l3), (4, .int l4), (6, .int (l6 + (1:Int32)))]) [0, 1, 2, 3, 4, 6] rfl ?_
    exact hk153 l1 l2 l3 l4 (l6 + (1:Int32)) M4
set_option maxRecDepth 100000 in
set_option maxHeartbeats 4000000 in
theorem t_Mo_join_153  (B : xB p R s m args meth c b_Mo_join 7 R_Mo (Cond.code y_Mo_join b_Mo_join 7 (some .int) :: x_T) (some .int) 4 95 D x_cl (xty g) base)  (l1 : Int32) (l2 : Int32) (l3 : Int32) (l4 : Int32) (l6 : Int32) (M : MS)  : Sn p l e R s m args below meth c 7 D x_cl base (xwd g) cM x_g0 az kz (xfc cM) (xZ below args s D x_cl (xty g) base (xwd g) cM x_g0 az kz ovI) 153 [] [(0, .ref 97), (1, .int l1), (2, .int l2), (3, .int l3), (4, .int l4), (6, .int l6)] M (m_Mo_join_153 (l1, l2, l3, l4, l6, M)) := by
  have q : ∀ (F : Nat) (i : Int32 × Int32 × Int32 × Int32 × Int32 × MS), Sn p l e R s m args below meth c 7 D x_cl base (xwd g) cM x_g0 az kz (xfc cM) (xZ below args s D x_cl (xty g) base (xwd g) cM x_g0 az kz ovI) 153 [] [(0, .ref 97), (1, .int i.1), (2, .int i.2.1), (3, .int i.2.2.1), (4, .int i.2.2.2.1), (6, .int i.2.2.2.2.1)] i.2.2.2.2.2 (fx (fun (k : Int32 × Int32 × Int32 × Int32 × Int32 × MS → Option (MS × Int32)) (i : Int32 × Int32 × Int32 × Int32 × Int32 × MS) => m_Mo_join_153b k i.1 i.2.1 i.2.2.1 i.2.2.2.1 i.2.2.2.2.1 i.2.2.2.2.2) F i) := by
    intro F
    induction F with
    | zero => intro i ; exact s_none
    | succ F ih => intro i ; exact t_Mo_join_153b B  (fun l1 l2 l3 l4 l6 M  => ih (l1, l2, l3, l4, l6, M) ) i.1 i.2.1 i.2.2.1 i.2.2.2.1 i.2.2.2.2.1 i.2.2.2.2.2 
  exact q FU (l1, l2, l3, l4, l6, M) 
set_option maxRecDepth 100000 in
set_option maxHeartbeats 4000000 in
theorem t_Mo_join_114b {k114 : Int32 × Int32 × Int32 × Int32 × Int32 × MS → Option (MS × Int32)} (B : xB p R s m args meth c b_Mo_join 7 R_Mo (Cond.code y_Mo_join b_Mo_join 7 (some .int) :: x_T) (some .int) 4 95 D x_cl (xty g) base) (hk114 : ∀ (l1 : Int32) (l2 : Int32) (l3 : Int32) (l4 : Int32) (l6 : Int32) (M : MS) , Sn p l e R s m args below meth c 7 D x_cl base (xwd g) cM x_g0 az kz (xfc cM) (xZ below args s D x_cl (xty g) base (xwd g) cM x_g0 az kz ovI) 114 [] [(0, .ref 97), (1, .int l1), (2, .int l2), (3, .int l3), (4, .int l4), (6, .int l6)] M (k114 (l1, l2, l3, l4, l6, M))) (l1 : Int32) (l2 : Int32) (l3 : Int32) (l4 : Int32) (l6 : Int32) (M : MS)  : Sn p l e R s m args below meth c 7 D x_cl base (xwd g) cM x_g0 az kz (xfc cM) (xZ below args s D x_cl (xty g) base (xwd g) cM x_g0 az kz ovI) 114 [] [(0, .ref 97), (1, .int l1), (2, .int l2), (3, .int l3), (4, .int l4), (6, .int l6)] M (m_Mo_join_114b k114 l1 l2 l3 l4 l6 M) := by
  unfold m_Mo_join_114b
  refine s_iload B d_Mo_join_114 rfl ?_
  refine s_aload_n B d_Mo_join_116 rfl ?_
  refine s_getS (k := 2) (n := 99) B xc_Mo kd_97 (by decide) rfl rfl fl_Mo_13 sr_97_2 d_Mo_join_117 ?_
  refine s_iload_n B d_Mo_join_120 rfl ?_
  refine s_iald B (Or.inl kd_99) d_Mo_join_121 (fun v1 _ => ?_)
  refine s_icmp_ge B d_Mo_join_122 rfl (fun _ => ?_) (fun _ => ?_)
  · refine s_iconst (v := (0:Int32)) B d_Mo_join_150 (by decide) ?_
    refine s_istore B d_Mo_join_151 (by decide) ?_
    refine s_pick (lv1 := [(0, .ref 97), (1, .int l1), (2, .int l2), (3, .int l3), (4, .int l4), (6, .int (0:Int32))]) [0, 1, 2, 3, 4, 6] rfl ?_
    exact t_Mo_join_153 B l1 l2 l3 l4 (0:Int32) M
  · refine s_aload_n B d_Mo_join_125 rfl ?_
    refine s_getS (k := 3) (n := 100) B xc_Mo kd_97 (by decide) rfl rfl fl_Mo_17 sr_97_3 d_Mo_join_126 ?_
    refine s_iload B d_Mo_join_129 rfl ?_
    refine s_aload_n B d_Mo_join_131 rfl ?_
    refine s_getS (k := 1) (n := 98) B xc_Mo kd_97 (by decide) rfl rfl fl_Mo_7 sr_97_1 d_Mo_join_132 ?_
    refine s_bipush (v := (100:Int32)) B d_Mo_join_135 (by decide) ?_
    refine s_iload_n B d_Mo_join_137 rfl ?_
    refine s_imul B d_Mo_join_138 ?_
    refine s_iload B d_Mo_join_139 rfl ?_
    refine s_iadd B d_Mo_join_141 ?_
    refine s_iald B (Or.inl kd_98) d_Mo_join_142 (fun v2 _ => ?_)
    refine s_iast B (Or.inl kd_100) d_Mo_join_143 (fun M3 _ => ?_)
    refine s_iinc (w := (1:Int32)) B d_Mo_join_144 rfl (by decide) (by decide) ?_
    refine s_goto B d_Mo_join_147 rfl ?_
    refine s_pick (lv1 := [(0, .ref 97), (1, .int l1), (2, .int l2), (3, .int l3), (4, .int l4), (6, .int (l6 + (1:Int32)))]) [0, 1, 2, 3, 4, 6] rfl ?_
    exact hk114 l1 l2 l3 l4 (l6 + (1:Int32)) M3
set_option maxRecDepth 100000 in
set_option maxHeartbeats 4000000 in
theorem t_Mo_join_114  (B : xB p R s m args meth c b_Mo_join 7 R_Mo (Cond.code y_Mo_join b_Mo_join 7 (some .int) :: x_T) (some .int) 4 95 D x_cl (xty g) base)  (l1 : Int32) (l2 : Int32) (l3 : Int32) (l4 : Int32) (l6 : Int32) (M : MS)  : Sn p l e R s m args below meth c 7 D x_cl base (xwd g) cM x_g0 az kz (xfc cM) (xZ below args s D x_cl (xty g) base (xwd g) cM x_g0 az kz ovI) 114 [] [(0, .ref 97), (1, .int l1), (2, .int l2), (3, .int l3), (4, .int l4), (6, .int l6)] M (m_Mo_join_114 (l1, l2, l3, l4, l6, M)) := by
  have q : ∀ (F : Nat) (i : Int32 × Int32 × Int32 × Int32 × Int32 × MS), Sn p l e R s m args below meth c 7 D x_cl base (xwd g) cM x_g0 az kz (xfc cM) (xZ below args s D x_cl (xty g) base (xwd g) cM x_g0 az kz ovI) 114 [] [(0, .ref 97), (1, .int i.1), (2, .int i.2.1), (3, .int i.2.2.1), (4, .int i.2.2.2.1), (6, .int i.2.2.2.2.1)] i.2.2.2.2.2 (fx (fun (k : Int32 × Int32 × Int32 × Int32 × Int32 × MS → Option (MS × Int32)) (i : Int32 × Int32 × Int32 × Int32 × Int32 × MS) => m_Mo_join_114b k i.1 i.2.1 i.2.2.1 i.2.2.2.1 i.2.2.2.2.1 i.2.2.2.2.2) F i) := by
    intro F
    induction F with
    | zero => intro i ; exact s_none
    | succ F ih => intro i ; exact t_Mo_join_114b B  (fun l1 l2 l3 l4 l6 M  => ih (l1, l2, l3, l4, l6, M) ) i.1 i.2.1 i.2.2.1 i.2.2.2.1 i.2.2.2.2.1 i.2.2.2.2.2 
  exact q FU (l1, l2, l3, l4, l6, M) 
set_option maxRecDepth 100000 in
set_option maxHeartbeats 4000000 in
theorem t_Mo_join_60  (B : xB p R s m args meth c b_Mo_join 7 R_Mo (Cond.code y_Mo_join b_Mo_join 7 (some .int) :: x_T) (some .int) 4 95 D x_cl (xty g) base)  (l1 : Int32) (l2 : Int32) (l3 : Int32) (l4 : Int32) (s1 : Int32) (s2 : Int32) (M : MS)  : Sn p l e R s m args below meth c 7 D x_cl base (xwd g) cM x_g0 az kz (xfc cM) (xZ below args s D x_cl (xty g) base (xwd g) cM x_g0 az kz ovI) 60 [.int s2, .int s1, .ref 97] [(0, .ref 97), (1, .int l1), (2, .int l2), (3, .int l3), (4, .int l4)] M (m_Mo_join_60 l1 l2 l3 l4 s1 s2 M) := by
  unfold m_Mo_join_60
  refine s_pick (lv1 := [(0, .ref 97), (1, .int l1), (2, .int l2), (3, .int l3), (4, .int l4)]) [0, 1, 2, 3, 4] rfl ?_
  refine s_callI (av := [.ref 97, .int s1, .int s2]) (rest := []) B (lk_V B d_Mo_join_60 (gl_Mo_161 _) rfl hv_Mo_fails (by decide) (by decide)) rfl (x_rcV B xc_Mo kd_97) (fun _ _ => rfl) rfl rfl (by simp [Value.category]) rfl (fun r1 e9 => ct_Mo_fails _ _ _ r1 e9) (fun r1 _ => ?_)
  refine s_if_eq B d_Mo_join_63 rfl (fun _ => ?_) (fun _ => ?_)
  · refine s_iload B d_Mo_join_68 rfl ?_
    refine s_if_ne B d_Mo_join_70 rfl (fun _ => ?_) (fun _ => ?_)
    · refine s_iconst (v := (0:Int32)) B d_Mo_join_111 (by decide) ?_
      refine s_istore B d_Mo_join_112 (by decide) ?_
      refine s_pick (lv1 := [(0, .ref 97), (1, .int l1), (2, .int l2), (3, .int l3), (4, .int l4), (6, .int (0:Int32))]) [0, 1, 2, 3, 4, 6] rfl ?_
      exact t_Mo_join_114 B l1 l2 l3 l4 (0:Int32) r1.1
    · refine s_aload_n B d_Mo_join_73 rfl ?_
      refine s_iload_n B d_Mo_join_74 rfl ?_
      refine s_aload_n B d_Mo_join_75 rfl ?_
      refine s_aload_n B d_Mo_join_76 rfl ?_
      refine s_getS (k := 1) (n := 98) B xc_Mo kd_97 (by decide) rfl rfl fl_Mo_7 sr_97_1 d_Mo_join_77 ?_
      refine s_bipush (v := (100:Int32)) B d_Mo_join_80 (by decide) ?_
      refine s_iload_n B d_Mo_join_82 rfl ?_
      refine s_imul B d_Mo_join_83 ?_
      refine s_aload_n B d_Mo_join_84 rfl ?_
      refine s_getS (k := 2) (n := 99) B xc_Mo kd_97 (by decide) rfl rfl fl_Mo_13 sr_97_2 d_Mo_join_85 ?_
      refine s_iload_n B d_Mo_join_88 rfl ?_
      refine s_iald B (Or.inl kd_99) d_Mo_join_89 (fun v2 _ => ?_)
      refine s_aload_n B d_Mo_join_90 rfl ?_
      refine s_getS (k := 1) (n := 98) B xc_Mo kd_97 (by decide) rfl rfl fl_Mo_7 sr_97_1 d_Mo_join_91 ?_
      refine s_bipush (v := (100:Int32)) B d_Mo_join_94 (by decide) ?_
      refine s_iload_n B d_Mo_join_96 rfl ?_
      refine s_imul B d_Mo_join_97 ?_
      refine s_aload_n B d_Mo_join_98 rfl ?_
      refine s_getS (k := 2) (n := 99) B xc_Mo kd_97 (by decide) rfl rfl fl_Mo_13 sr_97_2 d_Mo_join_99 ?_
      refine s_iload_n B d_Mo_join_102 rfl ?_
      refine s_iald B (Or.inl kd_99) d_Mo_join_103 (fun v3 _ => ?_)
      refine s_pick (lv1 := []) [] rfl ?_
      refine s_callI (av := [.ref 97, .ref 98, .int ((100:Int32) * l2), .int v2, .ref 98, .int ((100:Int32) * l3), .int v3]) (rest := [.int l1, .ref 97]) B (lk_V B d_Mo_join_104 (gl_Mo_139 _) rfl hv_Mo_cat (by decide) (by decide)) rfl (x_rcV B xc_Mo kd_97) (fun _ _ => rfl) rfl rfl (by simp [Value.category]) rfl (fun r4 e9 => ct_Mo_cat _ _ _ _ _ _ _ r4 e9) (fun r4 _ => ?_)
      refine s_pick (lv1 := []) [] rfl ?_
      refine s_callI (av := [.ref 97, .int l1, .int r4.2]) (rest := []) B (lk_V B d_Mo_join_107 (gl_Mo_165 _) rfl hv_Mo_keep (by decide) (by decide)) rfl (x_rcV B xc_Mo kd_97) (fun _ _ => rfl) rfl rfl (by simp [Value.category]) rfl (fun r5 e9 => ct_Mo_keep _ _ _ r5 e9) (fun r5 _ => ?_)
      exact s_iret B d_Mo_join_110
  · refine s_iconst (v := (0:Int32)) B d_Mo_join_66 (by decide) ?_
    exact s_iret B d_Mo_join_67
set_option maxRecDepth 100000 in
set_option maxHeartbeats 4000000 in
theorem t_Mo_join_59  (B : xB p R s m args meth c b_Mo_join 7 R_Mo (Cond.code y_Mo_join b_Mo_join 7 (some .int) :: x_T) (some .int) 4 95 D x_cl (xty g) base)  (l1 : Int32) (l2 : Int32) (l3 : Int32) (l4 : Int32) (s1 : Int32) (M : MS)  : Sn p l e R s m args below meth c 7 D x_cl base (xwd g) cM x_g0 az kz (xfc cM) (xZ below args s D x_cl (xty g) base (xwd g) cM x_g0 az kz ovI) 59 [.int s1, .ref 97] [(0, .ref 97), (1, .int l1), (2, .int l2), (3, .int l3), (4, .int l4)] M (m_Mo_join_59 l1 l2 l3 l4 s1 M) := by
  unfold m_Mo_join_59
  refine s_iconst (v := (0:Int32)) B d_Mo_join_59 (by decide) ?_
  refine s_pick (lv1 := [(0, .ref 97), (1, .int l1), (2, .int l2), (3, .int l3), (4, .int l4)]) [0, 1, 2, 3, 4] rfl ?_
  exact t_Mo_join_60 B l1 l2 l3 l4 s1 (0:Int32) M
set_option maxRecDepth 100000 in
set_option maxHeartbeats 4000000 in
theorem t_Mo_join_55  (B : xB p R s m args meth c b_Mo_join 7 R_Mo (Cond.code y_Mo_join b_Mo_join 7 (some .int) :: x_T) (some .int) 4 95 D x_cl (xty g) base)  (l1 : Int32) (l2 : Int32) (l3 : Int32) (l4 : Int32) (s1 : Int32) (M : MS)  : Sn p l e R s m args below meth c 7 D x_cl base (xwd g) cM x_g0 az kz (xfc cM) (xZ below args s D x_cl (xty g) base (xwd g) cM x_g0 az kz ovI) 55 [.int s1, .ref 97] [(0, .ref 97), (1, .int l1), (2, .int l2), (3, .int l3), (4, .int l4)] M (m_Mo_join_55 l1 l2 l3 l4 s1 M) := by
  unfold m_Mo_join_55
  refine s_iconst (v := (1:Int32)) B d_Mo_join_55 (by decide) ?_
  refine s_goto B d_Mo_join_56 rfl ?_
  refine s_pick (lv1 := [(0, .ref 97), (1, .int l1), (2, .int l2), (3, .int l3), (4, .int l4)]) [0, 1, 2, 3, 4] rfl ?_
  exact t_Mo_join_60 B l1 l2 l3 l4 s1 (1:Int32) M
set_option maxRecDepth 100000 in
set_option maxHeartbeats 4000000 in
theorem t_Mo_join_39  (B : xB p R s m args meth c b_Mo_join 7 R_Mo (Cond.code y_Mo_join b_Mo_join 7 (some .int) :: x_T) (some .int) 4 95 D x_cl (xty g) base)  (l1 : Int32) (l2 : Int32) (l3 : Int32) (l4 : Int32) (l5 : Int32) (s1 : Int32) (M : MS)  : Sn p l e R s m args below meth c 7 D x_cl base (xwd g) cM x_g0 az kz (xfc cM) (xZ below args s D x_cl (xty g) base (xwd g) cM x_g0 az kz ovI) 39 [.int s1, .ref 97] [(0, .ref 97), (1, .int l1), (2, .int l2), (3, .int l3), (4, .int l4), (5, .int l5)] M (m_Mo_join_39 l1 l2 l3 l4 l5 s1 M) := by
  unfold m_Mo_join_39
  refine s_iload B d_Mo_join_39 rfl ?_
  refine s_if_eq B d_Mo_join_41 rfl (fun _ => ?_) (fun _ => ?_)
  · refine s_pick (lv1 := [(0, .ref 97), (1, .int l1), (2, .int l2), (3, .int l3), (4, .int l4)]) [0, 1, 2, 3, 4] rfl ?_
    exact t_Mo_join_59 B l1 l2 l3 l4 s1 M
  · refine s_iload B d_Mo_join_44 rfl ?_
    refine s_if_lt B d_Mo_join_46 rfl (fun _ => ?_) (fun _ => ?_)
    · refine s_pick (lv1 := [(0, .ref 97), (1, .int l1), (2, .int l2), (3, .int l3), (4, .int l4)]) [0, 1, 2, 3, 4] rfl ?_
      exact t_Mo_join_55 B l1 l2 l3 l4 s1 M
    · refine s_iload B d_Mo_join_49 rfl ?_
      refine s_iconst (v := (2:Int32)) B d_Mo_join_51 (by decide) ?_
      refine s_icmp_le B d_Mo_join_52 rfl (fun _ => ?_) (fun _ => ?_)
      · refine s_pick (lv1 := [(0, .ref 97), (1, .int l1), (2, .int l2), (3, .int l3), (4, .int l4)]) [0, 1, 2, 3, 4] rfl ?_
        exact t_Mo_join_59 B l1 l2 l3 l4 s1 M
      · refine s_pick (lv1 := [(0, .ref 97), (1, .int l1), (2, .int l2), (3, .int l3), (4, .int l4)]) [0, 1, 2, 3, 4] rfl ?_
        exact t_Mo_join_55 B l1 l2 l3 l4 s1 M
set_option maxRecDepth 100000 in
set_option maxHeartbeats 4000000 in
theorem t_Mo_join_26  (B : xB p R s m args meth c b_Mo_join 7 R_Mo (Cond.code y_Mo_join b_Mo_join 7 (some .int) :: x_T) (some .int) 4 95 D x_cl (xty g) base)  (l1 : Int32) (l2 : Int32) (l3 : Int32) (l4 : Int32) (s0 : Int32) (M : MS)  : Sn p l e R s m args below meth c 7 D x_cl base (xwd g) cM x_g0 az kz (xfc cM) (xZ below args s D x_cl (xty g) base (xwd g) cM x_g0 az kz ovI) 26 [.int s0] [(0, .ref 97), (1, .int l1), (2, .int l2), (3, .int l3), (4, .int l4)] M (m_Mo_join_26 l1 l2 l3 l4 s0 M) := by
  unfold m_Mo_join_26
  refine s_istore B d_Mo_join_26 (by decide) ?_
  refine s_aload_n B d_Mo_join_28 rfl ?_
  refine s_iload B d_Mo_join_29 rfl ?_
  refine s_if_ne B d_Mo_join_31 rfl (fun _ => ?_) (fun _ => ?_)
  · refine s_iconst (v := (0:Int32)) B d_Mo_join_38 (by decide) ?_
    refine s_pick (lv1 := [(0, .ref 97), (1, .int l1), (2, .int l2), (3, .int l3), (4, .int l4), (5, .int s0)]) [0, 1, 2, 3, 4, 5] rfl ?_
    exact t_Mo_join_39 B l1 l2 l3 l4 s0 (0:Int32) M
  · refine s_iconst (v := (1:Int32)) B d_Mo_join_34 (by decide) ?_
    refine s_goto B d_Mo_join_35 rfl ?_
    refine s_pick (lv1 := [(0, .ref 97), (1, .int l1), (2, .int l2), (3, .int l3), (4, .int l4), (5, .int s0)]) [0, 1, 2, 3, 4, 5] rfl ?_
    exact t_Mo_join_39 B l1 l2 l3 l4 s0 (1:Int32) M
set_option maxRecDepth 100000 in
set_option maxHeartbeats 4000000 in
theorem t_Mo_join_25  (B : xB p R s m args meth c b_Mo_join 7 R_Mo (Cond.code y_Mo_join b_Mo_join 7 (some .int) :: x_T) (some .int) 4 95 D x_cl (xty g) base)  (l1 : Int32) (l2 : Int32) (l3 : Int32) (l4 : Int32) (M : MS)  : Sn p l e R s m args below meth c 7 D x_cl base (xwd g) cM x_g0 az kz (xfc cM) (xZ below args s D x_cl (xty g) base (xwd g) cM x_g0 az kz ovI) 25 [] [(0, .ref 97), (1, .int l1), (2, .int l2), (3, .int l3), (4, .int l4)] M (m_Mo_join_25 l1 l2 l3 l4 M) := by
  unfold m_Mo_join_25
  refine s_iconst (v := (0:Int32)) B d_Mo_join_25 (by decide) ?_
  refine s_pick (lv1 := [(0, .ref 97), (1, .int l1), (2, .int l2), (3, .int l3), (4, .int l4)]) [0, 1, 2, 3, 4] rfl ?_
  exact t_Mo_join_26 B l1 l2 l3 l4 (0:Int32) M
set_option maxRecDepth 100000 in
set_option maxHeartbeats 4000000 in
theorem t_Mo_join (B : xB p R s m args meth c b_Mo_join 7 R_Mo (Cond.code y_Mo_join b_Mo_join 7 (some .int) :: x_T) (some .int) 4 95 D x_cl (xty g) base) (a1 : Int32) (a2 : Int32) (a3 : Int32) (a4 : Int32) (M : MS) : Sn p l e R s m args below meth c 7 D x_cl base (xwd g) cM x_g0 az kz (xfc cM) (xZ below args s D x_cl (xty g) base (xwd g) cM x_g0 az kz ovI) 0 [] [(0, .ref 97), (1, .int a1), (2, .int a2), (3, .int a3), (4, .int a4)] M (m_Mo_join a1 a2 a3 a4 M) := by
  unfold m_Mo_join
  refine s_iload_n B d_Mo_join_0 rfl ?_
  refine s_pick (lv1 := [(0, .ref 97), (1, .int a1), (2, .int a2), (3, .int a3), (4, .int a4)]) [0, 1, 2, 3, 4] rfl ?_
  refine s_callI (av := [.int a1]) (rest := []) B (lk_S B d_Mo_join_1 (gl_Mo_158 _) (List.mem_cons_of_mem _ st_Mo_isSlot) (List.mem_cons_of_mem _ in_Mo) (List.mem_cons_of_mem _ ml_Mo_158) rfl hs_Mo_isSlot (by decide) (by decide)) rfl x_rcS (fun _ _ => rfl) rfl rfl (by simp [Value.category]) rfl (fun r1 e9 => ct_Mo_isSlot _ _ r1 e9) (fun r1 _ => ?_)
  refine s_if_eq B d_Mo_join_4 rfl (fun _ => ?_) (fun _ => ?_)
  · refine s_pick (lv1 := [(0, .ref 97), (1, .int a1), (2, .int a2), (3, .int a3), (4, .int a4)]) [0, 1, 2, 3, 4] rfl ?_
    exact t_Mo_join_25 B a1 a2 a3 a4 r1.1
  · refine s_iload_n B d_Mo_join_7 rfl ?_
    refine s_pick (lv1 := [(0, .ref 97), (1, .int a1), (2, .int a2), (3, .int a3), (4, .int a4)]) [0, 1, 2, 3, 4] rfl ?_
    refine s_callI (av := [.int a2]) (rest := []) B (lk_S B d_Mo_join_8 (gl_Mo_158 _) (List.mem_cons_of_mem _ st_Mo_isSlot) (List.mem_cons_of_mem _ in_Mo) (List.mem_cons_of_mem _ ml_Mo_158) rfl hs_Mo_isSlot (by decide) (by decide)) rfl x_rcS (fun _ _ => rfl) rfl rfl (by simp [Value.category]) rfl (fun r2 e9 => ct_Mo_isSlot _ _ r2 e9) (fun r2 _ => ?_)
    refine s_if_eq B d_Mo_join_11 rfl (fun _ => ?_) (fun _ => ?_)
    · refine s_pick (lv1 := [(0, .ref 97), (1, .int a1), (2, .int a2), (3, .int a3), (4, .int a4)]) [0, 1, 2, 3, 4] rfl ?_
      exact t_Mo_join_25 B a1 a2 a3 a4 r2.1
    · refine s_iload_n B d_Mo_join_14 rfl ?_
      refine s_pick (lv1 := [(0, .ref 97), (1, .int a1), (2, .int a2), (3, .int a3), (4, .int a4)]) [0, 1, 2, 3, 4] rfl ?_
      refine s_callI (av := [.int a3]) (rest := []) B (lk_S B d_Mo_join_15 (gl_Mo_158 _) (List.mem_cons_of_mem _ st_Mo_isSlot) (List.mem_cons_of_mem _ in_Mo) (List.mem_cons_of_mem _ ml_Mo_158) rfl hs_Mo_isSlot (by decide) (by decide)) rfl x_rcS (fun _ _ => rfl) rfl rfl (by simp [Value.category]) rfl (fun r3 e9 => ct_Mo_isSlot _ _ r3 e9) (fun r3 _ => ?_)
      refine s_if_eq B d_Mo_join_18 rfl (fun _ => ?_) (fun _ => ?_)
      · refine s_pick (lv1 := [(0, .ref 97), (1, .int a1), (2, .int a2), (3, .int a3), (4, .int a4)]) [0, 1, 2, 3, 4] rfl ?_
        exact t_Mo_join_25 B a1 a2 a3 a4 r3.1
      · refine s_iconst (v := (1:Int32)) B d_Mo_join_21 (by decide) ?_
        refine s_goto B d_Mo_join_22 rfl ?_
        refine s_pick (lv1 := [(0, .ref 97), (1, .int a1), (2, .int a2), (3, .int a3), (4, .int a4)]) [0, 1, 2, 3, 4] rfl ?_
        exact t_Mo_join_26 B a1 a2 a3 a4 (1:Int32) r3.1
set_option maxRecDepth 100000 in
set_option maxHeartbeats 4000000 in
theorem ct_Mo_join {l : Launch} {D : va_G} {base : Nat} {g : Nat → ClassId} (a1 : Int32) (a2 : Int32) (a3 : Int32) (a4 : Int32) (M : MS) (r : MS × Int32) (hr : m_Mo_join a1 a2 a3 a4 M = some r) : Ct l y_Mo_join (Cond.code y_Mo_join b_Mo_join 7 (some .int) :: x_T) 4 95 D x_cl (xty g) base (xwd g) cM x_g0 [.ref 97, .int a1, .int a2, .int a3, .int a4] M r.1 (ovI r.2) :=
  x_met (ov := ovI) (by decide) (Nat.le_of_ble_eq_true rfl) (fun p e R s m args below meth c az B => t_Mo_join B a1 a2 a3 a4 M) r hr
end
theorem d_Mo_not_0 : decode b_Mo_not 0 = .ok (.aload_n 0, 1) := by decide +kernel
theorem d_Mo_not_1 : decode b_Mo_not 1 = .ok (.getfield 17, 3) := by decide +kernel
theorem d_Mo_not_4 : decode b_Mo_not 4 = .ok (.iload_n 1, 1) := by decide +kernel
theorem d_Mo_not_5 : decode b_Mo_not 5 = .ok (.iaload, 1) := by decide +kernel
theorem d_Mo_not_6 : decode b_Mo_not 6 = .ok (.bipush (6), 2) := by decide +kernel
theorem d_Mo_not_8 : decode b_Mo_not 8 = .ok (.if_icmp .ne (36), 3) := by decide +kernel
theorem d_Mo_not_11 : decode b_Mo_not 11 = .ok (.iconst (1), 1) := by decide +kernel
theorem d_Mo_not_12 : decode b_Mo_not 12 = .ok (.istore_n 3, 1) := by decide +kernel
theorem d_Mo_not_13 : decode b_Mo_not 13 = .ok (.iload_n 3, 1) := by decide +kernel
theorem d_Mo_not_14 : decode b_Mo_not 14 = .ok (.iload_n 2, 1) := by decide +kernel
theorem d_Mo_not_15 : decode b_Mo_not 15 = .ok (.if_icmp .ge (25), 3) := by decide +kernel
theorem d_Mo_not_18 : decode b_Mo_not 18 = .ok (.aload_n 0, 1) := by decide +kernel
theorem d_Mo_not_19 : decode b_Mo_not 19 = .ok (.getfield 20, 3) := by decide +kernel
theorem d_Mo_not_22 : decode b_Mo_not 22 = .ok (.iload_n 3, 1) := by decide +kernel
theorem d_Mo_not_23 : decode b_Mo_not 23 = .ok (.iconst (1), 1) := by decide +kernel
theorem d_Mo_not_24 : decode b_Mo_not 24 = .ok (.isub, 1) := by decide +kernel
theorem d_Mo_not_25 : decode b_Mo_not 25 = .ok (.aload_n 0, 1) := by decide +kernel
theorem d_Mo_not_26 : decode b_Mo_not 26 = .ok (.getfield 17, 3) := by decide +kernel
theorem d_Mo_not_29 : decode b_Mo_not 29 = .ok (.iload_n 1, 1) := by decide +kernel
theorem d_Mo_not_30 : decode b_Mo_not 30 = .ok (.iload_n 3, 1) := by decide +kernel
theorem d_Mo_not_31 : decode b_Mo_not 31 = .ok (.iadd, 1) := by decide +kernel
theorem d_Mo_not_32 : decode b_Mo_not 32 = .ok (.iaload, 1) := by decide +kernel
theorem d_Mo_not_33 : decode b_Mo_not 33 = .ok (.iastore, 1) := by decide +kernel
theorem d_Mo_not_34 : decode b_Mo_not 34 = .ok (.iinc 3 (1), 3) := by decide +kernel
theorem d_Mo_not_37 : decode b_Mo_not 37 = .ok (.goto (-24), 3) := by decide +kernel
theorem d_Mo_not_40 : decode b_Mo_not 40 = .ok (.iload_n 2, 1) := by decide +kernel
theorem d_Mo_not_41 : decode b_Mo_not 41 = .ok (.iconst (1), 1) := by decide +kernel
theorem d_Mo_not_42 : decode b_Mo_not 42 = .ok (.isub, 1) := by decide +kernel
theorem d_Mo_not_43 : decode b_Mo_not 43 = .ok (.ireturn, 1) := by decide +kernel
theorem d_Mo_not_44 : decode b_Mo_not 44 = .ok (.aload_n 0, 1) := by decide +kernel
theorem d_Mo_not_45 : decode b_Mo_not 45 = .ok (.getfield 20, 3) := by decide +kernel
theorem d_Mo_not_48 : decode b_Mo_not 48 = .ok (.iconst (0), 1) := by decide +kernel
theorem d_Mo_not_49 : decode b_Mo_not 49 = .ok (.bipush (6), 2) := by decide +kernel
theorem d_Mo_not_51 : decode b_Mo_not 51 = .ok (.iastore, 1) := by decide +kernel
theorem d_Mo_not_52 : decode b_Mo_not 52 = .ok (.iconst (0), 1) := by decide +kernel
theorem d_Mo_not_53 : decode b_Mo_not 53 = .ok (.istore_n 3, 1) := by decide +kernel
theorem d_Mo_not_54 : decode b_Mo_not 54 = .ok (.iload_n 3, 1) := by decide +kernel
theorem d_Mo_not_55 : decode b_Mo_not 55 = .ok (.iload_n 2, 1) := by decide +kernel
theorem d_Mo_not_56 : decode b_Mo_not 56 = .ok (.if_icmp .ge (25), 3) := by decide +kernel
theorem d_Mo_not_59 : decode b_Mo_not 59 = .ok (.aload_n 0, 1) := by decide +kernel
theorem d_Mo_not_60 : decode b_Mo_not 60 = .ok (.getfield 20, 3) := by decide +kernel
theorem d_Mo_not_63 : decode b_Mo_not 63 = .ok (.iload_n 3, 1) := by decide +kernel
theorem d_Mo_not_64 : decode b_Mo_not 64 = .ok (.iconst (1), 1) := by decide +kernel
theorem d_Mo_not_65 : decode b_Mo_not 65 = .ok (.iadd, 1) := by decide +kernel
theorem d_Mo_not_66 : decode b_Mo_not 66 = .ok (.aload_n 0, 1) := by decide +kernel
theorem d_Mo_not_67 : decode b_Mo_not 67 = .ok (.getfield 17, 3) := by decide +kernel
theorem d_Mo_not_70 : decode b_Mo_not 70 = .ok (.iload_n 1, 1) := by decide +kernel
theorem d_Mo_not_71 : decode b_Mo_not 71 = .ok (.iload_n 3, 1) := by decide +kernel
theorem d_Mo_not_72 : decode b_Mo_not 72 = .ok (.iadd, 1) := by decide +kernel
theorem d_Mo_not_73 : decode b_Mo_not 73 = .ok (.iaload, 1) := by decide +kernel
theorem d_Mo_not_74 : decode b_Mo_not 74 = .ok (.iastore, 1) := by decide +kernel
theorem d_Mo_not_75 : decode b_Mo_not 75 = .ok (.iinc 3 (1), 3) := by decide +kernel
theorem d_Mo_not_78 : decode b_Mo_not 78 = .ok (.goto (-24), 3) := by decide +kernel
theorem d_Mo_not_81 : decode b_Mo_not 81 = .ok (.iload_n 2, 1) := by decide +kernel
theorem d_Mo_not_82 : decode b_Mo_not 82 = .ok (.iconst (1), 1) := by decide +kernel
theorem d_Mo_not_83 : decode b_Mo_not 83 = .ok (.iadd, 1) := by decide +kernel
theorem d_Mo_not_84 : decode b_Mo_not 84 = .ok (.ireturn, 1) := by decide +kernel
section
variable {p : Program} {l : Launch} {e : Env} {R : Room} {s : State} {m : MethodId} {args : Array Value} {below : List Frame} {meth : Method} {c : Code} {D : va_G} {base : Nat} {g : Nat → ClassId} {az : Nat → Nat} {kz : Nat × Nat}
set_option maxRecDepth 100000 in
set_option maxHeartbeats 4000000 in
theorem t_Mo_not_54b {k54 : Int32 × Int32 × Int32 × MS → Option (MS × Int32)} (B : xB p R s m args meth c b_Mo_not 4 R_Mo (Cond.code y_Mo_not b_Mo_not 4 (some .int) :: x_T) (some .int) 0 0 D x_cl (xty g) base) (hk54 : ∀ (l1 : Int32) (l2 : Int32) (l3 : Int32) (M : MS) , Sn p l e R s m args below meth c 4 D x_cl base (xwd g) cM x_g0 az kz (xfc cM) (xZ below args s D x_cl (xty g) base (xwd g) cM x_g0 az kz ovI) 54 [] [(0, .ref 97), (1, .int l1), (2, .int l2), (3, .int l3)] M (k54 (l1, l2, l3, M))) (l1 : Int32) (l2 : Int32) (l3 : Int32) (M : MS)  : Sn p l e R s m args below meth c 4 D x_cl base (xwd g) cM x_g0 az kz (xfc cM) (xZ below args s D x_cl (xty g) base (xwd g) cM x_g0 az kz ovI) 54 [] [(0, .ref 97), (1, .int l1), (2, .int l2), (3, .int l3)] M (m_Mo_not_54b k54 l1 l2 l3 M) := by
  unfold m_Mo_not_54b
  refine s_iload_n B d_Mo_not_54 rfl ?_
  refine s_iload_n B d_Mo_not_55 rfl ?_
  refine s_icmp_ge B d_Mo_not_56 rfl (fun _ => ?_) (fun _ => ?_)
  · refine s_iload_n B d_Mo_not_81 rfl ?_
    refine s_iconst (v := (1:Int32)) B d_Mo_not_82 (by decide) ?_
    refine s_iadd B d_Mo_not_83 ?_
    exact s_iret B d_Mo_not_84
  · refine s_aload_n B d_Mo_not_59 rfl ?_
    refine s_getS (k := 4) (n := 101) B xc_Mo kd_97 (by decide) rfl rfl fl_Mo_20 sr_97_4 d_Mo_not_60 ?_
    refine s_iload_n B d_Mo_not_63 rfl ?_
    refine s_iconst (v := (1:Int32)) B d_Mo_not_64 (by decide) ?_
    refine s_iadd B d_Mo_not_65 ?_
    refine s_aload_n B d_Mo_not_66 rfl ?_
    refine s_getS (k := 3) (n := 100) B xc_Mo kd_97 (by decide) rfl rfl fl_Mo_17 sr_97_3 d_Mo_not_67 ?_
    refine s_iload_n B d_Mo_not_70 rfl ?_
    refine s_iload_n B d_Mo_not_71 rfl ?_
    refine s_iadd B d_Mo_not_72 ?_
    refine s_iald B (Or.inl kd_100) d_Mo_not_73 (fun v1 _ => ?_)
    refine s_iast B (Or.inl kd_101) d_Mo_not_74 (fun M2 _ => ?_)
    refine s_iinc (w := (1:Int32)) B d_Mo_not_75 rfl (by decide) (by decide) ?_
    refine s_goto B d_Mo_not_78 rfl ?_
    refine s_pick (lv1 := [(0, .ref 97), (1, .int l1), (2, .int l2), (3, .int (l3 + (1:Int32)))]) [0, 1, 2, 3] rfl ?_
    exact hk54 l1 l2 (l3 + (1:Int32)) M2
set_option maxRecDepth 100000 in
set_option maxHeartbeats 4000000 in
theorem t_Mo_not_54  (B : xB p R s m args meth c b_Mo_not 4 R_Mo (Cond.code y_Mo_not b_Mo_not 4 (some .int) :: x_T) (some .int) 0 0 D x_cl (xty g) base)  (l1 : Int32) (l2 : Int32) (l3 : Int32) (M : MS)  : Sn p l e R s m args below meth c 4 D x_cl base (xwd g) cM x_g0 az kz (xfc cM) (xZ below args s D x_cl (xty g) base (xwd g) cM x_g0 az kz ovI) 54 [] [(0, .ref 97), (1, .int l1), (2, .int l2), (3, .int l3)] M (m_Mo_not_54 (l1, l2, l3, M)) := by
  have q : ∀ (F : Nat) (i : Int32 × Int32 × Int32 × MS), Sn p l e R s m args below meth c 4 D x_cl base (xwd g) cM x_g0 az kz (xfc cM) (xZ below args s D x_cl (xty g) base (xwd g) cM x_g0 az kz ovI) 54 [] [(0, .ref 97), (1, .int i.1), (2, .int i.2.1), (3, .int i.2.2.1)] i.2.2.2 (fx (fun (k : Int32 × Int32 × Int32 × MS → Option (MS × Int32)) (i : Int32 × Int32 × Int32 × MS) => m_Mo_not_54b k i.1 i.2.1 i.2.2.1 i.2.2.2) F i) := by
    intro F
    induction F with
    | zero => intro i ; exact s_none
    | succ F ih => intro i ; exact t_Mo_not_54b B  (fun l1 l2 l3 M  => ih (l1, l2, l3, M) ) i.1 i.2.1 i.2.2.1 i.2.2.2 
  exact q FU (l1, l2, l3, M) 
set_option maxRecDepth 100000 in
set_option maxHeartbeats 4000000 in
theorem t_Mo_not_13b {k13 : Int32 × Int32 × Int32 × MS → Option (MS × Int32)} (B : xB p R s m args meth c b_Mo_not 4 R_Mo (Cond.code y_Mo_not b_Mo_not 4 (some .int) :: x_T) (some .int) 0 0 D x_cl (xty g) base) (hk13 : ∀ (l1 : Int32) (l2 : Int32) (l3 : Int32) (M : MS) , Sn p l e R s m args below meth c 4 D x_cl base (xwd g) cM x_g0 az kz (xfc cM) (xZ below args s D x_cl (xty g) base (xwd g) cM x_g0 az kz ovI) 13 [] [(0, .ref 97), (1, .int l1), (2, .int l2), (3, .int l3)] M (k13 (l1, l2, l3, M))) (l1 : Int32) (l2 : Int32) (l3 : Int32) (M : MS)  : Sn p l e R s m args below meth c 4 D x_cl base (xwd g) cM x_g0 az kz (xfc cM) (xZ below args s D x_cl (xty g) base (xwd g) cM x_g0 az kz ovI) 13 [] [(0, .ref 97), (1, .int l1), (2, .int l2), (3, .int l3)] M (m_Mo_not_13b k13 l1 l2 l3 M) := by
  unfold m_Mo_not_13b
  refine s_iload_n B d_Mo_not_13 rfl ?_
  refine s_iload_n B d_Mo_not_14 rfl ?_
  refine s_icmp_ge B d_Mo_not_15 rfl (fun _ => ?_) (fun _ => ?_)
  · refine s_iload_n B d_Mo_not_40 rfl ?_
    refine s_iconst (v := (1:Int32)) B d_Mo_not_41 (by decide) ?_
    refine s_isub B d_Mo_not_42 ?_
    exact s_iret B d_Mo_not_43
  · refine s_aload_n B d_Mo_not_18 rfl ?_
    refine s_getS (k := 4) (n := 101) B xc_Mo kd_97 (by decide) rfl rfl fl_Mo_20 sr_97_4 d_Mo_not_19 ?_
    refine s_iload_n B d_Mo_not_22 rfl ?_
    refine s_iconst (v := (1:Int32)) B d_Mo_not_23 (by decide) ?_
    refine s_isub B d_Mo_not_24 ?_
    refine s_aload_n B d_Mo_not_25 rfl ?_
    refine s_getS (k := 3) (n := 100) B xc_Mo kd_97 (by decide) rfl rfl fl_Mo_17 sr_97_3 d_Mo_not_26 ?_
    refine s_iload_n B d_Mo_not_29 rfl ?_
    refine s_iload_n B d_Mo_not_30 rfl ?_
    refine s_iadd B d_Mo_not_31 ?_
    refine s_iald B (Or.inl kd_100) d_Mo_not_32 (fun v1 _ => ?_)
    refine s_iast B (Or.inl kd_101) d_Mo_not_33 (fun M2 _ => ?_)
    refine s_iinc (w := (1:Int32)) B d_Mo_not_34 rfl (by decide) (by decide) ?_
    refine s_goto B d_Mo_not_37 rfl ?_
    refine s_pick (lv1 := [(0, .ref 97), (1, .int l1), (2, .int l2), (3, .int (l3 + (1:Int32)))]) [0, 1, 2, 3] rfl ?_
    exact hk13 l1 l2 (l3 + (1:Int32)) M2
set_option maxRecDepth 100000 in
set_option maxHeartbeats 4000000 in
theorem t_Mo_not_13  (B : xB p R s m args meth c b_Mo_not 4 R_Mo (Cond.code y_Mo_not b_Mo_not 4 (some .int) :: x_T) (some .int) 0 0 D x_cl (xty g) base)  (l1 : Int32) (l2 : Int32) (l3 : Int32) (M : MS)  : Sn p l e R s m args below meth c 4 D x_cl base (xwd g) cM x_g0 az kz (xfc cM) (xZ below args s D x_cl (xty g) base (xwd g) cM x_g0 az kz ovI) 13 [] [(0, .ref 97), (1, .int l1), (2, .int l2), (3, .int l3)] M (m_Mo_not_13 (l1, l2, l3, M)) := by
  have q : ∀ (F : Nat) (i : Int32 × Int32 × Int32 × MS), Sn p l e R s m args below meth c 4 D x_cl base (xwd g) cM x_g0 az kz (xfc cM) (xZ below args s D x_cl (xty g) base (xwd g) cM x_g0 az kz ovI) 13 [] [(0, .ref 97), (1, .int i.1), (2, .int i.2.1), (3, .int i.2.2.1)] i.2.2.2 (fx (fun (k : Int32 × Int32 × Int32 × MS → Option (MS × Int32)) (i : Int32 × Int32 × Int32 × MS) => m_Mo_not_13b k i.1 i.2.1 i.2.2.1 i.2.2.2) F i) := by
    intro F
    induction F with
    | zero => intro i ; exact s_none
    | succ F ih => intro i ; exact t_Mo_not_13b B  (fun l1 l2 l3 M  => ih (l1, l2, l3, M) ) i.1 i.2.1 i.2.2.1 i.2.2.2 
  exact q FU (l1, l2, l3, M) 
set_option maxRecDepth 100000 in
set_option maxHeartbeats 4000000 in
theorem t_Mo_not (B : xB p R s m args meth c b_Mo_not 4 R_Mo (Cond.code y_Mo_not b_Mo_not 4 (some .int) :: x_T) (some .int) 0 0 D x_cl (xty g) base) (a1 : Int32) (a2 : Int32) (M : MS) : Sn p l e R s m args below meth c 4 D x_cl base (xwd g) cM x_g0 az kz (xfc cM) (xZ below args s D x_cl (xty g) base (xwd g) cM x_g0 az kz ovI) 0 [] [(0, .ref 97), (1, .int a1), (2, .int a2)] M (m_Mo_not a1 a2 M) := by
  unfold m_Mo_not
  refine s_aload_n B d_Mo_not_0 rfl ?_
  refine s_getS (k := 3) (n := 100) B xc_Mo kd_97 (by decide) rfl rfl fl_Mo_17 sr_97_3 d_Mo_not_1 ?_
  refine s_iload_n B d_Mo_not_4 rfl ?_
  refine s_iald B (Or.inl kd_100) d_Mo_not_5 (fun v1 _ => ?_)
  refine s_bipush (v := (6:Int32)) B d_Mo_not_6 (by decide) ?_
  refine s_icmp_ne B d_Mo_not_8 rfl (fun _ => ?_) (fun _ => ?_)
  · refine s_aload_n B d_Mo_not_44 rfl ?_
    refine s_getS (k := 4) (n := 101) B xc_Mo kd_97 (by decide) rfl rfl fl_Mo_20 sr_97_4 d_Mo_not_45 ?_
    refine s_iconst (v := (0:Int32)) B d_Mo_not_48 (by decide) ?_
    refine s_bipush (v := (6:Int32)) B d_Mo_not_49 (by decide) ?_
    refine s_iast B (Or.inl kd_101) d_Mo_not_51 (fun M2 _ => ?_)
    refine s_iconst (v := (0:Int32)) B d_Mo_not_52 (by decide) ?_
    refine s_istore_n B d_Mo_not_53 (by decide) ?_
    refine s_pick (lv1 := [(0, .ref 97), (1, .int a1), (2, .int a2), (3, .int (0:Int32))]) [0, 1, 2, 3] rfl ?_
    exact t_Mo_not_54 B a1 a2 (0:Int32) M2
  · refine s_iconst (v := (1:Int32)) B d_Mo_not_11 (by decide) ?_
    refine s_istore_n B d_Mo_not_12 (by decide) ?_
    refine s_pick (lv1 := [(0, .ref 97), (1, .int a1), (2, .int a2), (3, .int (1:Int32))]) [0, 1, 2, 3] rfl ?_
    exact t_Mo_not_13 B a1 a2 (1:Int32) M
set_option maxRecDepth 100000 in
set_option maxHeartbeats 4000000 in
theorem ct_Mo_not {l : Launch} {D : va_G} {base : Nat} {g : Nat → ClassId} (a1 : Int32) (a2 : Int32) (M : MS) (r : MS × Int32) (hr : m_Mo_not a1 a2 M = some r) : Ct l y_Mo_not (Cond.code y_Mo_not b_Mo_not 4 (some .int) :: x_T) 0 0 D x_cl (xty g) base (xwd g) cM x_g0 [.ref 97, .int a1, .int a2] M r.1 (ovI r.2) :=
  x_met (ov := ovI) (by decide) (Nat.le_of_ble_eq_true rfl) (fun p e R s m args below meth c az B => t_Mo_not B a1 a2 M) r hr
end
theorem d_Mo_turn_0 : decode b_Mo_turn 0 = .ok (.iload_n 1, 1) := by decide +kernel
theorem d_Mo_turn_1 : decode b_Mo_turn 1 = .ok (.invokestatic 158, 3) := by decide +kernel
theorem d_Mo_turn_4 : decode b_Mo_turn 4 = .ok (.ifCond .eq (14), 3) := by decide +kernel
theorem d_Mo_turn_7 : decode b_Mo_turn 7 = .ok (.iload_n 2, 1) := by decide +kernel
theorem d_Mo_turn_8 : decode b_Mo_turn 8 = .ok (.invokestatic 158, 3) := by decide +kernel
theorem d_Mo_turn_11 : decode b_Mo_turn 11 = .ok (.ifCond .eq (7), 3) := by decide +kernel
theorem d_Mo_turn_14 : decode b_Mo_turn 14 = .ok (.iconst (1), 1) := by decide +kernel
theorem d_Mo_turn_15 : decode b_Mo_turn 15 = .ok (.goto (4), 3) := by decide +kernel
theorem d_Mo_turn_18 : decode b_Mo_turn 18 = .ok (.iconst (0), 1) := by decide +kernel
theorem d_Mo_turn_19 : decode b_Mo_turn 19 = .ok (.istore 4, 2) := by decide +kernel
theorem d_Mo_turn_21 : decode b_Mo_turn 21 = .ok (.aload_n 0, 1) := by decide +kernel
theorem d_Mo_turn_22 : decode b_Mo_turn 22 = .ok (.iload 4, 2) := by decide +kernel
theorem d_Mo_turn_24 : decode b_Mo_turn 24 = .ok (.ifCond .ne (7), 3) := by decide +kernel
theorem d_Mo_turn_27 : decode b_Mo_turn 27 = .ok (.iconst (1), 1) := by decide +kernel
theorem d_Mo_turn_28 : decode b_Mo_turn 28 = .ok (.goto (4), 3) := by decide +kernel
theorem d_Mo_turn_31 : decode b_Mo_turn 31 = .ok (.iconst (0), 1) := by decide +kernel
theorem d_Mo_turn_32 : decode b_Mo_turn 32 = .ok (.iload 4, 2) := by decide +kernel
theorem d_Mo_turn_34 : decode b_Mo_turn 34 = .ok (.ifCond .eq (16), 3) := by decide +kernel
theorem d_Mo_turn_37 : decode b_Mo_turn 37 = .ok (.iload_n 3, 1) := by decide +kernel
theorem d_Mo_turn_38 : decode b_Mo_turn 38 = .ok (.ifCond .lt (8), 3) := by decide +kernel
theorem d_Mo_turn_41 : decode b_Mo_turn 41 = .ok (.iload_n 3, 1) := by decide +kernel
theorem d_Mo_turn_42 : decode b_Mo_turn 42 = .ok (.iconst (1), 1) := by decide +kernel
theorem d_Mo_turn_43 : decode b_Mo_turn 43 = .ok (.if_icmp .le (7), 3) := by decide +kernel
theorem d_Mo_turn_46 : decode b_Mo_turn 46 = .ok (.iconst (1), 1) := by decide +kernel
theorem d_Mo_turn_47 : decode b_Mo_turn 47 = .ok (.goto (4), 3) := by decide +kernel
theorem d_Mo_turn_50 : decode b_Mo_turn 50 = .ok (.iconst (0), 1) := by decide +kernel
theorem d_Mo_turn_51 : decode b_Mo_turn 51 = .ok (.invokevirtual 161, 3) := by decide +kernel
theorem d_Mo_turn_54 : decode b_Mo_turn 54 = .ok (.ifCond .eq (5), 3) := by decide +kernel
theorem d_Mo_turn_57 : decode b_Mo_turn 57 = .ok (.iconst (0), 1) := by decide +kernel
theorem d_Mo_turn_58 : decode b_Mo_turn 58 = .ok (.ireturn, 1) := by decide +kernel
theorem d_Mo_turn_59 : decode b_Mo_turn 59 = .ok (.aload_n 0, 1) := by decide +kernel
theorem d_Mo_turn_60 : decode b_Mo_turn 60 = .ok (.getfield 13, 3) := by decide +kernel
theorem d_Mo_turn_63 : decode b_Mo_turn 63 = .ok (.iload_n 2, 1) := by decide +kernel
theorem d_Mo_turn_64 : decode b_Mo_turn 64 = .ok (.iaload, 1) := by decide +kernel
theorem d_Mo_turn_65 : decode b_Mo_turn 65 = .ok (.istore 5, 2) := by decide +kernel
theorem d_Mo_turn_67 : decode b_Mo_turn 67 = .ok (.iconst (0), 1) := by decide +kernel
theorem d_Mo_turn_68 : decode b_Mo_turn 68 = .ok (.istore 6, 2) := by decide +kernel
theorem d_Mo_turn_70 : decode b_Mo_turn 70 = .ok (.iload 6, 2) := by decide +kernel
theorem d_Mo_turn_72 : decode b_Mo_turn 72 = .ok (.iload 5, 2) := by decide +kernel
theorem d_Mo_turn_74 : decode b_Mo_turn 74 = .ok (.if_icmp .ge (28), 3) := by decide +kernel
theorem d_Mo_turn_77 : decode b_Mo_turn 77 = .ok (.aload_n 0, 1) := by decide +kernel
theorem d_Mo_turn_78 : decode b_Mo_turn 78 = .ok (.getfield 17, 3) := by decide +kernel
theorem d_Mo_turn_81 : decode b_Mo_turn 81 = .ok (.iload 6, 2) := by decide +kernel
theorem d_Mo_turn_83 : decode b_Mo_turn 83 = .ok (.aload_n 0, 1) := by decide +kernel
theorem d_Mo_turn_84 : decode b_Mo_turn 84 = .ok (.getfield 7, 3) := by decide +kernel
theorem d_Mo_turn_87 : decode b_Mo_turn 87 = .ok (.bipush (100), 2) := by decide +kernel
theorem d_Mo_turn_89 : decode b_Mo_turn 89 = .ok (.iload_n 2, 1) := by decide +kernel
theorem d_Mo_turn_90 : decode b_Mo_turn 90 = .ok (.imul, 1) := by decide +kernel
theorem d_Mo_turn_91 : decode b_Mo_turn 91 = .ok (.iload 6, 2) := by decide +kernel
theorem d_Mo_turn_93 : decode b_Mo_turn 93 = .ok (.iadd, 1) := by decide +kernel
theorem d_Mo_turn_94 : decode b_Mo_turn 94 = .ok (.iaload, 1) := by decide +kernel
theorem d_Mo_turn_95 : decode b_Mo_turn 95 = .ok (.iastore, 1) := by decide +kernel
theorem d_Mo_turn_96 : decode b_Mo_turn 96 = .ok (.iinc 6 (1), 3) := by decide +kernel
theorem d_Mo_turn_99 : decode b_Mo_turn 99 = .ok (.goto (-29), 3) := by decide +kernel
theorem d_Mo_turn_102 : decode b_Mo_turn 102 = .ok (.iload_n 3, 1) := by decide +kernel
theorem d_Mo_turn_103 : decode b_Mo_turn 103 = .ok (.ifCond .ne (16), 3) := by decide +kernel
theorem d_Mo_turn_106 : decode b_Mo_turn 106 = .ok (.aload_n 0, 1) := by decide +kernel
theorem d_Mo_turn_107 : decode b_Mo_turn 107 = .ok (.iload_n 1, 1) := by decide +kernel
theorem d_Mo_turn_108 : decode b_Mo_turn 108 = .ok (.aload_n 0, 1) := by decide +kernel
theorem d_Mo_turn_109 : decode b_Mo_turn 109 = .ok (.iconst (0), 1) := by decide +kernel
theorem d_Mo_turn_110 : decode b_Mo_turn 110 = .ok (.iload 5, 2) := by decide +kernel
theorem d_Mo_turn_112 : decode b_Mo_turn 112 = .ok (.invokevirtual 135, 3) := by decide +kernel
theorem d_Mo_turn_115 : decode b_Mo_turn 115 = .ok (.invokevirtual 165, 3) := by decide +kernel
theorem d_Mo_turn_118 : decode b_Mo_turn 118 = .ok (.ireturn, 1) := by decide +kernel
theorem d_Mo_turn_119 : decode b_Mo_turn 119 = .ok (.aload_n 0, 1) := by decide +kernel
theorem d_Mo_turn_120 : decode b_Mo_turn 120 = .ok (.getfield 17, 3) := by decide +kernel
theorem d_Mo_turn_123 : decode b_Mo_turn 123 = .ok (.iconst (0), 1) := by decide +kernel
theorem d_Mo_turn_124 : decode b_Mo_turn 124 = .ok (.iaload, 1) := by decide +kernel
theorem d_Mo_turn_125 : decode b_Mo_turn 125 = .ok (.ifCond .eq (13), 3) := by decide +kernel
theorem d_Mo_turn_128 : decode b_Mo_turn 128 = .ok (.aload_n 0, 1) := by decide +kernel
theorem d_Mo_turn_129 : decode b_Mo_turn 129 = .ok (.getfield 17, 3) := by decide +kernel
theorem d_Mo_turn_132 : decode b_Mo_turn 132 = .ok (.iconst (0), 1) := by decide +kernel
theorem d_Mo_turn_133 : decode b_Mo_turn 133 = .ok (.iaload, 1) := by decide +kernel
theorem d_Mo_turn_134 : decode b_Mo_turn 134 = .ok (.iconst (1), 1) := by decide +kernel
theorem d_Mo_turn_135 : decode b_Mo_turn 135 = .ok (.if_icmp .ne (7), 3) := by decide +kernel
theorem d_Mo_turn_138 : decode b_Mo_turn 138 = .ok (.iconst (1), 1) := by decide +kernel
theorem d_Mo_turn_139 : decode b_Mo_turn 139 = .ok (.goto (4), 3) := by decide +kernel
theorem d_Mo_turn_142 : decode b_Mo_turn 142 = .ok (.iconst (0), 1) := by decide +kernel
theorem d_Mo_turn_143 : decode b_Mo_turn 143 = .ok (.istore 6, 2) := by decide +kernel
theorem d_Mo_turn_145 : decode b_Mo_turn 145 = .ok (.aload_n 0, 1) := by decide +kernel
theorem d_Mo_turn_146 : decode b_Mo_turn 146 = .ok (.getfield 17, 3) := by decide +kernel
theorem d_Mo_turn_149 : decode b_Mo_turn 149 = .ok (.iconst (0), 1) := by decide +kernel
theorem d_Mo_turn_150 : decode b_Mo_turn 150 = .ok (.iaload, 1) := by decide +kernel
theorem d_Mo_turn_151 : decode b_Mo_turn 151 = .ok (.bipush (7), 2) := by decide +kernel
theorem d_Mo_turn_153 : decode b_Mo_turn 153 = .ok (.if_icmp .ne (7), 3) := by decide +kernel
theorem d_Mo_turn_156 : decode b_Mo_turn 156 = .ok (.iconst (1), 1) := by decide +kernel
theorem d_Mo_turn_157 : decode b_Mo_turn 157 = .ok (.goto (4), 3) := by decide +kernel
theorem d_Mo_turn_160 : decode b_Mo_turn 160 = .ok (.iconst (0), 1) := by decide +kernel
theorem d_Mo_turn_161 : decode b_Mo_turn 161 = .ok (.istore 7, 2) := by decide +kernel
theorem d_Mo_turn_163 : decode b_Mo_turn 163 = .ok (.aload_n 0, 1) := by decide +kernel
theorem d_Mo_turn_164 : decode b_Mo_turn 164 = .ok (.getfield 20, 3) := by decide +kernel
theorem d_Mo_turn_167 : decode b_Mo_turn 167 = .ok (.iconst (0), 1) := by decide +kernel
theorem d_Mo_turn_168 : decode b_Mo_turn 168 = .ok (.iload 6, 2) := by decide +kernel
theorem d_Mo_turn_170 : decode b_Mo_turn 170 = .ok (.ifCond .eq (7), 3) := by decide +kernel
theorem d_Mo_turn_173 : decode b_Mo_turn 173 = .ok (.iconst (1), 1) := by decide +kernel
theorem d_Mo_turn_174 : decode b_Mo_turn 174 = .ok (.goto (5), 3) := by decide +kernel
theorem d_Mo_turn_177 : decode b_Mo_turn 177 = .ok (.bipush (7), 2) := by decide +kernel
theorem d_Mo_turn_179 : decode b_Mo_turn 179 = .ok (.iastore, 1) := by decide +kernel
theorem d_Mo_turn_180 : decode b_Mo_turn 180 = .ok (.iconst (0), 1) := by decide +kernel
theorem d_Mo_turn_181 : decode b_Mo_turn 181 = .ok (.istore 8, 2) := by decide +kernel
theorem d_Mo_turn_183 : decode b_Mo_turn 183 = .ok (.iload 8, 2) := by decide +kernel
theorem d_Mo_turn_185 : decode b_Mo_turn 185 = .ok (.iload 5, 2) := by decide +kernel
theorem d_Mo_turn_187 : decode b_Mo_turn 187 = .ok (.if_icmp .ge (40), 3) := by decide +kernel
theorem d_Mo_turn_190 : decode b_Mo_turn 190 = .ok (.iload 6, 2) := by decide +kernel
theorem d_Mo_turn_192 : decode b_Mo_turn 192 = .ok (.ifCond .ne (35), 3) := by decide +kernel
theorem d_Mo_turn_195 : decode b_Mo_turn 195 = .ok (.aload_n 0, 1) := by decide +kernel
theorem d_Mo_turn_196 : decode b_Mo_turn 196 = .ok (.getfield 20, 3) := by decide +kernel
theorem d_Mo_turn_199 : decode b_Mo_turn 199 = .ok (.iload 7, 2) := by decide +kernel
theorem d_Mo_turn_201 : decode b_Mo_turn 201 = .ok (.ifCond .eq (8), 3) := by decide +kernel
theorem d_Mo_turn_204 : decode b_Mo_turn 204 = .ok (.iload 8, 2) := by decide +kernel
theorem d_Mo_turn_206 : decode b_Mo_turn 206 = .ok (.goto (7), 3) := by decide +kernel
theorem d_Mo_turn_209 : decode b_Mo_turn 209 = .ok (.iload 8, 2) := by decide +kernel
theorem d_Mo_turn_211 : decode b_Mo_turn 211 = .ok (.iconst (1), 1) := by decide +kernel
theorem d_Mo_turn_212 : decode b_Mo_turn 212 = .ok (.iadd, 1) := by decide +kernel
theorem d_Mo_turn_213 : decode b_Mo_turn 213 = .ok (.aload_n 0, 1) := by decide +kernel
theorem d_Mo_turn_214 : decode b_Mo_turn 214 = .ok (.getfield 17, 3) := by decide +kernel
theorem d_Mo_turn_217 : decode b_Mo_turn 217 = .ok (.iload 8, 2) := by decide +kernel
theorem d_Mo_turn_219 : decode b_Mo_turn 219 = .ok (.iaload, 1) := by decide +kernel
theorem d_Mo_turn_220 : decode b_Mo_turn 220 = .ok (.iastore, 1) := by decide +kernel
theorem d_Mo_turn_221 : decode b_Mo_turn 221 = .ok (.iinc 8 (1), 3) := by decide +kernel
theorem d_Mo_turn_224 : decode b_Mo_turn 224 = .ok (.goto (-41), 3) := by decide +kernel
theorem d_Mo_turn_227 : decode b_Mo_turn 227 = .ok (.aload_n 0, 1) := by decide +kernel
theorem d_Mo_turn_228 : decode b_Mo_turn 228 = .ok (.iload_n 1, 1) := by decide +kernel
theorem d_Mo_turn_229 : decode b_Mo_turn 229 = .ok (.iload 6, 2) := by decide +kernel
theorem d_Mo_turn_231 : decode b_Mo_turn 231 = .ok (.ifCond .eq (7), 3) := by decide +kernel
theorem d_Mo_turn_234 : decode b_Mo_turn 234 = .ok (.iconst (1), 1) := by decide +kernel
theorem d_Mo_turn_235 : decode b_Mo_turn 235 = .ok (.goto (17), 3) := by decide +kernel
theorem d_Mo_turn_238 : decode b_Mo_turn 238 = .ok (.iload 7, 2) := by decide +kernel
theorem d_Mo_turn_240 : decode b_Mo_turn 240 = .ok (.ifCond .eq (8), 3) := by decide +kernel
theorem d_Mo_turn_243 : decode b_Mo_turn 243 = .ok (.iload 5, 2) := by decide +kernel
theorem d_Mo_turn_245 : decode b_Mo_turn 245 = .ok (.goto (7), 3) := by decide +kernel
theorem d_Mo_turn_248 : decode b_Mo_turn 248 = .ok (.iload 5, 2) := by decide +kernel
theorem d_Mo_turn_250 : decode b_Mo_turn 250 = .ok (.iconst (1), 1) := by decide +kernel
theorem d_Mo_turn_251 : decode b_Mo_turn 251 = .ok (.iadd, 1) := by decide +kernel
theorem d_Mo_turn_252 : decode b_Mo_turn 252 = .ok (.invokevirtual 165, 3) := by decide +kernel
theorem d_Mo_turn_255 : decode b_Mo_turn 255 = .ok (.ireturn, 1) := by decide +kernel
section
variable {p : Program} {l : Launch} {e : Env} {R : Room} {s : State} {m : MethodId} {args : Array Value} {below : List Frame} {meth : Method} {c : Code} {D : va_G} {base : Nat} {g : Nat → ClassId} {az : Nat → Nat} {kz : Nat × Nat}
set_option maxRecDepth 100000 in
set_option maxHeartbeats 4000000 in
theorem t_Mo_turn_252  (B : xB p R s m args meth c b_Mo_turn 9 R_Mo (Cond.code y_Mo_turn b_Mo_turn 9 (some .int) :: x_T) (some .int) 1 23 D x_cl (xty g) base)  (s1 : Int32) (s2 : Int32) (M : MS)  : Sn p l e R s m args below meth c 9 D x_cl base (xwd g) cM x_g0 az kz (xfc cM) (xZ below args s D x_cl (xty g) base (xwd g) cM x_g0 az kz ovI) 252 [.int s2, .int s1, .ref 97] [] M (m_Mo_turn_252 s1 s2 M) := by
  unfold m_Mo_turn_252
  refine s_pick (lv1 := []) [] rfl ?_
  refine s_callI (av := [.ref 97, .int s1, .int s2]) (rest := []) B (lk_V B d_Mo_turn_252 (gl_Mo_165 _) rfl hv_Mo_keep (by decide) (by decide)) rfl (x_rcV B xc_Mo kd_97) (fun _ _ => rfl) rfl rfl (by simp [Value.category]) rfl (fun r1 e9 => ct_Mo_keep _ _ _ r1 e9) (fun r1 _ => ?_)
  exact s_iret B d_Mo_turn_255
set_option maxRecDepth 100000 in
set_option maxHeartbeats 4000000 in
theorem t_Mo_turn_227  (B : xB p R s m args meth c b_Mo_turn 9 R_Mo (Cond.code y_Mo_turn b_Mo_turn 9 (some .int) :: x_T) (some .int) 1 23 D x_cl (xty g) base)  (l1 : Int32) (l5 : Int32) (l6 : Int32) (l7 : Int32) (M : MS)  : Sn p l e R s m args below meth c 9 D x_cl base (xwd g) cM x_g0 az kz (xfc cM) (xZ below args s D x_cl (xty g) base (xwd g) cM x_g0 az kz ovI) 227 [] [(0, .ref 97), (1, .int l1), (5, .int l5), (6, .int l6), (7, .int l7)] M (m_Mo_turn_227 l1 l5 l6 l7 M) := by
  unfold m_Mo_turn_227
  refine s_aload_n B d_Mo_turn_227 rfl ?_
  refine s_iload_n B d_Mo_turn_228 rfl ?_
  refine s_iload B d_Mo_turn_229 rfl ?_
  refine s_if_eq B d_Mo_turn_231 rfl (fun _ => ?_) (fun _ => ?_)
  · refine s_iload B d_Mo_turn_238 rfl ?_
    refine s_if_eq B d_Mo_turn_240 rfl (fun _ => ?_) (fun _ => ?_)
    · refine s_iload B d_Mo_turn_248 rfl ?_
      refine s_iconst (v := (1:Int32)) B d_Mo_turn_250 (by decide) ?_
      refine s_iadd B d_Mo_turn_251 ?_
      refine s_pick (lv1 := []) [] rfl ?_
      exact t_Mo_turn_252 B l1 (l5 + (1:Int32)) M
    · refine s_iload B d_Mo_turn_243 rfl ?_
      refine s_goto B d_Mo_turn_245 rfl ?_
      refine s_pick (lv1 := []) [] rfl ?_
      exact t_Mo_turn_252 B l1 l5 M
  · refine s_iconst (v := (1:Int32)) B d_Mo_turn_234 (by decide) ?_
    refine s_goto B d_Mo_turn_235 rfl ?_
    refine s_pick (lv1 := []) [] rfl ?_
    exact t_Mo_turn_252 B l1 (1:Int32) M
set_option maxRecDepth 100000 in
set_option maxHeartbeats 4000000 in
theorem t_Mo_turn_213 {k183 : Int32 × Int32 × Int32 × Int32 × Int32 × MS → Option (MS × Int32)} (B : xB p R s m args meth c b_Mo_turn 9 R_Mo (Cond.code y_Mo_turn b_Mo_turn 9 (some .int) :: x_T) (some .int) 1 23 D x_cl (xty g) base) (hk183 : ∀ (l1 : Int32) (l5 : Int32) (l6 : Int32) (l7 : Int32) (l8 : Int32) (M : MS) , Sn p l e R s m args below meth c 9 D x_cl base (xwd g) cM x_g0 az kz (xfc cM) (xZ below args s D x_cl (xty g) base (xwd g) cM x_g0 az kz ovI) 183 [] [(0, .ref 97), (1, .int l1), (5, .int l5), (6, .int l6), (7, .int l7), (8, .int l8)] M (k183 (l1, l5, l6, l7, l8, M))) (l1 : Int32) (l5 : Int32) (l6 : Int32) (l7 : Int32) (l8 : Int32) (s1 : Int32) (M : MS)  : Sn p l e R s m args below meth c 9 D x_cl base (xwd g) cM x_g0 az kz (xfc cM) (xZ below args s D x_cl (xty g) base (xwd g) cM x_g0 az kz ovI) 213 [.int s1, .ref 101] [(0, .ref 97), (1, .int l1), (5, .int l5), (6, .int l6), (7, .int l7), (8, .int l8)] M (m_Mo_turn_213 k183 l1 l5 l6 l7 l8 s1 M) := by
  unfold m_Mo_turn_213
  refine s_aload_n B d_Mo_turn_213 rfl ?_
  refine s_getS (k := 3) (n := 100) B xc_Mo kd_97 (by decide) rfl rfl fl_Mo_17 sr_97_3 d_Mo_turn_214 ?_
  refine s_iload B d_Mo_turn_217 rfl ?_
  refine s_iald B (Or.inl kd_100) d_Mo_turn_219 (fun v1 _ => ?_)
  refine s_iast B (Or.inl kd_101) d_Mo_turn_220 (fun M2 _ => ?_)
  refine s_iinc (w := (1:Int32)) B d_Mo_turn_221 rfl (by decide) (by decide) ?_
  refine s_goto B d_Mo_turn_224 rfl ?_
  refine s_pick (lv1 := [(0, .ref 97), (1, .int l1), (5, .int l5), (6, .int l6), (7, .int l7), (8, .int (l8 + (1:Int32)))]) [0, 1, 5, 6, 7, 8] rfl ?_
  exact hk183 l1 l5 l6 l7 (l8 + (1:Int32)) M2
set_option maxRecDepth 100000 in
set_option maxHeartbeats 4000000 in
theorem t_Mo_turn_183b {k183 : Int32 × Int32 × Int32 × Int32 × Int32 × MS → Option (MS × Int32)} (B : xB p R s m args meth c b_Mo_turn 9 R_Mo (Cond.code y_Mo_turn b_Mo_turn 9 (some .int) :: x_T) (some .int) 1 23 D x_cl (xty g) base) (hk183 : ∀ (l1 : Int32) (l5 : Int32) (l6 : Int32) (l7 : Int32) (l8 : Int32) (M : MS) , Sn p l e R s m args below meth c 9 D x_cl base (xwd g) cM x_g0 az kz (xfc cM) (xZ below args s D x_cl (xty g) base (xwd g) cM x_g0 az kz ovI) 183 [] [(0, .ref 97), (1, .int l1), (5, .int l5), (6, .int l6), (7, .int l7), (8, .int l8)] M (k183 (l1, l5, l6, l7, l8, M))) (l1 : Int32) (l5 : Int32) (l6 : Int32) (l7 : Int32) (l8 : Int32) (M : MS)  : Sn p l e R s m args below meth c 9 D x_cl base (xwd g) cM x_g0 az kz (xfc cM) (xZ below args s D x_cl (xty g) base (xwd g) cM x_g0 az kz ovI) 183 [] [(0, .ref 97), (1, .int l1), (5, .int l5), (6, .int l6), (7, .int l7), (8, .int l8)] M (m_Mo_turn_183b k183 l1 l5 l6 l7 l8 M) := by
  unfold m_Mo_turn_183b
  refine s_iload B d_Mo_turn_183 rfl ?_
  refine s_iload B d_Mo_turn_185 rfl ?_
  refine s_icmp_ge B d_Mo_turn_187 rfl (fun _ => ?_) (fun _ => ?_)
  · refine s_pick (lv1 := [(0, .ref 97), (1, .int l1), (5, .int l5), (6, .int l6), (7, .int l7)]) [0, 1, 5, 6, 7] rfl ?_
    exact t_Mo_turn_227 B l1 l5 l6 l7 M
  · refine s_iload B d_Mo_turn_190 rfl ?_
    refine s_if_ne B d_Mo_turn_192 rfl (fun _ => ?_) (fun _ => ?_)
    · refine s_pick (lv1 := [(0, .ref 97), (1, .int l1), (5, .int l5), (6, .int l6), (7, .int l7)]) [0, 1, 5, 6, 7] rfl ?_
      exact t_Mo_turn_227 B l1 l5 l6 l7 M
    · refine s_aload_n B d_Mo_turn_195 rfl ?_
      refine s_getS (k := 4) (n := 101) B xc_Mo kd_97 (by decide) rfl rfl fl_Mo_20 sr_97_4 d_Mo_turn_196 ?_
      refine s_iload B d_Mo_turn_199 rfl ?_
      refine s_if_eq B d_Mo_turn_201 rfl (fun _ => ?_) (fun _ => ?_)
      · refine s_iload B d_Mo_turn_209 rfl ?_
        refine s_iconst (v := (1:Int32)) B d_Mo_turn_211 (by decide) ?_
        refine s_iadd B d_Mo_turn_212 ?_
        refine s_pick (lv1 := [(0, .ref 97), (1, .int l1), (5, .int l5), (6, .int l6), (7, .int l7), (8, .int l8)]) [0, 1, 5, 6, 7, 8] rfl ?_
        exact t_Mo_turn_213 B hk183 l1 l5 l6 l7 l8 (l8 + (1:Int32)) M
      · refine s_iload B d_Mo_turn_204 rfl ?_
        refine s_goto B d_Mo_turn_206 rfl ?_
        refine s_pick (lv1 := [(0, .ref 97), (1, .int l1), (5, .int l5), (6, .int l6), (7, .int l7), (8, .int l8)]) [0, 1, 5, 6, 7, 8] rfl ?_
        exact t_Mo_turn_213 B hk183 l1 l5 l6 l7 l8 l8 M
set_option maxRecDepth 100000 in
set_option maxHeartbeats 4000000 in
theorem t_Mo_turn_183  (B : xB p R s m args meth c b_Mo_turn 9 R_Mo (Cond.code y_Mo_turn b_Mo_turn 9 (some .int) :: x_T) (some .int) 1 23 D x_cl (xty g) base)  (l1 : Int32) (l5 : Int32) (l6 : Int32) (l7 : Int32) (l8 : Int32) (M : MS)  : Sn p l e R s m args below meth c 9 D x_cl base (xwd g) cM x_g0 az kz (xfc cM) (xZ below args s D x_cl (xty g) base (xwd g) cM x_g0 az kz ovI) 183 [] [(0, .ref 97), (1, .int l1), (5, .int l5), (6, .int l6), (7, .int l7), (8, .int l8)] M (m_Mo_turn_183 (l1, l5, l6, l7, l8, M)) := by
  have q : ∀ (F : Nat) (i : Int32 × Int32 × Int32 × Int32 × Int32 × MS), Sn p l e R s m args below meth c 9 D x_cl base (xwd g) cM x_g0 az kz (xfc cM) (xZ below args s D x_cl (xty g) base (xwd g) cM x_g0 az kz ovI) 183 [] [(0, .ref 97), (1, .int i.1), (5, .int i.2.1), (6, .int i.2.2.1), (7, .int i.2.2.2.1), (8, .int i.2.2.2.2.1)] i.2.2.2.2.2 (fx (fun (k : Int32 × Int32 × Int32 × Int32 × Int32 × MS → Option (MS × Int32)) (i : Int32 × Int32 × Int32 × Int32 × Int32 × MS) => m_Mo_turn_183b k i.1 i.2.1 i.2.2.1 i.2.2.2.1 i.2.2.2.2.1 i.2.2.2.2.2) F i) := by
    intro F
    induction F with
    | zero => intro i ; exact s_none
    | succ F ih => intro i ; exact t_Mo_turn_183b B  (fun l1 l5 l6 l7 l8 M  => ih (l1, l5, l6, l7, l8, M) ) i.1 i.2.1 i.2.2.1 i.2.2.2.1 i.2.2.2.2.1 i.2.2.2.2.2 
  exact q FU (l1, l5, l6, l7, l8, M) 
set_option maxRecDepth 100000 in
set_option maxHeartbeats 4000000 in
theorem t_Mo_turn_179  (B : xB p R s m args meth c b_Mo_turn 9 R_Mo (Cond.code y_Mo_turn b_Mo_turn 9 (some .int) :: x_T) (some .int) 1 23 D x_cl (xty g) base)  (l1 : Int32) (l5 : Int32) (l6 : Int32) (l7 : Int32) (s1 : Int32) (s2 : Int32) (M : MS)  : Sn p l e R s m args below meth c 9 D x_cl base (xwd g) cM x_g0 az kz (xfc cM) (xZ below args s D x_cl (xty g) base (xwd g) cM x_g0 az kz ovI) 179 [.int s2, .int s1, .ref 101] [(0, .ref 97), (1, .int l1), (5, .int l5), (6, .int l6), (7, .int l7)] M (m_Mo_turn_179 l1 l5 l6 l7 s1 s2 M) := by
  unfold m_Mo_turn_179
  refine s_iast B (Or.inl kd_101) d_Mo_turn_179 (fun M1 _ => ?_)
  refine s_iconst (v := (0:Int32)) B d_Mo_turn_180 (by decide) ?_
  refine s_istore B d_Mo_turn_181 (by decide) ?_
  refine s_pick (lv1 := [(0, .ref 97), (1, .int l1), (5, .int l5), (6, .int l6), (7, .int l7), (8, .int (0:Int32))]) [0, 1, 5, 6, 7, 8] rfl ?_
  exact t_Mo_turn_183 B l1 l5 l6 l7 (0:Int32) M1
set_option maxRecDepth 100000 in
set_option maxHeartbeats 4000000 in
theorem t_Mo_turn_161  (B : xB p R s m args meth c b_Mo_turn 9 R_Mo (Cond.code y_Mo_turn b_Mo_turn 9 (some .int) :: x_T) (some .int) 1 23 D x_cl (xty g) base)  (l1 : Int32) (l5 : Int32) (l6 : Int32) (s0 : Int32) (M : MS)  : Sn p l e R s m args below meth c 9 D x_cl base (xwd g) cM x_g0 az kz (xfc cM) (xZ below args s D x_cl (xty g) base (xwd g) cM x_g0 az kz ovI) 161 [.int s0] [(0, .ref 97), (1, .int l1), (5, .int l5), (6, .int l6)] M (m_Mo_turn_161 l1 l5 l6 s0 M) := by
  unfold m_Mo_turn_161
  refine s_istore B d_Mo_turn_161 (by decide) ?_
  refine s_aload_n B d_Mo_turn_163 rfl ?_
  refine s_getS (k := 4) (n := 101) B xc_Mo kd_97 (by decide) rfl rfl fl_Mo_20 sr_97_4 d_Mo_turn_164 ?_
  refine s_iconst (v := (0:Int32)) B d_Mo_turn_167 (by decide) ?_
  refine s_iload B d_Mo_turn_168 rfl ?_
  refine s_if_eq B d_Mo_turn_170 rfl (fun _ => ?_) (fun _ => ?_)
  · refine s_bipush (v := (7:Int32)) B d_Mo_turn_177 (by decide) ?_
    refine s_pick (lv1 := [(0, .ref 97), (1, .int l1), (5, .int l5), (6, .int l6), (7, .int s0)]) [0, 1, 5, 6, 7] rfl ?_
    exact t_Mo_turn_179 B l1 l5 l6 s0 (0:Int32) (7:Int32) M
  · refine s_iconst (v := (1:Int32)) B d_Mo_turn_173 (by decide) ?_
    refine s_goto B d_Mo_turn_174 rfl ?_
    refine s_pick (lv1 := [(0, .ref 97), (1, .int l1), (5, .int l5), (6, .int l6), (7, .int s0)]) [0, 1, 5, 6, 7] rfl ?_
    exact t_Mo_turn_179 B l1 l5 l6 s0 (0:Int32) (1:Int32) M
set_option maxRecDepth 100000 in
set_option maxHeartbeats 4000000 in
theorem t_Mo_turn_143  (B : xB p R s m args meth c b_Mo_turn 9 R_Mo (Cond.code y_Mo_turn b_Mo_turn 9 (some .int) :: x_T) (some .int) 1 23 D x_cl (xty g) base)  (l1 : Int32) (l5 : Int32) (s0 : Int32) (M : MS)  : Sn p l e R s m args below meth c 9 D x_cl base (xwd g) cM x_g0 az kz (xfc cM) (xZ below args s D x_cl (xty g) base (xwd g) cM x_g0 az kz ovI) 143 [.int s0] [(0, .ref 97), (1, .int l1), (5, .int l5)] M (m_Mo_turn_143 l1 l5 s0 M) := by
  unfold m_Mo_turn_143
  refine s_istore B d_Mo_turn_143 (by decide) ?_
  refine s_aload_n B d_Mo_turn_145 rfl ?_
  refine s_getS (k := 3) (n := 100) B xc_Mo kd_97 (by decide) rfl rfl fl_Mo_17 sr_97_3 d_Mo_turn_146 ?_
  refine s_iconst (v := (0:Int32)) B d_Mo_turn_149 (by decide) ?_
  refine s_iald B (Or.inl kd_100) d_Mo_turn_150 (fun v1 _ => ?_)
  refine s_bipush (v := (7:Int32)) B d_Mo_turn_151 (by decide) ?_
  refine s_icmp_ne B d_Mo_turn_153 rfl (fun _ => ?_) (fun _ => ?_)
  · refine s_iconst (v := (0:Int32)) B d_Mo_turn_160 (by decide) ?_
    refine s_pick (lv1 := [(0, .ref 97), (1, .int l1), (5, .int l5), (6, .int s0)]) [0, 1, 5, 6] rfl ?_
    exact t_Mo_turn_161 B l1 l5 s0 (0:Int32) M
  · refine s_iconst (v := (1:Int32)) B d_Mo_turn_156 (by decide) ?_
    refine s_goto B d_Mo_turn_157 rfl ?_
    refine s_pick (lv1 := [(0, .ref 97), (1, .int l1), (5, .int l5), (6, .int s0)]) [0, 1, 5, 6] rfl ?_
    exact t_Mo_turn_161 B l1 l5 s0 (1:Int32) M
set_option maxRecDepth 100000 in
set_option maxHeartbeats 4000000 in
theorem t_Mo_turn_138  (B : xB p R s m args meth c b_Mo_turn 9 R_Mo (Cond.code y_Mo_turn b_Mo_turn 9 (some .int) :: x_T) (some .int) 1 23 D x_cl (xty g) base)  (l1 : Int32) (l5 : Int32) (M : MS)  : Sn p l e R s m args below meth c 9 D x_cl base (xwd g) cM x_g0 az kz (xfc cM) (xZ below args s D x_cl (xty g) base (xwd g) cM x_g0 az kz ovI) 138 [] [(0, .ref 97), (1, .int l1), (5, .int l5)] M (m_Mo_turn_138 l1 l5 M) := by
  unfold m_Mo_turn_138
  refine s_iconst (v := (1:Int32)) B d_Mo_turn_138 (by decide) ?_
  refine s_goto B d_Mo_turn_139 rfl ?_
  refine s_pick (lv1 := [(0, .ref 97), (1, .int l1), (5, .int l5)]) [0, 1, 5] rfl ?_
  exact t_Mo_turn_143 B l1 l5 (1:Int32) M
set_option maxRecDepth 100000 in
set_option maxHeartbeats 4000000 in
theorem t_Mo_turn_102  (B : xB p R s m args meth c b_Mo_turn 9 R_Mo (Cond.code y_Mo_turn b_Mo_turn 9 (some .int) :: x_T) (some .int) 1 23 D x_cl (xty g) base)  (l1 : Int32) (l3 : Int32) (l5 : Int32) (M : MS)  : Sn p l e R s m args below meth c 9 D x_cl base (xwd g) cM x_g0 az kz (xfc cM) (xZ below args s D x_cl (xty g) base (xwd g) cM x_g0 az kz ovI) 102 [] [(0, .ref 97), (1, .int l1), (3, .int l3), (5, .int l5)] M (m_Mo_turn_102 l1 l3 l5 M) := by
  unfold m_Mo_turn_102
  refine s_iload_n B d_Mo_turn_102 rfl ?_
  refine s_if_ne B d_Mo_turn_103 rfl (fun _ => ?_) (fun _ => ?_)
  · refine s_aload_n B d_Mo_turn_119 rfl ?_
    refine s_getS (k := 3) (n := 100) B xc_Mo kd_97 (by decide) rfl rfl fl_Mo_17 sr_97_3 d_Mo_turn_120 ?_
    refine s_iconst (v := (0:Int32)) B d_Mo_turn_123 (by decide) ?_
    refine s_iald B (Or.inl kd_100) d_Mo_turn_124 (fun v1 _ => ?_)
    refine s_if_eq B d_Mo_turn_125 rfl (fun _ => ?_) (fun _ => ?_)
    · refine s_pick (lv1 := [(0, .ref 97), (1, .int l1), (5, .int l5)]) [0, 1, 5] rfl ?_
      exact t_Mo_turn_138 B l1 l5 M
    · refine s_aload_n B d_Mo_turn_128 rfl ?_
      refine s_getS (k := 3) (n := 100) B xc_Mo kd_97 (by decide) rfl rfl fl_Mo_17 sr_97_3 d_Mo_turn_129 ?_
      refine s_iconst (v := (0:Int32)) B d_Mo_turn_132 (by decide) ?_
      refine s_iald B (Or.inl kd_100) d_Mo_turn_133 (fun v2 _ => ?_)
      refine s_iconst (v := (1:Int32)) B d_Mo_turn_134 (by decide) ?_
      refine s_icmp_ne B d_Mo_turn_135 rfl (fun _ => ?_) (fun _ => ?_)
      · refine s_iconst (v := (0:Int32)) B d_Mo_turn_142 (by decide) ?_
        refine s_pick (lv1 := [(0, .ref 97), (1, .int l1), (5, .int l5)]) [0, 1, 5] rfl ?_
        exact t_Mo_turn_143 B l1 l5 (0:Int32) M
      · refine s_pick (lv1 := [(0, .ref 97), (1, .int l1), (5, .int l5)]) [0, 1, 5] rfl ?_
        exact t_Mo_turn_138 B l1 l5 M
  · refine s_aload_n B d_Mo_turn_106 rfl ?_
    refine s_iload_n B d_Mo_turn_107 rfl ?_
    refine s_aload_n B d_Mo_turn_108 rfl ?_
    refine s_iconst (v := (0:Int32)) B d_Mo_turn_109 (by decide) ?_
    refine s_iload B d_Mo_turn_110 rfl ?_
    refine s_pick (lv1 := []) [] rfl ?_
    refine s_callI (av := [.ref 97, .int (0:Int32), .int l5]) (rest := [.int l1, .ref 97]) B (lk_V B d_Mo_turn_112 (gl_Mo_135 _) rfl hv_Mo_not (by decide) (by decide)) rfl (x_rcV B xc_Mo kd_97) (fun _ _ => rfl) rfl rfl (by simp [Value.category]) rfl (fun r3 e9 => ct_Mo_not _ _ _ r3 e9) (fun r3 _ => ?_)
    refine s_pick (lv1 := []) [] rfl ?_
    refine s_callI (av := [.ref 97, .int l1, .int r3.2]) (rest := []) B (lk_V B d_Mo_turn_115 (gl_Mo_165 _) rfl hv_Mo_keep (by decide) (by decide)) rfl (x_rcV B xc_Mo kd_97) (fun _ _ => rfl) rfl rfl (by simp [Value.category]) rfl (fun r4 e9 => ct_Mo_keep _ _ _ r4 e9) (fun r4 _ => ?_)
    exact s_iret B d_Mo_turn_118
set_option maxRecDepth 100000 in
set_option maxHeartbeats 4000000 in
theorem t_Mo_turn_70b {k70 : Int32 × Int32 × Int32 × Int32 × Int32 × MS → Option (MS × Int32)} (B : xB p R s m args meth c b_Mo_turn 9 R_Mo (Cond.code y_Mo_turn b_Mo_turn 9 (some .int) :: x_T) (some .int) 1 23 D x_cl (xty g) base) (hk70 : ∀ (l1 : Int32) (l2 : Int32) (l3 : Int32) (l5 : Int32) (l6 : Int32) (M : MS) , Sn p l e R s m args below meth c 9 D x_cl base (xwd g) cM x_g0 az kz (xfc cM) (xZ below args s D x_cl (xty g) base (xwd g) cM x_g0 az kz ovI) 70 [] [(0, .ref 97), (1, .int l1), (2, .int l2), (3, .int l3), (5, .int l5), (6, .int l6)] M (k70 (l1, l2, l3, l5, l6, M))) (l1 : Int32) (l2 : Int32) (l3 : Int32) (l5 : Int32) (l6 : Int32) (M : MS)  : Sn p l e R s m args below meth c 9 D x_cl base (xwd g) cM x_g0 az kz (xfc cM) (xZ below args s D x_cl (xty g) base (xwd g) cM x_g0 az kz ovI) 70 [] [(0, .ref 97), (1, .int l1), (2, .int l2), (3, .int l3), (5, .int l5), (6, .int l6)] M (m_Mo_turn_70b k70 l1 l2 l3 l5 l6 M) := by
  unfold m_Mo_turn_70b
  refine s_iload B d_Mo_turn_70 rfl ?_
  refine s_iload B d_Mo_turn_72 rfl ?_
  refine s_icmp_ge B d_Mo_turn_74 rfl (fun _ => ?_) (fun _ => ?_)
  · refine s_pick (lv1 := [(0, .ref 97), (1, .int l1), (3, .int l3), (5, .int l5)]) [0, 1, 3, 5] rfl ?_
    exact t_Mo_turn_102 B l1 l3 l5 M
  · refine s_aload_n B d_Mo_turn_77 rfl ?_
    refine s_getS (k := 3) (n := 100) B xc_Mo kd_97 (by decide) rfl rfl fl_Mo_17 sr_97_3 d_Mo_turn_78 ?_
    refine s_iload B d_Mo_turn_81 rfl ?_
    refine s_aload_n B d_Mo_turn_83 rfl ?_
    refine s_getS (k := 1) (n := 98) B xc_Mo kd_97 (by decide) rfl rfl fl_Mo_7 sr_97_1 d_Mo_turn_84 ?_
    refine s_bipush (v := (100:Int32)) B d_Mo_turn_87 (by decide) ?_
    refine s_iload_n B d_Mo_turn_89 rfl ?_
    refine s_imul B d_Mo_turn_90 ?_
    refine s_iload B d_Mo_turn_91 rfl ?_
    refine s_iadd B d_Mo_turn_93 ?_
    refine s_iald B (Or.inl kd_98) d_Mo_turn_94 (fun v1 _ => ?_)
    refine s_iast B (Or.inl kd_100) d_Mo_turn_95 (fun M2 _ => ?_)
    refine s_iinc (w := (1:Int32)) B d_Mo_turn_96 rfl (by decide) (by decide) ?_
    refine s_goto B d_Mo_turn_99 rfl ?_
    refine s_pick (lv1 := [(0, .ref 97), (1, .int l1), (2, .int l2), (3, .int l3), (5, .int l5), (6, .int (l6 + (1:Int32)))]) [0, 1, 2, 3, 5, 6] rfl ?_
    exact hk70 l1 l2 l3 l5 (l6 + (1:Int32)) M2
set_option maxRecDepth 100000 in
set_option maxHeartbeats 4000000 in
theorem t_Mo_turn_70  (B : xB p R s m args meth c b_Mo_turn 9 R_Mo (Cond.code y_Mo_turn b_Mo_turn 9 (some .int) :: x_T) (some .int) 1 23 D x_cl (xty g) base)  (l1 : Int32) (l2 : Int32) (l3 : Int32) (l5 : Int32) (l6 : Int32) (M : MS)  : Sn p l e R s m args below meth c 9 D x_cl base (xwd g) cM x_g0 az kz (xfc cM) (xZ below args s D x_cl (xty g) base (xwd g) cM x_g0 az kz ovI) 70 [] [(0, .ref 97), (1, .int l1), (2, .int l2), (3, .int l3), (5, .int l5), (6, .int l6)] M (m_Mo_turn_70 (l1, l2, l3, l5, l6, M)) := by
  have q : ∀ (F : Nat) (i : Int32 × Int32 × Int32 × Int32 × Int32 × MS), Sn p l e R s m args below meth c 9 D x_cl base (xwd g) cM x_g0 az kz (xfc cM) (xZ below args s D x_cl (xty g) base (xwd g) cM x_g0 az kz ovI) 70 [] [(0, .ref 97), (1, .int i.1), (2, .int i.2.1), (3, .int i.2.2.1), (5, .int i.2.2.2.1), (6, .int i.2.2.2.2.1)] i.2.2.2.2.2 (fx (fun (k : Int32 × Int32 × Int32 × Int32 × Int32 × MS → Option (MS × Int32)) (i : Int32 × Int32 × Int32 × Int32 × Int32 × MS) => m_Mo_turn_70b k i.1 i.2.1 i.2.2.1 i.2.2.2.1 i.2.2.2.2.1 i.2.2.2.2.2) F i) := by
    intro F
    induction F with
    | zero => intro i ; exact s_none
    | succ F ih => intro i ; exact t_Mo_turn_70b B  (fun l1 l2 l3 l5 l6 M  => ih (l1, l2, l3, l5, l6, M) ) i.1 i.2.1 i.2.2.1 i.2.2.2.1 i.2.2.2.2.1 i.2.2.2.2.2 
  exact q FU (l1, l2, l3, l5, l6, M) 
set_option maxRecDepth 100000 in
set_option maxHeartbeats 4000000 in
theorem t_Mo_turn_51  (B : xB p R s m args meth c b_Mo_turn 9 R_Mo (Cond.code y_Mo_turn b_Mo_turn 9 (some .int) :: x_T) (some .int) 1 23 D x_cl (xty g) base)  (l1 : Int32) (l2 : Int32) (l3 : Int32) (s1 : Int32) (s2 : Int32) (M : MS)  : Sn p l e R s m args below meth c 9 D x_cl base (xwd g) cM x_g0 az kz (xfc cM) (xZ below args s D x_cl (xty g) base (xwd g) cM x_g0 az kz ovI) 51 [.int s2, .int s1, .ref 97] [(0, .ref 97), (1, .int l1), (2, .int l2), (3, .int l3)] M (m_Mo_turn_51 l1 l2 l3 s1 s2 M) := by
  unfold m_Mo_turn_51
  refine s_pick (lv1 := [(0, .ref 97), (1, .int l1), (2, .int l2), (3, .int l3)]) [0, 1, 2, 3] rfl ?_
  refine s_callI (av := [.ref 97, .int s1, .int s2]) (rest := []) B (lk_V B d_Mo_turn_51 (gl_Mo_161 _) rfl hv_Mo_fails (by decide) (by decide)) rfl (x_rcV B xc_Mo kd_97) (fun _ _ => rfl) rfl rfl (by simp [Value.category]) rfl (fun r1 e9 => ct_Mo_fails _ _ _ r1 e9) (fun r1 _ => ?_)
  refine s_if_eq B d_Mo_turn_54 rfl (fun _ => ?_) (fun _ => ?_)
  · refine s_aload_n B d_Mo_turn_59 rfl ?_
    refine s_getS (k := 2) (n := 99) B xc_Mo kd_97 (by decide) rfl rfl fl_Mo_13 sr_97_2 d_Mo_turn_60 ?_
    refine s_iload_n B d_Mo_turn_63 rfl ?_
    refine s_iald B (Or.inl kd_99) d_Mo_turn_64 (fun v2 _ => ?_)
    refine s_istore B d_Mo_turn_65 (by decide) ?_
    refine s_iconst (v := (0:Int32)) B d_Mo_turn_67 (by decide) ?_
    refine s_istore B d_Mo_turn_68 (by decide) ?_
    refine s_pick (lv1 := [(0, .ref 97), (1, .int l1), (2, .int l2), (3, .int l3), (5, .int v2), (6, .int (0:Int32))]) [0, 1, 2, 3, 5, 6] rfl ?_
    exact t_Mo_turn_70 B l1 l2 l3 v2 (0:Int32) r1.1
  · refine s_iconst (v := (0:Int32)) B d_Mo_turn_57 (by decide) ?_
    exact s_iret B d_Mo_turn_58
set_option maxRecDepth 100000 in
set_option maxHeartbeats 4000000 in
theorem t_Mo_turn_50  (B : xB p R s m args meth c b_Mo_turn 9 R_Mo (Cond.code y_Mo_turn b_Mo_turn 9 (some .int) :: x_T) (some .int) 1 23 D x_cl (xty g) base)  (l1 : Int32) (l2 : Int32) (l3 : Int32) (s1 : Int32) (M : MS)  : Sn p l e R s m args below meth c 9 D x_cl base (xwd g) cM x_g0 az kz (xfc cM) (xZ below args s D x_cl (xty g) base (xwd g) cM x_g0 az kz ovI) 50 [.int s1, .ref 97] [(0, .ref 97), (1, .int l1), (2, .int l2), (3, .int l3)] M (m_Mo_turn_50 l1 l2 l3 s1 M) := by
  unfold m_Mo_turn_50
  refine s_iconst (v := (0:Int32)) B d_Mo_turn_50 (by decide) ?_
  refine s_pick (lv1 := [(0, .ref 97), (1, .int l1), (2, .int l2), (3, .int l3)]) [0, 1, 2, 3] rfl ?_
  exact t_Mo_turn_51 B l1 l2 l3 s1 (0:Int32) M
set_option maxRecDepth 100000 in
set_option maxHeartbeats 4000000 in
theorem t_Mo_turn_46  (B : xB p R s m args meth c b_Mo_turn 9 R_Mo (Cond.code y_Mo_turn b_Mo_turn 9 (some .int) :: x_T) (some .int) 1 23 D x_cl (xty g) base)  (l1 : Int32) (l2 : Int32) (l3 : Int32) (s1 : Int32) (M : MS)  : Sn p l e R s m args below meth c 9 D x_cl base (xwd g) cM x_g0 az kz (xfc cM) (xZ below args s D x_cl (xty g) base (xwd g) cM x_g0 az kz ovI) 46 [.int s1, .ref 97] [(0, .ref 97), (1, .int l1), (2, .int l2), (3, .int l3)] M (m_Mo_turn_46 l1 l2 l3 s1 M) := by
  unfold m_Mo_turn_46
  refine s_iconst (v := (1:Int32)) B d_Mo_turn_46 (by decide) ?_
  refine s_goto B d_Mo_turn_47 rfl ?_
  refine s_pick (lv1 := [(0, .ref 97), (1, .int l1), (2, .int l2), (3, .int l3)]) [0, 1, 2, 3] rfl ?_
  exact t_Mo_turn_51 B l1 l2 l3 s1 (1:Int32) M
set_option maxRecDepth 100000 in
set_option maxHeartbeats 4000000 in
theorem t_Mo_turn_32  (B : xB p R s m args meth c b_Mo_turn 9 R_Mo (Cond.code y_Mo_turn b_Mo_turn 9 (some .int) :: x_T) (some .int) 1 23 D x_cl (xty g) base)  (l1 : Int32) (l2 : Int32) (l3 : Int32) (l4 : Int32) (s1 : Int32) (M : MS)  : Sn p l e R s m args below meth c 9 D x_cl base (xwd g) cM x_g0 az kz (xfc cM) (xZ below args s D x_cl (xty g) base (xwd g) cM x_g0 az kz ovI) 32 [.int s1, .ref 97] [(0, .ref 97), (1, .int l1), (2, .int l2), (3, .int l3), (4, .int l4)] M (m_Mo_turn_32 l1 l2 l3 l4 s1 M) := by
  unfold m_Mo_turn_32
  refine s_iload B d_Mo_turn_32 rfl ?_
  refine s_if_eq B d_Mo_turn_34 rfl (fun _ => ?_) (fun _ => ?_)
  · refine s_pick (lv1 := [(0, .ref 97), (1, .int l1), (2, .int l2), (3, .int l3)]) [0, 1, 2, 3] rfl ?_
    exact t_Mo_turn_50 B l1 l2 l3 s1 M
  · refine s_iload_n B d_Mo_turn_37 rfl ?_
    refine s_if_lt B d_Mo_turn_38 rfl (fun _ => ?_) (fun _ => ?_)
    · refine s_pick (lv1 := [(0, .ref 97), (1, .int l1), (2, .int l2), (3, .int l3)]) [0, 1, 2, 3] rfl ?_
      exact t_Mo_turn_46 B l1 l2 l3 s1 M
    · refine s_iload_n B d_Mo_turn_41 rfl ?_
      refine s_iconst (v := (1:Int32)) B d_Mo_turn_42 (by decide) ?_
      refine s_icmp_le B d_Mo_turn_43 rfl (fun _ => ?_) (fun _ => ?_)
      · refine s_pick (lv1 := [(0, .ref 97), (1, .int l1), (2, .int l2), (3, .int l3)]) [0, 1, 2, 3] rfl ?_
        exact t_Mo_turn_50 B l1 l2 l3 s1 M
      · refine s_pick (lv1 := [(0, .ref 97), (1, .int l1), (2, .int l2), (3, .int l3)]) [0, 1, 2, 3] rfl ?_
        exact t_Mo_turn_46 B l1 l2 l3 s1 M
set_option maxRecDepth 100000 in
set_option maxHeartbeats 4000000 in
theorem t_Mo_turn_19  (B : xB p R s m args meth c b_Mo_turn 9 R_Mo (Cond.code y_Mo_turn b_Mo_turn 9 (some .int) :: x_T) (some .int) 1 23 D x_cl (xty g) base)  (l1 : Int32) (l2 : Int32) (l3 : Int32) (s0 : Int32) (M : MS)  : Sn p l e R s m args below meth c 9 D x_cl base (xwd g) cM x_g0 az kz (xfc cM) (xZ below args s D x_cl (xty g) base (xwd g) cM x_g0 az kz ovI) 19 [.int s0] [(0, .ref 97), (1, .int l1), (2, .int l2), (3, .int l3)] M (m_Mo_turn_19 l1 l2 l3 s0 M) := by
  unfold m_Mo_turn_19
  refine s_istore B d_Mo_turn_19 (by decide) ?_
  refine s_aload_n B d_Mo_turn_21 rfl ?_
  refine s_iload B d_Mo_turn_22 rfl ?_
  refine s_if_ne B d_Mo_turn_24 rfl (fun _ => ?_) (fun _ => ?_)
  · refine s_iconst (v := (0:Int32)) B d_Mo_turn_31 (by decide) ?_
    refine s_pick (lv1 := [(0, .ref 97), (1, .int l1), (2, .int l2), (3, .int l3), (4, .int s0)]) [0, 1, 2, 3, 4] rfl ?_
    exact t_Mo_turn_32 B l1 l2 l3 s0 (0:Int32) M
  · refine s_iconst (v := (1:Int32)) B d_Mo_turn_27 (by decide) ?_
    refine s_goto B d_Mo_turn_28 rfl ?_
    refine s_pick (lv1 := [(0, .ref 97), (1, .int l1), (2, .int l2), (3, .int l3), (4, .int s0)]) [0, 1, 2, 3, 4] rfl ?_
    exact t_Mo_turn_32 B l1 l2 l3 s0 (1:Int32) M
set_option maxRecDepth 100000 in
set_option maxHeartbeats 4000000 in
theorem t_Mo_turn_18  (B : xB p R s m args meth c b_Mo_turn 9 R_Mo (Cond.code y_Mo_turn b_Mo_turn 9 (some .int) :: x_T) (some .int) 1 23 D x_cl (xty g) base)  (l1 : Int32) (l2 : Int32) (l3 : Int32) (M : MS)  : Sn p l e R s m args below meth c 9 D x_cl base (xwd g) cM x_g0 az kz (xfc cM) (xZ below args s D x_cl (xty g) base (xwd g) cM x_g0 az kz ovI) 18 [] [(0, .ref 97), (1, .int l1), (2, .int l2), (3, .int l3)] M (m_Mo_turn_18 l1 l2 l3 M) := by
  unfold m_Mo_turn_18
  refine s_iconst (v := (0:Int32)) B d_Mo_turn_18 (by decide) ?_
  refine s_pick (lv1 := [(0, .ref 97), (1, .int l1), (2, .int l2), (3, .int l3)]) [0, 1, 2, 3] rfl ?_
  exact t_Mo_turn_19 B l1 l2 l3 (0:Int32) M
set_option maxRecDepth 100000 in
set_option maxHeartbeats 4000000 in
theorem t_Mo_turn (B : xB p R s m args meth c b_Mo_turn 9 R_Mo (Cond.code y_Mo_turn b_Mo_turn 9 (some .int) :: x_T) (some .int) 1 23 D x_cl (xty g) base) (a1 : Int32) (a2 : Int32) (a3 : Int32) (M : MS) : Sn p l e R s m args below meth c 9 D x_cl base (xwd g) cM x_g0 az kz (xfc cM) (xZ below args s D x_cl (xty g) base (xwd g) cM x_g0 az kz ovI) 0 [] [(0, .ref 97), (1, .int a1), (2, .int a2), (3, .int a3)] M (m_Mo_turn a1 a2 a3 M) := by
  unfold m_Mo_turn
  refine s_iload_n B d_Mo_turn_0 rfl ?_
  refine s_pick (lv1 := [(0, .ref 97), (1, .int a1), (2, .int a2), (3, .int a3)]) [0, 1, 2, 3] rfl ?_
  refine s_callI (av := [.int a1]) (rest := []) B (lk_S B d_Mo_turn_1 (gl_Mo_158 _) (List.mem_cons_of_mem _ st_Mo_isSlot) (List.mem_cons_of_mem _ in_Mo) (List.mem_cons_of_mem _ ml_Mo_158) rfl hs_Mo_isSlot (by decide) (by decide)) rfl x_rcS (fun _ _ => rfl) rfl rfl (by simp [Value.category]) rfl (fun r1 e9 => ct_Mo_isSlot _ _ r1 e9) (fun r1 _ => ?_)
  refine s_if_eq B d_Mo_turn_4 rfl (fun _ => ?_) (fun _ => ?_)
  · refine s_pick (lv1 := [(0, .ref 97), (1, .int a1), (2, .int a2), (3, .int a3)]) [0, 1, 2, 3] rfl ?_
    exact t_Mo_turn_18 B a1 a2 a3 r1.1
  · refine s_iload_n B d_Mo_turn_7 rfl ?_
    refine s_pick (lv1 := [(0, .ref 97), (1, .int a1), (2, .int a2), (3, .int a3)]) [0, 1, 2, 3] rfl ?_
    refine s_callI (av := [.int a2]) (rest := []) B (lk_S B d_Mo_turn_8 (gl_Mo_158 _) (List.mem_cons_of_mem _ st_Mo_isSlot) (List.mem_cons_of_mem _ in_Mo) (List.mem_cons_of_mem _ ml_Mo_158) rfl hs_Mo_isSlot (by decide) (by decide)) rfl x_rcS (fun _ _ => rfl) rfl rfl (by simp [Value.category]) rfl (fun r2 e9 => ct_Mo_isSlot _ _ r2 e9) (fun r2 _ => ?_)
    refine s_if_eq B d_Mo_turn_11 rfl (fun _ => ?_) (fun _ => ?_)
    · refine s_pick (lv1 := [(0, .ref 97), (1, .int a1), (2, .int a2), (3, .int a3)]) [0, 1, 2, 3] rfl ?_
      exact t_Mo_turn_18 B a1 a2 a3 r2.1
    · refine s_iconst (v := (1:Int32)) B d_Mo_turn_14 (by decide) ?_
      refine s_goto B d_Mo_turn_15 rfl ?_
      refine s_pick (lv1 := [(0, .ref 97), (1, .int a1), (2, .int a2), (3, .int a3)]) [0, 1, 2, 3] rfl ?_
      exact t_Mo_turn_19 B a1 a2 a3 (1:Int32) r2.1
set_option maxRecDepth 100000 in
set_option maxHeartbeats 4000000 in
theorem ct_Mo_turn {l : Launch} {D : va_G} {base : Nat} {g : Nat → ClassId} (a1 : Int32) (a2 : Int32) (a3 : Int32) (M : MS) (r : MS × Int32) (hr : m_Mo_turn a1 a2 a3 M = some r) : Ct l y_Mo_turn (Cond.code y_Mo_turn b_Mo_turn 9 (some .int) :: x_T) 1 23 D x_cl (xty g) base (xwd g) cM x_g0 [.ref 97, .int a1, .int a2, .int a3] M r.1 (ovI r.2) :=
  x_met (ov := ovI) (by decide) (Nat.le_of_ble_eq_true rfl) (fun p e R s m args below meth c az B => t_Mo_turn B a1 a2 a3 M) r hr
end
