theorem d_Mo_place_0 : decode b_Mo_place 0 = .ok (.iconst (0), 1) := by decide +kernel
theorem d_Mo_place_1 : decode b_Mo_place 1 = .ok (.istore 5, 2) := by decide +kernel
theorem d_Mo_place_3 : decode b_Mo_place 3 = .ok (.iload 5, 2) := by decide +kernel
theorem d_Mo_place_5 : decode b_Mo_place 5 = .ok (.iload_n 2, 1) := by decide +kernel
theorem d_Mo_place_6 : decode b_Mo_place 6 = .ok (.if_icmp .ge (25), 3) := by decide +kernel
theorem d_Mo_place_9 : decode b_Mo_place 9 = .ok (.aload_n 0, 1) := by decide +kernel
theorem d_Mo_place_10 : decode b_Mo_place 10 = .ok (.getfield 17, 3) := by decide +kernel
theorem d_Mo_place_13 : decode b_Mo_place 13 = .ok (.iload_n 1, 1) := by decide +kernel
theorem d_Mo_place_14 : decode b_Mo_place 14 = .ok (.iload 5, 2) := by decide +kernel
theorem d_Mo_place_16 : decode b_Mo_place 16 = .ok (.iadd, 1) := by decide +kernel
theorem d_Mo_place_17 : decode b_Mo_place 17 = .ok (.aload_n 0, 1) := by decide +kernel
theorem d_Mo_place_18 : decode b_Mo_place 18 = .ok (.getfield 20, 3) := by decide +kernel
theorem d_Mo_place_21 : decode b_Mo_place 21 = .ok (.iload 5, 2) := by decide +kernel
theorem d_Mo_place_23 : decode b_Mo_place 23 = .ok (.iaload, 1) := by decide +kernel
theorem d_Mo_place_24 : decode b_Mo_place 24 = .ok (.iastore, 1) := by decide +kernel
theorem d_Mo_place_25 : decode b_Mo_place 25 = .ok (.iinc 5 (1), 3) := by decide +kernel
theorem d_Mo_place_28 : decode b_Mo_place 28 = .ok (.goto (-25), 3) := by decide +kernel
theorem d_Mo_place_31 : decode b_Mo_place 31 = .ok (.aload_n 0, 1) := by decide +kernel
theorem d_Mo_place_32 : decode b_Mo_place 32 = .ok (.getfield 23, 3) := by decide +kernel
theorem d_Mo_place_35 : decode b_Mo_place 35 = .ok (.aload_n 0, 1) := by decide +kernel
theorem d_Mo_place_36 : decode b_Mo_place 36 = .ok (.getfield 128, 3) := by decide +kernel
theorem d_Mo_place_39 : decode b_Mo_place 39 = .ok (.iload_n 1, 1) := by decide +kernel
theorem d_Mo_place_40 : decode b_Mo_place 40 = .ok (.iastore, 1) := by decide +kernel
theorem d_Mo_place_41 : decode b_Mo_place 41 = .ok (.aload_n 0, 1) := by decide +kernel
theorem d_Mo_place_42 : decode b_Mo_place 42 = .ok (.getfield 26, 3) := by decide +kernel
theorem d_Mo_place_45 : decode b_Mo_place 45 = .ok (.aload_n 0, 1) := by decide +kernel
theorem d_Mo_place_46 : decode b_Mo_place 46 = .ok (.getfield 128, 3) := by decide +kernel
theorem d_Mo_place_49 : decode b_Mo_place 49 = .ok (.iload_n 2, 1) := by decide +kernel
theorem d_Mo_place_50 : decode b_Mo_place 50 = .ok (.iastore, 1) := by decide +kernel
theorem d_Mo_place_51 : decode b_Mo_place 51 = .ok (.aload_n 0, 1) := by decide +kernel
theorem d_Mo_place_52 : decode b_Mo_place 52 = .ok (.getfield 29, 3) := by decide +kernel
theorem d_Mo_place_55 : decode b_Mo_place 55 = .ok (.aload_n 0, 1) := by decide +kernel
theorem d_Mo_place_56 : decode b_Mo_place 56 = .ok (.getfield 128, 3) := by decide +kernel
theorem d_Mo_place_59 : decode b_Mo_place 59 = .ok (.iload_n 3, 1) := by decide +kernel
theorem d_Mo_place_60 : decode b_Mo_place 60 = .ok (.iastore, 1) := by decide +kernel
theorem d_Mo_place_61 : decode b_Mo_place 61 = .ok (.aload_n 0, 1) := by decide +kernel
theorem d_Mo_place_62 : decode b_Mo_place 62 = .ok (.getfield 32, 3) := by decide +kernel
theorem d_Mo_place_65 : decode b_Mo_place 65 = .ok (.aload_n 0, 1) := by decide +kernel
theorem d_Mo_place_66 : decode b_Mo_place 66 = .ok (.getfield 128, 3) := by decide +kernel
theorem d_Mo_place_69 : decode b_Mo_place 69 = .ok (.iload 4, 2) := by decide +kernel
theorem d_Mo_place_71 : decode b_Mo_place 71 = .ok (.bastore, 1) := by decide +kernel
theorem d_Mo_place_72 : decode b_Mo_place 72 = .ok (.aload_n 0, 1) := by decide +kernel
theorem d_Mo_place_73 : decode b_Mo_place 73 = .ok (.iload_n 1, 1) := by decide +kernel
theorem d_Mo_place_74 : decode b_Mo_place 74 = .ok (.iload_n 2, 1) := by decide +kernel
theorem d_Mo_place_75 : decode b_Mo_place 75 = .ok (.iadd, 1) := by decide +kernel
theorem d_Mo_place_76 : decode b_Mo_place 76 = .ok (.putfield 118, 3) := by decide +kernel
theorem d_Mo_place_79 : decode b_Mo_place 79 = .ok (.aload_n 0, 1) := by decide +kernel
theorem d_Mo_place_80 : decode b_Mo_place 80 = .ok (.dup, 1) := by decide +kernel
theorem d_Mo_place_81 : decode b_Mo_place 81 = .ok (.getfield 128, 3) := by decide +kernel
theorem d_Mo_place_84 : decode b_Mo_place 84 = .ok (.iconst (1), 1) := by decide +kernel
theorem d_Mo_place_85 : decode b_Mo_place 85 = .ok (.iadd, 1) := by decide +kernel
theorem d_Mo_place_86 : decode b_Mo_place 86 = .ok (.putfield 128, 3) := by decide +kernel
theorem d_Mo_place_89 : decode b_Mo_place 89 = .ok (.return_, 1) := by decide +kernel
section
variable {p : Program} {l : Launch} {e : Env} {R : Room} {s : State} {m : MethodId} {args : Array Value} {below : List Frame} {meth : Method} {c : Code} {D : va_G} {base : Nat} {g : Nat → ClassId} {az : Nat → Nat} {kz : Nat × Nat}
set_option maxRecDepth 100000 in
set_option maxHeartbeats 4000000 in
theorem t_Mo_place_31  (B : xB p R s m args meth c b_Mo_place 6 R_Mo (Cond.code y_Mo_place b_Mo_place 6 none :: x_T) none 0 0 D x_cl (xty g) base)  (l1 : Int32) (l2 : Int32) (l3 : Int32) (l4 : Int32) (M : MS)  : Sn p l e R s m args below meth c 6 D x_cl base (xwd g) cM x_g0 az kz (xfc cM) (xZ below args s D x_cl (xty g) base (xwd g) cM x_g0 az kz ovU) 31 [] [(0, .ref 97), (1, .int l1), (2, .int l2), (3, .int l3), (4, .int l4)] M (m_Mo_place_31 l1 l2 l3 l4 M) := by
  unfold m_Mo_place_31
  refine s_aload_n B d_Mo_place_31 rfl ?_
  refine s_getS (k := 5) (n := 102) B xc_Mo kd_97 (by decide) rfl rfl fl_Mo_23 sr_97_5 d_Mo_place_32 ?_
  refine s_aload_n B d_Mo_place_35 rfl ?_
  refine s_getI (k := 9) B xc_Mo kd_97 (by decide) rfl rfl fl_Mo_128 d_Mo_place_36 ?_
  refine s_iload_n B d_Mo_place_39 rfl ?_
  refine s_iast B (Or.inl kd_102) d_Mo_place_40 (fun M1 _ => ?_)
  refine s_aload_n B d_Mo_place_41 rfl ?_
  refine s_getS (k := 6) (n := 103) B xc_Mo kd_97 (by decide) rfl rfl fl_Mo_26 sr_97_6 d_Mo_place_42 ?_
  refine s_aload_n B d_Mo_place_45 rfl ?_
  refine s_getI (k := 9) B xc_Mo kd_97 (by decide) rfl rfl fl_Mo_128 d_Mo_place_46 ?_
  refine s_iload_n B d_Mo_place_49 rfl ?_
  refine s_iast B (Or.inl kd_103) d_Mo_place_50 (fun M2 _ => ?_)
  refine s_aload_n B d_Mo_place_51 rfl ?_
  refine s_getS (k := 7) (n := 104) B xc_Mo kd_97 (by decide) rfl rfl fl_Mo_29 sr_97_7 d_Mo_place_52 ?_
  refine s_aload_n B d_Mo_place_55 rfl ?_
  refine s_getI (k := 9) B xc_Mo kd_97 (by decide) rfl rfl fl_Mo_128 d_Mo_place_56 ?_
  refine s_iload_n B d_Mo_place_59 rfl ?_
  refine s_iast B (Or.inl kd_104) d_Mo_place_60 (fun M3 _ => ?_)
  refine s_aload_n B d_Mo_place_61 rfl ?_
  refine s_getS (k := 8) (n := 105) B xc_Mo kd_97 (by decide) rfl rfl fl_Mo_32 sr_97_8 d_Mo_place_62 ?_
  refine s_aload_n B d_Mo_place_65 rfl ?_
  refine s_getI (k := 9) B xc_Mo kd_97 (by decide) rfl rfl fl_Mo_128 d_Mo_place_66 ?_
  refine s_iload B d_Mo_place_69 rfl ?_
  refine s_zast B kd_105 d_Mo_place_71 (fun M4 _ => ?_)
  refine s_aload_n B d_Mo_place_72 rfl ?_
  refine s_iload_n B d_Mo_place_73 rfl ?_
  refine s_iload_n B d_Mo_place_74 rfl ?_
  refine s_iadd B d_Mo_place_75 ?_
  refine s_putI (k := 10) (ty := .int) B xc_Mo kd_97 (by decide) rfl rfl fl_Mo_118 rfl rfl rfl rfl d_Mo_place_76 (fun M5 _ => ?_)
  refine s_aload_n B d_Mo_place_79 rfl ?_
  refine s_dup B d_Mo_place_80 rfl ?_
  refine s_getI (k := 9) B xc_Mo kd_97 (by decide) rfl rfl fl_Mo_128 d_Mo_place_81 ?_
  refine s_iconst (v := (1:Int32)) B d_Mo_place_84 (by decide) ?_
  refine s_iadd B d_Mo_place_85 ?_
  refine s_putI (k := 9) (ty := .int) B xc_Mo kd_97 (by decide) rfl rfl fl_Mo_128 rfl rfl rfl rfl d_Mo_place_86 (fun M6 _ => ?_)
  exact s_vret B d_Mo_place_89
set_option maxRecDepth 100000 in
set_option maxHeartbeats 4000000 in
theorem t_Mo_place_3b {k3 : Int32 × Int32 × Int32 × Int32 × Int32 × MS → Option (MS × Unit)} (B : xB p R s m args meth c b_Mo_place 6 R_Mo (Cond.code y_Mo_place b_Mo_place 6 none :: x_T) none 0 0 D x_cl (xty g) base) (hk3 : ∀ (l1 : Int32) (l2 : Int32) (l3 : Int32) (l4 : Int32) (l5 : Int32) (M : MS) , Sn p l e R s m args below meth c 6 D x_cl base (xwd g) cM x_g0 az kz (xfc cM) (xZ below args s D x_cl (xty g) base (xwd g) cM x_g0 az kz ovU) 3 [] [(0, .ref 97), (1, .int l1), (2, .int l2), (3, .int l3), (4, .int l4), (5, .int l5)] M (k3 (l1, l2, l3, l4, l5, M))) (l1 : Int32) (l2 : Int32) (l3 : Int32) (l4 : Int32) (l5 : Int32) (M : MS)  : Sn p l e R s m args below meth c 6 D x_cl base (xwd g) cM x_g0 az kz (xfc cM) (xZ below args s D x_cl (xty g) base (xwd g) cM x_g0 az kz ovU) 3 [] [(0, .ref 97), (1, .int l1), (2, .int l2), (3, .int l3), (4, .int l4), (5, .int l5)] M (m_Mo_place_3b k3 l1 l2 l3 l4 l5 M) := by
  unfold m_Mo_place_3b
  refine s_iload B d_Mo_place_3 rfl ?_
  refine s_iload_n B d_Mo_place_5 rfl ?_
  refine s_icmp_ge B d_Mo_place_6 rfl (fun _ => ?_) (fun _ => ?_)
  · refine s_pick (lv1 := [(0, .ref 97), (1, .int l1), (2, .int l2), (3, .int l3), (4, .int l4)]) [0, 1, 2, 3, 4] rfl ?_
    exact t_Mo_place_31 B l1 l2 l3 l4 M
  · refine s_aload_n B d_Mo_place_9 rfl ?_
    refine s_getS (k := 3) (n := 100) B xc_Mo kd_97 (by decide) rfl rfl fl_Mo_17 sr_97_3 d_Mo_place_10 ?_
    refine s_iload_n B d_Mo_place_13 rfl ?_
    refine s_iload B d_Mo_place_14 rfl ?_
    refine s_iadd B d_Mo_place_16 ?_
    refine s_aload_n B d_Mo_place_17 rfl ?_
    refine s_getS (k := 4) (n := 101) B xc_Mo kd_97 (by decide) rfl rfl fl_Mo_20 sr_97_4 d_Mo_place_18 ?_
    refine s_iload B d_Mo_place_21 rfl ?_
    refine s_iald B (Or.inl kd_101) d_Mo_place_23 (fun v1 _ => ?_)
    refine s_iast B (Or.inl kd_100) d_Mo_place_24 (fun M2 _ => ?_)
    refine s_iinc (w := (1:Int32)) B d_Mo_place_25 rfl (by decide) (by decide) ?_
    refine s_goto B d_Mo_place_28 rfl ?_
    refine s_pick (lv1 := [(0, .ref 97), (1, .int l1), (2, .int l2), (3, .int l3), (4, .int l4), (5, .int (l5 + (1:Int32)))]) [0, 1, 2, 3, 4, 5] rfl ?_
    exact hk3 l1 l2 l3 l4 (l5 + (1:Int32)) M2
set_option maxRecDepth 100000 in
set_option maxHeartbeats 4000000 in
theorem t_Mo_place_3  (B : xB p R s m args meth c b_Mo_place 6 R_Mo (Cond.code y_Mo_place b_Mo_place 6 none :: x_T) none 0 0 D x_cl (xty g) base)  (l1 : Int32) (l2 : Int32) (l3 : Int32) (l4 : Int32) (l5 : Int32) (M : MS)  : Sn p l e R s m args below meth c 6 D x_cl base (xwd g) cM x_g0 az kz (xfc cM) (xZ below args s D x_cl (xty g) base (xwd g) cM x_g0 az kz ovU) 3 [] [(0, .ref 97), (1, .int l1), (2, .int l2), (3, .int l3), (4, .int l4), (5, .int l5)] M (m_Mo_place_3 (l1, l2, l3, l4, l5, M)) := by
  have q : ∀ (F : Nat) (i : Int32 × Int32 × Int32 × Int32 × Int32 × MS), Sn p l e R s m args below meth c 6 D x_cl base (xwd g) cM x_g0 az kz (xfc cM) (xZ below args s D x_cl (xty g) base (xwd g) cM x_g0 az kz ovU) 3 [] [(0, .ref 97), (1, .int i.1), (2, .int i.2.1), (3, .int i.2.2.1), (4, .int i.2.2.2.1), (5, .int i.2.2.2.2.1)] i.2.2.2.2.2 (fx (fun (k : Int32 × Int32 × Int32 × Int32 × Int32 × MS → Option (MS × Unit)) (i : Int32 × Int32 × Int32 × Int32 × Int32 × MS) => m_Mo_place_3b k i.1 i.2.1 i.2.2.1 i.2.2.2.1 i.2.2.2.2.1 i.2.2.2.2.2) F i) := by
    intro F
    induction F with
    | zero => intro i ; exact s_none
    | succ F ih => intro i ; exact t_Mo_place_3b B  (fun l1 l2 l3 l4 l5 M  => ih (l1, l2, l3, l4, l5, M) ) i.1 i.2.1 i.2.2.1 i.2.2.2.1 i.2.2.2.2.1 i.2.2.2.2.2 
  exact q FU (l1, l2, l3, l4, l5, M) 
set_option maxRecDepth 100000 in
set_option maxHeartbeats 4000000 in
theorem t_Mo_place (B : xB p R s m args meth c b_Mo_place 6 R_Mo (Cond.code y_Mo_place b_Mo_place 6 none :: x_T) none 0 0 D x_cl (xty g) base) (a1 : Int32) (a2 : Int32) (a3 : Int32) (a4 : Int32) (M : MS) : Sn p l e R s m args below meth c 6 D x_cl base (xwd g) cM x_g0 az kz (xfc cM) (xZ below args s D x_cl (xty g) base (xwd g) cM x_g0 az kz ovU) 0 [] [(0, .ref 97), (1, .int a1), (2, .int a2), (3, .int a3), (4, .int a4)] M (m_Mo_place a1 a2 a3 a4 M) := by
  unfold m_Mo_place
  refine s_iconst (v := (0:Int32)) B d_Mo_place_0 (by decide) ?_
  refine s_istore B d_Mo_place_1 (by decide) ?_
  refine s_pick (lv1 := [(0, .ref 97), (1, .int a1), (2, .int a2), (3, .int a3), (4, .int a4), (5, .int (0:Int32))]) [0, 1, 2, 3, 4, 5] rfl ?_
  exact t_Mo_place_3 B a1 a2 a3 a4 (0:Int32) M
set_option maxRecDepth 100000 in
set_option maxHeartbeats 4000000 in
theorem ct_Mo_place {l : Launch} {D : va_G} {base : Nat} {g : Nat → ClassId} (a1 : Int32) (a2 : Int32) (a3 : Int32) (a4 : Int32) (M : MS) (r : MS × Unit) (hr : m_Mo_place a1 a2 a3 a4 M = some r) : Ct l y_Mo_place (Cond.code y_Mo_place b_Mo_place 6 none :: x_T) 0 0 D x_cl (xty g) base (xwd g) cM x_g0 [.ref 97, .int a1, .int a2, .int a3, .int a4] M r.1 (ovU r.2) :=
  x_met (ov := ovU) (by decide) (Nat.le_of_ble_eq_true rfl) (fun p e R s m args below meth c az B => t_Mo_place B a1 a2 a3 a4 M) r hr
end
theorem d_Mo_both_0 : decode b_Mo_both 0 = .ok (.aload_n 0, 1) := by decide +kernel
theorem d_Mo_both_1 : decode b_Mo_both 1 = .ok (.getfield 128, 3) := by decide +kernel
theorem d_Mo_both_4 : decode b_Mo_both 4 = .ok (.iconst (1), 1) := by decide +kernel
theorem d_Mo_both_5 : decode b_Mo_both 5 = .ok (.isub, 1) := by decide +kernel
theorem d_Mo_both_6 : decode b_Mo_both 6 = .ok (.istore_n 2, 1) := by decide +kernel
theorem d_Mo_both_7 : decode b_Mo_both 7 = .ok (.aload_n 0, 1) := by decide +kernel
theorem d_Mo_both_8 : decode b_Mo_both 8 = .ok (.getfield 128, 3) := by decide +kernel
theorem d_Mo_both_11 : decode b_Mo_both 11 = .ok (.iconst (2), 1) := by decide +kernel
theorem d_Mo_both_12 : decode b_Mo_both 12 = .ok (.isub, 1) := by decide +kernel
theorem d_Mo_both_13 : decode b_Mo_both 13 = .ok (.istore_n 3, 1) := by decide +kernel
theorem d_Mo_both_14 : decode b_Mo_both 14 = .ok (.aload_n 0, 1) := by decide +kernel
theorem d_Mo_both_15 : decode b_Mo_both 15 = .ok (.aload_n 0, 1) := by decide +kernel
theorem d_Mo_both_16 : decode b_Mo_both 16 = .ok (.getfield 17, 3) := by decide +kernel
theorem d_Mo_both_19 : decode b_Mo_both 19 = .ok (.aload_n 0, 1) := by decide +kernel
theorem d_Mo_both_20 : decode b_Mo_both 20 = .ok (.getfield 23, 3) := by decide +kernel
theorem d_Mo_both_23 : decode b_Mo_both 23 = .ok (.iload_n 2, 1) := by decide +kernel
theorem d_Mo_both_24 : decode b_Mo_both 24 = .ok (.iaload, 1) := by decide +kernel
theorem d_Mo_both_25 : decode b_Mo_both 25 = .ok (.aload_n 0, 1) := by decide +kernel
theorem d_Mo_both_26 : decode b_Mo_both 26 = .ok (.getfield 26, 3) := by decide +kernel
theorem d_Mo_both_29 : decode b_Mo_both 29 = .ok (.iload_n 2, 1) := by decide +kernel
theorem d_Mo_both_30 : decode b_Mo_both 30 = .ok (.iaload, 1) := by decide +kernel
theorem d_Mo_both_31 : decode b_Mo_both 31 = .ok (.aload_n 1, 1) := by decide +kernel
theorem d_Mo_both_32 : decode b_Mo_both 32 = .ok (.aload_n 0, 1) := by decide +kernel
theorem d_Mo_both_33 : decode b_Mo_both 33 = .ok (.getfield 29, 3) := by decide +kernel
theorem d_Mo_both_36 : decode b_Mo_both 36 = .ok (.iload_n 2, 1) := by decide +kernel
theorem d_Mo_both_37 : decode b_Mo_both 37 = .ok (.iaload, 1) := by decide +kernel
theorem d_Mo_both_38 : decode b_Mo_both 38 = .ok (.aload_n 0, 1) := by decide +kernel
theorem d_Mo_both_39 : decode b_Mo_both 39 = .ok (.getfield 29, 3) := by decide +kernel
theorem d_Mo_both_42 : decode b_Mo_both 42 = .ok (.iload_n 3, 1) := by decide +kernel
theorem d_Mo_both_43 : decode b_Mo_both 43 = .ok (.iaload, 1) := by decide +kernel
theorem d_Mo_both_44 : decode b_Mo_both 44 = .ok (.aload_n 0, 1) := by decide +kernel
theorem d_Mo_both_45 : decode b_Mo_both 45 = .ok (.getfield 29, 3) := by decide +kernel
theorem d_Mo_both_48 : decode b_Mo_both 48 = .ok (.iload_n 2, 1) := by decide +kernel
theorem d_Mo_both_49 : decode b_Mo_both 49 = .ok (.iaload, 1) := by decide +kernel
theorem d_Mo_both_50 : decode b_Mo_both 50 = .ok (.isub, 1) := by decide +kernel
theorem d_Mo_both_51 : decode b_Mo_both 51 = .ok (.invokevirtual 139, 3) := by decide +kernel
theorem d_Mo_both_54 : decode b_Mo_both 54 = .ok (.istore 4, 2) := by decide +kernel
theorem d_Mo_both_56 : decode b_Mo_both 56 = .ok (.aload_n 0, 1) := by decide +kernel
theorem d_Mo_both_57 : decode b_Mo_both 57 = .ok (.getfield 32, 3) := by decide +kernel
theorem d_Mo_both_60 : decode b_Mo_both 60 = .ok (.iload_n 2, 1) := by decide +kernel
theorem d_Mo_both_61 : decode b_Mo_both 61 = .ok (.baload, 1) := by decide +kernel
theorem d_Mo_both_62 : decode b_Mo_both 62 = .ok (.ifCond .eq (91), 3) := by decide +kernel
theorem d_Mo_both_65 : decode b_Mo_both 65 = .ok (.aload_n 0, 1) := by decide +kernel
theorem d_Mo_both_66 : decode b_Mo_both 66 = .ok (.getfield 118, 3) := by decide +kernel
theorem d_Mo_both_69 : decode b_Mo_both 69 = .ok (.istore 5, 2) := by decide +kernel
theorem d_Mo_both_71 : decode b_Mo_both 71 = .ok (.iconst (0), 1) := by decide +kernel
theorem d_Mo_both_72 : decode b_Mo_both 72 = .ok (.istore 6, 2) := by decide +kernel
theorem d_Mo_both_74 : decode b_Mo_both 74 = .ok (.iload 6, 2) := by decide +kernel
theorem d_Mo_both_76 : decode b_Mo_both 76 = .ok (.iload 4, 2) := by decide +kernel
theorem d_Mo_both_78 : decode b_Mo_both 78 = .ok (.if_icmp .ge (26), 3) := by decide +kernel
theorem d_Mo_both_81 : decode b_Mo_both 81 = .ok (.aload_n 0, 1) := by decide +kernel
theorem d_Mo_both_82 : decode b_Mo_both 82 = .ok (.getfield 17, 3) := by decide +kernel
theorem d_Mo_both_85 : decode b_Mo_both 85 = .ok (.iload 5, 2) := by decide +kernel
theorem d_Mo_both_87 : decode b_Mo_both 87 = .ok (.iload 6, 2) := by decide +kernel
theorem d_Mo_both_89 : decode b_Mo_both 89 = .ok (.iadd, 1) := by decide +kernel
theorem d_Mo_both_90 : decode b_Mo_both 90 = .ok (.aload_n 0, 1) := by decide +kernel
theorem d_Mo_both_91 : decode b_Mo_both 91 = .ok (.getfield 20, 3) := by decide +kernel
theorem d_Mo_both_94 : decode b_Mo_both 94 = .ok (.iload 6, 2) := by decide +kernel
theorem d_Mo_both_96 : decode b_Mo_both 96 = .ok (.iaload, 1) := by decide +kernel
theorem d_Mo_both_97 : decode b_Mo_both 97 = .ok (.iastore, 1) := by decide +kernel
theorem d_Mo_both_98 : decode b_Mo_both 98 = .ok (.iinc 6 (1), 3) := by decide +kernel
theorem d_Mo_both_101 : decode b_Mo_both 101 = .ok (.goto (-27), 3) := by decide +kernel
theorem d_Mo_both_104 : decode b_Mo_both 104 = .ok (.aload_n 0, 1) := by decide +kernel
theorem d_Mo_both_105 : decode b_Mo_both 105 = .ok (.dup, 1) := by decide +kernel
theorem d_Mo_both_106 : decode b_Mo_both 106 = .ok (.getfield 118, 3) := by decide +kernel
theorem d_Mo_both_109 : decode b_Mo_both 109 = .ok (.iload 4, 2) := by decide +kernel
theorem d_Mo_both_111 : decode b_Mo_both 111 = .ok (.iadd, 1) := by decide +kernel
theorem d_Mo_both_112 : decode b_Mo_both 112 = .ok (.putfield 118, 3) := by decide +kernel
theorem d_Mo_both_115 : decode b_Mo_both 115 = .ok (.aload_n 0, 1) := by decide +kernel
theorem d_Mo_both_116 : decode b_Mo_both 116 = .ok (.iconst (0), 1) := by decide +kernel
theorem d_Mo_both_117 : decode b_Mo_both 117 = .ok (.putfield 107, 3) := by decide +kernel
theorem d_Mo_both_120 : decode b_Mo_both 120 = .ok (.aload_n 0, 1) := by decide +kernel
theorem d_Mo_both_121 : decode b_Mo_both 121 = .ok (.iload 5, 2) := by decide +kernel
theorem d_Mo_both_123 : decode b_Mo_both 123 = .ok (.iload 4, 2) := by decide +kernel
theorem d_Mo_both_125 : decode b_Mo_both 125 = .ok (.iconst (4), 1) := by decide +kernel
theorem d_Mo_both_126 : decode b_Mo_both 126 = .ok (.invokevirtual 151, 3) := by decide +kernel
theorem d_Mo_both_129 : decode b_Mo_both 129 = .ok (.aload_n 0, 1) := by decide +kernel
theorem d_Mo_both_130 : decode b_Mo_both 130 = .ok (.aload_n 0, 1) := by decide +kernel
theorem d_Mo_both_131 : decode b_Mo_both 131 = .ok (.getfield 23, 3) := by decide +kernel
theorem d_Mo_both_134 : decode b_Mo_both 134 = .ok (.iload_n 3, 1) := by decide +kernel
theorem d_Mo_both_135 : decode b_Mo_both 135 = .ok (.iaload, 1) := by decide +kernel
theorem d_Mo_both_136 : decode b_Mo_both 136 = .ok (.aload_n 0, 1) := by decide +kernel
theorem d_Mo_both_137 : decode b_Mo_both 137 = .ok (.getfield 26, 3) := by decide +kernel
theorem d_Mo_both_140 : decode b_Mo_both 140 = .ok (.iload_n 3, 1) := by decide +kernel
theorem d_Mo_both_141 : decode b_Mo_both 141 = .ok (.iaload, 1) := by decide +kernel
theorem d_Mo_both_142 : decode b_Mo_both 142 = .ok (.iconst (4), 1) := by decide +kernel
theorem d_Mo_both_143 : decode b_Mo_both 143 = .ok (.invokevirtual 151, 3) := by decide +kernel
theorem d_Mo_both_146 : decode b_Mo_both 146 = .ok (.aload_n 0, 1) := by decide +kernel
theorem d_Mo_both_147 : decode b_Mo_both 147 = .ok (.iconst (4), 1) := by decide +kernel
theorem d_Mo_both_148 : decode b_Mo_both 148 = .ok (.invokevirtual 155, 3) := by decide +kernel
theorem d_Mo_both_151 : decode b_Mo_both 151 = .ok (.istore 4, 2) := by decide +kernel
theorem d_Mo_both_153 : decode b_Mo_both 153 = .ok (.aload_n 0, 1) := by decide +kernel
theorem d_Mo_both_154 : decode b_Mo_both 154 = .ok (.iload_n 3, 1) := by decide +kernel
theorem d_Mo_both_155 : decode b_Mo_both 155 = .ok (.putfield 128, 3) := by decide +kernel
theorem d_Mo_both_158 : decode b_Mo_both 158 = .ok (.aload_n 0, 1) := by decide +kernel
theorem d_Mo_both_159 : decode b_Mo_both 159 = .ok (.aload_n 0, 1) := by decide +kernel
theorem d_Mo_both_160 : decode b_Mo_both 160 = .ok (.getfield 23, 3) := by decide +kernel
theorem d_Mo_both_163 : decode b_Mo_both 163 = .ok (.iload_n 3, 1) := by decide +kernel
theorem d_Mo_both_164 : decode b_Mo_both 164 = .ok (.iaload, 1) := by decide +kernel
theorem d_Mo_both_165 : decode b_Mo_both 165 = .ok (.iload 4, 2) := by decide +kernel
theorem d_Mo_both_167 : decode b_Mo_both 167 = .ok (.aload_n 0, 1) := by decide +kernel
theorem d_Mo_both_168 : decode b_Mo_both 168 = .ok (.getfield 29, 3) := by decide +kernel
theorem d_Mo_both_171 : decode b_Mo_both 171 = .ok (.iload_n 3, 1) := by decide +kernel
theorem d_Mo_both_172 : decode b_Mo_both 172 = .ok (.iaload, 1) := by decide +kernel
theorem d_Mo_both_173 : decode b_Mo_both 173 = .ok (.aload_n 0, 1) := by decide +kernel
theorem d_Mo_both_174 : decode b_Mo_both 174 = .ok (.getfield 32, 3) := by decide +kernel
theorem d_Mo_both_177 : decode b_Mo_both 177 = .ok (.iload_n 2, 1) := by decide +kernel
theorem d_Mo_both_178 : decode b_Mo_both 178 = .ok (.baload, 1) := by decide +kernel
theorem d_Mo_both_179 : decode b_Mo_both 179 = .ok (.ifCond .eq (16), 3) := by decide +kernel
theorem d_Mo_both_182 : decode b_Mo_both 182 = .ok (.aload_n 0, 1) := by decide +kernel
theorem d_Mo_both_183 : decode b_Mo_both 183 = .ok (.getfield 32, 3) := by decide +kernel
theorem d_Mo_both_186 : decode b_Mo_both 186 = .ok (.iload_n 3, 1) := by decide +kernel
theorem d_Mo_both_187 : decode b_Mo_both 187 = .ok (.baload, 1) := by decide +kernel
theorem d_Mo_both_188 : decode b_Mo_both 188 = .ok (.ifCond .eq (7), 3) := by decide +kernel
theorem d_Mo_both_191 : decode b_Mo_both 191 = .ok (.iconst (1), 1) := by decide +kernel
theorem d_Mo_both_192 : decode b_Mo_both 192 = .ok (.goto (4), 3) := by decide +kernel
theorem d_Mo_both_195 : decode b_Mo_both 195 = .ok (.iconst (0), 1) := by decide +kernel
theorem d_Mo_both_196 : decode b_Mo_both 196 = .ok (.invokevirtual 131, 3) := by decide +kernel
theorem d_Mo_both_199 : decode b_Mo_both 199 = .ok (.return_, 1) := by decide +kernel
section
variable {p : Program} {l : Launch} {e : Env} {R : Room} {s : State} {m : MethodId} {args : Array Value} {below : List Frame} {meth : Method} {c : Code} {D : va_G} {base : Nat} {g : Nat → ClassId} {az : Nat → Nat} {kz : Nat × Nat}
set_option maxRecDepth 100000 in
set_option maxHeartbeats 4000000 in
theorem t_Mo_both_196  (B : xB p R s m args meth c b_Mo_both 7 R_Mo (Cond.code y_Mo_both b_Mo_both 7 none :: x_T) none 4 95 D x_cl (xty g) base)  (s1 : Int32) (s2 : Int32) (s3 : Int32) (s4 : Int32) (M : MS)  : Sn p l e R s m args below meth c 7 D x_cl base (xwd g) cM x_g0 az kz (xfc cM) (xZ below args s D x_cl (xty g) base (xwd g) cM x_g0 az kz ovU) 196 [.int s4, .int s3, .int s2, .int s1, .ref 97] [] M (m_Mo_both_196 s1 s2 s3 s4 M) := by
  unfold m_Mo_both_196
  refine s_pick (lv1 := []) [] rfl ?_
  refine s_callU (av := [.ref 97, .int s1, .int s2, .int s3, .int s4]) (rest := []) B (lk_V B d_Mo_both_196 (gl_Mo_131 _) rfl hv_Mo_place (by decide) (by decide)) rfl (x_rcV B xc_Mo kd_97) (fun _ _ => rfl) rfl rfl (by simp [Value.category]) rfl (fun r1 e9 => ct_Mo_place _ _ _ _ _ r1 e9) (fun r1 _ => ?_)
  exact s_vret B d_Mo_both_199
set_option maxRecDepth 100000 in
set_option maxHeartbeats 4000000 in
theorem t_Mo_both_195  (B : xB p R s m args meth c b_Mo_both 7 R_Mo (Cond.code y_Mo_both b_Mo_both 7 none :: x_T) none 4 95 D x_cl (xty g) base)  (s1 : Int32) (s2 : Int32) (s3 : Int32) (M : MS)  : Sn p l e R s m args below meth c 7 D x_cl base (xwd g) cM x_g0 az kz (xfc cM) (xZ below args s D x_cl (xty g) base (xwd g) cM x_g0 az kz ovU) 195 [.int s3, .int s2, .int s1, .ref 97] [] M (m_Mo_both_195 s1 s2 s3 M) := by
  unfold m_Mo_both_195
  refine s_iconst (v := (0:Int32)) B d_Mo_both_195 (by decide) ?_
  refine s_pick (lv1 := []) [] rfl ?_
  exact t_Mo_both_196 B s1 s2 s3 (0:Int32) M
set_option maxRecDepth 100000 in
set_option maxHeartbeats 4000000 in
theorem t_Mo_both_153  (B : xB p R s m args meth c b_Mo_both 7 R_Mo (Cond.code y_Mo_both b_Mo_both 7 none :: x_T) none 4 95 D x_cl (xty g) base)  (l2 : Int32) (l3 : Int32) (l4 : Int32) (M : MS)  : Sn p l e R s m args below meth c 7 D x_cl base (xwd g) cM x_g0 az kz (xfc cM) (xZ below args s D x_cl (xty g) base (xwd g) cM x_g0 az kz ovU) 153 [] [(0, .ref 97), (2, .int l2), (3, .int l3), (4, .int l4)] M (m_Mo_both_153 l2 l3 l4 M) := by
  unfold m_Mo_both_153
  refine s_aload_n B d_Mo_both_153 rfl ?_
  refine s_iload_n B d_Mo_both_154 rfl ?_
  refine s_putI (k := 9) (ty := .int) B xc_Mo kd_97 (by decide) rfl rfl fl_Mo_128 rfl rfl rfl rfl d_Mo_both_155 (fun M1 _ => ?_)
  refine s_aload_n B d_Mo_both_158 rfl ?_
  refine s_aload_n B d_Mo_both_159 rfl ?_
  refine s_getS (k := 5) (n := 102) B xc_Mo kd_97 (by decide) rfl rfl fl_Mo_23 sr_97_5 d_Mo_both_160 ?_
  refine s_iload_n B d_Mo_both_163 rfl ?_
  refine s_iald B (Or.inl kd_102) d_Mo_both_164 (fun v2 _ => ?_)
  refine s_iload B d_Mo_both_165 rfl ?_
  refine s_aload_n B d_Mo_both_167 rfl ?_
  refine s_getS (k := 7) (n := 104) B xc_Mo kd_97 (by decide) rfl rfl fl_Mo_29 sr_97_7 d_Mo_both_168 ?_
  refine s_iload_n B d_Mo_both_171 rfl ?_
  refine s_iald B (Or.inl kd_104) d_Mo_both_172 (fun v3 _ => ?_)
  refine s_aload_n B d_Mo_both_173 rfl ?_
  refine s_getS (k := 8) (n := 105) B xc_Mo kd_97 (by decide) rfl rfl fl_Mo_32 sr_97_8 d_Mo_both_174 ?_
  refine s_iload_n B d_Mo_both_177 rfl ?_
  refine s_zald B kd_105 d_Mo_both_178 (fun v4 _ => ?_)
  refine s_if_eq B d_Mo_both_179 rfl (fun _ => ?_) (fun _ => ?_)
  · refine s_pick (lv1 := []) [] rfl ?_
    exact t_Mo_both_195 B v2 l4 v3 M1
  · refine s_aload_n B d_Mo_both_182 rfl ?_
    refine s_getS (k := 8) (n := 105) B xc_Mo kd_97 (by decide) rfl rfl fl_Mo_32 sr_97_8 d_Mo_both_183 ?_
    refine s_iload_n B d_Mo_both_186 rfl ?_
    refine s_zald B kd_105 d_Mo_both_187 (fun v5 _ => ?_)
    refine s_if_eq B d_Mo_both_188 rfl (fun _ => ?_) (fun _ => ?_)
    · refine s_pick (lv1 := []) [] rfl ?_
      exact t_Mo_both_195 B v2 l4 v3 M1
    · refine s_iconst (v := (1:Int32)) B d_Mo_both_191 (by decide) ?_
      refine s_goto B d_Mo_both_192 rfl ?_
      refine s_pick (lv1 := []) [] rfl ?_
      exact t_Mo_both_196 B v2 l4 v3 (1:Int32) M1
set_option maxRecDepth 100000 in
set_option maxHeartbeats 4000000 in
theorem t_Mo_both_104  (B : xB p R s m args meth c b_Mo_both 7 R_Mo (Cond.code y_Mo_both b_Mo_both 7 none :: x_T) none 4 95 D x_cl (xty g) base)  (l2 : Int32) (l3 : Int32) (l4 : Int32) (l5 : Int32) (M : MS)  : Sn p l e R s m args below meth c 7 D x_cl base (xwd g) cM x_g0 az kz (xfc cM) (xZ below args s D x_cl (xty g) base (xwd g) cM x_g0 az kz ovU) 104 [] [(0, .ref 97), (2, .int l2), (3, .int l3), (4, .int l4), (5, .int l5)] M (m_Mo_both_104 l2 l3 l4 l5 M) := by
  unfold m_Mo_both_104
  refine s_aload_n B d_Mo_both_104 rfl ?_
  refine s_dup B d_Mo_both_105 rfl ?_
  refine s_getI (k := 10) B xc_Mo kd_97 (by decide) rfl rfl fl_Mo_118 d_Mo_both_106 ?_
  refine s_iload B d_Mo_both_109 rfl ?_
  refine s_iadd B d_Mo_both_111 ?_
  refine s_putI (k := 10) (ty := .int) B xc_Mo kd_97 (by decide) rfl rfl fl_Mo_118 rfl rfl rfl rfl d_Mo_both_112 (fun M1 _ => ?_)
  refine s_aload_n B d_Mo_both_115 rfl ?_
  refine s_iconst (v := (0:Int32)) B d_Mo_both_116 (by decide) ?_
  refine s_putI (k := 13) (ty := .int) B xc_Mo kd_97 (by decide) rfl rfl fl_Mo_107 rfl rfl rfl rfl d_Mo_both_117 (fun M2 _ => ?_)
  refine s_aload_n B d_Mo_both_120 rfl ?_
  refine s_iload B d_Mo_both_121 rfl ?_
  refine s_iload B d_Mo_both_123 rfl ?_
  refine s_iconst (v := (4:Int32)) B d_Mo_both_125 (by decide) ?_
  refine s_pick (lv1 := [(0, .ref 97), (2, .int l2), (3, .int l3)]) [0, 2, 3] rfl ?_
  refine s_callU (av := [.ref 97, .int l5, .int l4, .int (4:Int32)]) (rest := []) B (lk_V B d_Mo_both_126 (gl_Mo_151 _) rfl hv_Mo_part (by decide) (by decide)) rfl (x_rcV B xc_Mo kd_97) (fun _ _ => rfl) rfl rfl (by simp [Value.category]) rfl (fun r3 e9 => ct_Mo_part _ _ _ _ r3 e9) (fun r3 _ => ?_)
  refine s_aload_n B d_Mo_both_129 rfl ?_
  refine s_aload_n B d_Mo_both_130 rfl ?_
  refine s_getS (k := 5) (n := 102) B xc_Mo kd_97 (by decide) rfl rfl fl_Mo_23 sr_97_5 d_Mo_both_131 ?_
  refine s_iload_n B d_Mo_both_134 rfl ?_
  refine s_iald B (Or.inl kd_102) d_Mo_both_135 (fun v4 _ => ?_)
  refine s_aload_n B d_Mo_both_136 rfl ?_
  refine s_getS (k := 6) (n := 103) B xc_Mo kd_97 (by decide) rfl rfl fl_Mo_26 sr_97_6 d_Mo_both_137 ?_
  refine s_iload_n B d_Mo_both_140 rfl ?_
  refine s_iald B (Or.inl kd_103) d_Mo_both_141 (fun v5 _ => ?_)
  refine s_iconst (v := (4:Int32)) B d_Mo_both_142 (by decide) ?_
  refine s_pick (lv1 := [(0, .ref 97), (2, .int l2), (3, .int l3)]) [0, 2, 3] rfl ?_
  refine s_callU (av := [.ref 97, .int v4, .int v5, .int (4:Int32)]) (rest := []) B (lk_V B d_Mo_both_143 (gl_Mo_151 _) rfl hv_Mo_part (by decide) (by decide)) rfl (x_rcV B xc_Mo kd_97) (fun _ _ => rfl) rfl rfl (by simp [Value.category]) rfl (fun r6 e9 => ct_Mo_part _ _ _ _ r6 e9) (fun r6 _ => ?_)
  refine s_aload_n B d_Mo_both_146 rfl ?_
  refine s_iconst (v := (4:Int32)) B d_Mo_both_147 (by decide) ?_
  refine s_pick (lv1 := [(0, .ref 97), (2, .int l2), (3, .int l3)]) [0, 2, 3] rfl ?_
  refine s_callI (av := [.ref 97, .int (4:Int32)]) (rest := []) B (lk_V B d_Mo_both_148 (gl_Mo_155 _) rfl hv_Mo_unite (by decide) (by decide)) rfl (x_rcV B xc_Mo kd_97) (fun _ _ => rfl) rfl rfl (by simp [Value.category]) rfl (fun r7 e9 => ct_Mo_unite _ _ r7 e9) (fun r7 _ => ?_)
  refine s_istore B d_Mo_both_151 (by decide) ?_
  refine s_pick (lv1 := [(0, .ref 97), (2, .int l2), (3, .int l3), (4, .int r7.2)]) [0, 2, 3, 4] rfl ?_
  exact t_Mo_both_153 B l2 l3 r7.2 r7.1
set_option maxRecDepth 100000 in
set_option maxHeartbeats 4000000 in
theorem t_Mo_both_74b {k74 : Int32 × Int32 × Int32 × Int32 × Int32 × MS → Option (MS × Unit)} (B : xB p R s m args meth c b_Mo_both 7 R_Mo (Cond.code y_Mo_both b_Mo_both 7 none :: x_T) none 4 95 D x_cl (xty g) base) (hk74 : ∀ (l2 : Int32) (l3 : Int32) (l4 : Int32) (l5 : Int32) (l6 : Int32) (M : MS) , Sn p l e R s m args below meth c 7 D x_cl base (xwd g) cM x_g0 az kz (xfc cM) (xZ below args s D x_cl (xty g) base (xwd g) cM x_g0 az kz ovU) 74 [] [(0, .ref 97), (2, .int l2), (3, .int l3), (4, .int l4), (5, .int l5), (6, .int l6)] M (k74 (l2, l3, l4, l5, l6, M))) (l2 : Int32) (l3 : Int32) (l4 : Int32) (l5 : Int32) (l6 : Int32) (M : MS)  : Sn p l e R s m args below meth c 7 D x_cl base (xwd g) cM x_g0 az kz (xfc cM) (xZ below args s D x_cl (xty g) base (xwd g) cM x_g0 az kz ovU) 74 [] [(0, .ref 97), (2, .int l2), (3, .int l3), (4, .int l4), (5, .int l5), (6, .int l6)] M (m_Mo_both_74b k74 l2 l3 l4 l5 l6 M) := by
  unfold m_Mo_both_74b
  refine s_iload B d_Mo_both_74 rfl ?_
  refine s_iload B d_Mo_both_76 rfl ?_
  refine s_icmp_ge B d_Mo_both_78 rfl (fun _ => ?_) (fun _ => ?_)
  · refine s_pick (lv1 := [(0, .ref 97), (2, .int l2), (3, .int l3), (4, .int l4), (5, .int l5)]) [0, 2, 3, 4, 5] rfl ?_
    exact t_Mo_both_104 B l2 l3 l4 l5 M
  · refine s_aload_n B d_Mo_both_81 rfl ?_
    refine s_getS (k := 3) (n := 100) B xc_Mo kd_97 (by decide) rfl rfl fl_Mo_17 sr_97_3 d_Mo_both_82 ?_
    refine s_iload B d_Mo_both_85 rfl ?_
    refine s_iload B d_Mo_both_87 rfl ?_
    refine s_iadd B d_Mo_both_89 ?_
    refine s_aload_n B d_Mo_both_90 rfl ?_
    refine s_getS (k := 4) (n := 101) B xc_Mo kd_97 (by decide) rfl rfl fl_Mo_20 sr_97_4 d_Mo_both_91 ?_
    refine s_iload B d_Mo_both_94 rfl ?_
    refine s_iald B (Or.inl kd_101) d_Mo_both_96 (fun v1 _ => ?_)
    refine s_iast B (Or.inl kd_100) d_Mo_both_97 (fun M2 _ => ?_)
    refine s_iinc (w := (1:Int32)) B d_Mo_both_98 rfl (by decide) (by decide) ?_
    refine s_goto B d_Mo_both_101 rfl ?_
    refine s_pick (lv1 := [(0, .ref 97), (2, .int l2), (3, .int l3), (4, .int l4), (5, .int l5), (6, .int (l6 + (1:Int32)))]) [0, 2, 3, 4, 5, 6] rfl ?_
    exact hk74 l2 l3 l4 l5 (l6 + (1:Int32)) M2
set_option maxRecDepth 100000 in
set_option maxHeartbeats 4000000 in
theorem t_Mo_both_74  (B : xB p R s m args meth c b_Mo_both 7 R_Mo (Cond.code y_Mo_both b_Mo_both 7 none :: x_T) none 4 95 D x_cl (xty g) base)  (l2 : Int32) (l3 : Int32) (l4 : Int32) (l5 : Int32) (l6 : Int32) (M : MS)  : Sn p l e R s m args below meth c 7 D x_cl base (xwd g) cM x_g0 az kz (xfc cM) (xZ below args s D x_cl (xty g) base (xwd g) cM x_g0 az kz ovU) 74 [] [(0, .ref 97), (2, .int l2), (3, .int l3), (4, .int l4), (5, .int l5), (6, .int l6)] M (m_Mo_both_74 (l2, l3, l4, l5, l6, M)) := by
  have q : ∀ (F : Nat) (i : Int32 × Int32 × Int32 × Int32 × Int32 × MS), Sn p l e R s m args below meth c 7 D x_cl base (xwd g) cM x_g0 az kz (xfc cM) (xZ below args s D x_cl (xty g) base (xwd g) cM x_g0 az kz ovU) 74 [] [(0, .ref 97), (2, .int i.1), (3, .int i.2.1), (4, .int i.2.2.1), (5, .int i.2.2.2.1), (6, .int i.2.2.2.2.1)] i.2.2.2.2.2 (fx (fun (k : Int32 × Int32 × Int32 × Int32 × Int32 × MS → Option (MS × Unit)) (i : Int32 × Int32 × Int32 × Int32 × Int32 × MS) => m_Mo_both_74b k i.1 i.2.1 i.2.2.1 i.2.2.2.1 i.2.2.2.2.1 i.2.2.2.2.2) F i) := by
    intro F
    induction F with
    | zero => intro i ; exact s_none
    | succ F ih => intro i ; exact t_Mo_both_74b B  (fun l2 l3 l4 l5 l6 M  => ih (l2, l3, l4, l5, l6, M) ) i.1 i.2.1 i.2.2.1 i.2.2.2.1 i.2.2.2.2.1 i.2.2.2.2.2 
  exact q FU (l2, l3, l4, l5, l6, M) 
set_option maxRecDepth 100000 in
set_option maxHeartbeats 4000000 in
theorem t_Mo_both (B : xB p R s m args meth c b_Mo_both 7 R_Mo (Cond.code y_Mo_both b_Mo_both 7 none :: x_T) none 4 95 D x_cl (xty g) base) (a1 : Nat) (M : MS) : Sn p l e R s m args below meth c 7 D x_cl base (xwd g) cM x_g0 az kz (xfc cM) (xZ below args s D x_cl (xty g) base (xwd g) cM x_g0 az kz ovU) 0 [] [(0, .ref 97), (1, .ref a1)] M (m_Mo_both a1 M) := by
  unfold m_Mo_both
  refine s_guard (fun ha1 => ?_)
  refine s_aload_n B d_Mo_both_0 rfl ?_
  refine s_getI (k := 9) B xc_Mo kd_97 (by decide) rfl rfl fl_Mo_128 d_Mo_both_1 ?_
  refine s_iconst (v := (1:Int32)) B d_Mo_both_4 (by decide) ?_
  refine s_isub B d_Mo_both_5 ?_
  refine s_istore_n B d_Mo_both_6 (by decide) ?_
  refine s_aload_n B d_Mo_both_7 rfl ?_
  refine s_getI (k := 9) B xc_Mo kd_97 (by decide) rfl rfl fl_Mo_128 d_Mo_both_8 ?_
  refine s_iconst (v := (2:Int32)) B d_Mo_both_11 (by decide) ?_
  refine s_isub B d_Mo_both_12 ?_
  refine s_istore_n B d_Mo_both_13 (by decide) ?_
  refine s_aload_n B d_Mo_both_14 rfl ?_
  refine s_aload_n B d_Mo_both_15 rfl ?_
  refine s_getS (k := 3) (n := 100) B xc_Mo kd_97 (by decide) rfl rfl fl_Mo_17 sr_97_3 d_Mo_both_16 ?_
  refine s_aload_n B d_Mo_both_19 rfl ?_
  refine s_getS (k := 5) (n := 102) B xc_Mo kd_97 (by decide) rfl rfl fl_Mo_23 sr_97_5 d_Mo_both_20 ?_
  refine s_iload_n B d_Mo_both_23 rfl ?_
  refine s_iald B (Or.inl kd_102) d_Mo_both_24 (fun v1 _ => ?_)
  refine s_aload_n B d_Mo_both_25 rfl ?_
  refine s_getS (k := 6) (n := 103) B xc_Mo kd_97 (by decide) rfl rfl fl_Mo_26 sr_97_6 d_Mo_both_26 ?_
  refine s_iload_n B d_Mo_both_29 rfl ?_
  refine s_iald B (Or.inl kd_103) d_Mo_both_30 (fun v2 _ => ?_)
  refine s_aload_n B d_Mo_both_31 rfl ?_
  refine s_aload_n B d_Mo_both_32 rfl ?_
  refine s_getS (k := 7) (n := 104) B xc_Mo kd_97 (by decide) rfl rfl fl_Mo_29 sr_97_7 d_Mo_both_33 ?_
  refine s_iload_n B d_Mo_both_36 rfl ?_
  refine s_iald B (Or.inl kd_104) d_Mo_both_37 (fun v3 _ => ?_)
  refine s_aload_n B d_Mo_both_38 rfl ?_
  refine s_getS (k := 7) (n := 104) B xc_Mo kd_97 (by decide) rfl rfl fl_Mo_29 sr_97_7 d_Mo_both_39 ?_
  refine s_iload_n B d_Mo_both_42 rfl ?_
  refine s_iald B (Or.inl kd_104) d_Mo_both_43 (fun v4 _ => ?_)
  refine s_aload_n B d_Mo_both_44 rfl ?_
  refine s_getS (k := 7) (n := 104) B xc_Mo kd_97 (by decide) rfl rfl fl_Mo_29 sr_97_7 d_Mo_both_45 ?_
  refine s_iload_n B d_Mo_both_48 rfl ?_
  refine s_iald B (Or.inl kd_104) d_Mo_both_49 (fun v5 _ => ?_)
  refine s_isub B d_Mo_both_50 ?_
  refine s_pick (lv1 := [(0, .ref 97), (2, .int ((gI M 97 9) - (1:Int32))), (3, .int ((gI M 97 9) - (2:Int32)))]) [0, 2, 3] rfl ?_
  refine s_callI (av := [.ref 97, .ref 100, .int v1, .int v2, .ref a1, .int v3, .int (v4 - v5)]) (rest := []) B (lk_V B d_Mo_both_51 (gl_Mo_139 _) rfl hv_Mo_cat (by decide) (by decide)) rfl (x_rcV B xc_Mo kd_97) (fun _ _ => rfl) rfl rfl (by simp [Value.category]) rfl (fun r6 e9 => ct_Mo_cat _ _ _ _ _ _ _ r6 e9) (fun r6 _ => ?_)
  refine s_istore B d_Mo_both_54 (by decide) ?_
  refine s_aload_n B d_Mo_both_56 rfl ?_
  refine s_getS (k := 8) (n := 105) B xc_Mo kd_97 (by decide) rfl rfl fl_Mo_32 sr_97_8 d_Mo_both_57 ?_
  refine s_iload_n B d_Mo_both_60 rfl ?_
  refine s_zald B kd_105 d_Mo_both_61 (fun v7 _ => ?_)
  refine s_if_eq B d_Mo_both_62 rfl (fun _ => ?_) (fun _ => ?_)
  · refine s_pick (lv1 := [(0, .ref 97), (2, .int ((gI M 97 9) - (1:Int32))), (3, .int ((gI M 97 9) - (2:Int32))), (4, .int r6.2)]) [0, 2, 3, 4] rfl ?_
    exact t_Mo_both_153 B ((gI M 97 9) - (1:Int32)) ((gI M 97 9) - (2:Int32)) r6.2 r6.1
  · refine s_aload_n B d_Mo_both_65 rfl ?_
    refine s_getI (k := 10) B xc_Mo kd_97 (by decide) rfl rfl fl_Mo_118 d_Mo_both_66 ?_
    refine s_istore B d_Mo_both_69 (by decide) ?_
    refine s_iconst (v := (0:Int32)) B d_Mo_both_71 (by decide) ?_
    refine s_istore B d_Mo_both_72 (by decide) ?_
    refine s_pick (lv1 := [(0, .ref 97), (2, .int ((gI M 97 9) - (1:Int32))), (3, .int ((gI M 97 9) - (2:Int32))), (4, .int r6.2), (5, .int (gI r6.1 97 10)), (6, .int (0:Int32))]) [0, 2, 3, 4, 5, 6] rfl ?_
    exact t_Mo_both_74 B ((gI M 97 9) - (1:Int32)) ((gI M 97 9) - (2:Int32)) r6.2 (gI r6.1 97 10) (0:Int32) r6.1
set_option maxRecDepth 100000 in
set_option maxHeartbeats 4000000 in
theorem ct_Mo_both {l : Launch} {D : va_G} {base : Nat} {g : Nat → ClassId} (a1 : Nat) (M : MS) (r : MS × Unit) (hr : m_Mo_both a1 M = some r) : Ct l y_Mo_both (Cond.code y_Mo_both b_Mo_both 7 none :: x_T) 4 95 D x_cl (xty g) base (xwd g) cM x_g0 [.ref 97, .ref a1] M r.1 (ovU r.2) :=
  x_met (ov := ovU) (by decide) (Nat.le_of_ble_eq_true rfl) (fun p e R s m args below meth c az B => t_Mo_both B a1 M) r hr
end
theorem d_Mo_several_0 : decode b_Mo_several 0 = .ok (.aload_n 0, 1) := by decide +kernel
theorem d_Mo_several_1 : decode b_Mo_several 1 = .ok (.getfield 128, 3) := by decide +kernel
theorem d_Mo_several_4 : decode b_Mo_several 4 = .ok (.iload_n 2, 1) := by decide +kernel
theorem d_Mo_several_5 : decode b_Mo_several 5 = .ok (.isub, 1) := by decide +kernel
theorem d_Mo_several_6 : decode b_Mo_several 6 = .ok (.istore_n 3, 1) := by decide +kernel
theorem d_Mo_several_7 : decode b_Mo_several 7 = .ok (.iload_n 1, 1) := by decide +kernel
theorem d_Mo_several_8 : decode b_Mo_several 8 = .ok (.iconst (5), 1) := by decide +kernel
theorem d_Mo_several_9 : decode b_Mo_several 9 = .ok (.if_icmp .ne (7), 3) := by decide +kernel
theorem d_Mo_several_12 : decode b_Mo_several 12 = .ok (.iconst (1), 1) := by decide +kernel
theorem d_Mo_several_13 : decode b_Mo_several 13 = .ok (.goto (4), 3) := by decide +kernel
theorem d_Mo_several_16 : decode b_Mo_several 16 = .ok (.iconst (0), 1) := by decide +kernel
theorem d_Mo_several_17 : decode b_Mo_several 17 = .ok (.istore 4, 2) := by decide +kernel
theorem d_Mo_several_19 : decode b_Mo_several 19 = .ok (.aload_n 0, 1) := by decide +kernel
theorem d_Mo_several_20 : decode b_Mo_several 20 = .ok (.iconst (0), 1) := by decide +kernel
theorem d_Mo_several_21 : decode b_Mo_several 21 = .ok (.putfield 107, 3) := by decide +kernel
theorem d_Mo_several_24 : decode b_Mo_several 24 = .ok (.iload_n 3, 1) := by decide +kernel
theorem d_Mo_several_25 : decode b_Mo_several 25 = .ok (.istore 5, 2) := by decide +kernel
theorem d_Mo_several_27 : decode b_Mo_several 27 = .ok (.iload 5, 2) := by decide +kernel
theorem d_Mo_several_29 : decode b_Mo_several 29 = .ok (.aload_n 0, 1) := by decide +kernel
theorem d_Mo_several_30 : decode b_Mo_several 30 = .ok (.getfield 128, 3) := by decide +kernel
theorem d_Mo_several_33 : decode b_Mo_several 33 = .ok (.if_icmp .ge (78), 3) := by decide +kernel
theorem d_Mo_several_36 : decode b_Mo_several 36 = .ok (.aload_n 0, 1) := by decide +kernel
theorem d_Mo_several_37 : decode b_Mo_several 37 = .ok (.aload_n 0, 1) := by decide +kernel
theorem d_Mo_several_38 : decode b_Mo_several 38 = .ok (.getfield 23, 3) := by decide +kernel
theorem d_Mo_several_41 : decode b_Mo_several 41 = .ok (.iload 5, 2) := by decide +kernel
theorem d_Mo_several_43 : decode b_Mo_several 43 = .ok (.iaload, 1) := by decide +kernel
theorem d_Mo_several_44 : decode b_Mo_several 44 = .ok (.aload_n 0, 1) := by decide +kernel
theorem d_Mo_several_45 : decode b_Mo_several 45 = .ok (.getfield 26, 3) := by decide +kernel
theorem d_Mo_several_48 : decode b_Mo_several 48 = .ok (.iload 5, 2) := by decide +kernel
theorem d_Mo_several_50 : decode b_Mo_several 50 = .ok (.iaload, 1) := by decide +kernel
theorem d_Mo_several_51 : decode b_Mo_several 51 = .ok (.iload_n 1, 1) := by decide +kernel
theorem d_Mo_several_52 : decode b_Mo_several 52 = .ok (.invokevirtual 151, 3) := by decide +kernel
theorem d_Mo_several_55 : decode b_Mo_several 55 = .ok (.iload_n 1, 1) := by decide +kernel
theorem d_Mo_several_56 : decode b_Mo_several 56 = .ok (.iconst (5), 1) := by decide +kernel
theorem d_Mo_several_57 : decode b_Mo_several 57 = .ok (.if_icmp .ne (26), 3) := by decide +kernel
theorem d_Mo_several_60 : decode b_Mo_several 60 = .ok (.iload 4, 2) := by decide +kernel
theorem d_Mo_several_62 : decode b_Mo_several 62 = .ok (.ifCond .eq (17), 3) := by decide +kernel
theorem d_Mo_several_65 : decode b_Mo_several 65 = .ok (.aload_n 0, 1) := by decide +kernel
theorem d_Mo_several_66 : decode b_Mo_several 66 = .ok (.getfield 32, 3) := by decide +kernel
theorem d_Mo_several_69 : decode b_Mo_several 69 = .ok (.iload 5, 2) := by decide +kernel
theorem d_Mo_several_71 : decode b_Mo_several 71 = .ok (.baload, 1) := by decide +kernel
theorem d_Mo_several_72 : decode b_Mo_several 72 = .ok (.ifCond .eq (7), 3) := by decide +kernel
theorem d_Mo_several_75 : decode b_Mo_several 75 = .ok (.iconst (1), 1) := by decide +kernel
theorem d_Mo_several_76 : decode b_Mo_several 76 = .ok (.goto (27), 3) := by decide +kernel
theorem d_Mo_several_79 : decode b_Mo_several 79 = .ok (.iconst (0), 1) := by decide +kernel
theorem d_Mo_several_80 : decode b_Mo_several 80 = .ok (.goto (23), 3) := by decide +kernel
theorem d_Mo_several_83 : decode b_Mo_several 83 = .ok (.iload 4, 2) := by decide +kernel
theorem d_Mo_several_85 : decode b_Mo_several 85 = .ok (.ifCond .ne (13), 3) := by decide +kernel
theorem d_Mo_several_88 : decode b_Mo_several 88 = .ok (.aload_n 0, 1) := by decide +kernel
theorem d_Mo_several_89 : decode b_Mo_several 89 = .ok (.getfield 32, 3) := by decide +kernel
theorem d_Mo_several_92 : decode b_Mo_several 92 = .ok (.iload 5, 2) := by decide +kernel
theorem d_Mo_several_94 : decode b_Mo_several 94 = .ok (.baload, 1) := by decide +kernel
theorem d_Mo_several_95 : decode b_Mo_several 95 = .ok (.ifCond .eq (7), 3) := by decide +kernel
theorem d_Mo_several_98 : decode b_Mo_several 98 = .ok (.iconst (1), 1) := by decide +kernel
theorem d_Mo_several_99 : decode b_Mo_several 99 = .ok (.goto (4), 3) := by decide +kernel
theorem d_Mo_several_102 : decode b_Mo_several 102 = .ok (.iconst (0), 1) := by decide +kernel
theorem d_Mo_several_103 : decode b_Mo_several 103 = .ok (.istore 4, 2) := by decide +kernel
theorem d_Mo_several_105 : decode b_Mo_several 105 = .ok (.iinc 5 (1), 3) := by decide +kernel
theorem d_Mo_several_108 : decode b_Mo_several 108 = .ok (.goto (-81), 3) := by decide +kernel
theorem d_Mo_several_111 : decode b_Mo_several 111 = .ok (.aload_n 0, 1) := by decide +kernel
theorem d_Mo_several_112 : decode b_Mo_several 112 = .ok (.iload_n 1, 1) := by decide +kernel
theorem d_Mo_several_113 : decode b_Mo_several 113 = .ok (.invokevirtual 155, 3) := by decide +kernel
theorem d_Mo_several_116 : decode b_Mo_several 116 = .ok (.istore 5, 2) := by decide +kernel
theorem d_Mo_several_118 : decode b_Mo_several 118 = .ok (.aload_n 0, 1) := by decide +kernel
theorem d_Mo_several_119 : decode b_Mo_several 119 = .ok (.getfield 29, 3) := by decide +kernel
theorem d_Mo_several_122 : decode b_Mo_several 122 = .ok (.iload_n 3, 1) := by decide +kernel
theorem d_Mo_several_123 : decode b_Mo_several 123 = .ok (.iaload, 1) := by decide +kernel
theorem d_Mo_several_124 : decode b_Mo_several 124 = .ok (.istore 6, 2) := by decide +kernel
theorem d_Mo_several_126 : decode b_Mo_several 126 = .ok (.aload_n 0, 1) := by decide +kernel
theorem d_Mo_several_127 : decode b_Mo_several 127 = .ok (.iload_n 3, 1) := by decide +kernel
theorem d_Mo_several_128 : decode b_Mo_several 128 = .ok (.putfield 128, 3) := by decide +kernel
theorem d_Mo_several_131 : decode b_Mo_several 131 = .ok (.aload_n 0, 1) := by decide +kernel
theorem d_Mo_several_132 : decode b_Mo_several 132 = .ok (.aload_n 0, 1) := by decide +kernel
theorem d_Mo_several_133 : decode b_Mo_several 133 = .ok (.getfield 23, 3) := by decide +kernel
theorem d_Mo_several_136 : decode b_Mo_several 136 = .ok (.iload_n 3, 1) := by decide +kernel
theorem d_Mo_several_137 : decode b_Mo_several 137 = .ok (.iaload, 1) := by decide +kernel
theorem d_Mo_several_138 : decode b_Mo_several 138 = .ok (.iload 5, 2) := by decide +kernel
theorem d_Mo_several_140 : decode b_Mo_several 140 = .ok (.iload 6, 2) := by decide +kernel
theorem d_Mo_several_142 : decode b_Mo_several 142 = .ok (.iload 4, 2) := by decide +kernel
theorem d_Mo_several_144 : decode b_Mo_several 144 = .ok (.invokevirtual 131, 3) := by decide +kernel
theorem d_Mo_several_147 : decode b_Mo_several 147 = .ok (.return_, 1) := by decide +kernel
section
variable {p : Program} {l : Launch} {e : Env} {R : Room} {s : State} {m : MethodId} {args : Array Value} {below : List Frame} {meth : Method} {c : Code} {D : va_G} {base : Nat} {g : Nat → ClassId} {az : Nat → Nat} {kz : Nat × Nat}
set_option maxRecDepth 100000 in
set_option maxHeartbeats 4000000 in
theorem t_Mo_several_111  (B : xB p R s m args meth c b_Mo_several 7 R_Mo (Cond.code y_Mo_several b_Mo_several 7 none :: x_T) none 4 88 D x_cl (xty g) base)  (l1 : Int32) (l3 : Int32) (l4 : Int32) (M : MS)  : Sn p l e R s m args below meth c 7 D x_cl base (xwd g) cM x_g0 az kz (xfc cM) (xZ below args s D x_cl (xty g) base (xwd g) cM x_g0 az kz ovU) 111 [] [(0, .ref 97), (1, .int l1), (3, .int l3), (4, .int l4)] M (m_Mo_several_111 l1 l3 l4 M) := by
  unfold m_Mo_several_111
  refine s_aload_n B d_Mo_several_111 rfl ?_
  refine s_iload_n B d_Mo_several_112 rfl ?_
  refine s_pick (lv1 := [(0, .ref 97), (3, .int l3), (4, .int l4)]) [0, 3, 4] rfl ?_
  refine s_callI (av := [.ref 97, .int l1]) (rest := []) B (lk_V B d_Mo_several_113 (gl_Mo_155 _) rfl hv_Mo_unite (by decide) (by decide)) rfl (x_rcV B xc_Mo kd_97) (fun _ _ => rfl) rfl rfl (by simp [Value.category]) rfl (fun r1 e9 => ct_Mo_unite _ _ r1 e9) (fun r1 _ => ?_)
  refine s_istore B d_Mo_several_116 (by decide) ?_
  refine s_aload_n B d_Mo_several_118 rfl ?_
  refine s_getS (k := 7) (n := 104) B xc_Mo kd_97 (by decide) rfl rfl fl_Mo_29 sr_97_7 d_Mo_several_119 ?_
  refine s_iload_n B d_Mo_several_122 rfl ?_
  refine s_iald B (Or.inl kd_104) d_Mo_several_123 (fun v2 _ => ?_)
  refine s_istore B d_Mo_several_124 (by decide) ?_
  refine s_aload_n B d_Mo_several_126 rfl ?_
  refine s_iload_n B d_Mo_several_127 rfl ?_
  refine s_putI (k := 9) (ty := .int) B xc_Mo kd_97 (by decide) rfl rfl fl_Mo_128 rfl rfl rfl rfl d_Mo_several_128 (fun M3 _ => ?_)
  refine s_aload_n B d_Mo_several_131 rfl ?_
  refine s_aload_n B d_Mo_several_132 rfl ?_
  refine s_getS (k := 5) (n := 102) B xc_Mo kd_97 (by decide) rfl rfl fl_Mo_23 sr_97_5 d_Mo_several_133 ?_
  refine s_iload_n B d_Mo_several_136 rfl ?_
  refine s_iald B (Or.inl kd_102) d_Mo_several_137 (fun v4 _ => ?_)
  refine s_iload B d_Mo_several_138 rfl ?_
  refine s_iload B d_Mo_several_140 rfl ?_
  refine s_iload B d_Mo_several_142 rfl ?_
  refine s_pick (lv1 := []) [] rfl ?_
  refine s_callU (av := [.ref 97, .int v4, .int r1.2, .int v2, .int l4]) (rest := []) B (lk_V B d_Mo_several_144 (gl_Mo_131 _) rfl hv_Mo_place (by decide) (by decide)) rfl (x_rcV B xc_Mo kd_97) (fun _ _ => rfl) rfl rfl (by simp [Value.category]) rfl (fun r5 e9 => ct_Mo_place _ _ _ _ _ r5 e9) (fun r5 _ => ?_)
  exact s_vret B d_Mo_several_147
set_option maxRecDepth 100000 in
set_option maxHeartbeats 4000000 in
theorem t_Mo_several_27b {k27 : Int32 × Int32 × Int32 × Int32 × MS → Option (MS × Unit)} (B : xB p R s m args meth c b_Mo_several 7 R_Mo (Cond.code y_Mo_several b_Mo_several 7 none :: x_T) none 4 88 D x_cl (xty g) base) (hk27 : ∀ (l1 : Int32) (l3 : Int32) (l4 : Int32) (l5 : Int32) (M : MS) , Sn p l e R s m args below meth c 7 D x_cl base (xwd g) cM x_g0 az kz (xfc cM) (xZ below args s D x_cl (xty g) base (xwd g) cM x_g0 az kz ovU) 27 [] [(0, .ref 97), (1, .int l1), (3, .int l3), (4, .int l4), (5, .int l5)] M (k27 (l1, l3, l4, l5, M))) (l1 : Int32) (l3 : Int32) (l4 : Int32) (l5 : Int32) (M : MS)  : Sn p l e R s m args below meth c 7 D x_cl base (xwd g) cM x_g0 az kz (xfc cM) (xZ below args s D x_cl (xty g) base (xwd g) cM x_g0 az kz ovU) 27 [] [(0, .ref 97), (1, .int l1), (3, .int l3), (4, .int l4), (5, .int l5)] M (m_Mo_several_27b k27 l1 l3 l4 l5 M) := by
  unfold m_Mo_several_27b
  refine s_iload B d_Mo_several_27 rfl ?_
  refine s_aload_n B d_Mo_several_29 rfl ?_
  refine s_getI (k := 9) B xc_Mo kd_97 (by decide) rfl rfl fl_Mo_128 d_Mo_several_30 ?_
  refine s_icmp_ge B d_Mo_several_33 rfl (fun _ => ?_) (fun _ => ?_)
  · refine s_pick (lv1 := [(0, .ref 97), (1, .int l1), (3, .int l3), (4, .int l4)]) [0, 1, 3, 4] rfl ?_
    exact t_Mo_several_111 B l1 l3 l4 M
  · refine s_aload_n B d_Mo_several_36 rfl ?_
    refine s_aload_n B d_Mo_several_37 rfl ?_
    refine s_getS (k := 5) (n := 102) B xc_Mo kd_97 (by decide) rfl rfl fl_Mo_23 sr_97_5 d_Mo_several_38 ?_
    refine s_iload B d_Mo_several_41 rfl ?_
    refine s_iald B (Or.inl kd_102) d_Mo_several_43 (fun v1 _ => ?_)
    refine s_aload_n B d_Mo_several_44 rfl ?_
    refine s_getS (k := 6) (n := 103) B xc_Mo kd_97 (by decide) rfl rfl fl_Mo_26 sr_97_6 d_Mo_several_45 ?_
    refine s_iload B d_Mo_several_48 rfl ?_
    refine s_iald B (Or.inl kd_103) d_Mo_several_50 (fun v2 _ => ?_)
    refine s_iload_n B d_Mo_several_51 rfl ?_
    refine s_pick (lv1 := [(0, .ref 97), (1, .int l1), (3, .int l3), (4, .int l4), (5, .int l5)]) [0, 1, 3, 4, 5] rfl ?_
    refine s_callU (av := [.ref 97, .int v1, .int v2, .int l1]) (rest := []) B (lk_V B d_Mo_several_52 (gl_Mo_151 _) rfl hv_Mo_part (by decide) (by decide)) rfl (x_rcV B xc_Mo kd_97) (fun _ _ => rfl) rfl rfl (by simp [Value.category]) rfl (fun r3 e9 => ct_Mo_part _ _ _ _ r3 e9) (fun r3 _ => ?_)
    refine s_iload_n B d_Mo_several_55 rfl ?_
    refine s_iconst (v := (5:Int32)) B d_Mo_several_56 (by decide) ?_
    refine s_icmp_ne B d_Mo_several_57 rfl (fun _ => ?_) (fun _ => ?_)
    · refine s_iload B d_Mo_several_83 rfl ?_
      refine s_if_ne B d_Mo_several_85 rfl (fun _ => ?_) (fun _ => ?_)
      · refine s_iconst (v := (1:Int32)) B d_Mo_several_98 (by decide) ?_
        refine s_goto B d_Mo_several_99 rfl ?_
        refine s_istore B d_Mo_several_103 (by decide) ?_
        refine s_iinc (w := (1:Int32)) B d_Mo_several_105 rfl (by decide) (by decide) ?_
        refine s_goto B d_Mo_several_108 rfl ?_
        refine s_pick (lv1 := [(0, .ref 97), (1, .int l1), (3, .int l3), (4, .int (1:Int32)), (5, .int (l5 + (1:Int32)))]) [0, 1, 3, 4, 5] rfl ?_
        exact hk27 l1 l3 (1:Int32) (l5 + (1:Int32)) r3.1
      · refine s_aload_n B d_Mo_several_88 rfl ?_
        refine s_getS (k := 8) (n := 105) B xc_Mo kd_97 (by decide) rfl rfl fl_Mo_32 sr_97_8 d_Mo_several_89 ?_
        refine s_iload B d_Mo_several_92 rfl ?_
        refine s_zald B kd_105 d_Mo_several_94 (fun v4 _ => ?_)
        refine s_if_eq B d_Mo_several_95 rfl (fun _ => ?_) (fun _ => ?_)
        · refine s_iconst (v := (0:Int32)) B d_Mo_several_102 (by decide) ?_
          refine s_istore B d_Mo_several_103 (by decide) ?_
          refine s_iinc (w := (1:Int32)) B d_Mo_several_105 rfl (by decide) (by decide) ?_
          refine s_goto B d_Mo_several_108 rfl ?_
          refine s_pick (lv1 := [(0, .ref 97), (1, .int l1), (3, .int l3), (4, .int (0:Int32)), (5, .int (l5 + (1:Int32)))]) [0, 1, 3, 4, 5] rfl ?_
          exact hk27 l1 l3 (0:Int32) (l5 + (1:Int32)) r3.1
        · refine s_iconst (v := (1:Int32)) B d_Mo_several_98 (by decide) ?_
          refine s_goto B d_Mo_several_99 rfl ?_
          refine s_istore B d_Mo_several_103 (by decide) ?_
          refine s_iinc (w := (1:Int32)) B d_Mo_several_105 rfl (by decide) (by decide) ?_
          refine s_goto B d_Mo_several_108 rfl ?_
          refine s_pick (lv1 := [(0, .ref 97), (1, .int l1), (3, .int l3), (4, .int (1:Int32)), (5, .int (l5 + (1:Int32)))]) [0, 1, 3, 4, 5] rfl ?_
          exact hk27 l1 l3 (1:Int32) (l5 + (1:Int32)) r3.1
    · refine s_iload B d_Mo_several_60 rfl ?_
      refine s_if_eq B d_Mo_several_62 rfl (fun _ => ?_) (fun _ => ?_)
      · refine s_iconst (v := (0:Int32)) B d_Mo_several_79 (by decide) ?_
        refine s_goto B d_Mo_several_80 rfl ?_
        refine s_istore B d_Mo_several_103 (by decide) ?_
        refine s_iinc (w := (1:Int32)) B d_Mo_several_105 rfl (by decide) (by decide) ?_
        refine s_goto B d_Mo_several_108 rfl ?_
        refine s_pick (lv1 := [(0, .ref 97), (1, .int l1), (3, .int l3), (4, .int (0:Int32)), (5, .int (l5 + (1:Int32)))]) [0, 1, 3, 4, 5] rfl ?_
        exact hk27 l1 l3 (0:Int32) (l5 + (1:Int32)) r3.1
      · refine s_aload_n B d_Mo_several_65 rfl ?_
        refine s_getS (k := 8) (n := 105) B xc_Mo kd_97 (by decide) rfl rfl fl_Mo_32 sr_97_8 d_Mo_several_66 ?_
        refine s_iload B d_Mo_several_69 rfl ?_
        refine s_zald B kd_105 d_Mo_several_71 (fun v5 _ => ?_)
        refine s_if_eq B d_Mo_several_72 rfl (fun _ => ?_) (fun _ => ?_)
        · refine s_iconst (v := (0:Int32)) B d_Mo_several_79 (by decide) ?_
          refine s_goto B d_Mo_several_80 rfl ?_
          refine s_istore B d_Mo_several_103 (by decide) ?_
          refine s_iinc (w := (1:Int32)) B d_Mo_several_105 rfl (by decide) (by decide) ?_
          refine s_goto B d_Mo_several_108 rfl ?_
          refine s_pick (lv1 := [(0, .ref 97), (1, .int l1), (3, .int l3), (4, .int (0:Int32)), (5, .int (l5 + (1:Int32)))]) [0, 1, 3, 4, 5] rfl ?_
          exact hk27 l1 l3 (0:Int32) (l5 + (1:Int32)) r3.1
        · refine s_iconst (v := (1:Int32)) B d_Mo_several_75 (by decide) ?_
          refine s_goto B d_Mo_several_76 rfl ?_
          refine s_istore B d_Mo_several_103 (by decide) ?_
          refine s_iinc (w := (1:Int32)) B d_Mo_several_105 rfl (by decide) (by decide) ?_
          refine s_goto B d_Mo_several_108 rfl ?_
          refine s_pick (lv1 := [(0, .ref 97), (1, .int l1), (3, .int l3), (4, .int (1:Int32)), (5, .int (l5 + (1:Int32)))]) [0, 1, 3, 4, 5] rfl ?_
          exact hk27 l1 l3 (1:Int32) (l5 + (1:Int32)) r3.1
set_option maxRecDepth 100000 in
set_option maxHeartbeats 4000000 in
theorem t_Mo_several_27  (B : xB p R s m args meth c b_Mo_several 7 R_Mo (Cond.code y_Mo_several b_Mo_several 7 none :: x_T) none 4 88 D x_cl (xty g) base)  (l1 : Int32) (l3 : Int32) (l4 : Int32) (l5 : Int32) (M : MS)  : Sn p l e R s m args below meth c 7 D x_cl base (xwd g) cM x_g0 az kz (xfc cM) (xZ below args s D x_cl (xty g) base (xwd g) cM x_g0 az kz ovU) 27 [] [(0, .ref 97), (1, .int l1), (3, .int l3), (4, .int l4), (5, .int l5)] M (m_Mo_several_27 (l1, l3, l4, l5, M)) := by
  have q : ∀ (F : Nat) (i : Int32 × Int32 × Int32 × Int32 × MS), Sn p l e R s m args below meth c 7 D x_cl base (xwd g) cM x_g0 az kz (xfc cM) (xZ below args s D x_cl (xty g) base (xwd g) cM x_g0 az kz ovU) 27 [] [(0, .ref 97), (1, .int i.1), (3, .int i.2.1), (4, .int i.2.2.1), (5, .int i.2.2.2.1)] i.2.2.2.2 (fx (fun (k : Int32 × Int32 × Int32 × Int32 × MS → Option (MS × Unit)) (i : Int32 × Int32 × Int32 × Int32 × MS) => m_Mo_several_27b k i.1 i.2.1 i.2.2.1 i.2.2.2.1 i.2.2.2.2) F i) := by
    intro F
    induction F with
    | zero => intro i ; exact s_none
    | succ F ih => intro i ; exact t_Mo_several_27b B  (fun l1 l3 l4 l5 M  => ih (l1, l3, l4, l5, M) ) i.1 i.2.1 i.2.2.1 i.2.2.2.1 i.2.2.2.2 
  exact q FU (l1, l3, l4, l5, M) 
set_option maxRecDepth 100000 in
set_option maxHeartbeats 4000000 in
theorem t_Mo_several_17  (B : xB p R s m args meth c b_Mo_several 7 R_Mo (Cond.code y_Mo_several b_Mo_several 7 none :: x_T) none 4 88 D x_cl (xty g) base)  (l1 : Int32) (l3 : Int32) (s0 : Int32) (M : MS)  : Sn p l e R s m args below meth c 7 D x_cl base (xwd g) cM x_g0 az kz (xfc cM) (xZ below args s D x_cl (xty g) base (xwd g) cM x_g0 az kz ovU) 17 [.int s0] [(0, .ref 97), (1, .int l1), (3, .int l3)] M (m_Mo_several_17 l1 l3 s0 M) := by
  unfold m_Mo_several_17
  refine s_istore B d_Mo_several_17 (by decide) ?_
  refine s_aload_n B d_Mo_several_19 rfl ?_
  refine s_iconst (v := (0:Int32)) B d_Mo_several_20 (by decide) ?_
  refine s_putI (k := 13) (ty := .int) B xc_Mo kd_97 (by decide) rfl rfl fl_Mo_107 rfl rfl rfl rfl d_Mo_several_21 (fun M1 _ => ?_)
  refine s_iload_n B d_Mo_several_24 rfl ?_
  refine s_istore B d_Mo_several_25 (by decide) ?_
  refine s_pick (lv1 := [(0, .ref 97), (1, .int l1), (3, .int l3), (4, .int s0), (5, .int l3)]) [0, 1, 3, 4, 5] rfl ?_
  exact t_Mo_several_27 B l1 l3 s0 l3 M1
set_option maxRecDepth 100000 in
set_option maxHeartbeats 4000000 in
theorem t_Mo_several (B : xB p R s m args meth c b_Mo_several 7 R_Mo (Cond.code y_Mo_several b_Mo_several 7 none :: x_T) none 4 88 D x_cl (xty g) base) (a1 : Int32) (a2 : Int32) (M : MS) : Sn p l e R s m args below meth c 7 D x_cl base (xwd g) cM x_g0 az kz (xfc cM) (xZ below args s D x_cl (xty g) base (xwd g) cM x_g0 az kz ovU) 0 [] [(0, .ref 97), (1, .int a1), (2, .int a2)] M (m_Mo_several a1 a2 M) := by
  unfold m_Mo_several
  refine s_aload_n B d_Mo_several_0 rfl ?_
  refine s_getI (k := 9) B xc_Mo kd_97 (by decide) rfl rfl fl_Mo_128 d_Mo_several_1 ?_
  refine s_iload_n B d_Mo_several_4 rfl ?_
  refine s_isub B d_Mo_several_5 ?_
  refine s_istore_n B d_Mo_several_6 (by decide) ?_
  refine s_iload_n B d_Mo_several_7 rfl ?_
  refine s_iconst (v := (5:Int32)) B d_Mo_several_8 (by decide) ?_
  refine s_icmp_ne B d_Mo_several_9 rfl (fun _ => ?_) (fun _ => ?_)
  · refine s_iconst (v := (0:Int32)) B d_Mo_several_16 (by decide) ?_
    refine s_pick (lv1 := [(0, .ref 97), (1, .int a1), (3, .int ((gI M 97 9) - a2))]) [0, 1, 3] rfl ?_
    exact t_Mo_several_17 B a1 ((gI M 97 9) - a2) (0:Int32) M
  · refine s_iconst (v := (1:Int32)) B d_Mo_several_12 (by decide) ?_
    refine s_goto B d_Mo_several_13 rfl ?_
    refine s_pick (lv1 := [(0, .ref 97), (1, .int a1), (3, .int ((gI M 97 9) - a2))]) [0, 1, 3] rfl ?_
    exact t_Mo_several_17 B a1 ((gI M 97 9) - a2) (1:Int32) M
set_option maxRecDepth 100000 in
set_option maxHeartbeats 4000000 in
theorem ct_Mo_several {l : Launch} {D : va_G} {base : Nat} {g : Nat → ClassId} (a1 : Int32) (a2 : Int32) (M : MS) (r : MS × Unit) (hr : m_Mo_several a1 a2 M = some r) : Ct l y_Mo_several (Cond.code y_Mo_several b_Mo_several 7 none :: x_T) 4 88 D x_cl (xty g) base (xwd g) cM x_g0 [.ref 97, .int a1, .int a2] M r.1 (ovU r.2) :=
  x_met (ov := ovU) (by decide) (Nat.le_of_ble_eq_true rfl) (fun p e R s m args below meth c az B => t_Mo_several B a1 a2 M) r hr
end
theorem d_Mo_derived_0 : decode b_Mo_derived 0 = .ok (.aload_n 0, 1) := by decide +kernel
theorem d_Mo_derived_1 : decode b_Mo_derived 1 = .ok (.iconst (0), 1) := by decide +kernel
theorem d_Mo_derived_2 : decode b_Mo_derived 2 = .ok (.putfield 128, 3) := by decide +kernel
theorem d_Mo_derived_5 : decode b_Mo_derived 5 = .ok (.aload_n 0, 1) := by decide +kernel
theorem d_Mo_derived_6 : decode b_Mo_derived 6 = .ok (.iconst (0), 1) := by decide +kernel
theorem d_Mo_derived_7 : decode b_Mo_derived 7 = .ok (.putfield 118, 3) := by decide +kernel
theorem d_Mo_derived_10 : decode b_Mo_derived 10 = .ok (.iload_n 3, 1) := by decide +kernel
theorem d_Mo_derived_11 : decode b_Mo_derived 11 = .ok (.iconst (1), 1) := by decide +kernel
theorem d_Mo_derived_12 : decode b_Mo_derived 12 = .ok (.isub, 1) := by decide +kernel
theorem d_Mo_derived_13 : decode b_Mo_derived 13 = .ok (.istore 5, 2) := by decide +kernel
theorem d_Mo_derived_15 : decode b_Mo_derived 15 = .ok (.iload 5, 2) := by decide +kernel
theorem d_Mo_derived_17 : decode b_Mo_derived 17 = .ok (.ifCond .lt (293), 3) := by decide +kernel
theorem d_Mo_derived_20 : decode b_Mo_derived 20 = .ok (.aload_n 1, 1) := by decide +kernel
theorem d_Mo_derived_21 : decode b_Mo_derived 21 = .ok (.iload_n 2, 1) := by decide +kernel
theorem d_Mo_derived_22 : decode b_Mo_derived 22 = .ok (.iload 5, 2) := by decide +kernel
theorem d_Mo_derived_24 : decode b_Mo_derived 24 = .ok (.iadd, 1) := by decide +kernel
theorem d_Mo_derived_25 : decode b_Mo_derived 25 = .ok (.iaload, 1) := by decide +kernel
theorem d_Mo_derived_26 : decode b_Mo_derived 26 = .ok (.istore 6, 2) := by decide +kernel
theorem d_Mo_derived_28 : decode b_Mo_derived 28 = .ok (.iload 6, 2) := by decide +kernel
theorem d_Mo_derived_30 : decode b_Mo_derived 30 = .ok (.invokestatic 96, 3) := by decide +kernel
theorem d_Mo_derived_33 : decode b_Mo_derived 33 = .ok (.iconst (3), 1) := by decide +kernel
theorem d_Mo_derived_34 : decode b_Mo_derived 34 = .ok (.if_icmp .ge (65), 3) := by decide +kernel
theorem d_Mo_derived_37 : decode b_Mo_derived 37 = .ok (.aload_n 0, 1) := by decide +kernel
theorem d_Mo_derived_38 : decode b_Mo_derived 38 = .ok (.getfield 20, 3) := by decide +kernel
theorem d_Mo_derived_41 : decode b_Mo_derived 41 = .ok (.iconst (0), 1) := by decide +kernel
theorem d_Mo_derived_42 : decode b_Mo_derived 42 = .ok (.iload 6, 2) := by decide +kernel
theorem d_Mo_derived_44 : decode b_Mo_derived 44 = .ok (.invokestatic 96, 3) := by decide +kernel
theorem d_Mo_derived_47 : decode b_Mo_derived 47 = .ok (.iconst (2), 1) := by decide +kernel
theorem d_Mo_derived_48 : decode b_Mo_derived 48 = .ok (.if_icmp .ne (20), 3) := by decide +kernel
theorem d_Mo_derived_51 : decode b_Mo_derived 51 = .ok (.iload 6, 2) := by decide +kernel
theorem d_Mo_derived_53 : decode b_Mo_derived 53 = .ok (.iconst (3), 1) := by decide +kernel
theorem d_Mo_derived_54 : decode b_Mo_derived 54 = .ok (.ishr, 1) := by decide +kernel
theorem d_Mo_derived_55 : decode b_Mo_derived 55 = .ok (.iload 4, 2) := by decide +kernel
theorem d_Mo_derived_57 : decode b_Mo_derived 57 = .ok (.ishr, 1) := by decide +kernel
theorem d_Mo_derived_58 : decode b_Mo_derived 58 = .ok (.iconst (1), 1) := by decide +kernel
theorem d_Mo_derived_59 : decode b_Mo_derived 59 = .ok (.iand, 1) := by decide +kernel
theorem d_Mo_derived_60 : decode b_Mo_derived 60 = .ok (.iconst (1), 1) := by decide +kernel
theorem d_Mo_derived_61 : decode b_Mo_derived 61 = .ok (.if_icmp .ne (7), 3) := by decide +kernel
theorem d_Mo_derived_64 : decode b_Mo_derived 64 = .ok (.iconst (1), 1) := by decide +kernel
theorem d_Mo_derived_65 : decode b_Mo_derived 65 = .ok (.goto (4), 3) := by decide +kernel
theorem d_Mo_derived_68 : decode b_Mo_derived 68 = .ok (.iconst (0), 1) := by decide +kernel
theorem d_Mo_derived_69 : decode b_Mo_derived 69 = .ok (.iastore, 1) := by decide +kernel
theorem d_Mo_derived_70 : decode b_Mo_derived 70 = .ok (.aload_n 0, 1) := by decide +kernel
theorem d_Mo_derived_71 : decode b_Mo_derived 71 = .ok (.aload_n 0, 1) := by decide +kernel
theorem d_Mo_derived_72 : decode b_Mo_derived 72 = .ok (.getfield 118, 3) := by decide +kernel
theorem d_Mo_derived_75 : decode b_Mo_derived 75 = .ok (.iconst (1), 1) := by decide +kernel
theorem d_Mo_derived_76 : decode b_Mo_derived 76 = .ok (.iload_n 2, 1) := by decide +kernel
theorem d_Mo_derived_77 : decode b_Mo_derived 77 = .ok (.iload 5, 2) := by decide +kernel
theorem d_Mo_derived_79 : decode b_Mo_derived 79 = .ok (.iadd, 1) := by decide +kernel
theorem d_Mo_derived_80 : decode b_Mo_derived 80 = .ok (.iconst (1), 1) := by decide +kernel
theorem d_Mo_derived_81 : decode b_Mo_derived 81 = .ok (.iadd, 1) := by decide +kernel
theorem d_Mo_derived_82 : decode b_Mo_derived 82 = .ok (.iload 6, 2) := by decide +kernel
theorem d_Mo_derived_84 : decode b_Mo_derived 84 = .ok (.iconst (1), 1) := by decide +kernel
theorem d_Mo_derived_85 : decode b_Mo_derived 85 = .ok (.if_icmp .ne (7), 3) := by decide +kernel
theorem d_Mo_derived_88 : decode b_Mo_derived 88 = .ok (.iconst (1), 1) := by decide +kernel
theorem d_Mo_derived_89 : decode b_Mo_derived 89 = .ok (.goto (4), 3) := by decide +kernel
theorem d_Mo_derived_92 : decode b_Mo_derived 92 = .ok (.iconst (0), 1) := by decide +kernel
theorem d_Mo_derived_93 : decode b_Mo_derived 93 = .ok (.invokevirtual 131, 3) := by decide +kernel
theorem d_Mo_derived_96 : decode b_Mo_derived 96 = .ok (.goto (208), 3) := by decide +kernel
theorem d_Mo_derived_99 : decode b_Mo_derived 99 = .ok (.iload 6, 2) := by decide +kernel
theorem d_Mo_derived_101 : decode b_Mo_derived 101 = .ok (.invokestatic 96, 3) := by decide +kernel
theorem d_Mo_derived_104 : decode b_Mo_derived 104 = .ok (.bipush (6), 2) := by decide +kernel
theorem d_Mo_derived_106 : decode b_Mo_derived 106 = .ok (.if_icmp .ne (77), 3) := by decide +kernel
theorem d_Mo_derived_109 : decode b_Mo_derived 109 = .ok (.aload_n 0, 1) := by decide +kernel
theorem d_Mo_derived_110 : decode b_Mo_derived 110 = .ok (.dup, 1) := by decide +kernel
theorem d_Mo_derived_111 : decode b_Mo_derived 111 = .ok (.getfield 128, 3) := by decide +kernel
theorem d_Mo_derived_114 : decode b_Mo_derived 114 = .ok (.iconst (1), 1) := by decide +kernel
theorem d_Mo_derived_115 : decode b_Mo_derived 115 = .ok (.isub, 1) := by decide +kernel
theorem d_Mo_derived_116 : decode b_Mo_derived 116 = .ok (.putfield 128, 3) := by decide +kernel
theorem d_Mo_derived_119 : decode b_Mo_derived 119 = .ok (.aload_n 0, 1) := by decide +kernel
theorem d_Mo_derived_120 : decode b_Mo_derived 120 = .ok (.aload_n 0, 1) := by decide +kernel
theorem d_Mo_derived_121 : decode b_Mo_derived 121 = .ok (.getfield 23, 3) := by decide +kernel
theorem d_Mo_derived_124 : decode b_Mo_derived 124 = .ok (.aload_n 0, 1) := by decide +kernel
theorem d_Mo_derived_125 : decode b_Mo_derived 125 = .ok (.getfield 128, 3) := by decide +kernel
theorem d_Mo_derived_128 : decode b_Mo_derived 128 = .ok (.iaload, 1) := by decide +kernel
theorem d_Mo_derived_129 : decode b_Mo_derived 129 = .ok (.aload_n 0, 1) := by decide +kernel
theorem d_Mo_derived_130 : decode b_Mo_derived 130 = .ok (.aload_n 0, 1) := by decide +kernel
theorem d_Mo_derived_131 : decode b_Mo_derived 131 = .ok (.getfield 23, 3) := by decide +kernel
theorem d_Mo_derived_134 : decode b_Mo_derived 134 = .ok (.aload_n 0, 1) := by decide +kernel
theorem d_Mo_derived_135 : decode b_Mo_derived 135 = .ok (.getfield 128, 3) := by decide +kernel
theorem d_Mo_derived_138 : decode b_Mo_derived 138 = .ok (.iaload, 1) := by decide +kernel
theorem d_Mo_derived_139 : decode b_Mo_derived 139 = .ok (.aload_n 0, 1) := by decide +kernel
theorem d_Mo_derived_140 : decode b_Mo_derived 140 = .ok (.getfield 26, 3) := by decide +kernel
theorem d_Mo_derived_143 : decode b_Mo_derived 143 = .ok (.aload_n 0, 1) := by decide +kernel
theorem d_Mo_derived_144 : decode b_Mo_derived 144 = .ok (.getfield 128, 3) := by decide +kernel
theorem d_Mo_derived_147 : decode b_Mo_derived 147 = .ok (.iaload, 1) := by decide +kernel
theorem d_Mo_derived_148 : decode b_Mo_derived 148 = .ok (.invokevirtual 135, 3) := by decide +kernel
theorem d_Mo_derived_151 : decode b_Mo_derived 151 = .ok (.aload_n 0, 1) := by decide +kernel
theorem d_Mo_derived_152 : decode b_Mo_derived 152 = .ok (.getfield 29, 3) := by decide +kernel
theorem d_Mo_derived_155 : decode b_Mo_derived 155 = .ok (.aload_n 0, 1) := by decide +kernel
theorem d_Mo_derived_156 : decode b_Mo_derived 156 = .ok (.getfield 128, 3) := by decide +kernel
theorem d_Mo_derived_159 : decode b_Mo_derived 159 = .ok (.iaload, 1) := by decide +kernel
theorem d_Mo_derived_160 : decode b_Mo_derived 160 = .ok (.aload_n 0, 1) := by decide +kernel
theorem d_Mo_derived_161 : decode b_Mo_derived 161 = .ok (.getfield 32, 3) := by decide +kernel
theorem d_Mo_derived_164 : decode b_Mo_derived 164 = .ok (.aload_n 0, 1) := by decide +kernel
theorem d_Mo_derived_165 : decode b_Mo_derived 165 = .ok (.getfield 128, 3) := by decide +kernel
theorem d_Mo_derived_168 : decode b_Mo_derived 168 = .ok (.baload, 1) := by decide +kernel
theorem d_Mo_derived_169 : decode b_Mo_derived 169 = .ok (.ifCond .ne (7), 3) := by decide +kernel
theorem d_Mo_derived_172 : decode b_Mo_derived 172 = .ok (.iconst (1), 1) := by decide +kernel
theorem d_Mo_derived_173 : decode b_Mo_derived 173 = .ok (.goto (4), 3) := by decide +kernel
theorem d_Mo_derived_176 : decode b_Mo_derived 176 = .ok (.iconst (0), 1) := by decide +kernel
theorem d_Mo_derived_177 : decode b_Mo_derived 177 = .ok (.invokevirtual 131, 3) := by decide +kernel
theorem d_Mo_derived_180 : decode b_Mo_derived 180 = .ok (.goto (124), 3) := by decide +kernel
theorem d_Mo_derived_183 : decode b_Mo_derived 183 = .ok (.iload 6, 2) := by decide +kernel
theorem d_Mo_derived_185 : decode b_Mo_derived 185 = .ok (.invokestatic 96, 3) := by decide +kernel
theorem d_Mo_derived_188 : decode b_Mo_derived 188 = .ok (.bipush (7), 2) := by decide +kernel
theorem d_Mo_derived_190 : decode b_Mo_derived 190 = .ok (.if_icmp .ne (84), 3) := by decide +kernel
theorem d_Mo_derived_193 : decode b_Mo_derived 193 = .ok (.aload_n 0, 1) := by decide +kernel
theorem d_Mo_derived_194 : decode b_Mo_derived 194 = .ok (.dup, 1) := by decide +kernel
theorem d_Mo_derived_195 : decode b_Mo_derived 195 = .ok (.getfield 128, 3) := by decide +kernel
theorem d_Mo_derived_198 : decode b_Mo_derived 198 = .ok (.iconst (1), 1) := by decide +kernel
theorem d_Mo_derived_199 : decode b_Mo_derived 199 = .ok (.isub, 1) := by decide +kernel
theorem d_Mo_derived_200 : decode b_Mo_derived 200 = .ok (.putfield 128, 3) := by decide +kernel
theorem d_Mo_derived_203 : decode b_Mo_derived 203 = .ok (.aload_n 0, 1) := by decide +kernel
theorem d_Mo_derived_204 : decode b_Mo_derived 204 = .ok (.aload_n 0, 1) := by decide +kernel
theorem d_Mo_derived_205 : decode b_Mo_derived 205 = .ok (.getfield 23, 3) := by decide +kernel
theorem d_Mo_derived_208 : decode b_Mo_derived 208 = .ok (.aload_n 0, 1) := by decide +kernel
theorem d_Mo_derived_209 : decode b_Mo_derived 209 = .ok (.getfield 128, 3) := by decide +kernel
theorem d_Mo_derived_212 : decode b_Mo_derived 212 = .ok (.iaload, 1) := by decide +kernel
theorem d_Mo_derived_213 : decode b_Mo_derived 213 = .ok (.aload_n 0, 1) := by decide +kernel
theorem d_Mo_derived_214 : decode b_Mo_derived 214 = .ok (.aload_n 0, 1) := by decide +kernel
theorem d_Mo_derived_215 : decode b_Mo_derived 215 = .ok (.getfield 17, 3) := by decide +kernel
theorem d_Mo_derived_218 : decode b_Mo_derived 218 = .ok (.aload_n 0, 1) := by decide +kernel
theorem d_Mo_derived_219 : decode b_Mo_derived 219 = .ok (.getfield 23, 3) := by decide +kernel
theorem d_Mo_derived_222 : decode b_Mo_derived 222 = .ok (.aload_n 0, 1) := by decide +kernel
theorem d_Mo_derived_223 : decode b_Mo_derived 223 = .ok (.getfield 128, 3) := by decide +kernel
theorem d_Mo_derived_226 : decode b_Mo_derived 226 = .ok (.iaload, 1) := by decide +kernel
theorem d_Mo_derived_227 : decode b_Mo_derived 227 = .ok (.aload_n 0, 1) := by decide +kernel
theorem d_Mo_derived_228 : decode b_Mo_derived 228 = .ok (.getfield 26, 3) := by decide +kernel
theorem d_Mo_derived_231 : decode b_Mo_derived 231 = .ok (.aload_n 0, 1) := by decide +kernel
theorem d_Mo_derived_232 : decode b_Mo_derived 232 = .ok (.getfield 128, 3) := by decide +kernel
theorem d_Mo_derived_235 : decode b_Mo_derived 235 = .ok (.iaload, 1) := by decide +kernel
theorem d_Mo_derived_236 : decode b_Mo_derived 236 = .ok (.aload_n 1, 1) := by decide +kernel
theorem d_Mo_derived_237 : decode b_Mo_derived 237 = .ok (.iload_n 2, 1) := by decide +kernel
theorem d_Mo_derived_238 : decode b_Mo_derived 238 = .ok (.iload 5, 2) := by decide +kernel
theorem d_Mo_derived_240 : decode b_Mo_derived 240 = .ok (.iadd, 1) := by decide +kernel
theorem d_Mo_derived_241 : decode b_Mo_derived 241 = .ok (.aload_n 0, 1) := by decide +kernel
theorem d_Mo_derived_242 : decode b_Mo_derived 242 = .ok (.getfield 29, 3) := by decide +kernel
theorem d_Mo_derived_245 : decode b_Mo_derived 245 = .ok (.aload_n 0, 1) := by decide +kernel
theorem d_Mo_derived_246 : decode b_Mo_derived 246 = .ok (.getfield 128, 3) := by decide +kernel
theorem d_Mo_derived_249 : decode b_Mo_derived 249 = .ok (.iaload, 1) := by decide +kernel
theorem d_Mo_derived_250 : decode b_Mo_derived 250 = .ok (.iload_n 2, 1) := by decide +kernel
theorem d_Mo_derived_251 : decode b_Mo_derived 251 = .ok (.isub, 1) := by decide +kernel
theorem d_Mo_derived_252 : decode b_Mo_derived 252 = .ok (.iload 5, 2) := by decide +kernel
theorem d_Mo_derived_254 : decode b_Mo_derived 254 = .ok (.isub, 1) := by decide +kernel
theorem d_Mo_derived_255 : decode b_Mo_derived 255 = .ok (.invokevirtual 139, 3) := by decide +kernel
theorem d_Mo_derived_258 : decode b_Mo_derived 258 = .ok (.aload_n 0, 1) := by decide +kernel
theorem d_Mo_derived_259 : decode b_Mo_derived 259 = .ok (.getfield 29, 3) := by decide +kernel
theorem d_Mo_derived_262 : decode b_Mo_derived 262 = .ok (.aload_n 0, 1) := by decide +kernel
theorem d_Mo_derived_263 : decode b_Mo_derived 263 = .ok (.getfield 128, 3) := by decide +kernel
theorem d_Mo_derived_266 : decode b_Mo_derived 266 = .ok (.iaload, 1) := by decide +kernel
theorem d_Mo_derived_267 : decode b_Mo_derived 267 = .ok (.iconst (1), 1) := by decide +kernel
theorem d_Mo_derived_268 : decode b_Mo_derived 268 = .ok (.invokevirtual 131, 3) := by decide +kernel
theorem d_Mo_derived_271 : decode b_Mo_derived 271 = .ok (.goto (33), 3) := by decide +kernel
theorem d_Mo_derived_274 : decode b_Mo_derived 274 = .ok (.iload 6, 2) := by decide +kernel
theorem d_Mo_derived_276 : decode b_Mo_derived 276 = .ok (.invokestatic 96, 3) := by decide +kernel
theorem d_Mo_derived_279 : decode b_Mo_derived 279 = .ok (.iconst (3), 1) := by decide +kernel
theorem d_Mo_derived_280 : decode b_Mo_derived 280 = .ok (.if_icmp .ne (11), 3) := by decide +kernel
theorem d_Mo_derived_283 : decode b_Mo_derived 283 = .ok (.aload_n 0, 1) := by decide +kernel
theorem d_Mo_derived_284 : decode b_Mo_derived 284 = .ok (.aload_n 1, 1) := by decide +kernel
theorem d_Mo_derived_285 : decode b_Mo_derived 285 = .ok (.invokevirtual 143, 3) := by decide +kernel
theorem d_Mo_derived_288 : decode b_Mo_derived 288 = .ok (.goto (16), 3) := by decide +kernel
theorem d_Mo_derived_291 : decode b_Mo_derived 291 = .ok (.aload_n 0, 1) := by decide +kernel
theorem d_Mo_derived_292 : decode b_Mo_derived 292 = .ok (.iload 6, 2) := by decide +kernel
theorem d_Mo_derived_294 : decode b_Mo_derived 294 = .ok (.invokestatic 96, 3) := by decide +kernel
theorem d_Mo_derived_297 : decode b_Mo_derived 297 = .ok (.iload 6, 2) := by decide +kernel
theorem d_Mo_derived_299 : decode b_Mo_derived 299 = .ok (.iconst (3), 1) := by decide +kernel
theorem d_Mo_derived_300 : decode b_Mo_derived 300 = .ok (.ishr, 1) := by decide +kernel
theorem d_Mo_derived_301 : decode b_Mo_derived 301 = .ok (.invokevirtual 147, 3) := by decide +kernel
theorem d_Mo_derived_304 : decode b_Mo_derived 304 = .ok (.iinc 5 (-1), 3) := by decide +kernel
theorem d_Mo_derived_307 : decode b_Mo_derived 307 = .ok (.goto (-292), 3) := by decide +kernel
theorem d_Mo_derived_310 : decode b_Mo_derived 310 = .ok (.aload_n 0, 1) := by decide +kernel
theorem d_Mo_derived_311 : decode b_Mo_derived 311 = .ok (.getfield 26, 3) := by decide +kernel
theorem d_Mo_derived_314 : decode b_Mo_derived 314 = .ok (.iconst (0), 1) := by decide +kernel
theorem d_Mo_derived_315 : decode b_Mo_derived 315 = .ok (.iaload, 1) := by decide +kernel
theorem d_Mo_derived_316 : decode b_Mo_derived 316 = .ok (.ireturn, 1) := by decide +kernel
section
variable {p : Program} {l : Launch} {e : Env} {R : Room} {s : State} {m : MethodId} {args : Array Value} {below : List Frame} {meth : Method} {c : Code} {D : va_G} {base : Nat} {g : Nat → ClassId} {az : Nat → Nat} {kz : Nat × Nat}
set_option maxRecDepth 100000 in
set_option maxHeartbeats 4000000 in
theorem t_Mo_derived_310  (B : xB p R s m args meth c b_Mo_derived 7 R_Mo (Cond.code y_Mo_derived b_Mo_derived 7 (some .int) :: x_T) (some .int) 5 121 D x_cl (xty g) base)   (M : MS)  : Sn p l e R s m args below meth c 7 D x_cl base (xwd g) cM x_g0 az kz (xfc cM) (xZ below args s D x_cl (xty g) base (xwd g) cM x_g0 az kz ovI) 310 [] [(0, .ref 97)] M (m_Mo_derived_310 M) := by
  unfold m_Mo_derived_310
  refine s_aload_n B d_Mo_derived_310 rfl ?_
  refine s_getS (k := 6) (n := 103) B xc_Mo kd_97 (by decide) rfl rfl fl_Mo_26 sr_97_6 d_Mo_derived_311 ?_
  refine s_iconst (v := (0:Int32)) B d_Mo_derived_314 (by decide) ?_
  refine s_iald B (Or.inl kd_103) d_Mo_derived_315 (fun v1 _ => ?_)
  exact s_iret B d_Mo_derived_316
set_option maxRecDepth 100000 in
set_option maxHeartbeats 4000000 in
theorem t_Mo_derived_177 {k15 : Nat × Int32 × Int32 × Int32 × MS → Option (MS × Int32)} (B : xB p R s m args meth c b_Mo_derived 7 R_Mo (Cond.code y_Mo_derived b_Mo_derived 7 (some .int) :: x_T) (some .int) 5 121 D x_cl (xty g) base) (hk15 : ∀ (l1 : Nat) (l2 : Int32) (l4 : Int32) (l5 : Int32) (M : MS) (hl1 : x_kd l1 = 20), Sn p l e R s m args below meth c 7 D x_cl base (xwd g) cM x_g0 az kz (xfc cM) (xZ below args s D x_cl (xty g) base (xwd g) cM x_g0 az kz ovI) 15 [] [(0, .ref 97), (1, .ref l1), (2, .int l2), (4, .int l4), (5, .int l5)] M (k15 (l1, l2, l4, l5, M))) (l1 : Nat) (l2 : Int32) (l4 : Int32) (l5 : Int32) (s1 : Int32) (s2 : Int32) (s3 : Int32) (s4 : Int32) (M : MS) (hl1 : x_kd l1 = 20) : Sn p l e R s m args below meth c 7 D x_cl base (xwd g) cM x_g0 az kz (xfc cM) (xZ below args s D x_cl (xty g) base (xwd g) cM x_g0 az kz ovI) 177 [.int s4, .int s3, .int s2, .int s1, .ref 97] [(0, .ref 97), (1, .ref l1), (2, .int l2), (4, .int l4), (5, .int l5)] M (m_Mo_derived_177 k15 l1 l2 l4 l5 s1 s2 s3 s4 M) := by
  unfold m_Mo_derived_177
  refine s_pick (lv1 := [(0, .ref 97), (1, .ref l1), (2, .int l2), (4, .int l4), (5, .int l5)]) [0, 1, 2, 4, 5] rfl ?_
  refine s_callU (av := [.ref 97, .int s1, .int s2, .int s3, .int s4]) (rest := []) B (lk_V B d_Mo_derived_177 (gl_Mo_131 _) rfl hv_Mo_place (by decide) (by decide)) rfl (x_rcV B xc_Mo kd_97) (fun _ _ => rfl) rfl rfl (by simp [Value.category]) rfl (fun r1 e9 => ct_Mo_place _ _ _ _ _ r1 e9) (fun r1 _ => ?_)
  refine s_goto B d_Mo_derived_180 rfl ?_
  refine s_iinc (w := (-1:Int32)) B d_Mo_derived_304 rfl (by decide) (by decide) ?_
  refine s_goto B d_Mo_derived_307 rfl ?_
  refine s_pick (lv1 := [(0, .ref 97), (1, .ref l1), (2, .int l2), (4, .int l4), (5, .int (l5 + (-1:Int32)))]) [0, 1, 2, 4, 5] rfl ?_
  exact hk15 l1 l2 l4 (l5 + (-1:Int32)) r1.1 hl1
set_option maxRecDepth 100000 in
set_option maxHeartbeats 4000000 in
theorem t_Mo_derived_93 {k15 : Nat × Int32 × Int32 × Int32 × MS → Option (MS × Int32)} (B : xB p R s m args meth c b_Mo_derived 7 R_Mo (Cond.code y_Mo_derived b_Mo_derived 7 (some .int) :: x_T) (some .int) 5 121 D x_cl (xty g) base) (hk15 : ∀ (l1 : Nat) (l2 : Int32) (l4 : Int32) (l5 : Int32) (M : MS) (hl1 : x_kd l1 = 20), Sn p l e R s m args below meth c 7 D x_cl base (xwd g) cM x_g0 az kz (xfc cM) (xZ below args s D x_cl (xty g) base (xwd g) cM x_g0 az kz ovI) 15 [] [(0, .ref 97), (1, .ref l1), (2, .int l2), (4, .int l4), (5, .int l5)] M (k15 (l1, l2, l4, l5, M))) (l1 : Nat) (l2 : Int32) (l4 : Int32) (l5 : Int32) (s1 : Int32) (s2 : Int32) (s3 : Int32) (s4 : Int32) (M : MS) (hl1 : x_kd l1 = 20) : Sn p l e R s m args below meth c 7 D x_cl base (xwd g) cM x_g0 az kz (xfc cM) (xZ below args s D x_cl (xty g) base (xwd g) cM x_g0 az kz ovI) 93 [.int s4, .int s3, .int s2, .int s1, .ref 97] [(0, .ref 97), (1, .ref l1), (2, .int l2), (4, .int l4), (5, .int l5)] M (m_Mo_derived_93 k15 l1 l2 l4 l5 s1 s2 s3 s4 M) := by
  unfold m_Mo_derived_93
  refine s_pick (lv1 := [(0, .ref 97), (1, .ref l1), (2, .int l2), (4, .int l4), (5, .int l5)]) [0, 1, 2, 4, 5] rfl ?_
  refine s_callU (av := [.ref 97, .int s1, .int s2, .int s3, .int s4]) (rest := []) B (lk_V B d_Mo_derived_93 (gl_Mo_131 _) rfl hv_Mo_place (by decide) (by decide)) rfl (x_rcV B xc_Mo kd_97) (fun _ _ => rfl) rfl rfl (by simp [Value.category]) rfl (fun r1 e9 => ct_Mo_place _ _ _ _ _ r1 e9) (fun r1 _ => ?_)
  refine s_goto B d_Mo_derived_96 rfl ?_
  refine s_iinc (w := (-1:Int32)) B d_Mo_derived_304 rfl (by decide) (by decide) ?_
  refine s_goto B d_Mo_derived_307 rfl ?_
  refine s_pick (lv1 := [(0, .ref 97), (1, .ref l1), (2, .int l2), (4, .int l4), (5, .int (l5 + (-1:Int32)))]) [0, 1, 2, 4, 5] rfl ?_
  exact hk15 l1 l2 l4 (l5 + (-1:Int32)) r1.1 hl1
set_option maxRecDepth 100000 in
set_option maxHeartbeats 4000000 in
theorem t_Mo_derived_69 {k15 : Nat × Int32 × Int32 × Int32 × MS → Option (MS × Int32)} (B : xB p R s m args meth c b_Mo_derived 7 R_Mo (Cond.code y_Mo_derived b_Mo_derived 7 (some .int) :: x_T) (some .int) 5 121 D x_cl (xty g) base) (hk15 : ∀ (l1 : Nat) (l2 : Int32) (l4 : Int32) (l5 : Int32) (M : MS) (hl1 : x_kd l1 = 20), Sn p l e R s m args below meth c 7 D x_cl base (xwd g) cM x_g0 az kz (xfc cM) (xZ below args s D x_cl (xty g) base (xwd g) cM x_g0 az kz ovI) 15 [] [(0, .ref 97), (1, .ref l1), (2, .int l2), (4, .int l4), (5, .int l5)] M (k15 (l1, l2, l4, l5, M))) (l1 : Nat) (l2 : Int32) (l4 : Int32) (l5 : Int32) (l6 : Int32) (s1 : Int32) (s2 : Int32) (M : MS) (hl1 : x_kd l1 = 20) : Sn p l e R s m args below meth c 7 D x_cl base (xwd g) cM x_g0 az kz (xfc cM) (xZ below args s D x_cl (xty g) base (xwd g) cM x_g0 az kz ovI) 69 [.int s2, .int s1, .ref 101] [(0, .ref 97), (1, .ref l1), (2, .int l2), (4, .int l4), (5, .int l5), (6, .int l6)] M (m_Mo_derived_69 k15 l1 l2 l4 l5 l6 s1 s2 M) := by
  unfold m_Mo_derived_69
  refine s_iast B (Or.inl kd_101) d_Mo_derived_69 (fun M1 _ => ?_)
  refine s_aload_n B d_Mo_derived_70 rfl ?_
  refine s_aload_n B d_Mo_derived_71 rfl ?_
  refine s_getI (k := 10) B xc_Mo kd_97 (by decide) rfl rfl fl_Mo_118 d_Mo_derived_72 ?_
  refine s_iconst (v := (1:Int32)) B d_Mo_derived_75 (by decide) ?_
  refine s_iload_n B d_Mo_derived_76 rfl ?_
  refine s_iload B d_Mo_derived_77 rfl ?_
  refine s_iadd B d_Mo_derived_79 ?_
  refine s_iconst (v := (1:Int32)) B d_Mo_derived_80 (by decide) ?_
  refine s_iadd B d_Mo_derived_81 ?_
  refine s_iload B d_Mo_derived_82 rfl ?_
  refine s_iconst (v := (1:Int32)) B d_Mo_derived_84 (by decide) ?_
  refine s_icmp_ne B d_Mo_derived_85 rfl (fun _ => ?_) (fun _ => ?_)
  · refine s_iconst (v := (0:Int32)) B d_Mo_derived_92 (by decide) ?_
    refine s_pick (lv1 := [(0, .ref 97), (1, .ref l1), (2, .int l2), (4, .int l4), (5, .int l5)]) [0, 1, 2, 4, 5] rfl ?_
    exact t_Mo_derived_93 B hk15 l1 l2 l4 l5 (gI M1 97 10) (1:Int32) ((l2 + l5) + (1:Int32)) (0:Int32) M1 hl1
  · refine s_iconst (v := (1:Int32)) B d_Mo_derived_88 (by decide) ?_
    refine s_goto B d_Mo_derived_89 rfl ?_
    refine s_pick (lv1 := [(0, .ref 97), (1, .ref l1), (2, .int l2), (4, .int l4), (5, .int l5)]) [0, 1, 2, 4, 5] rfl ?_
    exact t_Mo_derived_93 B hk15 l1 l2 l4 l5 (gI M1 97 10) (1:Int32) ((l2 + l5) + (1:Int32)) (1:Int32) M1 hl1
set_option maxRecDepth 100000 in
set_option maxHeartbeats 4000000 in
theorem t_Mo_derived_68 {k15 : Nat × Int32 × Int32 × Int32 × MS → Option (MS × Int32)} (B : xB p R s m args meth c b_Mo_derived 7 R_Mo (Cond.code y_Mo_derived b_Mo_derived 7 (some .int) :: x_T) (some .int) 5 121 D x_cl (xty g) base) (hk15 : ∀ (l1 : Nat) (l2 : Int32) (l4 : Int32) (l5 : Int32) (M : MS) (hl1 : x_kd l1 = 20), Sn p l e R s m args below meth c 7 D x_cl base (xwd g) cM x_g0 az kz (xfc cM) (xZ below args s D x_cl (xty g) base (xwd g) cM x_g0 az kz ovI) 15 [] [(0, .ref 97), (1, .ref l1), (2, .int l2), (4, .int l4), (5, .int l5)] M (k15 (l1, l2, l4, l5, M))) (l1 : Nat) (l2 : Int32) (l4 : Int32) (l5 : Int32) (l6 : Int32) (s1 : Int32) (M : MS) (hl1 : x_kd l1 = 20) : Sn p l e R s m args below meth c 7 D x_cl base (xwd g) cM x_g0 az kz (xfc cM) (xZ below args s D x_cl (xty g) base (xwd g) cM x_g0 az kz ovI) 68 [.int s1, .ref 101] [(0, .ref 97), (1, .ref l1), (2, .int l2), (4, .int l4), (5, .int l5), (6, .int l6)] M (m_Mo_derived_68 k15 l1 l2 l4 l5 l6 s1 M) := by
  unfold m_Mo_derived_68
  refine s_iconst (v := (0:Int32)) B d_Mo_derived_68 (by decide) ?_
  refine s_pick (lv1 := [(0, .ref 97), (1, .ref l1), (2, .int l2), (4, .int l4), (5, .int l5), (6, .int l6)]) [0, 1, 2, 4, 5, 6] rfl ?_
  exact t_Mo_derived_69 B hk15 l1 l2 l4 l5 l6 s1 (0:Int32) M hl1
set_option maxRecDepth 100000 in
set_option maxHeartbeats 4000000 in
theorem t_Mo_derived_15b {k15 : Nat × Int32 × Int32 × Int32 × MS → Option (MS × Int32)} (B : xB p R s m args meth c b_Mo_derived 7 R_Mo (Cond.code y_Mo_derived b_Mo_derived 7 (some .int) :: x_T) (some .int) 5 121 D x_cl (xty g) base) (hk15 : ∀ (l1 : Nat) (l2 : Int32) (l4 : Int32) (l5 : Int32) (M : MS) (hl1 : x_kd l1 = 20), Sn p l e R s m args below meth c 7 D x_cl base (xwd g) cM x_g0 az kz (xfc cM) (xZ below args s D x_cl (xty g) base (xwd g) cM x_g0 az kz ovI) 15 [] [(0, .ref 97), (1, .ref l1), (2, .int l2), (4, .int l4), (5, .int l5)] M (k15 (l1, l2, l4, l5, M))) (l1 : Nat) (l2 : Int32) (l4 : Int32) (l5 : Int32) (M : MS) (hl1 : x_kd l1 = 20) : Sn p l e R s m args below meth c 7 D x_cl base (xwd g) cM x_g0 az kz (xfc cM) (xZ below args s D x_cl (xty g) base (xwd g) cM x_g0 az kz ovI) 15 [] [(0, .ref 97), (1, .ref l1), (2, .int l2), (4, .int l4), (5, .int l5)] M (m_Mo_derived_15b k15 l1 l2 l4 l5 M) := by
  unfold m_Mo_derived_15b
  refine s_iload B d_Mo_derived_15 rfl ?_
  refine s_if_lt B d_Mo_derived_17 rfl (fun _ => ?_) (fun _ => ?_)
  · refine s_pick (lv1 := [(0, .ref 97)]) [0] rfl ?_
    exact t_Mo_derived_310 B M
  · refine s_aload_n B d_Mo_derived_20 rfl ?_
    refine s_iload_n B d_Mo_derived_21 rfl ?_
    refine s_iload B d_Mo_derived_22 rfl ?_
    refine s_iadd B d_Mo_derived_24 ?_
    refine s_iald B (Or.inl hl1) d_Mo_derived_25 (fun v1 _ => ?_)
    refine s_istore B d_Mo_derived_26 (by decide) ?_
    refine s_iload B d_Mo_derived_28 rfl ?_
    refine s_pick (lv1 := [(0, .ref 97), (1, .ref l1), (2, .int l2), (4, .int l4), (5, .int l5), (6, .int v1)]) [0, 1, 2, 4, 5, 6] rfl ?_
    refine s_callI (av := [.int v1]) (rest := []) B (lk_S B d_Mo_derived_30 (gl_Mo_96 _) (List.mem_cons_of_mem _ st_Mo_sort) (List.mem_cons_of_mem _ in_Mo) (List.mem_cons_of_mem _ ml_Mo_96) rfl hs_Mo_sort (by decide) (by decide)) rfl x_rcS (fun _ _ => rfl) rfl rfl (by simp [Value.category]) rfl (fun r2 e9 => ct_Mo_sort _ _ r2 e9) (fun r2 _ => ?_)
    refine s_iconst (v := (3:Int32)) B d_Mo_derived_33 (by decide) ?_
    refine s_icmp_ge B d_Mo_derived_34 rfl (fun _ => ?_) (fun _ => ?_)
    · refine s_iload B d_Mo_derived_99 rfl ?_
      refine s_pick (lv1 := [(0, .ref 97), (1, .ref l1), (2, .int l2), (4, .int l4), (5, .int l5), (6, .int v1)]) [0, 1, 2, 4, 5, 6] rfl ?_
      refine s_callI (av := [.int v1]) (rest := []) B (lk_S B d_Mo_derived_101 (gl_Mo_96 _) (List.mem_cons_of_mem _ st_Mo_sort) (List.mem_cons_of_mem _ in_Mo) (List.mem_cons_of_mem _ ml_Mo_96) rfl hs_Mo_sort (by decide) (by decide)) rfl x_rcS (fun _ _ => rfl) rfl rfl (by simp [Value.category]) rfl (fun r3 e9 => ct_Mo_sort _ _ r3 e9) (fun r3 _ => ?_)
      refine s_bipush (v := (6:Int32)) B d_Mo_derived_104 (by decide) ?_
      refine s_icmp_ne B d_Mo_derived_106 rfl (fun _ => ?_) (fun _ => ?_)
      · refine s_iload B d_Mo_derived_183 rfl ?_
        refine s_pick (lv1 := [(0, .ref 97), (1, .ref l1), (2, .int l2), (4, .int l4), (5, .int l5), (6, .int v1)]) [0, 1, 2, 4, 5, 6] rfl ?_
        refine s_callI (av := [.int v1]) (rest := []) B (lk_S B d_Mo_derived_185 (gl_Mo_96 _) (List.mem_cons_of_mem _ st_Mo_sort) (List.mem_cons_of_mem _ in_Mo) (List.mem_cons_of_mem _ ml_Mo_96) rfl hs_Mo_sort (by decide) (by decide)) rfl x_rcS (fun _ _ => rfl) rfl rfl (by simp [Value.category]) rfl (fun r4 e9 => ct_Mo_sort _ _ r4 e9) (fun r4 _ => ?_)
        refine s_bipush (v := (7:Int32)) B d_Mo_derived_188 (by decide) ?_
        refine s_icmp_ne B d_Mo_derived_190 rfl (fun _ => ?_) (fun _ => ?_)
        · refine s_iload B d_Mo_derived_274 rfl ?_
          refine s_pick (lv1 := [(0, .ref 97), (1, .ref l1), (2, .int l2), (4, .int l4), (5, .int l5), (6, .int v1)]) [0, 1, 2, 4, 5, 6] rfl ?_
          refine s_callI (av := [.int v1]) (rest := []) B (lk_S B d_Mo_derived_276 (gl_Mo_96 _) (List.mem_cons_of_mem _ st_Mo_sort) (List.mem_cons_of_mem _ in_Mo) (List.mem_cons_of_mem _ ml_Mo_96) rfl hs_Mo_sort (by decide) (by decide)) rfl x_rcS (fun _ _ => rfl) rfl rfl (by simp [Value.category]) rfl (fun r5 e9 => ct_Mo_sort _ _ r5 e9) (fun r5 _ => ?_)
          refine s_iconst (v := (3:Int32)) B d_Mo_derived_279 (by decide) ?_
          refine s_icmp_ne B d_Mo_derived_280 rfl (fun _ => ?_) (fun _ => ?_)
          · refine s_aload_n B d_Mo_derived_291 rfl ?_
            refine s_iload B d_Mo_derived_292 rfl ?_
            refine s_pick (lv1 := [(0, .ref 97), (1, .ref l1), (2, .int l2), (4, .int l4), (5, .int l5), (6, .int v1)]) [0, 1, 2, 4, 5, 6] rfl ?_
            refine s_callI (av := [.int v1]) (rest := [.ref 97]) B (lk_S B d_Mo_derived_294 (gl_Mo_96 _) (List.mem_cons_of_mem _ st_Mo_sort) (List.mem_cons_of_mem _ in_Mo) (List.mem_cons_of_mem _ ml_Mo_96) rfl hs_Mo_sort (by decide) (by decide)) rfl x_rcS (fun _ _ => rfl) rfl rfl (by simp [Value.category]) rfl (fun r6 e9 => ct_Mo_sort _ _ r6 e9) (fun r6 _ => ?_)
            refine s_iload B d_Mo_derived_297 rfl ?_
            refine s_iconst (v := (3:Int32)) B d_Mo_derived_299 (by decide) ?_
            refine s_ishr B d_Mo_derived_300 ?_
            refine s_pick (lv1 := [(0, .ref 97), (1, .ref l1), (2, .int l2), (4, .int l4), (5, .int l5)]) [0, 1, 2, 4, 5] rfl ?_
            refine s_callU (av := [.ref 97, .int r6.2, .int (v1 >>> ((3:Int32) &&& 31))]) (rest := []) B (lk_V B d_Mo_derived_301 (gl_Mo_147 _) rfl hv_Mo_several (by decide) (by decide)) rfl (x_rcV B xc_Mo kd_97) (fun _ _ => rfl) rfl rfl (by simp [Value.category]) rfl (fun r7 e9 => ct_Mo_several _ _ _ r7 e9) (fun r7 _ => ?_)
            refine s_iinc (w := (-1:Int32)) B d_Mo_derived_304 rfl (by decide) (by decide) ?_
            refine s_goto B d_Mo_derived_307 rfl ?_
            refine s_pick (lv1 := [(0, .ref 97), (1, .ref l1), (2, .int l2), (4, .int l4), (5, .int (l5 + (-1:Int32)))]) [0, 1, 2, 4, 5] rfl ?_
            exact hk15 l1 l2 l4 (l5 + (-1:Int32)) r7.1 hl1
          · refine s_aload_n B d_Mo_derived_283 rfl ?_
            refine s_aload_n B d_Mo_derived_284 rfl ?_
            refine s_pick (lv1 := [(0, .ref 97), (1, .ref l1), (2, .int l2), (4, .int l4), (5, .int l5)]) [0, 1, 2, 4, 5] rfl ?_
            refine s_callU (av := [.ref 97, .ref l1]) (rest := []) B (lk_V B d_Mo_derived_285 (gl_Mo_143 _) rfl hv_Mo_both (by decide) (by decide)) rfl (x_rcV B xc_Mo kd_97) (fun _ _ => rfl) rfl rfl (by simp [Value.category]) rfl (fun r8 e9 => ct_Mo_both _ _ r8 e9) (fun r8 _ => ?_)
            refine s_goto B d_Mo_derived_288 rfl ?_
            refine s_iinc (w := (-1:Int32)) B d_Mo_derived_304 rfl (by decide) (by decide) ?_
            refine s_goto B d_Mo_derived_307 rfl ?_
            refine s_pick (lv1 := [(0, .ref 97), (1, .ref l1), (2, .int l2), (4, .int l4), (5, .int (l5 + (-1:Int32)))]) [0, 1, 2, 4, 5] rfl ?_
            exact hk15 l1 l2 l4 (l5 + (-1:Int32)) r8.1 hl1
        · refine s_aload_n B d_Mo_derived_193 rfl ?_
          refine s_dup B d_Mo_derived_194 rfl ?_
          refine s_getI (k := 9) B xc_Mo kd_97 (by decide) rfl rfl fl_Mo_128 d_Mo_derived_195 ?_
          refine s_iconst (v := (1:Int32)) B d_Mo_derived_198 (by decide) ?_
          refine s_isub B d_Mo_derived_199 ?_
          refine s_putI (k := 9) (ty := .int) B xc_Mo kd_97 (by decide) rfl rfl fl_Mo_128 rfl rfl rfl rfl d_Mo_derived_200 (fun M9 _ => ?_)
          refine s_aload_n B d_Mo_derived_203 rfl ?_
          refine s_aload_n B d_Mo_derived_204 rfl ?_
          refine s_getS (k := 5) (n := 102) B xc_Mo kd_97 (by decide) rfl rfl fl_Mo_23 sr_97_5 d_Mo_derived_205 ?_
          refine s_aload_n B d_Mo_derived_208 rfl ?_
          refine s_getI (k := 9) B xc_Mo kd_97 (by decide) rfl rfl fl_Mo_128 d_Mo_derived_209 ?_
          refine s_iald B (Or.inl kd_102) d_Mo_derived_212 (fun v10 _ => ?_)
          refine s_aload_n B d_Mo_derived_213 rfl ?_
          refine s_aload_n B d_Mo_derived_214 rfl ?_
          refine s_getS (k := 3) (n := 100) B xc_Mo kd_97 (by decide) rfl rfl fl_Mo_17 sr_97_3 d_Mo_derived_215 ?_
          refine s_aload_n B d_Mo_derived_218 rfl ?_
          refine s_getS (k := 5) (n := 102) B xc_Mo kd_97 (by decide) rfl rfl fl_Mo_23 sr_97_5 d_Mo_derived_219 ?_
          refine s_aload_n B d_Mo_derived_222 rfl ?_
          refine s_getI (k := 9) B xc_Mo kd_97 (by decide) rfl rfl fl_Mo_128 d_Mo_derived_223 ?_
          refine s_iald B (Or.inl kd_102) d_Mo_derived_226 (fun v11 _ => ?_)
          refine s_aload_n B d_Mo_derived_227 rfl ?_
          refine s_getS (k := 6) (n := 103) B xc_Mo kd_97 (by decide) rfl rfl fl_Mo_26 sr_97_6 d_Mo_derived_228 ?_
          refine s_aload_n B d_Mo_derived_231 rfl ?_
          refine s_getI (k := 9) B xc_Mo kd_97 (by decide) rfl rfl fl_Mo_128 d_Mo_derived_232 ?_
          refine s_iald B (Or.inl kd_103) d_Mo_derived_235 (fun v12 _ => ?_)
          refine s_aload_n B d_Mo_derived_236 rfl ?_
          refine s_iload_n B d_Mo_derived_237 rfl ?_
          refine s_iload B d_Mo_derived_238 rfl ?_
          refine s_iadd B d_Mo_derived_240 ?_
          refine s_aload_n B d_Mo_derived_241 rfl ?_
          refine s_getS (k := 7) (n := 104) B xc_Mo kd_97 (by decide) rfl rfl fl_Mo_29 sr_97_7 d_Mo_derived_242 ?_
          refine s_aload_n B d_Mo_derived_245 rfl ?_
          refine s_getI (k := 9) B xc_Mo kd_97 (by decide) rfl rfl fl_Mo_128 d_Mo_derived_246 ?_
          refine s_iald B (Or.inl kd_104) d_Mo_derived_249 (fun v13 _ => ?_)
          refine s_iload_n B d_Mo_derived_250 rfl ?_
          refine s_isub B d_Mo_derived_251 ?_
          refine s_iload B d_Mo_derived_252 rfl ?_
          refine s_isub B d_Mo_derived_254 ?_
          refine s_pick (lv1 := [(0, .ref 97), (1, .ref l1), (2, .int l2), (4, .int l4), (5, .int l5)]) [0, 1, 2, 4, 5] rfl ?_
          refine s_callI (av := [.ref 97, .ref 100, .int v11, .int v12, .ref l1, .int (l2 + l5), .int ((v13 - l2) - l5)]) (rest := [.int v10, .ref 97]) B (lk_V B d_Mo_derived_255 (gl_Mo_139 _) rfl hv_Mo_cat (by decide) (by decide)) rfl (x_rcV B xc_Mo kd_97) (fun _ _ => rfl) rfl rfl (by simp [Value.category]) rfl (fun r14 e9 => ct_Mo_cat _ _ _ _ _ _ _ r14 e9) (fun r14 _ => ?_)
          refine s_aload_n B d_Mo_derived_258 rfl ?_
          refine s_getS (k := 7) (n := 104) B xc_Mo kd_97 (by decide) rfl rfl fl_Mo_29 sr_97_7 d_Mo_derived_259 ?_
          refine s_aload_n B d_Mo_derived_262 rfl ?_
          refine s_getI (k := 9) B xc_Mo kd_97 (by decide) rfl rfl fl_Mo_128 d_Mo_derived_263 ?_
          refine s_iald B (Or.inl kd_104) d_Mo_derived_266 (fun v15 _ => ?_)
          refine s_iconst (v := (1:Int32)) B d_Mo_derived_267 (by decide) ?_
          refine s_pick (lv1 := [(0, .ref 97), (1, .ref l1), (2, .int l2), (4, .int l4), (5, .int l5)]) [0, 1, 2, 4, 5] rfl ?_
          refine s_callU (av := [.ref 97, .int v10, .int r14.2, .int v15, .int (1:Int32)]) (rest := []) B (lk_V B d_Mo_derived_268 (gl_Mo_131 _) rfl hv_Mo_place (by decide) (by decide)) rfl (x_rcV B xc_Mo kd_97) (fun _ _ => rfl) rfl rfl (by simp [Value.category]) rfl (fun r16 e9 => ct_Mo_place _ _ _ _ _ r16 e9) (fun r16 _ => ?_)
          refine s_goto B d_Mo_derived_271 rfl ?_
          refine s_iinc (w := (-1:Int32)) B d_Mo_derived_304 rfl (by decide) (by decide) ?_
          refine s_goto B d_Mo_derived_307 rfl ?_
          refine s_pick (lv1 := [(0, .ref 97), (1, .ref l1), (2, .int l2), (4, .int l4), (5, .int (l5 + (-1:Int32)))]) [0, 1, 2, 4, 5] rfl ?_
          exact hk15 l1 l2 l4 (l5 + (-1:Int32)) r16.1 hl1
      · refine s_aload_n B d_Mo_derived_109 rfl ?_
        refine s_dup B d_Mo_derived_110 rfl ?_
        refine s_getI (k := 9) B xc_Mo kd_97 (by decide) rfl rfl fl_Mo_128 d_Mo_derived_111 ?_
        refine s_iconst (v := (1:Int32)) B d_Mo_derived_114 (by decide) ?_
        refine s_isub B d_Mo_derived_115 ?_
        refine s_putI (k := 9) (ty := .int) B xc_Mo kd_97 (by decide) rfl rfl fl_Mo_128 rfl rfl rfl rfl d_Mo_derived_116 (fun M17 _ => ?_)
        refine s_aload_n B d_Mo_derived_119 rfl ?_
        refine s_aload_n B d_Mo_derived_120 rfl ?_
        refine s_getS (k := 5) (n := 102) B xc_Mo kd_97 (by decide) rfl rfl fl_Mo_23 sr_97_5 d_Mo_derived_121 ?_
        refine s_aload_n B d_Mo_derived_124 rfl ?_
        refine s_getI (k := 9) B xc_Mo kd_97 (by decide) rfl rfl fl_Mo_128 d_Mo_derived_125 ?_
        refine s_iald B (Or.inl kd_102) d_Mo_derived_128 (fun v18 _ => ?_)
        refine s_aload_n B d_Mo_derived_129 rfl ?_
        refine s_aload_n B d_Mo_derived_130 rfl ?_
        refine s_getS (k := 5) (n := 102) B xc_Mo kd_97 (by decide) rfl rfl fl_Mo_23 sr_97_5 d_Mo_derived_131 ?_
        refine s_aload_n B d_Mo_derived_134 rfl ?_
        refine s_getI (k := 9) B xc_Mo kd_97 (by decide) rfl rfl fl_Mo_128 d_Mo_derived_135 ?_
        refine s_iald B (Or.inl kd_102) d_Mo_derived_138 (fun v19 _ => ?_)
        refine s_aload_n B d_Mo_derived_139 rfl ?_
        refine s_getS (k := 6) (n := 103) B xc_Mo kd_97 (by decide) rfl rfl fl_Mo_26 sr_97_6 d_Mo_derived_140 ?_
        refine s_aload_n B d_Mo_derived_143 rfl ?_
        refine s_getI (k := 9) B xc_Mo kd_97 (by decide) rfl rfl fl_Mo_128 d_Mo_derived_144 ?_
        refine s_iald B (Or.inl kd_103) d_Mo_derived_147 (fun v20 _ => ?_)
        refine s_pick (lv1 := [(0, .ref 97), (1, .ref l1), (2, .int l2), (4, .int l4), (5, .int l5)]) [0, 1, 2, 4, 5] rfl ?_
        refine s_callI (av := [.ref 97, .int v19, .int v20]) (rest := [.int v18, .ref 97]) B (lk_V B d_Mo_derived_148 (gl_Mo_135 _) rfl hv_Mo_not (by decide) (by decide)) rfl (x_rcV B xc_Mo kd_97) (fun _ _ => rfl) rfl rfl (by simp [Value.category]) rfl (fun r21 e9 => ct_Mo_not _ _ _ r21 e9) (fun r21 _ => ?_)
        refine s_aload_n B d_Mo_derived_151 rfl ?_
        refine s_getS (k := 7) (n := 104) B xc_Mo kd_97 (by decide) rfl rfl fl_Mo_29 sr_97_7 d_Mo_derived_152 ?_
        refine s_aload_n B d_Mo_derived_155 rfl ?_
        refine s_getI (k := 9) B xc_Mo kd_97 (by decide) rfl rfl fl_Mo_128 d_Mo_derived_156 ?_
        refine s_iald B (Or.inl kd_104) d_Mo_derived_159 (fun v22 _ => ?_)
        refine s_aload_n B d_Mo_derived_160 rfl ?_
        refine s_getS (k := 8) (n := 105) B xc_Mo kd_97 (by decide) rfl rfl fl_Mo_32 sr_97_8 d_Mo_derived_161 ?_
        refine s_aload_n B d_Mo_derived_164 rfl ?_
        refine s_getI (k := 9) B xc_Mo kd_97 (by decide) rfl rfl fl_Mo_128 d_Mo_derived_165 ?_
        refine s_zald B kd_105 d_Mo_derived_168 (fun v23 _ => ?_)
        refine s_if_ne B d_Mo_derived_169 rfl (fun _ => ?_) (fun _ => ?_)
        · refine s_iconst (v := (0:Int32)) B d_Mo_derived_176 (by decide) ?_
          refine s_pick (lv1 := [(0, .ref 97), (1, .ref l1), (2, .int l2), (4, .int l4), (5, .int l5)]) [0, 1, 2, 4, 5] rfl ?_
          exact t_Mo_derived_177 B hk15 l1 l2 l4 l5 v18 r21.2 v22 (0:Int32) r21.1 hl1
        · refine s_iconst (v := (1:Int32)) B d_Mo_derived_172 (by decide) ?_
          refine s_goto B d_Mo_derived_173 rfl ?_
          refine s_pick (lv1 := [(0, .ref 97), (1, .ref l1), (2, .int l2), (4, .int l4), (5, .int l5)]) [0, 1, 2, 4, 5] rfl ?_
          exact t_Mo_derived_177 B hk15 l1 l2 l4 l5 v18 r21.2 v22 (1:Int32) r21.1 hl1
    · refine s_aload_n B d_Mo_derived_37 rfl ?_
      refine s_getS (k := 4) (n := 101) B xc_Mo kd_97 (by decide) rfl rfl fl_Mo_20 sr_97_4 d_Mo_derived_38 ?_
      refine s_iconst (v := (0:Int32)) B d_Mo_derived_41 (by decide) ?_
      refine s_iload B d_Mo_derived_42 rfl ?_
      refine s_pick (lv1 := [(0, .ref 97), (1, .ref l1), (2, .int l2), (4, .int l4), (5, .int l5), (6, .int v1)]) [0, 1, 2, 4, 5, 6] rfl ?_
      refine s_callI (av := [.int v1]) (rest := [.int (0:Int32), .ref 101]) B (lk_S B d_Mo_derived_44 (gl_Mo_96 _) (List.mem_cons_of_mem _ st_Mo_sort) (List.mem_cons_of_mem _ in_Mo) (List.mem_cons_of_mem _ ml_Mo_96) rfl hs_Mo_sort (by decide) (by decide)) rfl x_rcS (fun _ _ => rfl) rfl rfl (by simp [Value.category]) rfl (fun r24 e9 => ct_Mo_sort _ _ r24 e9) (fun r24 _ => ?_)
      refine s_iconst (v := (2:Int32)) B d_Mo_derived_47 (by decide) ?_
      refine s_icmp_ne B d_Mo_derived_48 rfl (fun _ => ?_) (fun _ => ?_)
      · refine s_pick (lv1 := [(0, .ref 97), (1, .ref l1), (2, .int l2), (4, .int l4), (5, .int l5), (6, .int v1)]) [0, 1, 2, 4, 5, 6] rfl ?_
        exact t_Mo_derived_68 B hk15 l1 l2 l4 l5 v1 (0:Int32) r24.1 hl1
      · refine s_iload B d_Mo_derived_51 rfl ?_
        refine s_iconst (v := (3:Int32)) B d_Mo_derived_53 (by decide) ?_
        refine s_ishr B d_Mo_derived_54 ?_
        refine s_iload B d_Mo_derived_55 rfl ?_
        refine s_ishr B d_Mo_derived_57 ?_
        refine s_iconst (v := (1:Int32)) B d_Mo_derived_58 (by decide) ?_
        refine s_iand B d_Mo_derived_59 ?_
        refine s_iconst (v := (1:Int32)) B d_Mo_derived_60 (by decide) ?_
        refine s_icmp_ne B d_Mo_derived_61 rfl (fun _ => ?_) (fun _ => ?_)
        · refine s_pick (lv1 := [(0, .ref 97), (1, .ref l1), (2, .int l2), (4, .int l4), (5, .int l5), (6, .int v1)]) [0, 1, 2, 4, 5, 6] rfl ?_
          exact t_Mo_derived_68 B hk15 l1 l2 l4 l5 v1 (0:Int32) r24.1 hl1
        · refine s_iconst (v := (1:Int32)) B d_Mo_derived_64 (by decide) ?_
          refine s_goto B d_Mo_derived_65 rfl ?_
          refine s_pick (lv1 := [(0, .ref 97), (1, .ref l1), (2, .int l2), (4, .int l4), (5, .int l5), (6, .int v1)]) [0, 1, 2, 4, 5, 6] rfl ?_
          exact t_Mo_derived_69 B hk15 l1 l2 l4 l5 v1 (0:Int32) (1:Int32) r24.1 hl1
set_option maxRecDepth 100000 in
set_option maxHeartbeats 4000000 in
theorem t_Mo_derived_15  (B : xB p R s m args meth c b_Mo_derived 7 R_Mo (Cond.code y_Mo_derived b_Mo_derived 7 (some .int) :: x_T) (some .int) 5 121 D x_cl (xty g) base)  (l1 : Nat) (l2 : Int32) (l4 : Int32) (l5 : Int32) (M : MS) (hl1 : x_kd l1 = 20) : Sn p l e R s m args below meth c 7 D x_cl base (xwd g) cM x_g0 az kz (xfc cM) (xZ below args s D x_cl (xty g) base (xwd g) cM x_g0 az kz ovI) 15 [] [(0, .ref 97), (1, .ref l1), (2, .int l2), (4, .int l4), (5, .int l5)] M (m_Mo_derived_15 (l1, l2, l4, l5, M)) := by
  have q : ∀ (F : Nat) (i : Nat × Int32 × Int32 × Int32 × MS), x_kd i.1 = 20 → Sn p l e R s m args below meth c 7 D x_cl base (xwd g) cM x_g0 az kz (xfc cM) (xZ below args s D x_cl (xty g) base (xwd g) cM x_g0 az kz ovI) 15 [] [(0, .ref 97), (1, .ref i.1), (2, .int i.2.1), (4, .int i.2.2.1), (5, .int i.2.2.2.1)] i.2.2.2.2 (fx (fun (k : Nat × Int32 × Int32 × Int32 × MS → Option (MS × Int32)) (i : Nat × Int32 × Int32 × Int32 × MS) => m_Mo_derived_15b k i.1 i.2.1 i.2.2.1 i.2.2.2.1 i.2.2.2.2) F i) := by
    intro F
    induction F with
    | zero => intro i h0; exact s_none
    | succ F ih => intro i h0; exact t_Mo_derived_15b B  (fun l1 l2 l4 l5 M h0 => ih (l1, l2, l4, l5, M) h0) i.1 i.2.1 i.2.2.1 i.2.2.2.1 i.2.2.2.2 h0
  exact q FU (l1, l2, l4, l5, M) hl1
set_option maxRecDepth 100000 in
set_option maxHeartbeats 4000000 in
theorem t_Mo_derived (B : xB p R s m args meth c b_Mo_derived 7 R_Mo (Cond.code y_Mo_derived b_Mo_derived 7 (some .int) :: x_T) (some .int) 5 121 D x_cl (xty g) base) (a1 : Nat) (a2 : Int32) (a3 : Int32) (a4 : Int32) (M : MS) : Sn p l e R s m args below meth c 7 D x_cl base (xwd g) cM x_g0 az kz (xfc cM) (xZ below args s D x_cl (xty g) base (xwd g) cM x_g0 az kz ovI) 0 [] [(0, .ref 97), (1, .ref a1), (2, .int a2), (3, .int a3), (4, .int a4)] M (m_Mo_derived a1 a2 a3 a4 M) := by
  unfold m_Mo_derived
  refine s_guard (fun ha1 => ?_)
  refine s_aload_n B d_Mo_derived_0 rfl ?_
  refine s_iconst (v := (0:Int32)) B d_Mo_derived_1 (by decide) ?_
  refine s_putI (k := 9) (ty := .int) B xc_Mo kd_97 (by decide) rfl rfl fl_Mo_128 rfl rfl rfl rfl d_Mo_derived_2 (fun M1 _ => ?_)
  refine s_aload_n B d_Mo_derived_5 rfl ?_
  refine s_iconst (v := (0:Int32)) B d_Mo_derived_6 (by decide) ?_
  refine s_putI (k := 10) (ty := .int) B xc_Mo kd_97 (by decide) rfl rfl fl_Mo_118 rfl rfl rfl rfl d_Mo_derived_7 (fun M2 _ => ?_)
  refine s_iload_n B d_Mo_derived_10 rfl ?_
  refine s_iconst (v := (1:Int32)) B d_Mo_derived_11 (by decide) ?_
  refine s_isub B d_Mo_derived_12 ?_
  refine s_istore B d_Mo_derived_13 (by decide) ?_
  refine s_pick (lv1 := [(0, .ref 97), (1, .ref a1), (2, .int a2), (4, .int a4), (5, .int (a3 - (1:Int32)))]) [0, 1, 2, 4, 5] rfl ?_
  exact t_Mo_derived_15 B a1 a2 a4 (a3 - (1:Int32)) M2 ha1
set_option maxRecDepth 100000 in
set_option maxHeartbeats 4000000 in
theorem ct_Mo_derived {l : Launch} {D : va_G} {base : Nat} {g : Nat → ClassId} (a1 : Nat) (a2 : Int32) (a3 : Int32) (a4 : Int32) (M : MS) (r : MS × Int32) (hr : m_Mo_derived a1 a2 a3 a4 M = some r) : Ct l y_Mo_derived (Cond.code y_Mo_derived b_Mo_derived 7 (some .int) :: x_T) 5 121 D x_cl (xty g) base (xwd g) cM x_g0 [.ref 97, .ref a1, .int a2, .int a3, .int a4] M r.1 (ovI r.2) :=
  x_met (ov := ovI) (by decide) (Nat.le_of_ble_eq_true rfl) (fun p e R s m args below meth c az B => t_Mo_derived B a1 a2 a3 a4 M) r hr
end
theorem d_Mo_derive_0 : decode b_Mo_derive 0 = .ok (.iload_n 1, 1) := by decide +kernel
theorem d_Mo_derive_1 : decode b_Mo_derive 1 = .ok (.invokestatic 158, 3) := by decide +kernel
theorem d_Mo_derive_4 : decode b_Mo_derive 4 = .ok (.ifCond .eq (14), 3) := by decide +kernel
theorem d_Mo_derive_7 : decode b_Mo_derive 7 = .ok (.iload_n 2, 1) := by decide +kernel
theorem d_Mo_derive_8 : decode b_Mo_derive 8 = .ok (.invokestatic 158, 3) := by decide +kernel
theorem d_Mo_derive_11 : decode b_Mo_derive 11 = .ok (.ifCond .eq (7), 3) := by decide +kernel
theorem d_Mo_derive_14 : decode b_Mo_derive 14 = .ok (.iconst (1), 1) := by decide +kernel
theorem d_Mo_derive_15 : decode b_Mo_derive 15 = .ok (.goto (4), 3) := by decide +kernel
theorem d_Mo_derive_18 : decode b_Mo_derive 18 = .ok (.iconst (0), 1) := by decide +kernel
theorem d_Mo_derive_19 : decode b_Mo_derive 19 = .ok (.istore 4, 2) := by decide +kernel
theorem d_Mo_derive_21 : decode b_Mo_derive 21 = .ok (.aload_n 0, 1) := by decide +kernel
theorem d_Mo_derive_22 : decode b_Mo_derive 22 = .ok (.iload 4, 2) := by decide +kernel
theorem d_Mo_derive_24 : decode b_Mo_derive 24 = .ok (.ifCond .ne (7), 3) := by decide +kernel
theorem d_Mo_derive_27 : decode b_Mo_derive 27 = .ok (.iconst (1), 1) := by decide +kernel
theorem d_Mo_derive_28 : decode b_Mo_derive 28 = .ok (.goto (4), 3) := by decide +kernel
theorem d_Mo_derive_31 : decode b_Mo_derive 31 = .ok (.iconst (0), 1) := by decide +kernel
theorem d_Mo_derive_32 : decode b_Mo_derive 32 = .ok (.iload 4, 2) := by decide +kernel
theorem d_Mo_derive_34 : decode b_Mo_derive 34 = .ok (.ifCond .eq (16), 3) := by decide +kernel
theorem d_Mo_derive_37 : decode b_Mo_derive 37 = .ok (.iload_n 3, 1) := by decide +kernel
theorem d_Mo_derive_38 : decode b_Mo_derive 38 = .ok (.ifCond .lt (8), 3) := by decide +kernel
theorem d_Mo_derive_41 : decode b_Mo_derive 41 = .ok (.iload_n 3, 1) := by decide +kernel
theorem d_Mo_derive_42 : decode b_Mo_derive 42 = .ok (.iconst (3), 1) := by decide +kernel
theorem d_Mo_derive_43 : decode b_Mo_derive 43 = .ok (.if_icmp .le (7), 3) := by decide +kernel
theorem d_Mo_derive_46 : decode b_Mo_derive 46 = .ok (.iconst (1), 1) := by decide +kernel
theorem d_Mo_derive_47 : decode b_Mo_derive 47 = .ok (.goto (4), 3) := by decide +kernel
theorem d_Mo_derive_50 : decode b_Mo_derive 50 = .ok (.iconst (0), 1) := by decide +kernel
theorem d_Mo_derive_51 : decode b_Mo_derive 51 = .ok (.invokevirtual 161, 3) := by decide +kernel
theorem d_Mo_derive_54 : decode b_Mo_derive 54 = .ok (.ifCond .eq (5), 3) := by decide +kernel
theorem d_Mo_derive_57 : decode b_Mo_derive 57 = .ok (.iconst (0), 1) := by decide +kernel
theorem d_Mo_derive_58 : decode b_Mo_derive 58 = .ok (.ireturn, 1) := by decide +kernel
theorem d_Mo_derive_59 : decode b_Mo_derive 59 = .ok (.aload_n 0, 1) := by decide +kernel
theorem d_Mo_derive_60 : decode b_Mo_derive 60 = .ok (.aload_n 0, 1) := by decide +kernel
theorem d_Mo_derive_61 : decode b_Mo_derive 61 = .ok (.getfield 7, 3) := by decide +kernel
theorem d_Mo_derive_64 : decode b_Mo_derive 64 = .ok (.bipush (100), 2) := by decide +kernel
theorem d_Mo_derive_66 : decode b_Mo_derive 66 = .ok (.iload_n 2, 1) := by decide +kernel
theorem d_Mo_derive_67 : decode b_Mo_derive 67 = .ok (.imul, 1) := by decide +kernel
theorem d_Mo_derive_68 : decode b_Mo_derive 68 = .ok (.aload_n 0, 1) := by decide +kernel
theorem d_Mo_derive_69 : decode b_Mo_derive 69 = .ok (.getfield 13, 3) := by decide +kernel
theorem d_Mo_derive_72 : decode b_Mo_derive 72 = .ok (.iload_n 2, 1) := by decide +kernel
theorem d_Mo_derive_73 : decode b_Mo_derive 73 = .ok (.iaload, 1) := by decide +kernel
theorem d_Mo_derive_74 : decode b_Mo_derive 74 = .ok (.iload_n 3, 1) := by decide +kernel
theorem d_Mo_derive_75 : decode b_Mo_derive 75 = .ok (.invokevirtual 168, 3) := by decide +kernel
theorem d_Mo_derive_78 : decode b_Mo_derive 78 = .ok (.istore 5, 2) := by decide +kernel
theorem d_Mo_derive_80 : decode b_Mo_derive 80 = .ok (.iconst (0), 1) := by decide +kernel
theorem d_Mo_derive_81 : decode b_Mo_derive 81 = .ok (.istore 6, 2) := by decide +kernel
theorem d_Mo_derive_83 : decode b_Mo_derive 83 = .ok (.iload 6, 2) := by decide +kernel
theorem d_Mo_derive_85 : decode b_Mo_derive 85 = .ok (.iload 5, 2) := by decide +kernel
theorem d_Mo_derive_87 : decode b_Mo_derive 87 = .ok (.if_icmp .ge (30), 3) := by decide +kernel
theorem d_Mo_derive_90 : decode b_Mo_derive 90 = .ok (.iload 5, 2) := by decide +kernel
theorem d_Mo_derive_92 : decode b_Mo_derive 92 = .ok (.bipush (100), 2) := by decide +kernel
theorem d_Mo_derive_94 : decode b_Mo_derive 94 = .ok (.if_icmp .gt (23), 3) := by decide +kernel
theorem d_Mo_derive_97 : decode b_Mo_derive 97 = .ok (.aload_n 0, 1) := by decide +kernel
theorem d_Mo_derive_98 : decode b_Mo_derive 98 = .ok (.getfield 20, 3) := by decide +kernel
theorem d_Mo_derive_101 : decode b_Mo_derive 101 = .ok (.iload 6, 2) := by decide +kernel
theorem d_Mo_derive_103 : decode b_Mo_derive 103 = .ok (.aload_n 0, 1) := by decide +kernel
theorem d_Mo_derive_104 : decode b_Mo_derive 104 = .ok (.getfield 17, 3) := by decide +kernel
theorem d_Mo_derive_107 : decode b_Mo_derive 107 = .ok (.iload 6, 2) := by decide +kernel
theorem d_Mo_derive_109 : decode b_Mo_derive 109 = .ok (.iaload, 1) := by decide +kernel
theorem d_Mo_derive_110 : decode b_Mo_derive 110 = .ok (.iastore, 1) := by decide +kernel
theorem d_Mo_derive_111 : decode b_Mo_derive 111 = .ok (.iinc 6 (1), 3) := by decide +kernel
theorem d_Mo_derive_114 : decode b_Mo_derive 114 = .ok (.goto (-31), 3) := by decide +kernel
theorem d_Mo_derive_117 : decode b_Mo_derive 117 = .ok (.aload_n 0, 1) := by decide +kernel
theorem d_Mo_derive_118 : decode b_Mo_derive 118 = .ok (.iload_n 1, 1) := by decide +kernel
theorem d_Mo_derive_119 : decode b_Mo_derive 119 = .ok (.iload 5, 2) := by decide +kernel
theorem d_Mo_derive_121 : decode b_Mo_derive 121 = .ok (.invokevirtual 165, 3) := by decide +kernel
theorem d_Mo_derive_124 : decode b_Mo_derive 124 = .ok (.ireturn, 1) := by decide +kernel
section
variable {p : Program} {l : Launch} {e : Env} {R : Room} {s : State} {m : MethodId} {args : Array Value} {below : List Frame} {meth : Method} {c : Code} {D : va_G} {base : Nat} {g : Nat → ClassId} {az : Nat → Nat} {kz : Nat × Nat}
set_option maxRecDepth 100000 in
set_option maxHeartbeats 4000000 in
theorem t_Mo_derive_117  (B : xB p R s m args meth c b_Mo_derive 7 R_Mo (Cond.code y_Mo_derive b_Mo_derive 7 (some .int) :: x_T) (some .int) 6 147 D x_cl (xty g) base)  (l1 : Int32) (l5 : Int32) (M : MS)  : Sn p l e R s m args below meth c 7 D x_cl base (xwd g) cM x_g0 az kz (xfc cM) (xZ below args s D x_cl (xty g) base (xwd g) cM x_g0 az kz ovI) 117 [] [(0, .ref 97), (1, .int l1), (5, .int l5)] M (m_Mo_derive_117 l1 l5 M) := by
  unfold m_Mo_derive_117
  refine s_aload_n B d_Mo_derive_117 rfl ?_
  refine s_iload_n B d_Mo_derive_118 rfl ?_
  refine s_iload B d_Mo_derive_119 rfl ?_
  refine s_pick (lv1 := []) [] rfl ?_
  refine s_callI (av := [.ref 97, .int l1, .int l5]) (rest := []) B (lk_V B d_Mo_derive_121 (gl_Mo_165 _) rfl hv_Mo_keep (by decide) (by decide)) rfl (x_rcV B xc_Mo kd_97) (fun _ _ => rfl) rfl rfl (by simp [Value.category]) rfl (fun r1 e9 => ct_Mo_keep _ _ _ r1 e9) (fun r1 _ => ?_)
  exact s_iret B d_Mo_derive_124
set_option maxRecDepth 100000 in
set_option maxHeartbeats 4000000 in
theorem t_Mo_derive_83b {k83 : Int32 × Int32 × Int32 × MS → Option (MS × Int32)} (B : xB p R s m args meth c b_Mo_derive 7 R_Mo (Cond.code y_Mo_derive b_Mo_derive 7 (some .int) :: x_T) (some .int) 6 147 D x_cl (xty g) base) (hk83 : ∀ (l1 : Int32) (l5 : Int32) (l6 : Int32) (M : MS) , Sn p l e R s m args below meth c 7 D x_cl base (xwd g) cM x_g0 az kz (xfc cM) (xZ below args s D x_cl (xty g) base (xwd g) cM x_g0 az kz ovI) 83 [] [(0, .ref 97), (1, .int l1), (5, .int l5), (6, .int l6)] M (k83 (l1, l5, l6, M))) (l1 : Int32) (l5 : Int32) (l6 : Int32) (M : MS)  : Sn p l e R s m args below meth c 7 D x_cl base (xwd g) cM x_g0 az kz (xfc cM) (xZ below args s D x_cl (xty g) base (xwd g) cM x_g0 az kz ovI) 83 [] [(0, .ref 97), (1, .int l1), (5, .int l5), (6, .int l6)] M (m_Mo_derive_83b k83 l1 l5 l6 M) := by
  unfold m_Mo_derive_83b
  refine s_iload B d_Mo_derive_83 rfl ?_
  refine s_iload B d_Mo_derive_85 rfl ?_
  refine s_icmp_ge B d_Mo_derive_87 rfl (fun _ => ?_) (fun _ => ?_)
  · refine s_pick (lv1 := [(0, .ref 97), (1, .int l1), (5, .int l5)]) [0, 1, 5] rfl ?_
    exact t_Mo_derive_117 B l1 l5 M
  · refine s_iload B d_Mo_derive_90 rfl ?_
    refine s_bipush (v := (100:Int32)) B d_Mo_derive_92 (by decide) ?_
    refine s_icmp_gt B d_Mo_derive_94 rfl (fun _ => ?_) (fun _ => ?_)
    · refine s_pick (lv1 := [(0, .ref 97), (1, .int l1), (5, .int l5)]) [0, 1, 5] rfl ?_
      exact t_Mo_derive_117 B l1 l5 M
    · refine s_aload_n B d_Mo_derive_97 rfl ?_
      refine s_getS (k := 4) (n := 101) B xc_Mo kd_97 (by decide) rfl rfl fl_Mo_20 sr_97_4 d_Mo_derive_98 ?_
      refine s_iload B d_Mo_derive_101 rfl ?_
      refine s_aload_n B d_Mo_derive_103 rfl ?_
      refine s_getS (k := 3) (n := 100) B xc_Mo kd_97 (by decide) rfl rfl fl_Mo_17 sr_97_3 d_Mo_derive_104 ?_
      refine s_iload B d_Mo_derive_107 rfl ?_
      refine s_iald B (Or.inl kd_100) d_Mo_derive_109 (fun v1 _ => ?_)
      refine s_iast B (Or.inl kd_101) d_Mo_derive_110 (fun M2 _ => ?_)
      refine s_iinc (w := (1:Int32)) B d_Mo_derive_111 rfl (by decide) (by decide) ?_
      refine s_goto B d_Mo_derive_114 rfl ?_
      refine s_pick (lv1 := [(0, .ref 97), (1, .int l1), (5, .int l5), (6, .int (l6 + (1:Int32)))]) [0, 1, 5, 6] rfl ?_
      exact hk83 l1 l5 (l6 + (1:Int32)) M2
set_option maxRecDepth 100000 in
set_option maxHeartbeats 4000000 in
theorem t_Mo_derive_83  (B : xB p R s m args meth c b_Mo_derive 7 R_Mo (Cond.code y_Mo_derive b_Mo_derive 7 (some .int) :: x_T) (some .int) 6 147 D x_cl (xty g) base)  (l1 : Int32) (l5 : Int32) (l6 : Int32) (M : MS)  : Sn p l e R s m args below meth c 7 D x_cl base (xwd g) cM x_g0 az kz (xfc cM) (xZ below args s D x_cl (xty g) base (xwd g) cM x_g0 az kz ovI) 83 [] [(0, .ref 97), (1, .int l1), (5, .int l5), (6, .int l6)] M (m_Mo_derive_83 (l1, l5, l6, M)) := by
  have q : ∀ (F : Nat) (i : Int32 × Int32 × Int32 × MS), Sn p l e R s m args below meth c 7 D x_cl base (xwd g) cM x_g0 az kz (xfc cM) (xZ below args s D x_cl (xty g) base (xwd g) cM x_g0 az kz ovI) 83 [] [(0, .ref 97), (1, .int i.1), (5, .int i.2.1), (6, .int i.2.2.1)] i.2.2.2 (fx (fun (k : Int32 × Int32 × Int32 × MS → Option (MS × Int32)) (i : Int32 × Int32 × Int32 × MS) => m_Mo_derive_83b k i.1 i.2.1 i.2.2.1 i.2.2.2) F i) := by
    intro F
    induction F with
    | zero => intro i ; exact s_none
    | succ F ih => intro i ; exact t_Mo_derive_83b B  (fun l1 l5 l6 M  => ih (l1, l5, l6, M) ) i.1 i.2.1 i.2.2.1 i.2.2.2 
  exact q FU (l1, l5, l6, M) 
set_option maxRecDepth 100000 in
set_option maxHeartbeats 4000000 in
theorem t_Mo_derive_51  (B : xB p R s m args meth c b_Mo_derive 7 R_Mo (Cond.code y_Mo_derive b_Mo_derive 7 (some .int) :: x_T) (some .int) 6 147 D x_cl (xty g) base)  (l1 : Int32) (l2 : Int32) (l3 : Int32) (s1 : Int32) (s2 : Int32) (M : MS)  : Sn p l e R s m args below meth c 7 D x_cl base (xwd g) cM x_g0 az kz (xfc cM) (xZ below args s D x_cl (xty g) base (xwd g) cM x_g0 az kz ovI) 51 [.int s2, .int s1, .ref 97] [(0, .ref 97), (1, .int l1), (2, .int l2), (3, .int l3)] M (m_Mo_derive_51 l1 l2 l3 s1 s2 M) := by
  unfold m_Mo_derive_51
  refine s_pick (lv1 := [(0, .ref 97), (1, .int l1), (2, .int l2), (3, .int l3)]) [0, 1, 2, 3] rfl ?_
  refine s_callI (av := [.ref 97, .int s1, .int s2]) (rest := []) B (lk_V B d_Mo_derive_51 (gl_Mo_161 _) rfl hv_Mo_fails (by decide) (by decide)) rfl (x_rcV B xc_Mo kd_97) (fun _ _ => rfl) rfl rfl (by simp [Value.category]) rfl (fun r1 e9 => ct_Mo_fails _ _ _ r1 e9) (fun r1 _ => ?_)
  refine s_if_eq B d_Mo_derive_54 rfl (fun _ => ?_) (fun _ => ?_)
  · refine s_aload_n B d_Mo_derive_59 rfl ?_
    refine s_aload_n B d_Mo_derive_60 rfl ?_
    refine s_getS (k := 1) (n := 98) B xc_Mo kd_97 (by decide) rfl rfl fl_Mo_7 sr_97_1 d_Mo_derive_61 ?_
    refine s_bipush (v := (100:Int32)) B d_Mo_derive_64 (by decide) ?_
    refine s_iload_n B d_Mo_derive_66 rfl ?_
    refine s_imul B d_Mo_derive_67 ?_
    refine s_aload_n B d_Mo_derive_68 rfl ?_
    refine s_getS (k := 2) (n := 99) B xc_Mo kd_97 (by decide) rfl rfl fl_Mo_13 sr_97_2 d_Mo_derive_69 ?_
    refine s_iload_n B d_Mo_derive_72 rfl ?_
    refine s_iald B (Or.inl kd_99) d_Mo_derive_73 (fun v2 _ => ?_)
    refine s_iload_n B d_Mo_derive_74 rfl ?_
    refine s_pick (lv1 := [(0, .ref 97), (1, .int l1)]) [0, 1] rfl ?_
    refine s_callI (av := [.ref 97, .ref 98, .int ((100:Int32) * l2), .int v2, .int l3]) (rest := []) B (lk_V B d_Mo_derive_75 (gl_Mo_168 _) rfl hv_Mo_derived (by decide) (by decide)) rfl (x_rcV B xc_Mo kd_97) (fun _ _ => rfl) rfl rfl (by simp [Value.category]) rfl (fun r3 e9 => ct_Mo_derived _ _ _ _ _ r3 e9) (fun r3 _ => ?_)
    refine s_istore B d_Mo_derive_78 (by decide) ?_
    refine s_iconst (v := (0:Int32)) B d_Mo_derive_80 (by decide) ?_
    refine s_istore B d_Mo_derive_81 (by decide) ?_
    refine s_pick (lv1 := [(0, .ref 97), (1, .int l1), (5, .int r3.2), (6, .int (0:Int32))]) [0, 1, 5, 6] rfl ?_
    exact t_Mo_derive_83 B l1 r3.2 (0:Int32) r3.1
  · refine s_iconst (v := (0:Int32)) B d_Mo_derive_57 (by decide) ?_
    exact s_iret B d_Mo_derive_58
set_option maxRecDepth 100000 in
set_option maxHeartbeats 4000000 in
theorem t_Mo_derive_50  (B : xB p R s m args meth c b_Mo_derive 7 R_Mo (Cond.code y_Mo_derive b_Mo_derive 7 (some .int) :: x_T) (some .int) 6 147 D x_cl (xty g) base)  (l1 : Int32) (l2 : Int32) (l3 : Int32) (s1 : Int32) (M : MS)  : Sn p l e R s m args below meth c 7 D x_cl base (xwd g) cM x_g0 az kz (xfc cM) (xZ below args s D x_cl (xty g) base (xwd g) cM x_g0 az kz ovI) 50 [.int s1, .ref 97] [(0, .ref 97), (1, .int l1), (2, .int l2), (3, .int l3)] M (m_Mo_derive_50 l1 l2 l3 s1 M) := by
  unfold m_Mo_derive_50
  refine s_iconst (v := (0:Int32)) B d_Mo_derive_50 (by decide) ?_
  refine s_pick (lv1 := [(0, .ref 97), (1, .int l1), (2, .int l2), (3, .int l3)]) [0, 1, 2, 3] rfl ?_
  exact t_Mo_derive_51 B l1 l2 l3 s1 (0:Int32) M
set_option maxRecDepth 100000 in
set_option maxHeartbeats 4000000 in
theorem t_Mo_derive_46  (B : xB p R s m args meth c b_Mo_derive 7 R_Mo (Cond.code y_Mo_derive b_Mo_derive 7 (some .int) :: x_T) (some .int) 6 147 D x_cl (xty g) base)  (l1 : Int32) (l2 : Int32) (l3 : Int32) (s1 : Int32) (M : MS)  : Sn p l e R s m args below meth c 7 D x_cl base (xwd g) cM x_g0 az kz (xfc cM) (xZ below args s D x_cl (xty g) base (xwd g) cM x_g0 az kz ovI) 46 [.int s1, .ref 97] [(0, .ref 97), (1, .int l1), (2, .int l2), (3, .int l3)] M (m_Mo_derive_46 l1 l2 l3 s1 M) := by
  unfold m_Mo_derive_46
  refine s_iconst (v := (1:Int32)) B d_Mo_derive_46 (by decide) ?_
  refine s_goto B d_Mo_derive_47 rfl ?_
  refine s_pick (lv1 := [(0, .ref 97), (1, .int l1), (2, .int l2), (3, .int l3)]) [0, 1, 2, 3] rfl ?_
  exact t_Mo_derive_51 B l1 l2 l3 s1 (1:Int32) M
set_option maxRecDepth 100000 in
set_option maxHeartbeats 4000000 in
theorem t_Mo_derive_32  (B : xB p R s m args meth c b_Mo_derive 7 R_Mo (Cond.code y_Mo_derive b_Mo_derive 7 (some .int) :: x_T) (some .int) 6 147 D x_cl (xty g) base)  (l1 : Int32) (l2 : Int32) (l3 : Int32) (l4 : Int32) (s1 : Int32) (M : MS)  : Sn p l e R s m args below meth c 7 D x_cl base (xwd g) cM x_g0 az kz (xfc cM) (xZ below args s D x_cl (xty g) base (xwd g) cM x_g0 az kz ovI) 32 [.int s1, .ref 97] [(0, .ref 97), (1, .int l1), (2, .int l2), (3, .int l3), (4, .int l4)] M (m_Mo_derive_32 l1 l2 l3 l4 s1 M) := by
  unfold m_Mo_derive_32
  refine s_iload B d_Mo_derive_32 rfl ?_
  refine s_if_eq B d_Mo_derive_34 rfl (fun _ => ?_) (fun _ => ?_)
  · refine s_pick (lv1 := [(0, .ref 97), (1, .int l1), (2, .int l2), (3, .int l3)]) [0, 1, 2, 3] rfl ?_
    exact t_Mo_derive_50 B l1 l2 l3 s1 M
  · refine s_iload_n B d_Mo_derive_37 rfl ?_
    refine s_if_lt B d_Mo_derive_38 rfl (fun _ => ?_) (fun _ => ?_)
    · refine s_pick (lv1 := [(0, .ref 97), (1, .int l1), (2, .int l2), (3, .int l3)]) [0, 1, 2, 3] rfl ?_
      exact t_Mo_derive_46 B l1 l2 l3 s1 M
    · refine s_iload_n B d_Mo_derive_41 rfl ?_
      refine s_iconst (v := (3:Int32)) B d_Mo_derive_42 (by decide) ?_
      refine s_icmp_le B d_Mo_derive_43 rfl (fun _ => ?_) (fun _ => ?_)
      · refine s_pick (lv1 := [(0, .ref 97), (1, .int l1), (2, .int l2), (3, .int l3)]) [0, 1, 2, 3] rfl ?_
        exact t_Mo_derive_50 B l1 l2 l3 s1 M
      · refine s_pick (lv1 := [(0, .ref 97), (1, .int l1), (2, .int l2), (3, .int l3)]) [0, 1, 2, 3] rfl ?_
        exact t_Mo_derive_46 B l1 l2 l3 s1 M
set_option maxRecDepth 100000 in
set_option maxHeartbeats 4000000 in
theorem t_Mo_derive_19  (B : xB p R s m args meth c b_Mo_derive 7 R_Mo (Cond.code y_Mo_derive b_Mo_derive 7 (some .int) :: x_T) (some .int) 6 147 D x_cl (xty g) base)  (l1 : Int32) (l2 : Int32) (l3 : Int32) (s0 : Int32) (M : MS)  : Sn p l e R s m args below meth c 7 D x_cl base (xwd g) cM x_g0 az kz (xfc cM) (xZ below args s D x_cl (xty g) base (xwd g) cM x_g0 az kz ovI) 19 [.int s0] [(0, .ref 97), (1, .int l1), (2, .int l2), (3, .int l3)] M (m_Mo_derive_19 l1 l2 l3 s0 M) := by
  unfold m_Mo_derive_19
  refine s_istore B d_Mo_derive_19 (by decide) ?_
  refine s_aload_n B d_Mo_derive_21 rfl ?_
  refine s_iload B d_Mo_derive_22 rfl ?_
  refine s_if_ne B d_Mo_derive_24 rfl (fun _ => ?_) (fun _ => ?_)
  · refine s_iconst (v := (0:Int32)) B d_Mo_derive_31 (by decide) ?_
    refine s_pick (lv1 := [(0, .ref 97), (1, .int l1), (2, .int l2), (3, .int l3), (4, .int s0)]) [0, 1, 2, 3, 4] rfl ?_
    exact t_Mo_derive_32 B l1 l2 l3 s0 (0:Int32) M
  · refine s_iconst (v := (1:Int32)) B d_Mo_derive_27 (by decide) ?_
    refine s_goto B d_Mo_derive_28 rfl ?_
    refine s_pick (lv1 := [(0, .ref 97), (1, .int l1), (2, .int l2), (3, .int l3), (4, .int s0)]) [0, 1, 2, 3, 4] rfl ?_
    exact t_Mo_derive_32 B l1 l2 l3 s0 (1:Int32) M
set_option maxRecDepth 100000 in
set_option maxHeartbeats 4000000 in
theorem t_Mo_derive_18  (B : xB p R s m args meth c b_Mo_derive 7 R_Mo (Cond.code y_Mo_derive b_Mo_derive 7 (some .int) :: x_T) (some .int) 6 147 D x_cl (xty g) base)  (l1 : Int32) (l2 : Int32) (l3 : Int32) (M : MS)  : Sn p l e R s m args below meth c 7 D x_cl base (xwd g) cM x_g0 az kz (xfc cM) (xZ below args s D x_cl (xty g) base (xwd g) cM x_g0 az kz ovI) 18 [] [(0, .ref 97), (1, .int l1), (2, .int l2), (3, .int l3)] M (m_Mo_derive_18 l1 l2 l3 M) := by
  unfold m_Mo_derive_18
  refine s_iconst (v := (0:Int32)) B d_Mo_derive_18 (by decide) ?_
  refine s_pick (lv1 := [(0, .ref 97), (1, .int l1), (2, .int l2), (3, .int l3)]) [0, 1, 2, 3] rfl ?_
  exact t_Mo_derive_19 B l1 l2 l3 (0:Int32) M
set_option maxRecDepth 100000 in
set_option maxHeartbeats 4000000 in
theorem t_Mo_derive (B : xB p R s m args meth c b_Mo_derive 7 R_Mo (Cond.code y_Mo_derive b_Mo_derive 7 (some .int) :: x_T) (some .int) 6 147 D x_cl (xty g) base) (a1 : Int32) (a2 : Int32) (a3 : Int32) (M : MS) : Sn p l e R s m args below meth c 7 D x_cl base (xwd g) cM x_g0 az kz (xfc cM) (xZ below args s D x_cl (xty g) base (xwd g) cM x_g0 az kz ovI) 0 [] [(0, .ref 97), (1, .int a1), (2, .int a2), (3, .int a3)] M (m_Mo_derive a1 a2 a3 M) := by
  unfold m_Mo_derive
  refine s_iload_n B d_Mo_derive_0 rfl ?_
  refine s_pick (lv1 := [(0, .ref 97), (1, .int a1), (2, .int a2), (3, .int a3)]) [0, 1, 2, 3] rfl ?_
  refine s_callI (av := [.int a1]) (rest := []) B (lk_S B d_Mo_derive_1 (gl_Mo_158 _) (List.mem_cons_of_mem _ st_Mo_isSlot) (List.mem_cons_of_mem _ in_Mo) (List.mem_cons_of_mem _ ml_Mo_158) rfl hs_Mo_isSlot (by decide) (by decide)) rfl x_rcS (fun _ _ => rfl) rfl rfl (by simp [Value.category]) rfl (fun r1 e9 => ct_Mo_isSlot _ _ r1 e9) (fun r1 _ => ?_)
  refine s_if_eq B d_Mo_derive_4 rfl (fun _ => ?_) (fun _ => ?_)
  · refine s_pick (lv1 := [(0, .ref 97), (1, .int a1), (2, .int a2), (3, .int a3)]) [0, 1, 2, 3] rfl ?_
    exact t_Mo_derive_18 B a1 a2 a3 r1.1
  · refine s_iload_n B d_Mo_derive_7 rfl ?_
    refine s_pick (lv1 := [(0, .ref 97), (1, .int a1), (2, .int a2), (3, .int a3)]) [0, 1, 2, 3] rfl ?_
    refine s_callI (av := [.int a2]) (rest := []) B (lk_S B d_Mo_derive_8 (gl_Mo_158 _) (List.mem_cons_of_mem _ st_Mo_isSlot) (List.mem_cons_of_mem _ in_Mo) (List.mem_cons_of_mem _ ml_Mo_158) rfl hs_Mo_isSlot (by decide) (by decide)) rfl x_rcS (fun _ _ => rfl) rfl rfl (by simp [Value.category]) rfl (fun r2 e9 => ct_Mo_isSlot _ _ r2 e9) (fun r2 _ => ?_)
    refine s_if_eq B d_Mo_derive_11 rfl (fun _ => ?_) (fun _ => ?_)
    · refine s_pick (lv1 := [(0, .ref 97), (1, .int a1), (2, .int a2), (3, .int a3)]) [0, 1, 2, 3] rfl ?_
      exact t_Mo_derive_18 B a1 a2 a3 r2.1
    · refine s_iconst (v := (1:Int32)) B d_Mo_derive_14 (by decide) ?_
      refine s_goto B d_Mo_derive_15 rfl ?_
      refine s_pick (lv1 := [(0, .ref 97), (1, .int a1), (2, .int a2), (3, .int a3)]) [0, 1, 2, 3] rfl ?_
      exact t_Mo_derive_19 B a1 a2 a3 (1:Int32) r2.1
set_option maxRecDepth 100000 in
set_option maxHeartbeats 4000000 in
theorem ct_Mo_derive {l : Launch} {D : va_G} {base : Nat} {g : Nat → ClassId} (a1 : Int32) (a2 : Int32) (a3 : Int32) (M : MS) (r : MS × Int32) (hr : m_Mo_derive a1 a2 a3 M = some r) : Ct l y_Mo_derive (Cond.code y_Mo_derive b_Mo_derive 7 (some .int) :: x_T) 6 147 D x_cl (xty g) base (xwd g) cM x_g0 [.ref 97, .int a1, .int a2, .int a3] M r.1 (ovI r.2) :=
  x_met (ov := ovI) (by decide) (Nat.le_of_ble_eq_true rfl) (fun p e R s m args below meth c az B => t_Mo_derive B a1 a2 a3 M) r hr
end
theorem d_Mo_same_0 : decode b_Mo_same 0 = .ok (.iload_n 2, 1) := by decide +kernel
theorem d_Mo_same_1 : decode b_Mo_same 1 = .ok (.iload 5, 2) := by decide +kernel
theorem d_Mo_same_3 : decode b_Mo_same 3 = .ok (.if_icmp .ne (7), 3) := by decide +kernel
theorem d_Mo_same_6 : decode b_Mo_same 6 = .ok (.iconst (1), 1) := by decide +kernel
theorem d_Mo_same_7 : decode b_Mo_same 7 = .ok (.goto (4), 3) := by decide +kernel
theorem d_Mo_same_10 : decode b_Mo_same 10 = .ok (.iconst (0), 1) := by decide +kernel
theorem d_Mo_same_11 : decode b_Mo_same 11 = .ok (.istore 6, 2) := by decide +kernel
theorem d_Mo_same_13 : decode b_Mo_same 13 = .ok (.iconst (0), 1) := by decide +kernel
theorem d_Mo_same_14 : decode b_Mo_same 14 = .ok (.istore 7, 2) := by decide +kernel
theorem d_Mo_same_16 : decode b_Mo_same 16 = .ok (.iload 7, 2) := by decide +kernel
theorem d_Mo_same_18 : decode b_Mo_same 18 = .ok (.iload_n 2, 1) := by decide +kernel
theorem d_Mo_same_19 : decode b_Mo_same 19 = .ok (.if_icmp .ge (37), 3) := by decide +kernel
theorem d_Mo_same_22 : decode b_Mo_same 22 = .ok (.iload 6, 2) := by decide +kernel
theorem d_Mo_same_24 : decode b_Mo_same 24 = .ok (.ifCond .eq (32), 3) := by decide +kernel
theorem d_Mo_same_27 : decode b_Mo_same 27 = .ok (.aload_n 0, 1) := by decide +kernel
theorem d_Mo_same_28 : decode b_Mo_same 28 = .ok (.iload_n 1, 1) := by decide +kernel
theorem d_Mo_same_29 : decode b_Mo_same 29 = .ok (.iload 7, 2) := by decide +kernel
theorem d_Mo_same_31 : decode b_Mo_same 31 = .ok (.iadd, 1) := by decide +kernel
theorem d_Mo_same_32 : decode b_Mo_same 32 = .ok (.iaload, 1) := by decide +kernel
theorem d_Mo_same_33 : decode b_Mo_same 33 = .ok (.aload_n 3, 1) := by decide +kernel
theorem d_Mo_same_34 : decode b_Mo_same 34 = .ok (.iload 4, 2) := by decide +kernel
theorem d_Mo_same_36 : decode b_Mo_same 36 = .ok (.iload 7, 2) := by decide +kernel
theorem d_Mo_same_38 : decode b_Mo_same 38 = .ok (.iadd, 1) := by decide +kernel
theorem d_Mo_same_39 : decode b_Mo_same 39 = .ok (.iaload, 1) := by decide +kernel
theorem d_Mo_same_40 : decode b_Mo_same 40 = .ok (.if_icmp .ne (7), 3) := by decide +kernel
theorem d_Mo_same_43 : decode b_Mo_same 43 = .ok (.iconst (1), 1) := by decide +kernel
theorem d_Mo_same_44 : decode b_Mo_same 44 = .ok (.goto (4), 3) := by decide +kernel
theorem d_Mo_same_47 : decode b_Mo_same 47 = .ok (.iconst (0), 1) := by decide +kernel
theorem d_Mo_same_48 : decode b_Mo_same 48 = .ok (.istore 6, 2) := by decide +kernel
theorem d_Mo_same_50 : decode b_Mo_same 50 = .ok (.iinc 7 (1), 3) := by decide +kernel
theorem d_Mo_same_53 : decode b_Mo_same 53 = .ok (.goto (-37), 3) := by decide +kernel
theorem d_Mo_same_56 : decode b_Mo_same 56 = .ok (.iload 6, 2) := by decide +kernel
theorem d_Mo_same_58 : decode b_Mo_same 58 = .ok (.ireturn, 1) := by decide +kernel
section
variable {p : Program} {l : Launch} {e : Env} {R : Room} {s : State} {m : MethodId} {args : Array Value} {below : List Frame} {meth : Method} {c : Code} {D : va_G} {base : Nat} {g : Nat → ClassId} {az : Nat → Nat} {kz : Nat × Nat}
set_option maxRecDepth 100000 in
set_option maxHeartbeats 4000000 in
theorem t_Mo_same_16b {k16 : Nat × Int32 × Int32 × Nat × Int32 × Int32 × Int32 × MS → Option (MS × Int32)} (B : xB p R s m args meth c b_Mo_same 8 R_Mo (Cond.code y_Mo_same b_Mo_same 8 (some .boolean) :: x_T) (some .boolean) 0 0 D x_cl (xty g) base) (hk16 : ∀ (l0 : Nat) (l1 : Int32) (l2 : Int32) (l3 : Nat) (l4 : Int32) (l6 : Int32) (l7 : Int32) (M : MS) (hl0 : x_kd l0 = 20) (hl3 : x_kd l3 = 20), Sn p l e R s m args below meth c 8 D x_cl base (xwd g) cM x_g0 az kz (xfc cM) (xZ below args s D x_cl (xty g) base (xwd g) cM x_g0 az kz ovI) 16 [] [(0, .ref l0), (1, .int l1), (2, .int l2), (3, .ref l3), (4, .int l4), (6, .int l6), (7, .int l7)] M (k16 (l0, l1, l2, l3, l4, l6, l7, M))) (l0 : Nat) (l1 : Int32) (l2 : Int32) (l3 : Nat) (l4 : Int32) (l6 : Int32) (l7 : Int32) (M : MS) (hl0 : x_kd l0 = 20) (hl3 : x_kd l3 = 20) : Sn p l e R s m args below meth c 8 D x_cl base (xwd g) cM x_g0 az kz (xfc cM) (xZ below args s D x_cl (xty g) base (xwd g) cM x_g0 az kz ovI) 16 [] [(0, .ref l0), (1, .int l1), (2, .int l2), (3, .ref l3), (4, .int l4), (6, .int l6), (7, .int l7)] M (m_Mo_same_16b k16 l0 l1 l2 l3 l4 l6 l7 M) := by
  unfold m_Mo_same_16b
  refine s_iload B d_Mo_same_16 rfl ?_
  refine s_iload_n B d_Mo_same_18 rfl ?_
  refine s_icmp_ge B d_Mo_same_19 rfl (fun _ => ?_) (fun _ => ?_)
  · refine s_iload B d_Mo_same_56 rfl ?_
    exact s_zret B d_Mo_same_58
  · refine s_iload B d_Mo_same_22 rfl ?_
    refine s_if_eq B d_Mo_same_24 rfl (fun _ => ?_) (fun _ => ?_)
    · refine s_iload B d_Mo_same_56 rfl ?_
      exact s_zret B d_Mo_same_58
    · refine s_aload_n B d_Mo_same_27 rfl ?_
      refine s_iload_n B d_Mo_same_28 rfl ?_
      refine s_iload B d_Mo_same_29 rfl ?_
      refine s_iadd B d_Mo_same_31 ?_
      refine s_iald B (Or.inl hl0) d_Mo_same_32 (fun v1 _ => ?_)
      refine s_aload_n B d_Mo_same_33 rfl ?_
      refine s_iload B d_Mo_same_34 rfl ?_
      refine s_iload B d_Mo_same_36 rfl ?_
      refine s_iadd B d_Mo_same_38 ?_
      refine s_iald B (Or.inl hl3) d_Mo_same_39 (fun v2 _ => ?_)
      refine s_icmp_ne B d_Mo_same_40 rfl (fun _ => ?_) (fun _ => ?_)
      · refine s_iconst (v := (0:Int32)) B d_Mo_same_47 (by decide) ?_
        refine s_istore B d_Mo_same_48 (by decide) ?_
        refine s_iinc (w := (1:Int32)) B d_Mo_same_50 rfl (by decide) (by decide) ?_
        refine s_goto B d_Mo_same_53 rfl ?_
        refine s_pick (lv1 := [(0, .ref l0), (1, .int l1), (2, .int l2), (3, .ref l3), (4, .int l4), (6, .int (0:Int32)), (7, .int (l7 + (1:Int32)))]) [0, 1, 2, 3, 4, 6, 7] rfl ?_
        exact hk16 l0 l1 l2 l3 l4 (0:Int32) (l7 + (1:Int32)) M hl0 hl3
      · refine s_iconst (v := (1:Int32)) B d_Mo_same_43 (by decide) ?_
        refine s_goto B d_Mo_same_44 rfl ?_
        refine s_istore B d_Mo_same_48 (by decide) ?_
        refine s_iinc (w := (1:Int32)) B d_Mo_same_50 rfl (by decide) (by decide) ?_
        refine s_goto B d_Mo_same_53 rfl ?_
        refine s_pick (lv1 := [(0, .ref l0), (1, .int l1), (2, .int l2), (3, .ref l3), (4, .int l4), (6, .int (1:Int32)), (7, .int (l7 + (1:Int32)))]) [0, 1, 2, 3, 4, 6, 7] rfl ?_
        exact hk16 l0 l1 l2 l3 l4 (1:Int32) (l7 + (1:Int32)) M hl0 hl3
set_option maxRecDepth 100000 in
set_option maxHeartbeats 4000000 in
theorem t_Mo_same_16  (B : xB p R s m args meth c b_Mo_same 8 R_Mo (Cond.code y_Mo_same b_Mo_same 8 (some .boolean) :: x_T) (some .boolean) 0 0 D x_cl (xty g) base)  (l0 : Nat) (l1 : Int32) (l2 : Int32) (l3 : Nat) (l4 : Int32) (l6 : Int32) (l7 : Int32) (M : MS) (hl0 : x_kd l0 = 20) (hl3 : x_kd l3 = 20) : Sn p l e R s m args below meth c 8 D x_cl base (xwd g) cM x_g0 az kz (xfc cM) (xZ below args s D x_cl (xty g) base (xwd g) cM x_g0 az kz ovI) 16 [] [(0, .ref l0), (1, .int l1), (2, .int l2), (3, .ref l3), (4, .int l4), (6, .int l6), (7, .int l7)] M (m_Mo_same_16 (l0, l1, l2, l3, l4, l6, l7, M)) := by
  have q : ∀ (F : Nat) (i : Nat × Int32 × Int32 × Nat × Int32 × Int32 × Int32 × MS), x_kd i.1 = 20 → x_kd i.2.2.2.1 = 20 → Sn p l e R s m args below meth c 8 D x_cl base (xwd g) cM x_g0 az kz (xfc cM) (xZ below args s D x_cl (xty g) base (xwd g) cM x_g0 az kz ovI) 16 [] [(0, .ref i.1), (1, .int i.2.1), (2, .int i.2.2.1), (3, .ref i.2.2.2.1), (4, .int i.2.2.2.2.1), (6, .int i.2.2.2.2.2.1), (7, .int i.2.2.2.2.2.2.1)] i.2.2.2.2.2.2.2 (fx (fun (k : Nat × Int32 × Int32 × Nat × Int32 × Int32 × Int32 × MS → Option (MS × Int32)) (i : Nat × Int32 × Int32 × Nat × Int32 × Int32 × Int32 × MS) => m_Mo_same_16b k i.1 i.2.1 i.2.2.1 i.2.2.2.1 i.2.2.2.2.1 i.2.2.2.2.2.1 i.2.2.2.2.2.2.1 i.2.2.2.2.2.2.2) F i) := by
    intro F
    induction F with
    | zero => intro i h0 h1; exact s_none
    | succ F ih => intro i h0 h1; exact t_Mo_same_16b B  (fun l0 l1 l2 l3 l4 l6 l7 M h0 h1 => ih (l0, l1, l2, l3, l4, l6, l7, M) h0 h1) i.1 i.2.1 i.2.2.1 i.2.2.2.1 i.2.2.2.2.1 i.2.2.2.2.2.1 i.2.2.2.2.2.2.1 i.2.2.2.2.2.2.2 h0 h1
  exact q FU (l0, l1, l2, l3, l4, l6, l7, M) hl0 hl3
set_option maxRecDepth 100000 in
set_option maxHeartbeats 4000000 in
theorem t_Mo_same (B : xB p R s m args meth c b_Mo_same 8 R_Mo (Cond.code y_Mo_same b_Mo_same 8 (some .boolean) :: x_T) (some .boolean) 0 0 D x_cl (xty g) base) (a0 : Nat) (a1 : Int32) (a2 : Int32) (a3 : Nat) (a4 : Int32) (a5 : Int32) (M : MS) : Sn p l e R s m args below meth c 8 D x_cl base (xwd g) cM x_g0 az kz (xfc cM) (xZ below args s D x_cl (xty g) base (xwd g) cM x_g0 az kz ovI) 0 [] [(0, .ref a0), (1, .int a1), (2, .int a2), (3, .ref a3), (4, .int a4), (5, .int a5)] M (m_Mo_same a0 a1 a2 a3 a4 a5 M) := by
  unfold m_Mo_same
  refine s_guard (fun ha0 => ?_)
  refine s_guard (fun ha3 => ?_)
  refine s_iload_n B d_Mo_same_0 rfl ?_
  refine s_iload B d_Mo_same_1 rfl ?_
  refine s_icmp_ne B d_Mo_same_3 rfl (fun _ => ?_) (fun _ => ?_)
  · refine s_iconst (v := (0:Int32)) B d_Mo_same_10 (by decide) ?_
    refine s_istore B d_Mo_same_11 (by decide) ?_
    refine s_iconst (v := (0:Int32)) B d_Mo_same_13 (by decide) ?_
    refine s_istore B d_Mo_same_14 (by decide) ?_
    refine s_pick (lv1 := [(0, .ref a0), (1, .int a1), (2, .int a2), (3, .ref a3), (4, .int a4), (6, .int (0:Int32)), (7, .int (0:Int32))]) [0, 1, 2, 3, 4, 6, 7] rfl ?_
    exact t_Mo_same_16 B a0 a1 a2 a3 a4 (0:Int32) (0:Int32) M ha0 ha3
  · refine s_iconst (v := (1:Int32)) B d_Mo_same_6 (by decide) ?_
    refine s_goto B d_Mo_same_7 rfl ?_
    refine s_istore B d_Mo_same_11 (by decide) ?_
    refine s_iconst (v := (0:Int32)) B d_Mo_same_13 (by decide) ?_
    refine s_istore B d_Mo_same_14 (by decide) ?_
    refine s_pick (lv1 := [(0, .ref a0), (1, .int a1), (2, .int a2), (3, .ref a3), (4, .int a4), (6, .int (1:Int32)), (7, .int (0:Int32))]) [0, 1, 2, 3, 4, 6, 7] rfl ?_
    exact t_Mo_same_16 B a0 a1 a2 a3 a4 (1:Int32) (0:Int32) M ha0 ha3
set_option maxRecDepth 100000 in
set_option maxHeartbeats 4000000 in
theorem ct_Mo_same {l : Launch} {D : va_G} {base : Nat} {g : Nat → ClassId} (a0 : Nat) (a1 : Int32) (a2 : Int32) (a3 : Nat) (a4 : Int32) (a5 : Int32) (M : MS) (r : MS × Int32) (hr : m_Mo_same a0 a1 a2 a3 a4 a5 M = some r) : Ct l y_Mo_same (Cond.code y_Mo_same b_Mo_same 8 (some .boolean) :: x_T) 0 0 D x_cl (xty g) base (xwd g) cM x_g0 [.ref a0, .int a1, .int a2, .ref a3, .int a4, .int a5] M r.1 (ovI r.2) :=
  x_met (ov := ovI) (by decide) (Nat.le_of_ble_eq_true rfl) (fun p e R s m args below meth c az B => t_Mo_same B a0 a1 a2 a3 a4 a5 M) r hr
end
theorem d_Mo_similar_0 : decode b_Mo_similar 0 = .ok (.aload_n 0, 1) := by decide +kernel
theorem d_Mo_similar_1 : decode b_Mo_similar 1 = .ok (.iload_n 1, 1) := by decide +kernel
theorem d_Mo_similar_2 : decode b_Mo_similar 2 = .ok (.invokestatic 158, 3) := by decide +kernel
theorem d_Mo_similar_5 : decode b_Mo_similar 5 = .ok (.ifCond .eq (10), 3) := by decide +kernel
theorem d_Mo_similar_8 : decode b_Mo_similar 8 = .ok (.iload_n 2, 1) := by decide +kernel
theorem d_Mo_similar_9 : decode b_Mo_similar 9 = .ok (.invokestatic 158, 3) := by decide +kernel
theorem d_Mo_similar_12 : decode b_Mo_similar 12 = .ok (.ifCond .ne (7), 3) := by decide +kernel
theorem d_Mo_similar_15 : decode b_Mo_similar 15 = .ok (.iconst (1), 1) := by decide +kernel
theorem d_Mo_similar_16 : decode b_Mo_similar 16 = .ok (.goto (4), 3) := by decide +kernel
theorem d_Mo_similar_19 : decode b_Mo_similar 19 = .ok (.iconst (0), 1) := by decide +kernel
theorem d_Mo_similar_20 : decode b_Mo_similar 20 = .ok (.iconst (0), 1) := by decide +kernel
theorem d_Mo_similar_21 : decode b_Mo_similar 21 = .ok (.invokevirtual 161, 3) := by decide +kernel
theorem d_Mo_similar_24 : decode b_Mo_similar 24 = .ok (.ifCond .ne (41), 3) := by decide +kernel
theorem d_Mo_similar_27 : decode b_Mo_similar 27 = .ok (.aload_n 0, 1) := by decide +kernel
theorem d_Mo_similar_28 : decode b_Mo_similar 28 = .ok (.getfield 7, 3) := by decide +kernel
theorem d_Mo_similar_31 : decode b_Mo_similar 31 = .ok (.bipush (100), 2) := by decide +kernel
theorem d_Mo_similar_33 : decode b_Mo_similar 33 = .ok (.iload_n 1, 1) := by decide +kernel
theorem d_Mo_similar_34 : decode b_Mo_similar 34 = .ok (.imul, 1) := by decide +kernel
theorem d_Mo_similar_35 : decode b_Mo_similar 35 = .ok (.aload_n 0, 1) := by decide +kernel
theorem d_Mo_similar_36 : decode b_Mo_similar 36 = .ok (.getfield 13, 3) := by decide +kernel
theorem d_Mo_similar_39 : decode b_Mo_similar 39 = .ok (.iload_n 1, 1) := by decide +kernel
theorem d_Mo_similar_40 : decode b_Mo_similar 40 = .ok (.iaload, 1) := by decide +kernel
theorem d_Mo_similar_41 : decode b_Mo_similar 41 = .ok (.aload_n 0, 1) := by decide +kernel
theorem d_Mo_similar_42 : decode b_Mo_similar 42 = .ok (.getfield 7, 3) := by decide +kernel
theorem d_Mo_similar_45 : decode b_Mo_similar 45 = .ok (.bipush (100), 2) := by decide +kernel
theorem d_Mo_similar_47 : decode b_Mo_similar 47 = .ok (.iload_n 2, 1) := by decide +kernel
theorem d_Mo_similar_48 : decode b_Mo_similar 48 = .ok (.imul, 1) := by decide +kernel
theorem d_Mo_similar_49 : decode b_Mo_similar 49 = .ok (.aload_n 0, 1) := by decide +kernel
theorem d_Mo_similar_50 : decode b_Mo_similar 50 = .ok (.getfield 13, 3) := by decide +kernel
theorem d_Mo_similar_53 : decode b_Mo_similar 53 = .ok (.iload_n 2, 1) := by decide +kernel
theorem d_Mo_similar_54 : decode b_Mo_similar 54 = .ok (.iaload, 1) := by decide +kernel
theorem d_Mo_similar_55 : decode b_Mo_similar 55 = .ok (.invokestatic 172, 3) := by decide +kernel
theorem d_Mo_similar_58 : decode b_Mo_similar 58 = .ok (.ifCond .eq (7), 3) := by decide +kernel
theorem d_Mo_similar_61 : decode b_Mo_similar 61 = .ok (.iconst (1), 1) := by decide +kernel
theorem d_Mo_similar_62 : decode b_Mo_similar 62 = .ok (.goto (4), 3) := by decide +kernel
theorem d_Mo_similar_65 : decode b_Mo_similar 65 = .ok (.iconst (0), 1) := by decide +kernel
theorem d_Mo_similar_66 : decode b_Mo_similar 66 = .ok (.ireturn, 1) := by decide +kernel
section
variable {p : Program} {l : Launch} {e : Env} {R : Room} {s : State} {m : MethodId} {args : Array Value} {below : List Frame} {meth : Method} {c : Code} {D : va_G} {base : Nat} {g : Nat → ClassId} {az : Nat → Nat} {kz : Nat × Nat}
set_option maxRecDepth 100000 in
set_option maxHeartbeats 4000000 in
theorem t_Mo_similar_20  (B : xB p R s m args meth c b_Mo_similar 3 R_Mo (Cond.code y_Mo_similar b_Mo_similar 3 (some .boolean) :: x_T) (some .boolean) 1 27 D x_cl (xty g) base)  (l1 : Int32) (l2 : Int32) (s1 : Int32) (M : MS)  : Sn p l e R s m args below meth c 3 D x_cl base (xwd g) cM x_g0 az kz (xfc cM) (xZ below args s D x_cl (xty g) base (xwd g) cM x_g0 az kz ovI) 20 [.int s1, .ref 97] [(0, .ref 97), (1, .int l1), (2, .int l2)] M (m_Mo_similar_20 l1 l2 s1 M) := by
  unfold m_Mo_similar_20
  refine s_iconst (v := (0:Int32)) B d_Mo_similar_20 (by decide) ?_
  refine s_pick (lv1 := [(0, .ref 97), (1, .int l1), (2, .int l2)]) [0, 1, 2] rfl ?_
  refine s_callI (av := [.ref 97, .int s1, .int (0:Int32)]) (rest := []) B (lk_V B d_Mo_similar_21 (gl_Mo_161 _) rfl hv_Mo_fails (by decide) (by decide)) rfl (x_rcV B xc_Mo kd_97) (fun _ _ => rfl) rfl rfl (by simp [Value.category]) rfl (fun r1 e9 => ct_Mo_fails _ _ _ r1 e9) (fun r1 _ => ?_)
  refine s_if_ne B d_Mo_similar_24 rfl (fun _ => ?_) (fun _ => ?_)
  · refine s_iconst (v := (0:Int32)) B d_Mo_similar_65 (by decide) ?_
    exact s_zret0 rfl B d_Mo_similar_66
  · refine s_aload_n B d_Mo_similar_27 rfl ?_
    refine s_getS (k := 1) (n := 98) B xc_Mo kd_97 (by decide) rfl rfl fl_Mo_7 sr_97_1 d_Mo_similar_28 ?_
    refine s_bipush (v := (100:Int32)) B d_Mo_similar_31 (by decide) ?_
    refine s_iload_n B d_Mo_similar_33 rfl ?_
    refine s_imul B d_Mo_similar_34 ?_
    refine s_aload_n B d_Mo_similar_35 rfl ?_
    refine s_getS (k := 2) (n := 99) B xc_Mo kd_97 (by decide) rfl rfl fl_Mo_13 sr_97_2 d_Mo_similar_36 ?_
    refine s_iload_n B d_Mo_similar_39 rfl ?_
    refine s_iald B (Or.inl kd_99) d_Mo_similar_40 (fun v2 _ => ?_)
    refine s_aload_n B d_Mo_similar_41 rfl ?_
    refine s_getS (k := 1) (n := 98) B xc_Mo kd_97 (by decide) rfl rfl fl_Mo_7 sr_97_1 d_Mo_similar_42 ?_
    refine s_bipush (v := (100:Int32)) B d_Mo_similar_45 (by decide) ?_
    refine s_iload_n B d_Mo_similar_47 rfl ?_
    refine s_imul B d_Mo_similar_48 ?_
    refine s_aload_n B d_Mo_similar_49 rfl ?_
    refine s_getS (k := 2) (n := 99) B xc_Mo kd_97 (by decide) rfl rfl fl_Mo_13 sr_97_2 d_Mo_similar_50 ?_
    refine s_iload_n B d_Mo_similar_53 rfl ?_
    refine s_iald B (Or.inl kd_99) d_Mo_similar_54 (fun v3 _ => ?_)
    refine s_pick (lv1 := []) [] rfl ?_
    refine s_callI (av := [.ref 98, .int ((100:Int32) * l1), .int v2, .ref 98, .int ((100:Int32) * l2), .int v3]) (rest := []) B (lk_S B d_Mo_similar_55 (gl_Mo_172 _) (List.mem_cons_of_mem _ st_Mo_same) (List.mem_cons_of_mem _ in_Mo) (List.mem_cons_of_mem _ ml_Mo_172) rfl hs_Mo_same (by decide) (by decide)) rfl x_rcS (fun _ _ => rfl) rfl rfl (by simp [Value.category]) rfl (fun r4 e9 => ct_Mo_same _ _ _ _ _ _ _ r4 e9) (fun r4 _ => ?_)
    refine s_if_eq B d_Mo_similar_58 rfl (fun _ => ?_) (fun _ => ?_)
    · refine s_iconst (v := (0:Int32)) B d_Mo_similar_65 (by decide) ?_
      exact s_zret0 rfl B d_Mo_similar_66
    · refine s_iconst (v := (1:Int32)) B d_Mo_similar_61 (by decide) ?_
      refine s_goto B d_Mo_similar_62 rfl ?_
      exact s_zret0 rfl B d_Mo_similar_66
set_option maxRecDepth 100000 in
set_option maxHeartbeats 4000000 in
theorem t_Mo_similar_15  (B : xB p R s m args meth c b_Mo_similar 3 R_Mo (Cond.code y_Mo_similar b_Mo_similar 3 (some .boolean) :: x_T) (some .boolean) 1 27 D x_cl (xty g) base)  (l1 : Int32) (l2 : Int32) (M : MS)  : Sn p l e R s m args below meth c 3 D x_cl base (xwd g) cM x_g0 az kz (xfc cM) (xZ below args s D x_cl (xty g) base (xwd g) cM x_g0 az kz ovI) 15 [.ref 97] [(0, .ref 97), (1, .int l1), (2, .int l2)] M (m_Mo_similar_15 l1 l2 M) := by
  unfold m_Mo_similar_15
  refine s_iconst (v := (1:Int32)) B d_Mo_similar_15 (by decide) ?_
  refine s_goto B d_Mo_similar_16 rfl ?_
  refine s_pick (lv1 := [(0, .ref 97), (1, .int l1), (2, .int l2)]) [0, 1, 2] rfl ?_
  exact t_Mo_similar_20 B l1 l2 (1:Int32) M
set_option maxRecDepth 100000 in
set_option maxHeartbeats 4000000 in
theorem t_Mo_similar (B : xB p R s m args meth c b_Mo_similar 3 R_Mo (Cond.code y_Mo_similar b_Mo_similar 3 (some .boolean) :: x_T) (some .boolean) 1 27 D x_cl (xty g) base) (a1 : Int32) (a2 : Int32) (M : MS) : Sn p l e R s m args below meth c 3 D x_cl base (xwd g) cM x_g0 az kz (xfc cM) (xZ below args s D x_cl (xty g) base (xwd g) cM x_g0 az kz ovI) 0 [] [(0, .ref 97), (1, .int a1), (2, .int a2)] M (m_Mo_similar a1 a2 M) := by
  unfold m_Mo_similar
  refine s_aload_n B d_Mo_similar_0 rfl ?_
  refine s_iload_n B d_Mo_similar_1 rfl ?_
  refine s_pick (lv1 := [(0, .ref 97), (1, .int a1), (2, .int a2)]) [0, 1, 2] rfl ?_
  refine s_callI (av := [.int a1]) (rest := [.ref 97]) B (lk_S B d_Mo_similar_2 (gl_Mo_158 _) (List.mem_cons_of_mem _ st_Mo_isSlot) (List.mem_cons_of_mem _ in_Mo) (List.mem_cons_of_mem _ ml_Mo_158) rfl hs_Mo_isSlot (by decide) (by decide)) rfl x_rcS (fun _ _ => rfl) rfl rfl (by simp [Value.category]) rfl (fun r1 e9 => ct_Mo_isSlot _ _ r1 e9) (fun r1 _ => ?_)
  refine s_if_eq B d_Mo_similar_5 rfl (fun _ => ?_) (fun _ => ?_)
  · refine s_pick (lv1 := [(0, .ref 97), (1, .int a1), (2, .int a2)]) [0, 1, 2] rfl ?_
    exact t_Mo_similar_15 B a1 a2 r1.1
  · refine s_iload_n B d_Mo_similar_8 rfl ?_
    refine s_pick (lv1 := [(0, .ref 97), (1, .int a1), (2, .int a2)]) [0, 1, 2] rfl ?_
    refine s_callI (av := [.int a2]) (rest := [.ref 97]) B (lk_S B d_Mo_similar_9 (gl_Mo_158 _) (List.mem_cons_of_mem _ st_Mo_isSlot) (List.mem_cons_of_mem _ in_Mo) (List.mem_cons_of_mem _ ml_Mo_158) rfl hs_Mo_isSlot (by decide) (by decide)) rfl x_rcS (fun _ _ => rfl) rfl rfl (by simp [Value.category]) rfl (fun r2 e9 => ct_Mo_isSlot _ _ r2 e9) (fun r2 _ => ?_)
    refine s_if_ne B d_Mo_similar_12 rfl (fun _ => ?_) (fun _ => ?_)
    · refine s_iconst (v := (0:Int32)) B d_Mo_similar_19 (by decide) ?_
      refine s_pick (lv1 := [(0, .ref 97), (1, .int a1), (2, .int a2)]) [0, 1, 2] rfl ?_
      exact t_Mo_similar_20 B a1 a2 (0:Int32) r2.1
    · refine s_pick (lv1 := [(0, .ref 97), (1, .int a1), (2, .int a2)]) [0, 1, 2] rfl ?_
      exact t_Mo_similar_15 B a1 a2 r2.1
set_option maxRecDepth 100000 in
set_option maxHeartbeats 4000000 in
theorem ct_Mo_similar {l : Launch} {D : va_G} {base : Nat} {g : Nat → ClassId} (a1 : Int32) (a2 : Int32) (M : MS) (r : MS × Int32) (hr : m_Mo_similar a1 a2 M = some r) : Ct l y_Mo_similar (Cond.code y_Mo_similar b_Mo_similar 3 (some .boolean) :: x_T) 1 27 D x_cl (xty g) base (xwd g) cM x_g0 [.ref 97, .int a1, .int a2] M r.1 (ovI r.2) :=
  x_met (ov := ovI) (by decide) (Nat.le_of_ble_eq_true rfl) (fun p e R s m args below meth c az B => t_Mo_similar B a1 a2 M) r hr
end
theorem d_Mo_match_0 : decode b_Mo_match 0 = .ok (.bipush (17), 2) := by decide +kernel
theorem d_Mo_match_2 : decode b_Mo_match 2 = .ok (.iload_n 1, 1) := by decide +kernel
theorem d_Mo_match_3 : decode b_Mo_match 3 = .ok (.imul, 1) := by decide +kernel
theorem d_Mo_match_4 : decode b_Mo_match 4 = .ok (.istore 6, 2) := by decide +kernel
theorem d_Mo_match_6 : decode b_Mo_match 6 = .ok (.iload_n 3, 1) := by decide +kernel
theorem d_Mo_match_7 : decode b_Mo_match 7 = .ok (.ifCond .le (17), 3) := by decide +kernel
theorem d_Mo_match_10 : decode b_Mo_match 10 = .ok (.bipush (17), 2) := by decide +kernel
theorem d_Mo_match_12 : decode b_Mo_match 12 = .ok (.aload_n 0, 1) := by decide +kernel
theorem d_Mo_match_13 : decode b_Mo_match 13 = .ok (.getfield 90, 3) := by decide +kernel
theorem d_Mo_match_16 : decode b_Mo_match 16 = .ok (.iload_n 3, 1) := by decide +kernel
theorem d_Mo_match_17 : decode b_Mo_match 17 = .ok (.iconst (1), 1) := by decide +kernel
theorem d_Mo_match_18 : decode b_Mo_match 18 = .ok (.isub, 1) := by decide +kernel
theorem d_Mo_match_19 : decode b_Mo_match 19 = .ok (.iaload, 1) := by decide +kernel
theorem d_Mo_match_20 : decode b_Mo_match 20 = .ok (.imul, 1) := by decide +kernel
theorem d_Mo_match_21 : decode b_Mo_match 21 = .ok (.goto (4), 3) := by decide +kernel
theorem d_Mo_match_24 : decode b_Mo_match 24 = .ok (.iconst (0), 1) := by decide +kernel
theorem d_Mo_match_25 : decode b_Mo_match 25 = .ok (.istore 7, 2) := by decide +kernel
theorem d_Mo_match_27 : decode b_Mo_match 27 = .ok (.iload_n 3, 1) := by decide +kernel
theorem d_Mo_match_28 : decode b_Mo_match 28 = .ok (.iconst (1), 1) := by decide +kernel
theorem d_Mo_match_29 : decode b_Mo_match 29 = .ok (.if_icmp .le (17), 3) := by decide +kernel
theorem d_Mo_match_32 : decode b_Mo_match 32 = .ok (.bipush (17), 2) := by decide +kernel
theorem d_Mo_match_34 : decode b_Mo_match 34 = .ok (.aload_n 0, 1) := by decide +kernel
theorem d_Mo_match_35 : decode b_Mo_match 35 = .ok (.getfield 90, 3) := by decide +kernel
theorem d_Mo_match_38 : decode b_Mo_match 38 = .ok (.iload_n 3, 1) := by decide +kernel
theorem d_Mo_match_39 : decode b_Mo_match 39 = .ok (.iconst (2), 1) := by decide +kernel
theorem d_Mo_match_40 : decode b_Mo_match 40 = .ok (.isub, 1) := by decide +kernel
theorem d_Mo_match_41 : decode b_Mo_match 41 = .ok (.iaload, 1) := by decide +kernel
theorem d_Mo_match_42 : decode b_Mo_match 42 = .ok (.imul, 1) := by decide +kernel
theorem d_Mo_match_43 : decode b_Mo_match 43 = .ok (.goto (4), 3) := by decide +kernel
theorem d_Mo_match_46 : decode b_Mo_match 46 = .ok (.iconst (0), 1) := by decide +kernel
theorem d_Mo_match_47 : decode b_Mo_match 47 = .ok (.istore 8, 2) := by decide +kernel
theorem d_Mo_match_49 : decode b_Mo_match 49 = .ok (.iconst (0), 1) := by decide +kernel
theorem d_Mo_match_50 : decode b_Mo_match 50 = .ok (.istore 9, 2) := by decide +kernel
theorem d_Mo_match_52 : decode b_Mo_match 52 = .ok (.iload 9, 2) := by decide +kernel
theorem d_Mo_match_54 : decode b_Mo_match 54 = .ok (.iload 5, 2) := by decide +kernel
theorem d_Mo_match_56 : decode b_Mo_match 56 = .ok (.if_icmp .gt (377), 3) := by decide +kernel
theorem d_Mo_match_59 : decode b_Mo_match 59 = .ok (.iconst (1), 1) := by decide +kernel
theorem d_Mo_match_60 : decode b_Mo_match 60 = .ok (.iload 5, 2) := by decide +kernel
theorem d_Mo_match_62 : decode b_Mo_match 62 = .ok (.iconst (1), 1) := by decide +kernel
theorem d_Mo_match_63 : decode b_Mo_match 63 = .ok (.iadd, 1) := by decide +kernel
theorem d_Mo_match_64 : decode b_Mo_match 64 = .ok (.ishl, 1) := by decide +kernel
theorem d_Mo_match_65 : decode b_Mo_match 65 = .ok (.iconst (1), 1) := by decide +kernel
theorem d_Mo_match_66 : decode b_Mo_match 66 = .ok (.isub, 1) := by decide +kernel
theorem d_Mo_match_67 : decode b_Mo_match 67 = .ok (.iconst (-1), 1) := by decide +kernel
theorem d_Mo_match_68 : decode b_Mo_match 68 = .ok (.iload 9, 2) := by decide +kernel
theorem d_Mo_match_70 : decode b_Mo_match 70 = .ok (.ishl, 1) := by decide +kernel
theorem d_Mo_match_71 : decode b_Mo_match 71 = .ok (.iand, 1) := by decide +kernel
theorem d_Mo_match_72 : decode b_Mo_match 72 = .ok (.istore 10, 2) := by decide +kernel
theorem d_Mo_match_74 : decode b_Mo_match 74 = .ok (.iconst (0), 1) := by decide +kernel
theorem d_Mo_match_75 : decode b_Mo_match 75 = .ok (.istore 11, 2) := by decide +kernel
theorem d_Mo_match_77 : decode b_Mo_match 77 = .ok (.iload_n 2, 1) := by decide +kernel
theorem d_Mo_match_78 : decode b_Mo_match 78 = .ok (.invokestatic 96, 3) := by decide +kernel
theorem d_Mo_match_81 : decode b_Mo_match 81 = .ok (.tableswitch (237) (0) (7) #[47, 50, 59, 103, 237, 237, 161, 181], 47) := by decide +kernel
theorem d_Mo_match_128 : decode b_Mo_match 128 = .ok (.goto (287), 3) := by decide +kernel
theorem d_Mo_match_131 : decode b_Mo_match 131 = .ok (.iconst (1), 1) := by decide +kernel
theorem d_Mo_match_132 : decode b_Mo_match 132 = .ok (.iload 9, 2) := by decide +kernel
theorem d_Mo_match_134 : decode b_Mo_match 134 = .ok (.ishl, 1) := by decide +kernel
theorem d_Mo_match_135 : decode b_Mo_match 135 = .ok (.istore 11, 2) := by decide +kernel
theorem d_Mo_match_137 : decode b_Mo_match 137 = .ok (.goto (278), 3) := by decide +kernel
theorem d_Mo_match_140 : decode b_Mo_match 140 = .ok (.iload 9, 2) := by decide +kernel
theorem d_Mo_match_142 : decode b_Mo_match 142 = .ok (.iload 5, 2) := by decide +kernel
theorem d_Mo_match_144 : decode b_Mo_match 144 = .ok (.if_icmp .ge (34), 3) := by decide +kernel
theorem d_Mo_match_147 : decode b_Mo_match 147 = .ok (.iload_n 2, 1) := by decide +kernel
theorem d_Mo_match_148 : decode b_Mo_match 148 = .ok (.iconst (3), 1) := by decide +kernel
theorem d_Mo_match_149 : decode b_Mo_match 149 = .ok (.ishr, 1) := by decide +kernel
theorem d_Mo_match_150 : decode b_Mo_match 150 = .ok (.iload 4, 2) := by decide +kernel
theorem d_Mo_match_152 : decode b_Mo_match 152 = .ok (.iconst (2), 1) := by decide +kernel
theorem d_Mo_match_153 : decode b_Mo_match 153 = .ok (.iload 5, 2) := by decide +kernel
theorem d_Mo_match_155 : decode b_Mo_match 155 = .ok (.iconst (1), 1) := by decide +kernel
theorem d_Mo_match_156 : decode b_Mo_match 156 = .ok (.isub, 1) := by decide +kernel
theorem d_Mo_match_157 : decode b_Mo_match 157 = .ok (.iload 9, 2) := by decide +kernel
theorem d_Mo_match_159 : decode b_Mo_match 159 = .ok (.isub, 1) := by decide +kernel
theorem d_Mo_match_160 : decode b_Mo_match 160 = .ok (.imul, 1) := by decide +kernel
theorem d_Mo_match_161 : decode b_Mo_match 161 = .ok (.ishr, 1) := by decide +kernel
theorem d_Mo_match_162 : decode b_Mo_match 162 = .ok (.iconst (3), 1) := by decide +kernel
theorem d_Mo_match_163 : decode b_Mo_match 163 = .ok (.iand, 1) := by decide +kernel
theorem d_Mo_match_164 : decode b_Mo_match 164 = .ok (.ishr, 1) := by decide +kernel
theorem d_Mo_match_165 : decode b_Mo_match 165 = .ok (.iconst (1), 1) := by decide +kernel
theorem d_Mo_match_166 : decode b_Mo_match 166 = .ok (.iand, 1) := by decide +kernel
theorem d_Mo_match_167 : decode b_Mo_match 167 = .ok (.iconst (1), 1) := by decide +kernel
theorem d_Mo_match_168 : decode b_Mo_match 168 = .ok (.if_icmp .ne (10), 3) := by decide +kernel
theorem d_Mo_match_171 : decode b_Mo_match 171 = .ok (.iconst (2), 1) := by decide +kernel
theorem d_Mo_match_172 : decode b_Mo_match 172 = .ok (.iload 9, 2) := by decide +kernel
theorem d_Mo_match_174 : decode b_Mo_match 174 = .ok (.ishl, 1) := by decide +kernel
theorem d_Mo_match_175 : decode b_Mo_match 175 = .ok (.goto (4), 3) := by decide +kernel
theorem d_Mo_match_178 : decode b_Mo_match 178 = .ok (.iconst (0), 1) := by decide +kernel
theorem d_Mo_match_179 : decode b_Mo_match 179 = .ok (.istore 11, 2) := by decide +kernel
theorem d_Mo_match_181 : decode b_Mo_match 181 = .ok (.goto (234), 3) := by decide +kernel
theorem d_Mo_match_184 : decode b_Mo_match 184 = .ok (.iload 9, 2) := by decide +kernel
theorem d_Mo_match_186 : decode b_Mo_match 186 = .ok (.istore 12, 2) := by decide +kernel
theorem d_Mo_match_188 : decode b_Mo_match 188 = .ok (.iload 12, 2) := by decide +kernel
theorem d_Mo_match_190 : decode b_Mo_match 190 = .ok (.iload 5, 2) := by decide +kernel
theorem d_Mo_match_192 : decode b_Mo_match 192 = .ok (.if_icmp .gt (47), 3) := by decide +kernel
theorem d_Mo_match_195 : decode b_Mo_match 195 = .ok (.iload 11, 2) := by decide +kernel
theorem d_Mo_match_197 : decode b_Mo_match 197 = .ok (.aload_n 0, 1) := by decide +kernel
theorem d_Mo_match_198 : decode b_Mo_match 198 = .ok (.getfield 87, 3) := by decide +kernel
theorem d_Mo_match_201 : decode b_Mo_match 201 = .ok (.iload 7, 2) := by decide +kernel
theorem d_Mo_match_203 : decode b_Mo_match 203 = .ok (.iload 9, 2) := by decide +kernel
theorem d_Mo_match_205 : decode b_Mo_match 205 = .ok (.iadd, 1) := by decide +kernel
theorem d_Mo_match_206 : decode b_Mo_match 206 = .ok (.iaload, 1) := by decide +kernel
theorem d_Mo_match_207 : decode b_Mo_match 207 = .ok (.iload 12, 2) := by decide +kernel
theorem d_Mo_match_209 : decode b_Mo_match 209 = .ok (.ishr, 1) := by decide +kernel
theorem d_Mo_match_210 : decode b_Mo_match 210 = .ok (.iconst (1), 1) := by decide +kernel
theorem d_Mo_match_211 : decode b_Mo_match 211 = .ok (.iand, 1) := by decide +kernel
theorem d_Mo_match_212 : decode b_Mo_match 212 = .ok (.iconst (1), 1) := by decide +kernel
theorem d_Mo_match_213 : decode b_Mo_match 213 = .ok (.if_icmp .ne (16), 3) := by decide +kernel
theorem d_Mo_match_216 : decode b_Mo_match 216 = .ok (.aload_n 0, 1) := by decide +kernel
theorem d_Mo_match_217 : decode b_Mo_match 217 = .ok (.getfield 87, 3) := by decide +kernel
theorem d_Mo_match_220 : decode b_Mo_match 220 = .ok (.iload 8, 2) := by decide +kernel
theorem d_Mo_match_222 : decode b_Mo_match 222 = .ok (.iload 12, 2) := by decide +kernel
theorem d_Mo_match_224 : decode b_Mo_match 224 = .ok (.iadd, 1) := by decide +kernel
theorem d_Mo_match_225 : decode b_Mo_match 225 = .ok (.iaload, 1) := by decide +kernel
theorem d_Mo_match_226 : decode b_Mo_match 226 = .ok (.goto (4), 3) := by decide +kernel
theorem d_Mo_match_229 : decode b_Mo_match 229 = .ok (.iconst (0), 1) := by decide +kernel
theorem d_Mo_match_230 : decode b_Mo_match 230 = .ok (.ior, 1) := by decide +kernel
theorem d_Mo_match_231 : decode b_Mo_match 231 = .ok (.istore 11, 2) := by decide +kernel
theorem d_Mo_match_233 : decode b_Mo_match 233 = .ok (.iinc 12 (1), 3) := by decide +kernel
theorem d_Mo_match_236 : decode b_Mo_match 236 = .ok (.goto (-48), 3) := by decide +kernel
theorem d_Mo_match_239 : decode b_Mo_match 239 = .ok (.goto (176), 3) := by decide +kernel
theorem d_Mo_match_242 : decode b_Mo_match 242 = .ok (.iload 10, 2) := by decide +kernel
theorem d_Mo_match_244 : decode b_Mo_match 244 = .ok (.aload_n 0, 1) := by decide +kernel
theorem d_Mo_match_245 : decode b_Mo_match 245 = .ok (.getfield 87, 3) := by decide +kernel
theorem d_Mo_match_248 : decode b_Mo_match 248 = .ok (.iload 7, 2) := by decide +kernel
theorem d_Mo_match_250 : decode b_Mo_match 250 = .ok (.iload 9, 2) := by decide +kernel
theorem d_Mo_match_252 : decode b_Mo_match 252 = .ok (.iadd, 1) := by decide +kernel
theorem d_Mo_match_253 : decode b_Mo_match 253 = .ok (.iaload, 1) := by decide +kernel
theorem d_Mo_match_254 : decode b_Mo_match 254 = .ok (.iconst (-1), 1) := by decide +kernel
theorem d_Mo_match_255 : decode b_Mo_match 255 = .ok (.ixor, 1) := by decide +kernel
theorem d_Mo_match_256 : decode b_Mo_match 256 = .ok (.iand, 1) := by decide +kernel
theorem d_Mo_match_257 : decode b_Mo_match 257 = .ok (.istore 11, 2) := by decide +kernel
theorem d_Mo_match_259 : decode b_Mo_match 259 = .ok (.goto (156), 3) := by decide +kernel
theorem d_Mo_match_262 : decode b_Mo_match 262 = .ok (.iconst (1), 1) := by decide +kernel
theorem d_Mo_match_263 : decode b_Mo_match 263 = .ok (.iload 9, 2) := by decide +kernel
theorem d_Mo_match_265 : decode b_Mo_match 265 = .ok (.ishl, 1) := by decide +kernel
theorem d_Mo_match_266 : decode b_Mo_match 266 = .ok (.istore 11, 2) := by decide +kernel
theorem d_Mo_match_268 : decode b_Mo_match 268 = .ok (.iload 9, 2) := by decide +kernel
theorem d_Mo_match_270 : decode b_Mo_match 270 = .ok (.istore 12, 2) := by decide +kernel
theorem d_Mo_match_272 : decode b_Mo_match 272 = .ok (.iload 12, 2) := by decide +kernel
theorem d_Mo_match_274 : decode b_Mo_match 274 = .ok (.iload 5, 2) := by decide +kernel
theorem d_Mo_match_276 : decode b_Mo_match 276 = .ok (.if_icmp .gt (39), 3) := by decide +kernel
theorem d_Mo_match_279 : decode b_Mo_match 279 = .ok (.iload 11, 2) := by decide +kernel
theorem d_Mo_match_281 : decode b_Mo_match 281 = .ok (.iload 11, 2) := by decide +kernel
theorem d_Mo_match_283 : decode b_Mo_match 283 = .ok (.iload 12, 2) := by decide +kernel
theorem d_Mo_match_285 : decode b_Mo_match 285 = .ok (.ishr, 1) := by decide +kernel
theorem d_Mo_match_286 : decode b_Mo_match 286 = .ok (.iconst (1), 1) := by decide +kernel
theorem d_Mo_match_287 : decode b_Mo_match 287 = .ok (.iand, 1) := by decide +kernel
theorem d_Mo_match_288 : decode b_Mo_match 288 = .ok (.iconst (1), 1) := by decide +kernel
theorem d_Mo_match_289 : decode b_Mo_match 289 = .ok (.if_icmp .ne (16), 3) := by decide +kernel
theorem d_Mo_match_292 : decode b_Mo_match 292 = .ok (.aload_n 0, 1) := by decide +kernel
theorem d_Mo_match_293 : decode b_Mo_match 293 = .ok (.getfield 87, 3) := by decide +kernel
theorem d_Mo_match_296 : decode b_Mo_match 296 = .ok (.iload 7, 2) := by decide +kernel
theorem d_Mo_match_298 : decode b_Mo_match 298 = .ok (.iload 12, 2) := by decide +kernel
theorem d_Mo_match_300 : decode b_Mo_match 300 = .ok (.iadd, 1) := by decide +kernel
theorem d_Mo_match_301 : decode b_Mo_match 301 = .ok (.iaload, 1) := by decide +kernel
theorem d_Mo_match_302 : decode b_Mo_match 302 = .ok (.goto (4), 3) := by decide +kernel
theorem d_Mo_match_305 : decode b_Mo_match 305 = .ok (.iconst (0), 1) := by decide +kernel
theorem d_Mo_match_306 : decode b_Mo_match 306 = .ok (.ior, 1) := by decide +kernel
theorem d_Mo_match_307 : decode b_Mo_match 307 = .ok (.istore 11, 2) := by decide +kernel
theorem d_Mo_match_309 : decode b_Mo_match 309 = .ok (.iinc 12 (1), 3) := by decide +kernel
theorem d_Mo_match_312 : decode b_Mo_match 312 = .ok (.goto (-40), 3) := by decide +kernel
theorem d_Mo_match_315 : decode b_Mo_match 315 = .ok (.goto (100), 3) := by decide +kernel
theorem d_Mo_match_318 : decode b_Mo_match 318 = .ok (.iload_n 2, 1) := by decide +kernel
theorem d_Mo_match_319 : decode b_Mo_match 319 = .ok (.invokestatic 96, 3) := by decide +kernel
theorem d_Mo_match_322 : decode b_Mo_match 322 = .ok (.iconst (4), 1) := by decide +kernel
theorem d_Mo_match_323 : decode b_Mo_match 323 = .ok (.if_icmp .ne (7), 3) := by decide +kernel
theorem d_Mo_match_326 : decode b_Mo_match 326 = .ok (.iconst (0), 1) := by decide +kernel
theorem d_Mo_match_327 : decode b_Mo_match 327 = .ok (.goto (5), 3) := by decide +kernel
theorem d_Mo_match_330 : decode b_Mo_match 330 = .ok (.iload 10, 2) := by decide +kernel
theorem d_Mo_match_332 : decode b_Mo_match 332 = .ok (.istore 11, 2) := by decide +kernel
theorem d_Mo_match_334 : decode b_Mo_match 334 = .ok (.iconst (0), 1) := by decide +kernel
theorem d_Mo_match_335 : decode b_Mo_match 335 = .ok (.istore 12, 2) := by decide +kernel
theorem d_Mo_match_337 : decode b_Mo_match 337 = .ok (.iload 12, 2) := by decide +kernel
theorem d_Mo_match_339 : decode b_Mo_match 339 = .ok (.iload_n 2, 1) := by decide +kernel
theorem d_Mo_match_340 : decode b_Mo_match 340 = .ok (.invokestatic 100, 3) := by decide +kernel
theorem d_Mo_match_343 : decode b_Mo_match 343 = .ok (.if_icmp .ge (72), 3) := by decide +kernel
theorem d_Mo_match_346 : decode b_Mo_match 346 = .ok (.iload_n 2, 1) := by decide +kernel
theorem d_Mo_match_347 : decode b_Mo_match 347 = .ok (.invokestatic 96, 3) := by decide +kernel
theorem d_Mo_match_350 : decode b_Mo_match 350 = .ok (.iconst (4), 1) := by decide +kernel
theorem d_Mo_match_351 : decode b_Mo_match 351 = .ok (.if_icmp .ne (31), 3) := by decide +kernel
theorem d_Mo_match_354 : decode b_Mo_match 354 = .ok (.iload 11, 2) := by decide +kernel
theorem d_Mo_match_356 : decode b_Mo_match 356 = .ok (.aload_n 0, 1) := by decide +kernel
theorem d_Mo_match_357 : decode b_Mo_match 357 = .ok (.getfield 87, 3) := by decide +kernel
theorem d_Mo_match_360 : decode b_Mo_match 360 = .ok (.bipush (17), 2) := by decide +kernel
theorem d_Mo_match_362 : decode b_Mo_match 362 = .ok (.aload_n 0, 1) := by decide +kernel
theorem d_Mo_match_363 : decode b_Mo_match 363 = .ok (.getfield 90, 3) := by decide +kernel
theorem d_Mo_match_366 : decode b_Mo_match 366 = .ok (.iload_n 3, 1) := by decide +kernel
theorem d_Mo_match_367 : decode b_Mo_match 367 = .ok (.iconst (1), 1) := by decide +kernel
theorem d_Mo_match_368 : decode b_Mo_match 368 = .ok (.isub, 1) := by decide +kernel
theorem d_Mo_match_369 : decode b_Mo_match 369 = .ok (.iload 12, 2) := by decide +kernel
theorem d_Mo_match_371 : decode b_Mo_match 371 = .ok (.isub, 1) := by decide +kernel
theorem d_Mo_match_372 : decode b_Mo_match 372 = .ok (.iaload, 1) := by decide +kernel
theorem d_Mo_match_373 : decode b_Mo_match 373 = .ok (.imul, 1) := by decide +kernel
theorem d_Mo_match_374 : decode b_Mo_match 374 = .ok (.iload 9, 2) := by decide +kernel
theorem d_Mo_match_376 : decode b_Mo_match 376 = .ok (.iadd, 1) := by decide +kernel
theorem d_Mo_match_377 : decode b_Mo_match 377 = .ok (.iaload, 1) := by decide +kernel
theorem d_Mo_match_378 : decode b_Mo_match 378 = .ok (.ior, 1) := by decide +kernel
theorem d_Mo_match_379 : decode b_Mo_match 379 = .ok (.goto (28), 3) := by decide +kernel
theorem d_Mo_match_382 : decode b_Mo_match 382 = .ok (.iload 11, 2) := by decide +kernel
theorem d_Mo_match_384 : decode b_Mo_match 384 = .ok (.aload_n 0, 1) := by decide +kernel
theorem d_Mo_match_385 : decode b_Mo_match 385 = .ok (.getfield 87, 3) := by decide +kernel
theorem d_Mo_match_388 : decode b_Mo_match 388 = .ok (.bipush (17), 2) := by decide +kernel
theorem d_Mo_match_390 : decode b_Mo_match 390 = .ok (.aload_n 0, 1) := by decide +kernel
theorem d_Mo_match_391 : decode b_Mo_match 391 = .ok (.getfield 90, 3) := by decide +kernel
theorem d_Mo_match_394 : decode b_Mo_match 394 = .ok (.iload_n 3, 1) := by decide +kernel
theorem d_Mo_match_395 : decode b_Mo_match 395 = .ok (.iconst (1), 1) := by decide +kernel
theorem d_Mo_match_396 : decode b_Mo_match 396 = .ok (.isub, 1) := by decide +kernel
theorem d_Mo_match_397 : decode b_Mo_match 397 = .ok (.iload 12, 2) := by decide +kernel
theorem d_Mo_match_399 : decode b_Mo_match 399 = .ok (.isub, 1) := by decide +kernel
theorem d_Mo_match_400 : decode b_Mo_match 400 = .ok (.iaload, 1) := by decide +kernel
theorem d_Mo_match_401 : decode b_Mo_match 401 = .ok (.imul, 1) := by decide +kernel
theorem d_Mo_match_402 : decode b_Mo_match 402 = .ok (.iload 9, 2) := by decide +kernel
theorem d_Mo_match_404 : decode b_Mo_match 404 = .ok (.iadd, 1) := by decide +kernel
theorem d_Mo_match_405 : decode b_Mo_match 405 = .ok (.iaload, 1) := by decide +kernel
theorem d_Mo_match_406 : decode b_Mo_match 406 = .ok (.iand, 1) := by decide +kernel
theorem d_Mo_match_407 : decode b_Mo_match 407 = .ok (.istore 11, 2) := by decide +kernel
theorem d_Mo_match_409 : decode b_Mo_match 409 = .ok (.iinc 12 (1), 3) := by decide +kernel
theorem d_Mo_match_412 : decode b_Mo_match 412 = .ok (.goto (-75), 3) := by decide +kernel
theorem d_Mo_match_415 : decode b_Mo_match 415 = .ok (.aload_n 0, 1) := by decide +kernel
theorem d_Mo_match_416 : decode b_Mo_match 416 = .ok (.getfield 87, 3) := by decide +kernel
theorem d_Mo_match_419 : decode b_Mo_match 419 = .ok (.iload 6, 2) := by decide +kernel
theorem d_Mo_match_421 : decode b_Mo_match 421 = .ok (.iload 9, 2) := by decide +kernel
theorem d_Mo_match_423 : decode b_Mo_match 423 = .ok (.iadd, 1) := by decide +kernel
theorem d_Mo_match_424 : decode b_Mo_match 424 = .ok (.iload 11, 2) := by decide +kernel
theorem d_Mo_match_426 : decode b_Mo_match 426 = .ok (.iastore, 1) := by decide +kernel
theorem d_Mo_match_427 : decode b_Mo_match 427 = .ok (.iinc 9 (1), 3) := by decide +kernel
theorem d_Mo_match_430 : decode b_Mo_match 430 = .ok (.goto (-378), 3) := by decide +kernel
theorem d_Mo_match_433 : decode b_Mo_match 433 = .ok (.return_, 1) := by decide +kernel
section
variable {p : Program} {l : Launch} {e : Env} {R : Room} {s : State} {m : MethodId} {args : Array Value} {below : List Frame} {meth : Method} {c : Code} {D : va_G} {base : Nat} {g : Nat → ClassId} {az : Nat → Nat} {kz : Nat × Nat}
set_option maxRecDepth 100000 in
set_option maxHeartbeats 4000000 in
theorem t_Mo_match_415 {k52 : Int32 × Int32 × Int32 × Int32 × Int32 × Int32 × Int32 × Int32 × MS → Option (MS × Unit)} (B : xB p R s m args meth c b_Mo_match 13 R_Mo (Cond.code y_Mo_match b_Mo_match 13 none :: x_T) none 2 40 D x_cl (xty g) base) (hk52 : ∀ (l2 : Int32) (l3 : Int32) (l4 : Int32) (l5 : Int32) (l6 : Int32) (l7 : Int32) (l8 : Int32) (l9 : Int32) (M : MS) , Sn p l e R s m args below meth c 13 D x_cl base (xwd g) cM x_g0 az kz (xfc cM) (xZ below args s D x_cl (xty g) base (xwd g) cM x_g0 az kz ovU) 52 [] [(0, .ref 97), (2, .int l2), (3, .int l3), (4, .int l4), (5, .int l5), (6, .int l6), (7, .int l7), (8, .int l8), (9, .int l9)] M (k52 (l2, l3, l4, l5, l6, l7, l8, l9, M))) (l2 : Int32) (l3 : Int32) (l4 : Int32) (l5 : Int32) (l6 : Int32) (l7 : Int32) (l8 : Int32) (l9 : Int32) (l11 : Int32) (M : MS)  : Sn p l e R s m args below meth c 13 D x_cl base (xwd g) cM x_g0 az kz (xfc cM) (xZ below args s D x_cl (xty g) base (xwd g) cM x_g0 az kz ovU) 415 [] [(0, .ref 97), (2, .int l2), (3, .int l3), (4, .int l4), (5, .int l5), (6, .int l6), (7, .int l7), (8, .int l8), (9, .int l9), (11, .int l11)] M (m_Mo_match_415 k52 l2 l3 l4 l5 l6 l7 l8 l9 l11 M) := by
  unfold m_Mo_match_415
  refine s_aload_n B d_Mo_match_415 rfl ?_
  refine s_getS (k := 28) (n := 121) B xc_Mo kd_97 (by decide) rfl rfl fl_Mo_87 sr_97_28 d_Mo_match_416 ?_
  refine s_iload B d_Mo_match_419 rfl ?_
  refine s_iload B d_Mo_match_421 rfl ?_
  refine s_iadd B d_Mo_match_423 ?_
  refine s_iload B d_Mo_match_424 rfl ?_
  refine s_iast B (Or.inl kd_121) d_Mo_match_426 (fun M1 _ => ?_)
  refine s_iinc (w := (1:Int32)) B d_Mo_match_427 rfl (by decide) (by decide) ?_
  refine s_goto B d_Mo_match_430 rfl ?_
  refine s_pick (lv1 := [(0, .ref 97), (2, .int l2), (3, .int l3), (4, .int l4), (5, .int l5), (6, .int l6), (7, .int l7), (8, .int l8), (9, .int (l9 + (1:Int32)))]) [0, 2, 3, 4, 5, 6, 7, 8, 9] rfl ?_
  exact hk52 l2 l3 l4 l5 l6 l7 l8 (l9 + (1:Int32)) M1
set_option maxRecDepth 100000 in
set_option maxHeartbeats 4000000 in
theorem t_Mo_match_179 {k52 : Int32 × Int32 × Int32 × Int32 × Int32 × Int32 × Int32 × Int32 × MS → Option (MS × Unit)} (B : xB p R s m args meth c b_Mo_match 13 R_Mo (Cond.code y_Mo_match b_Mo_match 13 none :: x_T) none 2 40 D x_cl (xty g) base) (hk52 : ∀ (l2 : Int32) (l3 : Int32) (l4 : Int32) (l5 : Int32) (l6 : Int32) (l7 : Int32) (l8 : Int32) (l9 : Int32) (M : MS) , Sn p l e R s m args below meth c 13 D x_cl base (xwd g) cM x_g0 az kz (xfc cM) (xZ below args s D x_cl (xty g) base (xwd g) cM x_g0 az kz ovU) 52 [] [(0, .ref 97), (2, .int l2), (3, .int l3), (4, .int l4), (5, .int l5), (6, .int l6), (7, .int l7), (8, .int l8), (9, .int l9)] M (k52 (l2, l3, l4, l5, l6, l7, l8, l9, M))) (l2 : Int32) (l3 : Int32) (l4 : Int32) (l5 : Int32) (l6 : Int32) (l7 : Int32) (l8 : Int32) (l9 : Int32) (s0 : Int32) (M : MS)  : Sn p l e R s m args below meth c 13 D x_cl base (xwd g) cM x_g0 az kz (xfc cM) (xZ below args s D x_cl (xty g) base (xwd g) cM x_g0 az kz ovU) 179 [.int s0] [(0, .ref 97), (2, .int l2), (3, .int l3), (4, .int l4), (5, .int l5), (6, .int l6), (7, .int l7), (8, .int l8), (9, .int l9)] M (m_Mo_match_179 k52 l2 l3 l4 l5 l6 l7 l8 l9 s0 M) := by
  unfold m_Mo_match_179
  refine s_istore B d_Mo_match_179 (by decide) ?_
  refine s_goto B d_Mo_match_181 rfl ?_
  refine s_pick (lv1 := [(0, .ref 97), (2, .int l2), (3, .int l3), (4, .int l4), (5, .int l5), (6, .int l6), (7, .int l7), (8, .int l8), (9, .int l9), (11, .int s0)]) [0, 2, 3, 4, 5, 6, 7, 8, 9, 11] rfl ?_
  exact t_Mo_match_415 B hk52 l2 l3 l4 l5 l6 l7 l8 l9 s0 M
set_option maxRecDepth 100000 in
set_option maxHeartbeats 4000000 in
theorem t_Mo_match_178 {k52 : Int32 × Int32 × Int32 × Int32 × Int32 × Int32 × Int32 × Int32 × MS → Option (MS × Unit)} (B : xB p R s m args meth c b_Mo_match 13 R_Mo (Cond.code y_Mo_match b_Mo_match 13 none :: x_T) none 2 40 D x_cl (xty g) base) (hk52 : ∀ (l2 : Int32) (l3 : Int32) (l4 : Int32) (l5 : Int32) (l6 : Int32) (l7 : Int32) (l8 : Int32) (l9 : Int32) (M : MS) , Sn p l e R s m args below meth c 13 D x_cl base (xwd g) cM x_g0 az kz (xfc cM) (xZ below args s D x_cl (xty g) base (xwd g) cM x_g0 az kz ovU) 52 [] [(0, .ref 97), (2, .int l2), (3, .int l3), (4, .int l4), (5, .int l5), (6, .int l6), (7, .int l7), (8, .int l8), (9, .int l9)] M (k52 (l2, l3, l4, l5, l6, l7, l8, l9, M))) (l2 : Int32) (l3 : Int32) (l4 : Int32) (l5 : Int32) (l6 : Int32) (l7 : Int32) (l8 : Int32) (l9 : Int32) (M : MS)  : Sn p l e R s m args below meth c 13 D x_cl base (xwd g) cM x_g0 az kz (xfc cM) (xZ below args s D x_cl (xty g) base (xwd g) cM x_g0 az kz ovU) 178 [] [(0, .ref 97), (2, .int l2), (3, .int l3), (4, .int l4), (5, .int l5), (6, .int l6), (7, .int l7), (8, .int l8), (9, .int l9)] M (m_Mo_match_178 k52 l2 l3 l4 l5 l6 l7 l8 l9 M) := by
  unfold m_Mo_match_178
  refine s_iconst (v := (0:Int32)) B d_Mo_match_178 (by decide) ?_
  refine s_pick (lv1 := [(0, .ref 97), (2, .int l2), (3, .int l3), (4, .int l4), (5, .int l5), (6, .int l6), (7, .int l7), (8, .int l8), (9, .int l9)]) [0, 2, 3, 4, 5, 6, 7, 8, 9] rfl ?_
  exact t_Mo_match_179 B hk52 l2 l3 l4 l5 l6 l7 l8 l9 (0:Int32) M
set_option maxRecDepth 100000 in
set_option maxHeartbeats 4000000 in
theorem t_Mo_match_239 {k52 : Int32 × Int32 × Int32 × Int32 × Int32 × Int32 × Int32 × Int32 × MS → Option (MS × Unit)} (B : xB p R s m args meth c b_Mo_match 13 R_Mo (Cond.code y_Mo_match b_Mo_match 13 none :: x_T) none 2 40 D x_cl (xty g) base) (hk52 : ∀ (l2 : Int32) (l3 : Int32) (l4 : Int32) (l5 : Int32) (l6 : Int32) (l7 : Int32) (l8 : Int32) (l9 : Int32) (M : MS) , Sn p l e R s m args below meth c 13 D x_cl base (xwd g) cM x_g0 az kz (xfc cM) (xZ below args s D x_cl (xty g) base (xwd g) cM x_g0 az kz ovU) 52 [] [(0, .ref 97), (2, .int l2), (3, .int l3), (4, .int l4), (5, .int l5), (6, .int l6), (7, .int l7), (8, .int l8), (9, .int l9)] M (k52 (l2, l3, l4, l5, l6, l7, l8, l9, M))) (l2 : Int32) (l3 : Int32) (l4 : Int32) (l5 : Int32) (l6 : Int32) (l7 : Int32) (l8 : Int32) (l9 : Int32) (l11 : Int32) (M : MS)  : Sn p l e R s m args below meth c 13 D x_cl base (xwd g) cM x_g0 az kz (xfc cM) (xZ below args s D x_cl (xty g) base (xwd g) cM x_g0 az kz ovU) 239 [] [(0, .ref 97), (2, .int l2), (3, .int l3), (4, .int l4), (5, .int l5), (6, .int l6), (7, .int l7), (8, .int l8), (9, .int l9), (11, .int l11)] M (m_Mo_match_239 k52 l2 l3 l4 l5 l6 l7 l8 l9 l11 M) := by
  unfold m_Mo_match_239
  refine s_goto B d_Mo_match_239 rfl ?_
  refine s_pick (lv1 := [(0, .ref 97), (2, .int l2), (3, .int l3), (4, .int l4), (5, .int l5), (6, .int l6), (7, .int l7), (8, .int l8), (9, .int l9), (11, .int l11)]) [0, 2, 3, 4, 5, 6, 7, 8, 9, 11] rfl ?_
  exact t_Mo_match_415 B hk52 l2 l3 l4 l5 l6 l7 l8 l9 l11 M
set_option maxRecDepth 100000 in
set_option maxHeartbeats 4000000 in
theorem t_Mo_match_188b {k52 : Int32 × Int32 × Int32 × Int32 × Int32 × Int32 × Int32 × Int32 × MS → Option (MS × Unit)} {k188 : Int32 × Int32 × Int32 × Int32 × Int32 × Int32 × Int32 × Int32 × Int32 × Int32 × MS → Option (MS × Unit)} (B : xB p R s m args meth c b_Mo_match 13 R_Mo (Cond.code y_Mo_match b_Mo_match 13 none :: x_T) none 2 40 D x_cl (xty g) base) (hk52 : ∀ (l2 : Int32) (l3 : Int32) (l4 : Int32) (l5 : Int32) (l6 : Int32) (l7 : Int32) (l8 : Int32) (l9 : Int32) (M : MS) , Sn p l e R s m args below meth c 13 D x_cl base (xwd g) cM x_g0 az kz (xfc cM) (xZ below args s D x_cl (xty g) base (xwd g) cM x_g0 az kz ovU) 52 [] [(0, .ref 97), (2, .int l2), (3, .int l3), (4, .int l4), (5, .int l5), (6, .int l6), (7, .int l7), (8, .int l8), (9, .int l9)] M (k52 (l2, l3, l4, l5, l6, l7, l8, l9, M))) (hk188 : ∀ (l2 : Int32) (l3 : Int32) (l4 : Int32) (l5 : Int32) (l6 : Int32) (l7 : Int32) (l8 : Int32) (l9 : Int32) (l11 : Int32) (l12 : Int32) (M : MS) , Sn p l e R s m args below meth c 13 D x_cl base (xwd g) cM x_g0 az kz (xfc cM) (xZ below args s D x_cl (xty g) base (xwd g) cM x_g0 az kz ovU) 188 [] [(0, .ref 97), (2, .int l2), (3, .int l3), (4, .int l4), (5, .int l5), (6, .int l6), (7, .int l7), (8, .int l8), (9, .int l9), (11, .int l11), (12, .int l12)] M (k188 (l2, l3, l4, l5, l6, l7, l8, l9, l11, l12, M))) (l2 : Int32) (l3 : Int32) (l4 : Int32) (l5 : Int32) (l6 : Int32) (l7 : Int32) (l8 : Int32) (l9 : Int32) (l11 : Int32) (l12 : Int32) (M : MS)  : Sn p l e R s m args below meth c 13 D x_cl base (xwd g) cM x_g0 az kz (xfc cM) (xZ below args s D x_cl (xty g) base (xwd g) cM x_g0 az kz ovU) 188 [] [(0, .ref 97), (2, .int l2), (3, .int l3), (4, .int l4), (5, .int l5), (6, .int l6), (7, .int l7), (8, .int l8), (9, .int l9), (11, .int l11), (12, .int l12)] M (m_Mo_match_188b k52 k188 l2 l3 l4 l5 l6 l7 l8 l9 l11 l12 M) := by
  unfold m_Mo_match_188b
  refine s_iload B d_Mo_match_188 rfl ?_
  refine s_iload B d_Mo_match_190 rfl ?_
  refine s_icmp_gt B d_Mo_match_192 rfl (fun _ => ?_) (fun _ => ?_)
  · refine s_pick (lv1 := [(0, .ref 97), (2, .int l2), (3, .int l3), (4, .int l4), (5, .int l5), (6, .int l6), (7, .int l7), (8, .int l8), (9, .int l9), (11, .int l11)]) [0, 2, 3, 4, 5, 6, 7, 8, 9, 11] rfl ?_
    exact t_Mo_match_239 B hk52 l2 l3 l4 l5 l6 l7 l8 l9 l11 M
  · refine s_iload B d_Mo_match_195 rfl ?_
    refine s_aload_n B d_Mo_match_197 rfl ?_
    refine s_getS (k := 28) (n := 121) B xc_Mo kd_97 (by decide) rfl rfl fl_Mo_87 sr_97_28 d_Mo_match_198 ?_
    refine s_iload B d_Mo_match_201 rfl ?_
    refine s_iload B d_Mo_match_203 rfl ?_
    refine s_iadd B d_Mo_match_205 ?_
    refine s_iald B (Or.inl kd_121) d_Mo_match_206 (fun v1 _ => ?_)
    refine s_iload B d_Mo_match_207 rfl ?_
    refine s_ishr B d_Mo_match_209 ?_
    refine s_iconst (v := (1:Int32)) B d_Mo_match_210 (by decide) ?_
    refine s_iand B d_Mo_match_211 ?_
    refine s_iconst (v := (1:Int32)) B d_Mo_match_212 (by decide) ?_
    refine s_icmp_ne B d_Mo_match_213 rfl (fun _ => ?_) (fun _ => ?_)
    · refine s_iconst (v := (0:Int32)) B d_Mo_match_229 (by decide) ?_
      refine s_ior B d_Mo_match_230 ?_
      refine s_istore B d_Mo_match_231 (by decide) ?_
      refine s_iinc (w := (1:Int32)) B d_Mo_match_233 rfl (by decide) (by decide) ?_
      refine s_goto B d_Mo_match_236 rfl ?_
      refine s_pick (lv1 := [(0, .ref 97), (2, .int l2), (3, .int l3), (4, .int l4), (5, .int l5), (6, .int l6), (7, .int l7), (8, .int l8), (9, .int l9), (11, .int (l11 ||| (0:Int32))), (12, .int (l12 + (1:Int32)))]) [0, 2, 3, 4, 5, 6, 7, 8, 9, 11, 12] rfl ?_
      exact hk188 l2 l3 l4 l5 l6 l7 l8 l9 (l11 ||| (0:Int32)) (l12 + (1:Int32)) M
    · refine s_aload_n B d_Mo_match_216 rfl ?_
      refine s_getS (k := 28) (n := 121) B xc_Mo kd_97 (by decide) rfl rfl fl_Mo_87 sr_97_28 d_Mo_match_217 ?_
      refine s_iload B d_Mo_match_220 rfl ?_
      refine s_iload B d_Mo_match_222 rfl ?_
      refine s_iadd B d_Mo_match_224 ?_
      refine s_iald B (Or.inl kd_121) d_Mo_match_225 (fun v2 _ => ?_)
      refine s_goto B d_Mo_match_226 rfl ?_
      refine s_ior B d_Mo_match_230 ?_
      refine s_istore B d_Mo_match_231 (by decide) ?_
      refine s_iinc (w := (1:Int32)) B d_Mo_match_233 rfl (by decide) (by decide) ?_
      refine s_goto B d_Mo_match_236 rfl ?_
      refine s_pick (lv1 := [(0, .ref 97), (2, .int l2), (3, .int l3), (4, .int l4), (5, .int l5), (6, .int l6), (7, .int l7), (8, .int l8), (9, .int l9), (11, .int (l11 ||| v2)), (12, .int (l12 + (1:Int32)))]) [0, 2, 3, 4, 5, 6, 7, 8, 9, 11, 12] rfl ?_
      exact hk188 l2 l3 l4 l5 l6 l7 l8 l9 (l11 ||| v2) (l12 + (1:Int32)) M
set_option maxRecDepth 100000 in
set_option maxHeartbeats 4000000 in
theorem t_Mo_match_188 {k52 : Int32 × Int32 × Int32 × Int32 × Int32 × Int32 × Int32 × Int32 × MS → Option (MS × Unit)} (B : xB p R s m args meth c b_Mo_match 13 R_Mo (Cond.code y_Mo_match b_Mo_match 13 none :: x_T) none 2 40 D x_cl (xty g) base) (hk52 : ∀ (l2 : Int32) (l3 : Int32) (l4 : Int32) (l5 : Int32) (l6 : Int32) (l7 : Int32) (l8 : Int32) (l9 : Int32) (M : MS) , Sn p l e R s m args below meth c 13 D x_cl base (xwd g) cM x_g0 az kz (xfc cM) (xZ below args s D x_cl (xty g) base (xwd g) cM x_g0 az kz ovU) 52 [] [(0, .ref 97), (2, .int l2), (3, .int l3), (4, .int l4), (5, .int l5), (6, .int l6), (7, .int l7), (8, .int l8), (9, .int l9)] M (k52 (l2, l3, l4, l5, l6, l7, l8, l9, M))) (l2 : Int32) (l3 : Int32) (l4 : Int32) (l5 : Int32) (l6 : Int32) (l7 : Int32) (l8 : Int32) (l9 : Int32) (l11 : Int32) (l12 : Int32) (M : MS)  : Sn p l e R s m args below meth c 13 D x_cl base (xwd g) cM x_g0 az kz (xfc cM) (xZ below args s D x_cl (xty g) base (xwd g) cM x_g0 az kz ovU) 188 [] [(0, .ref 97), (2, .int l2), (3, .int l3), (4, .int l4), (5, .int l5), (6, .int l6), (7, .int l7), (8, .int l8), (9, .int l9), (11, .int l11), (12, .int l12)] M (m_Mo_match_188 k52 (l2, l3, l4, l5, l6, l7, l8, l9, l11, l12, M)) := by
  have q : ∀ (F : Nat) (i : Int32 × Int32 × Int32 × Int32 × Int32 × Int32 × Int32 × Int32 × Int32 × Int32 × MS), Sn p l e R s m args below meth c 13 D x_cl base (xwd g) cM x_g0 az kz (xfc cM) (xZ below args s D x_cl (xty g) base (xwd g) cM x_g0 az kz ovU) 188 [] [(0, .ref 97), (2, .int i.1), (3, .int i.2.1), (4, .int i.2.2.1), (5, .int i.2.2.2.1), (6, .int i.2.2.2.2.1), (7, .int i.2.2.2.2.2.1), (8, .int i.2.2.2.2.2.2.1), (9, .int i.2.2.2.2.2.2.2.1), (11, .int i.2.2.2.2.2.2.2.2.1), (12, .int i.2.2.2.2.2.2.2.2.2.1)] i.2.2.2.2.2.2.2.2.2.2 (fx (fun (k : Int32 × Int32 × Int32 × Int32 × Int32 × Int32 × Int32 × Int32 × Int32 × Int32 × MS → Option (MS × Unit)) (i : Int32 × Int32 × Int32 × Int32 × Int32 × Int32 × Int32 × Int32 × Int32 × Int32 × MS) => m_Mo_match_188b k52 k i.1 i.2.1 i.2.2.1 i.2.2.2.1 i.2.2.2.2.1 i.2.2.2.2.2.1 i.2.2.2.2.2.2.1 i.2.2.2.2.2.2.2.1 i.2.2.2.2.2.2.2.2.1 i.2.2.2.2.2.2.2.2.2.1 i.2.2.2.2.2.2.2.2.2.2) F i) := by
    intro F
    induction F with
    | zero => intro i ; exact s_none
    | succ F ih => intro i ; exact t_Mo_match_188b B hk52 (fun l2 l3 l4 l5 l6 l7 l8 l9 l11 l12 M  => ih (l2, l3, l4, l5, l6, l7, l8, l9, l11, l12, M) ) i.1 i.2.1 i.2.2.1 i.2.2.2.1 i.2.2.2.2.1 i.2.2.2.2.2.1 i.2.2.2.2.2.2.1 i.2.2.2.2.2.2.2.1 i.2.2.2.2.2.2.2.2.1 i.2.2.2.2.2.2.2.2.2.1 i.2.2.2.2.2.2.2.2.2.2 
  exact q FU (l2, l3, l4, l5, l6, l7, l8, l9, l11, l12, M) 
set_option maxRecDepth 100000 in
set_option maxHeartbeats 4000000 in
theorem t_Mo_match_337b {k52 : Int32 × Int32 × Int32 × Int32 × Int32 × Int32 × Int32 × Int32 × MS → Option (MS × Unit)} {k337 : Int32 × Int32 × Int32 × Int32 × Int32 × Int32 × Int32 × Int32 × Int32 × Int32 × MS → Option (MS × Unit)} (B : xB p R s m args meth c b_Mo_match 13 R_Mo (Cond.code y_Mo_match b_Mo_match 13 none :: x_T) none 2 40 D x_cl (xty g) base) (hk52 : ∀ (l2 : Int32) (l3 : Int32) (l4 : Int32) (l5 : Int32) (l6 : Int32) (l7 : Int32) (l8 : Int32) (l9 : Int32) (M : MS) , Sn p l e R s m args below meth c 13 D x_cl base (xwd g) cM x_g0 az kz (xfc cM) (xZ below args s D x_cl (xty g) base (xwd g) cM x_g0 az kz ovU) 52 [] [(0, .ref 97), (2, .int l2), (3, .int l3), (4, .int l4), (5, .int l5), (6, .int l6), (7, .int l7), (8, .int l8), (9, .int l9)] M (k52 (l2, l3, l4, l5, l6, l7, l8, l9, M))) (hk337 : ∀ (l2 : Int32) (l3 : Int32) (l4 : Int32) (l5 : Int32) (l6 : Int32) (l7 : Int32) (l8 : Int32) (l9 : Int32) (l11 : Int32) (l12 : Int32) (M : MS) , Sn p l e R s m args below meth c 13 D x_cl base (xwd g) cM x_g0 az kz (xfc cM) (xZ below args s D x_cl (xty g) base (xwd g) cM x_g0 az kz ovU) 337 [] [(0, .ref 97), (2, .int l2), (3, .int l3), (4, .int l4), (5, .int l5), (6, .int l6), (7, .int l7), (8, .int l8), (9, .int l9), (11, .int l11), (12, .int l12)] M (k337 (l2, l3, l4, l5, l6, l7, l8, l9, l11, l12, M))) (l2 : Int32) (l3 : Int32) (l4 : Int32) (l5 : Int32) (l6 : Int32) (l7 : Int32) (l8 : Int32) (l9 : Int32) (l11 : Int32) (l12 : Int32) (M : MS)  : Sn p l e R s m args below meth c 13 D x_cl base (xwd g) cM x_g0 az kz (xfc cM) (xZ below args s D x_cl (xty g) base (xwd g) cM x_g0 az kz ovU) 337 [] [(0, .ref 97), (2, .int l2), (3, .int l3), (4, .int l4), (5, .int l5), (6, .int l6), (7, .int l7), (8, .int l8), (9, .int l9), (11, .int l11), (12, .int l12)] M (m_Mo_match_337b k52 k337 l2 l3 l4 l5 l6 l7 l8 l9 l11 l12 M) := by
  unfold m_Mo_match_337b
  refine s_iload B d_Mo_match_337 rfl ?_
  refine s_iload_n B d_Mo_match_339 rfl ?_
  refine s_pick (lv1 := [(0, .ref 97), (2, .int l2), (3, .int l3), (4, .int l4), (5, .int l5), (6, .int l6), (7, .int l7), (8, .int l8), (9, .int l9), (11, .int l11), (12, .int l12)]) [0, 2, 3, 4, 5, 6, 7, 8, 9, 11, 12] rfl ?_
  refine s_callI (av := [.int l2]) (rest := [.int l12]) B (lk_S B d_Mo_match_340 (gl_Mo_100 _) (List.mem_cons_of_mem _ st_Mo_arity) (List.mem_cons_of_mem _ in_Mo) (List.mem_cons_of_mem _ ml_Mo_100) rfl hs_Mo_arity (by decide) (by decide)) rfl x_rcS (fun _ _ => rfl) rfl rfl (by simp [Value.category]) rfl (fun r1 e9 => ct_Mo_arity _ _ r1 e9) (fun r1 _ => ?_)
  refine s_icmp_ge B d_Mo_match_343 rfl (fun _ => ?_) (fun _ => ?_)
  · refine s_pick (lv1 := [(0, .ref 97), (2, .int l2), (3, .int l3), (4, .int l4), (5, .int l5), (6, .int l6), (7, .int l7), (8, .int l8), (9, .int l9), (11, .int l11)]) [0, 2, 3, 4, 5, 6, 7, 8, 9, 11] rfl ?_
    exact t_Mo_match_415 B hk52 l2 l3 l4 l5 l6 l7 l8 l9 l11 r1.1
  · refine s_iload_n B d_Mo_match_346 rfl ?_
    refine s_pick (lv1 := [(0, .ref 97), (2, .int l2), (3, .int l3), (4, .int l4), (5, .int l5), (6, .int l6), (7, .int l7), (8, .int l8), (9, .int l9), (11, .int l11), (12, .int l12)]) [0, 2, 3, 4, 5, 6, 7, 8, 9, 11, 12] rfl ?_
    refine s_callI (av := [.int l2]) (rest := []) B (lk_S B d_Mo_match_347 (gl_Mo_96 _) (List.mem_cons_of_mem _ st_Mo_sort) (List.mem_cons_of_mem _ in_Mo) (List.mem_cons_of_mem _ ml_Mo_96) rfl hs_Mo_sort (by decide) (by decide)) rfl x_rcS (fun _ _ => rfl) rfl rfl (by simp [Value.category]) rfl (fun r2 e9 => ct_Mo_sort _ _ r2 e9) (fun r2 _ => ?_)
    refine s_iconst (v := (4:Int32)) B d_Mo_match_350 (by decide) ?_
    refine s_icmp_ne B d_Mo_match_351 rfl (fun _ => ?_) (fun _ => ?_)
    · refine s_iload B d_Mo_match_382 rfl ?_
      refine s_aload_n B d_Mo_match_384 rfl ?_
      refine s_getS (k := 28) (n := 121) B xc_Mo kd_97 (by decide) rfl rfl fl_Mo_87 sr_97_28 d_Mo_match_385 ?_
      refine s_bipush (v := (17:Int32)) B d_Mo_match_388 (by decide) ?_
      refine s_aload_n B d_Mo_match_390 rfl ?_
      refine s_getS (k := 29) (n := 122) B xc_Mo kd_97 (by decide) rfl rfl fl_Mo_90 sr_97_29 d_Mo_match_391 ?_
      refine s_iload_n B d_Mo_match_394 rfl ?_
      refine s_iconst (v := (1:Int32)) B d_Mo_match_395 (by decide) ?_
      refine s_isub B d_Mo_match_396 ?_
      refine s_iload B d_Mo_match_397 rfl ?_
      refine s_isub B d_Mo_match_399 ?_
      refine s_iald B (Or.inl kd_122) d_Mo_match_400 (fun v3 _ => ?_)
      refine s_imul B d_Mo_match_401 ?_
      refine s_iload B d_Mo_match_402 rfl ?_
      refine s_iadd B d_Mo_match_404 ?_
      refine s_iald B (Or.inl kd_121) d_Mo_match_405 (fun v4 _ => ?_)
      refine s_iand B d_Mo_match_406 ?_
      refine s_istore B d_Mo_match_407 (by decide) ?_
      refine s_iinc (w := (1:Int32)) B d_Mo_match_409 rfl (by decide) (by decide) ?_
      refine s_goto B d_Mo_match_412 rfl ?_
      refine s_pick (lv1 := [(0, .ref 97), (2, .int l2), (3, .int l3), (4, .int l4), (5, .int l5), (6, .int l6), (7, .int l7), (8, .int l8), (9, .int l9), (11, .int (l11 &&& v4)), (12, .int (l12 + (1:Int32)))]) [0, 2, 3, 4, 5, 6, 7, 8, 9, 11, 12] rfl ?_
      exact hk337 l2 l3 l4 l5 l6 l7 l8 l9 (l11 &&& v4) (l12 + (1:Int32)) r2.1
    · refine s_iload B d_Mo_match_354 rfl ?_
      refine s_aload_n B d_Mo_match_356 rfl ?_
      refine s_getS (k := 28) (n := 121) B xc_Mo kd_97 (by decide) rfl rfl fl_Mo_87 sr_97_28 d_Mo_match_357 ?_
      refine s_bipush (v := (17:Int32)) B d_Mo_match_360 (by decide) ?_
      refine s_aload_n B d_Mo_match_362 rfl ?_
      refine s_getS (k := 29) (n := 122) B xc_Mo kd_97 (by decide) rfl rfl fl_Mo_90 sr_97_29 d_Mo_match_363 ?_
      refine s_iload_n B d_Mo_match_366 rfl ?_
      refine s_iconst (v := (1:Int32)) B d_Mo_match_367 (by decide) ?_
      refine s_isub B d_Mo_match_368 ?_
      refine s_iload B d_Mo_match_369 rfl ?_
      refine s_isub B d_Mo_match_371 ?_
      refine s_iald B (Or.inl kd_122) d_Mo_match_372 (fun v5 _ => ?_)
      refine s_imul B d_Mo_match_373 ?_
      refine s_iload B d_Mo_match_374 rfl ?_
      refine s_iadd B d_Mo_match_376 ?_
      refine s_iald B (Or.inl kd_121) d_Mo_match_377 (fun v6 _ => ?_)
      refine s_ior B d_Mo_match_378 ?_
      refine s_goto B d_Mo_match_379 rfl ?_
      refine s_istore B d_Mo_match_407 (by decide) ?_
      refine s_iinc (w := (1:Int32)) B d_Mo_match_409 rfl (by decide) (by decide) ?_
      refine s_goto B d_Mo_match_412 rfl ?_
      refine s_pick (lv1 := [(0, .ref 97), (2, .int l2), (3, .int l3), (4, .int l4), (5, .int l5), (6, .int l6), (7, .int l7), (8, .int l8), (9, .int l9), (11, .int (l11 ||| v6)), (12, .int (l12 + (1:Int32)))]) [0, 2, 3, 4, 5, 6, 7, 8, 9, 11, 12] rfl ?_
      exact hk337 l2 l3 l4 l5 l6 l7 l8 l9 (l11 ||| v6) (l12 + (1:Int32)) r2.1
set_option maxRecDepth 100000 in
set_option maxHeartbeats 4000000 in
theorem t_Mo_match_337 {k52 : Int32 × Int32 × Int32 × Int32 × Int32 × Int32 × Int32 × Int32 × MS → Option (MS × Unit)} (B : xB p R s m args meth c b_Mo_match 13 R_Mo (Cond.code y_Mo_match b_Mo_match 13 none :: x_T) none 2 40 D x_cl (xty g) base) (hk52 : ∀ (l2 : Int32) (l3 : Int32) (l4 : Int32) (l5 : Int32) (l6 : Int32) (l7 : Int32) (l8 : Int32) (l9 : Int32) (M : MS) , Sn p l e R s m args below meth c 13 D x_cl base (xwd g) cM x_g0 az kz (xfc cM) (xZ below args s D x_cl (xty g) base (xwd g) cM x_g0 az kz ovU) 52 [] [(0, .ref 97), (2, .int l2), (3, .int l3), (4, .int l4), (5, .int l5), (6, .int l6), (7, .int l7), (8, .int l8), (9, .int l9)] M (k52 (l2, l3, l4, l5, l6, l7, l8, l9, M))) (l2 : Int32) (l3 : Int32) (l4 : Int32) (l5 : Int32) (l6 : Int32) (l7 : Int32) (l8 : Int32) (l9 : Int32) (l11 : Int32) (l12 : Int32) (M : MS)  : Sn p l e R s m args below meth c 13 D x_cl base (xwd g) cM x_g0 az kz (xfc cM) (xZ below args s D x_cl (xty g) base (xwd g) cM x_g0 az kz ovU) 337 [] [(0, .ref 97), (2, .int l2), (3, .int l3), (4, .int l4), (5, .int l5), (6, .int l6), (7, .int l7), (8, .int l8), (9, .int l9), (11, .int l11), (12, .int l12)] M (m_Mo_match_337 k52 (l2, l3, l4, l5, l6, l7, l8, l9, l11, l12, M)) := by
  have q : ∀ (F : Nat) (i : Int32 × Int32 × Int32 × Int32 × Int32 × Int32 × Int32 × Int32 × Int32 × Int32 × MS), Sn p l e R s m args below meth c 13 D x_cl base (xwd g) cM x_g0 az kz (xfc cM) (xZ below args s D x_cl (xty g) base (xwd g) cM x_g0 az kz ovU) 337 [] [(0, .ref 97), (2, .int i.1), (3, .int i.2.1), (4, .int i.2.2.1), (5, .int i.2.2.2.1), (6, .int i.2.2.2.2.1), (7, .int i.2.2.2.2.2.1), (8, .int i.2.2.2.2.2.2.1), (9, .int i.2.2.2.2.2.2.2.1), (11, .int i.2.2.2.2.2.2.2.2.1), (12, .int i.2.2.2.2.2.2.2.2.2.1)] i.2.2.2.2.2.2.2.2.2.2 (fx (fun (k : Int32 × Int32 × Int32 × Int32 × Int32 × Int32 × Int32 × Int32 × Int32 × Int32 × MS → Option (MS × Unit)) (i : Int32 × Int32 × Int32 × Int32 × Int32 × Int32 × Int32 × Int32 × Int32 × Int32 × MS) => m_Mo_match_337b k52 k i.1 i.2.1 i.2.2.1 i.2.2.2.1 i.2.2.2.2.1 i.2.2.2.2.2.1 i.2.2.2.2.2.2.1 i.2.2.2.2.2.2.2.1 i.2.2.2.2.2.2.2.2.1 i.2.2.2.2.2.2.2.2.2.1 i.2.2.2.2.2.2.2.2.2.2) F i) := by
    intro F
    induction F with
    | zero => intro i ; exact s_none
    | succ F ih => intro i ; exact t_Mo_match_337b B hk52 (fun l2 l3 l4 l5 l6 l7 l8 l9 l11 l12 M  => ih (l2, l3, l4, l5, l6, l7, l8, l9, l11, l12, M) ) i.1 i.2.1 i.2.2.1 i.2.2.2.1 i.2.2.2.2.1 i.2.2.2.2.2.1 i.2.2.2.2.2.2.1 i.2.2.2.2.2.2.2.1 i.2.2.2.2.2.2.2.2.1 i.2.2.2.2.2.2.2.2.2.1 i.2.2.2.2.2.2.2.2.2.2 
  exact q FU (l2, l3, l4, l5, l6, l7, l8, l9, l11, l12, M) 
set_option maxRecDepth 100000 in
set_option maxHeartbeats 4000000 in
theorem t_Mo_match_315 {k52 : Int32 × Int32 × Int32 × Int32 × Int32 × Int32 × Int32 × Int32 × MS → Option (MS × Unit)} (B : xB p R s m args meth c b_Mo_match 13 R_Mo (Cond.code y_Mo_match b_Mo_match 13 none :: x_T) none 2 40 D x_cl (xty g) base) (hk52 : ∀ (l2 : Int32) (l3 : Int32) (l4 : Int32) (l5 : Int32) (l6 : Int32) (l7 : Int32) (l8 : Int32) (l9 : Int32) (M : MS) , Sn p l e R s m args below meth c 13 D x_cl base (xwd g) cM x_g0 az kz (xfc cM) (xZ below args s D x_cl (xty g) base (xwd g) cM x_g0 az kz ovU) 52 [] [(0, .ref 97), (2, .int l2), (3, .int l3), (4, .int l4), (5, .int l5), (6, .int l6), (7, .int l7), (8, .int l8), (9, .int l9)] M (k52 (l2, l3, l4, l5, l6, l7, l8, l9, M))) (l2 : Int32) (l3 : Int32) (l4 : Int32) (l5 : Int32) (l6 : Int32) (l7 : Int32) (l8 : Int32) (l9 : Int32) (l11 : Int32) (M : MS)  : Sn p l e R s m args below meth c 13 D x_cl base (xwd g) cM x_g0 az kz (xfc cM) (xZ below args s D x_cl (xty g) base (xwd g) cM x_g0 az kz ovU) 315 [] [(0, .ref 97), (2, .int l2), (3, .int l3), (4, .int l4), (5, .int l5), (6, .int l6), (7, .int l7), (8, .int l8), (9, .int l9), (11, .int l11)] M (m_Mo_match_315 k52 l2 l3 l4 l5 l6 l7 l8 l9 l11 M) := by
  unfold m_Mo_match_315
  refine s_goto B d_Mo_match_315 rfl ?_
  refine s_pick (lv1 := [(0, .ref 97), (2, .int l2), (3, .int l3), (4, .int l4), (5, .int l5), (6, .int l6), (7, .int l7), (8, .int l8), (9, .int l9), (11, .int l11)]) [0, 2, 3, 4, 5, 6, 7, 8, 9, 11] rfl ?_
  exact t_Mo_match_415 B hk52 l2 l3 l4 l5 l6 l7 l8 l9 l11 M
set_option maxRecDepth 100000 in
set_option maxHeartbeats 4000000 in
theorem t_Mo_match_272b {k52 : Int32 × Int32 × Int32 × Int32 × Int32 × Int32 × Int32 × Int32 × MS → Option (MS × Unit)} {k272 : Int32 × Int32 × Int32 × Int32 × Int32 × Int32 × Int32 × Int32 × Int32 × Int32 × MS → Option (MS × Unit)} (B : xB p R s m args meth c b_Mo_match 13 R_Mo (Cond.code y_Mo_match b_Mo_match 13 none :: x_T) none 2 40 D x_cl (xty g) base) (hk52 : ∀ (l2 : Int32) (l3 : Int32) (l4 : Int32) (l5 : Int32) (l6 : Int32) (l7 : Int32) (l8 : Int32) (l9 : Int32) (M : MS) , Sn p l e R s m args below meth c 13 D x_cl base (xwd g) cM x_g0 az kz (xfc cM) (xZ below args s D x_cl (xty g) base (xwd g) cM x_g0 az kz ovU) 52 [] [(0, .ref 97), (2, .int l2), (3, .int l3), (4, .int l4), (5, .int l5), (6, .int l6), (7, .int l7), (8, .int l8), (9, .int l9)] M (k52 (l2, l3, l4, l5, l6, l7, l8, l9, M))) (hk272 : ∀ (l2 : Int32) (l3 : Int32) (l4 : Int32) (l5 : Int32) (l6 : Int32) (l7 : Int32) (l8 : Int32) (l9 : Int32) (l11 : Int32) (l12 : Int32) (M : MS) , Sn p l e R s m args below meth c 13 D x_cl base (xwd g) cM x_g0 az kz (xfc cM) (xZ below args s D x_cl (xty g) base (xwd g) cM x_g0 az kz ovU) 272 [] [(0, .ref 97), (2, .int l2), (3, .int l3), (4, .int l4), (5, .int l5), (6, .int l6), (7, .int l7), (8, .int l8), (9, .int l9), (11, .int l11), (12, .int l12)] M (k272 (l2, l3, l4, l5, l6, l7, l8, l9, l11, l12, M))) (l2 : Int32) (l3 : Int32) (l4 : Int32) (l5 : Int32) (l6 : Int32) (l7 : Int32) (l8 : Int32) (l9 : Int32) (l11 : Int32) (l12 : Int32) (M : MS)  : Sn p l e R s m args below meth c 13 D x_cl base (xwd g) cM x_g0 az kz (xfc cM) (xZ below args s D x_cl (xty g) base (xwd g) cM x_g0 az kz ovU) 272 [] [(0, .ref 97), (2, .int l2), (3, .int l3), (4, .int l4), (5, .int l5), (6, .int l6), (7, .int l7), (8, .int l8), (9, .int l9), (11, .int l11), (12, .int l12)] M (m_Mo_match_272b k52 k272 l2 l3 l4 l5 l6 l7 l8 l9 l11 l12 M) := by
  unfold m_Mo_match_272b
  refine s_iload B d_Mo_match_272 rfl ?_
  refine s_iload B d_Mo_match_274 rfl ?_
  refine s_icmp_gt B d_Mo_match_276 rfl (fun _ => ?_) (fun _ => ?_)
  · refine s_pick (lv1 := [(0, .ref 97), (2, .int l2), (3, .int l3), (4, .int l4), (5, .int l5), (6, .int l6), (7, .int l7), (8, .int l8), (9, .int l9), (11, .int l11)]) [0, 2, 3, 4, 5, 6, 7, 8, 9, 11] rfl ?_
    exact t_Mo_match_315 B hk52 l2 l3 l4 l5 l6 l7 l8 l9 l11 M
  · refine s_iload B d_Mo_match_279 rfl ?_
    refine s_iload B d_Mo_match_281 rfl ?_
    refine s_iload B d_Mo_match_283 rfl ?_
    refine s_ishr B d_Mo_match_285 ?_
    refine s_iconst (v := (1:Int32)) B d_Mo_match_286 (by decide) ?_
    refine s_iand B d_Mo_match_287 ?_
    refine s_iconst (v := (1:Int32)) B d_Mo_match_288 (by decide) ?_
    refine s_icmp_ne B d_Mo_match_289 rfl (fun _ => ?_) (fun _ => ?_)
    · refine s_iconst (v := (0:Int32)) B d_Mo_match_305 (by decide) ?_
      refine s_ior B d_Mo_match_306 ?_
      refine s_istore B d_Mo_match_307 (by decide) ?_
      refine s_iinc (w := (1:Int32)) B d_Mo_match_309 rfl (by decide) (by decide) ?_
      refine s_goto B d_Mo_match_312 rfl ?_
      refine s_pick (lv1 := [(0, .ref 97), (2, .int l2), (3, .int l3), (4, .int l4), (5, .int l5), (6, .int l6), (7, .int l7), (8, .int l8), (9, .int l9), (11, .int (l11 ||| (0:Int32))), (12, .int (l12 + (1:Int32)))]) [0, 2, 3, 4, 5, 6, 7, 8, 9, 11, 12] rfl ?_
      exact hk272 l2 l3 l4 l5 l6 l7 l8 l9 (l11 ||| (0:Int32)) (l12 + (1:Int32)) M
    · refine s_aload_n B d_Mo_match_292 rfl ?_
      refine s_getS (k := 28) (n := 121) B xc_Mo kd_97 (by decide) rfl rfl fl_Mo_87 sr_97_28 d_Mo_match_293 ?_
      refine s_iload B d_Mo_match_296 rfl ?_
      refine s_iload B d_Mo_match_298 rfl ?_
      refine s_iadd B d_Mo_match_300 ?_
      refine s_iald B (Or.inl kd_121) d_Mo_match_301 (fun v1 _ => ?_)
      refine s_goto B d_Mo_match_302 rfl ?_
      refine s_ior B d_Mo_match_306 ?_
      refine s_istore B d_Mo_match_307 (by decide) ?_
      refine s_iinc (w := (1:Int32)) B d_Mo_match_309 rfl (by decide) (by decide) ?_
      refine s_goto B d_Mo_match_312 rfl ?_
      refine s_pick (lv1 := [(0, .ref 97), (2, .int l2), (3, .int l3), (4, .int l4), (5, .int l5), (6, .int l6), (7, .int l7), (8, .int l8), (9, .int l9), (11, .int (l11 ||| v1)), (12, .int (l12 + (1:Int32)))]) [0, 2, 3, 4, 5, 6, 7, 8, 9, 11, 12] rfl ?_
      exact hk272 l2 l3 l4 l5 l6 l7 l8 l9 (l11 ||| v1) (l12 + (1:Int32)) M
set_option maxRecDepth 100000 in
set_option maxHeartbeats 4000000 in
theorem t_Mo_match_272 {k52 : Int32 × Int32 × Int32 × Int32 × Int32 × Int32 × Int32 × Int32 × MS → Option (MS × Unit)} (B : xB p R s m args meth c b_Mo_match 13 R_Mo (Cond.code y_Mo_match b_Mo_match 13 none :: x_T) none 2 40 D x_cl (xty g) base) (hk52 : ∀ (l2 : Int32) (l3 : Int32) (l4 : Int32) (l5 : Int32) (l6 : Int32) (l7 : Int32) (l8 : Int32) (l9 : Int32) (M : MS) , Sn p l e R s m args below meth c 13 D x_cl base (xwd g) cM x_g0 az kz (xfc cM) (xZ below args s D x_cl (xty g) base (xwd g) cM x_g0 az kz ovU) 52 [] [(0, .ref 97), (2, .int l2), (3, .int l3), (4, .int l4), (5, .int l5), (6, .int l6), (7, .int l7), (8, .int l8), (9, .int l9)] M (k52 (l2, l3, l4, l5, l6, l7, l8, l9, M))) (l2 : Int32) (l3 : Int32) (l4 : Int32) (l5 : Int32) (l6 : Int32) (l7 : Int32) (l8 : Int32) (l9 : Int32) (l11 : Int32) (l12 : Int32) (M : MS)  : Sn p l e R s m args below meth c 13 D x_cl base (xwd g) cM x_g0 az kz (xfc cM) (xZ below args s D x_cl (xty g) base (xwd g) cM x_g0 az kz ovU) 272 [] [(0, .ref 97), (2, .int l2), (3, .int l3), (4, .int l4), (5, .int l5), (6, .int l6), (7, .int l7), (8, .int l8), (9, .int l9), (11, .int l11), (12, .int l12)] M (m_Mo_match_272 k52 (l2, l3, l4, l5, l6, l7, l8, l9, l11, l12, M)) := by
  have q : ∀ (F : Nat) (i : Int32 × Int32 × Int32 × Int32 × Int32 × Int32 × Int32 × Int32 × Int32 × Int32 × MS), Sn p l e R s m args below meth c 13 D x_cl base (xwd g) cM x_g0 az kz (xfc cM) (xZ below args s D x_cl (xty g) base (xwd g) cM x_g0 az kz ovU) 272 [] [(0, .ref 97), (2, .int i.1), (3, .int i.2.1), (4, .int i.2.2.1), (5, .int i.2.2.2.1), (6, .int i.2.2.2.2.1), (7, .int i.2.2.2.2.2.1), (8, .int i.2.2.2.2.2.2.1), (9, .int i.2.2.2.2.2.2.2.1), (11, .int i.2.2.2.2.2.2.2.2.1), (12, .int i.2.2.2.2.2.2.2.2.2.1)] i.2.2.2.2.2.2.2.2.2.2 (fx (fun (k : Int32 × Int32 × Int32 × Int32 × Int32 × Int32 × Int32 × Int32 × Int32 × Int32 × MS → Option (MS × Unit)) (i : Int32 × Int32 × Int32 × Int32 × Int32 × Int32 × Int32 × Int32 × Int32 × Int32 × MS) => m_Mo_match_272b k52 k i.1 i.2.1 i.2.2.1 i.2.2.2.1 i.2.2.2.2.1 i.2.2.2.2.2.1 i.2.2.2.2.2.2.1 i.2.2.2.2.2.2.2.1 i.2.2.2.2.2.2.2.2.1 i.2.2.2.2.2.2.2.2.2.1 i.2.2.2.2.2.2.2.2.2.2) F i) := by
    intro F
    induction F with
    | zero => intro i ; exact s_none
    | succ F ih => intro i ; exact t_Mo_match_272b B hk52 (fun l2 l3 l4 l5 l6 l7 l8 l9 l11 l12 M  => ih (l2, l3, l4, l5, l6, l7, l8, l9, l11, l12, M) ) i.1 i.2.1 i.2.2.1 i.2.2.2.1 i.2.2.2.2.1 i.2.2.2.2.2.1 i.2.2.2.2.2.2.1 i.2.2.2.2.2.2.2.1 i.2.2.2.2.2.2.2.2.1 i.2.2.2.2.2.2.2.2.2.1 i.2.2.2.2.2.2.2.2.2.2 
  exact q FU (l2, l3, l4, l5, l6, l7, l8, l9, l11, l12, M) 
set_option maxRecDepth 100000 in
set_option maxHeartbeats 4000000 in
theorem t_Mo_match_52b {k52 : Int32 × Int32 × Int32 × Int32 × Int32 × Int32 × Int32 × Int32 × MS → Option (MS × Unit)} (B : xB p R s m args meth c b_Mo_match 13 R_Mo (Cond.code y_Mo_match b_Mo_match 13 none :: x_T) none 2 40 D x_cl (xty g) base) (hk52 : ∀ (l2 : Int32) (l3 : Int32) (l4 : Int32) (l5 : Int32) (l6 : Int32) (l7 : Int32) (l8 : Int32) (l9 : Int32) (M : MS) , Sn p l e R s m args below meth c 13 D x_cl base (xwd g) cM x_g0 az kz (xfc cM) (xZ below args s D x_cl (xty g) base (xwd g) cM x_g0 az kz ovU) 52 [] [(0, .ref 97), (2, .int l2), (3, .int l3), (4, .int l4), (5, .int l5), (6, .int l6), (7, .int l7), (8, .int l8), (9, .int l9)] M (k52 (l2, l3, l4, l5, l6, l7, l8, l9, M))) (l2 : Int32) (l3 : Int32) (l4 : Int32) (l5 : Int32) (l6 : Int32) (l7 : Int32) (l8 : Int32) (l9 : Int32) (M : MS)  : Sn p l e R s m args below meth c 13 D x_cl base (xwd g) cM x_g0 az kz (xfc cM) (xZ below args s D x_cl (xty g) base (xwd g) cM x_g0 az kz ovU) 52 [] [(0, .ref 97), (2, .int l2), (3, .int l3), (4, .int l4), (5, .int l5), (6, .int l6), (7, .int l7), (8, .int l8), (9, .int l9)] M (m_Mo_match_52b k52 l2 l3 l4 l5 l6 l7 l8 l9 M) := by
  unfold m_Mo_match_52b
  refine s_iload B d_Mo_match_52 rfl ?_
  refine s_iload B d_Mo_match_54 rfl ?_
  refine s_icmp_gt B d_Mo_match_56 rfl (fun _ => ?_) (fun _ => ?_)
  · exact s_vret B d_Mo_match_433
  · refine s_iconst (v := (1:Int32)) B d_Mo_match_59 (by decide) ?_
    refine s_iload B d_Mo_match_60 rfl ?_
    refine s_iconst (v := (1:Int32)) B d_Mo_match_62 (by decide) ?_
    refine s_iadd B d_Mo_match_63 ?_
    refine s_ishl B d_Mo_match_64 ?_
    refine s_iconst (v := (1:Int32)) B d_Mo_match_65 (by decide) ?_
    refine s_isub B d_Mo_match_66 ?_
    refine s_iconst (v := (-1:Int32)) B d_Mo_match_67 (by decide) ?_
    refine s_iload B d_Mo_match_68 rfl ?_
    refine s_ishl B d_Mo_match_70 ?_
    refine s_iand B d_Mo_match_71 ?_
    refine s_istore B d_Mo_match_72 (by decide) ?_
    refine s_iconst (v := (0:Int32)) B d_Mo_match_74 (by decide) ?_
    refine s_istore B d_Mo_match_75 (by decide) ?_
    refine s_iload_n B d_Mo_match_77 rfl ?_
    refine s_pick (lv1 := [(0, .ref 97), (2, .int l2), (3, .int l3), (4, .int l4), (5, .int l5), (6, .int l6), (7, .int l7), (8, .int l8), (9, .int l9), (10, .int ((((1:Int32) <<< ((l5 + (1:Int32)) &&& 31)) - (1:Int32)) &&& ((-1:Int32) <<< (l9 &&& 31)))), (11, .int (0:Int32))]) [0, 2, 3, 4, 5, 6, 7, 8, 9, 10, 11] rfl ?_
    refine s_callI (av := [.int l2]) (rest := []) B (lk_S B d_Mo_match_78 (gl_Mo_96 _) (List.mem_cons_of_mem _ st_Mo_sort) (List.mem_cons_of_mem _ in_Mo) (List.mem_cons_of_mem _ ml_Mo_96) rfl hs_Mo_sort (by decide) (by decide)) rfl x_rcS (fun _ _ => rfl) rfl rfl (by simp [Value.category]) rfl (fun r1 e9 => ct_Mo_sort _ _ r1 e9) (fun r1 _ => ?_)
    refine s_if (fun h0_ => ?_) (fun h0_ => ?_)
    · refine s_tabIn B d_Mo_match_81 (by rw [h0_]; decide) (by rw [h0_]; decide) (by rw [h0_]; rfl) rfl ?_
      refine s_goto B d_Mo_match_128 rfl ?_
      refine s_pick (lv1 := [(0, .ref 97), (2, .int l2), (3, .int l3), (4, .int l4), (5, .int l5), (6, .int l6), (7, .int l7), (8, .int l8), (9, .int l9), (11, .int (0:Int32))]) [0, 2, 3, 4, 5, 6, 7, 8, 9, 11] rfl ?_
      exact t_Mo_match_415 B hk52 l2 l3 l4 l5 l6 l7 l8 l9 (0:Int32) r1.1
    · refine s_if (fun h1_ => ?_) (fun h1_ => ?_)
      · refine s_tabIn B d_Mo_match_81 (by rw [h1_]; decide) (by rw [h1_]; decide) (by rw [h1_]; rfl) rfl ?_
        refine s_iconst (v := (1:Int32)) B d_Mo_match_131 (by decide) ?_
        refine s_iload B d_Mo_match_132 rfl ?_
        refine s_ishl B d_Mo_match_134 ?_
        refine s_istore B d_Mo_match_135 (by decide) ?_
        refine s_goto B d_Mo_match_137 rfl ?_
        refine s_pick (lv1 := [(0, .ref 97), (2, .int l2), (3, .int l3), (4, .int l4), (5, .int l5), (6, .int l6), (7, .int l7), (8, .int l8), (9, .int l9), (11, .int ((1:Int32) <<< (l9 &&& 31)))]) [0, 2, 3, 4, 5, 6, 7, 8, 9, 11] rfl ?_
        exact t_Mo_match_415 B hk52 l2 l3 l4 l5 l6 l7 l8 l9 ((1:Int32) <<< (l9 &&& 31)) r1.1
      · refine s_if (fun h2_ => ?_) (fun h2_ => ?_)
        · refine s_tabIn B d_Mo_match_81 (by rw [h2_]; decide) (by rw [h2_]; decide) (by rw [h2_]; rfl) rfl ?_
          refine s_iload B d_Mo_match_140 rfl ?_
          refine s_iload B d_Mo_match_142 rfl ?_
          refine s_icmp_ge B d_Mo_match_144 rfl (fun _ => ?_) (fun _ => ?_)
          · refine s_pick (lv1 := [(0, .ref 97), (2, .int l2), (3, .int l3), (4, .int l4), (5, .int l5), (6, .int l6), (7, .int l7), (8, .int l8), (9, .int l9)]) [0, 2, 3, 4, 5, 6, 7, 8, 9] rfl ?_
            exact t_Mo_match_178 B hk52 l2 l3 l4 l5 l6 l7 l8 l9 r1.1
          · refine s_iload_n B d_Mo_match_147 rfl ?_
            refine s_iconst (v := (3:Int32)) B d_Mo_match_148 (by decide) ?_
            refine s_ishr B d_Mo_match_149 ?_
            refine s_iload B d_Mo_match_150 rfl ?_
            refine s_iconst (v := (2:Int32)) B d_Mo_match_152 (by decide) ?_
            refine s_iload B d_Mo_match_153 rfl ?_
            refine s_iconst (v := (1:Int32)) B d_Mo_match_155 (by decide) ?_
            refine s_isub B d_Mo_match_156 ?_
            refine s_iload B d_Mo_match_157 rfl ?_
            refine s_isub B d_Mo_match_159 ?_
            refine s_imul B d_Mo_match_160 ?_
            refine s_ishr B d_Mo_match_161 ?_
            refine s_iconst (v := (3:Int32)) B d_Mo_match_162 (by decide) ?_
            refine s_iand B d_Mo_match_163 ?_
            refine s_ishr B d_Mo_match_164 ?_
            refine s_iconst (v := (1:Int32)) B d_Mo_match_165 (by decide) ?_
            refine s_iand B d_Mo_match_166 ?_
            refine s_iconst (v := (1:Int32)) B d_Mo_match_167 (by decide) ?_
            refine s_icmp_ne B d_Mo_match_168 rfl (fun _ => ?_) (fun _ => ?_)
            · refine s_pick (lv1 := [(0, .ref 97), (2, .int l2), (3, .int l3), (4, .int l4), (5, .int l5), (6, .int l6), (7, .int l7), (8, .int l8), (9, .int l9)]) [0, 2, 3, 4, 5, 6, 7, 8, 9] rfl ?_
              exact t_Mo_match_178 B hk52 l2 l3 l4 l5 l6 l7 l8 l9 r1.1
            · refine s_iconst (v := (2:Int32)) B d_Mo_match_171 (by decide) ?_
              refine s_iload B d_Mo_match_172 rfl ?_
              refine s_ishl B d_Mo_match_174 ?_
              refine s_goto B d_Mo_match_175 rfl ?_
              refine s_pick (lv1 := [(0, .ref 97), (2, .int l2), (3, .int l3), (4, .int l4), (5, .int l5), (6, .int l6), (7, .int l7), (8, .int l8), (9, .int l9)]) [0, 2, 3, 4, 5, 6, 7, 8, 9] rfl ?_
              exact t_Mo_match_179 B hk52 l2 l3 l4 l5 l6 l7 l8 l9 ((2:Int32) <<< (l9 &&& 31)) r1.1
        · refine s_if (fun h3_ => ?_) (fun h3_ => ?_)
          · refine s_tabIn B d_Mo_match_81 (by rw [h3_]; decide) (by rw [h3_]; decide) (by rw [h3_]; rfl) rfl ?_
            refine s_iload B d_Mo_match_184 rfl ?_
            refine s_istore B d_Mo_match_186 (by decide) ?_
            refine s_pick (lv1 := [(0, .ref 97), (2, .int l2), (3, .int l3), (4, .int l4), (5, .int l5), (6, .int l6), (7, .int l7), (8, .int l8), (9, .int l9), (11, .int (0:Int32)), (12, .int l9)]) [0, 2, 3, 4, 5, 6, 7, 8, 9, 11, 12] rfl ?_
            exact t_Mo_match_188 B hk52 l2 l3 l4 l5 l6 l7 l8 l9 (0:Int32) l9 r1.1
          · refine s_if (fun h4_ => ?_) (fun h4_ => ?_)
            · refine s_tabIn B d_Mo_match_81 (by rw [h4_]; decide) (by rw [h4_]; decide) (by rw [h4_]; rfl) rfl ?_
              refine s_iload_n B d_Mo_match_318 rfl ?_
              refine s_pick (lv1 := [(0, .ref 97), (2, .int l2), (3, .int l3), (4, .int l4), (5, .int l5), (6, .int l6), (7, .int l7), (8, .int l8), (9, .int l9), (10, .int ((((1:Int32) <<< ((l5 + (1:Int32)) &&& 31)) - (1:Int32)) &&& ((-1:Int32) <<< (l9 &&& 31))))]) [0, 2, 3, 4, 5, 6, 7, 8, 9, 10] rfl ?_
              refine s_callI (av := [.int l2]) (rest := []) B (lk_S B d_Mo_match_319 (gl_Mo_96 _) (List.mem_cons_of_mem _ st_Mo_sort) (List.mem_cons_of_mem _ in_Mo) (List.mem_cons_of_mem _ ml_Mo_96) rfl hs_Mo_sort (by decide) (by decide)) rfl x_rcS (fun _ _ => rfl) rfl rfl (by simp [Value.category]) rfl (fun r2 e9 => ct_Mo_sort _ _ r2 e9) (fun r2 _ => ?_)
              refine s_iconst (v := (4:Int32)) B d_Mo_match_322 (by decide) ?_
              refine s_icmp_ne B d_Mo_match_323 rfl (fun _ => ?_) (fun _ => ?_)
              · refine s_iload B d_Mo_match_330 rfl ?_
                refine s_istore B d_Mo_match_332 (by decide) ?_
                refine s_iconst (v := (0:Int32)) B d_Mo_match_334 (by decide) ?_
                refine s_istore B d_Mo_match_335 (by decide) ?_
                refine s_pick (lv1 := [(0, .ref 97), (2, .int l2), (3, .int l3), (4, .int l4), (5, .int l5), (6, .int l6), (7, .int l7), (8, .int l8), (9, .int l9), (11, .int ((((1:Int32) <<< ((l5 + (1:Int32)) &&& 31)) - (1:Int32)) &&& ((-1:Int32) <<< (l9 &&& 31)))), (12, .int (0:Int32))]) [0, 2, 3, 4, 5, 6, 7, 8, 9, 11, 12] rfl ?_
                exact t_Mo_match_337 B hk52 l2 l3 l4 l5 l6 l7 l8 l9 ((((1:Int32) <<< ((l5 + (1:Int32)) &&& 31)) - (1:Int32)) &&& ((-1:Int32) <<< (l9 &&& 31))) (0:Int32) r2.1
              · refine s_iconst (v := (0:Int32)) B d_Mo_match_326 (by decide) ?_
                refine s_goto B d_Mo_match_327 rfl ?_
                refine s_istore B d_Mo_match_332 (by decide) ?_
                refine s_iconst (v := (0:Int32)) B d_Mo_match_334 (by decide) ?_
                refine s_istore B d_Mo_match_335 (by decide) ?_
                refine s_pick (lv1 := [(0, .ref 97), (2, .int l2), (3, .int l3), (4, .int l4), (5, .int l5), (6, .int l6), (7, .int l7), (8, .int l8), (9, .int l9), (11, .int (0:Int32)), (12, .int (0:Int32))]) [0, 2, 3, 4, 5, 6, 7, 8, 9, 11, 12] rfl ?_
                exact t_Mo_match_337 B hk52 l2 l3 l4 l5 l6 l7 l8 l9 (0:Int32) (0:Int32) r2.1
            · refine s_if (fun h5_ => ?_) (fun h5_ => ?_)
              · refine s_tabIn B d_Mo_match_81 (by rw [h5_]; decide) (by rw [h5_]; decide) (by rw [h5_]; rfl) rfl ?_
                refine s_iload_n B d_Mo_match_318 rfl ?_
                refine s_pick (lv1 := [(0, .ref 97), (2, .int l2), (3, .int l3), (4, .int l4), (5, .int l5), (6, .int l6), (7, .int l7), (8, .int l8), (9, .int l9), (10, .int ((((1:Int32) <<< ((l5 + (1:Int32)) &&& 31)) - (1:Int32)) &&& ((-1:Int32) <<< (l9 &&& 31))))]) [0, 2, 3, 4, 5, 6, 7, 8, 9, 10] rfl ?_
                refine s_callI (av := [.int l2]) (rest := []) B (lk_S B d_Mo_match_319 (gl_Mo_96 _) (List.mem_cons_of_mem _ st_Mo_sort) (List.mem_cons_of_mem _ in_Mo) (List.mem_cons_of_mem _ ml_Mo_96) rfl hs_Mo_sort (by decide) (by decide)) rfl x_rcS (fun _ _ => rfl) rfl rfl (by simp [Value.category]) rfl (fun r3 e9 => ct_Mo_sort _ _ r3 e9) (fun r3 _ => ?_)
                refine s_iconst (v := (4:Int32)) B d_Mo_match_322 (by decide) ?_
                refine s_icmp_ne B d_Mo_match_323 rfl (fun _ => ?_) (fun _ => ?_)
                · refine s_iload B d_Mo_match_330 rfl ?_
                  refine s_istore B d_Mo_match_332 (by decide) ?_
                  refine s_iconst (v := (0:Int32)) B d_Mo_match_334 (by decide) ?_
                  refine s_istore B d_Mo_match_335 (by decide) ?_
                  refine s_pick (lv1 := [(0, .ref 97), (2, .int l2), (3, .int l3), (4, .int l4), (5, .int l5), (6, .int l6), (7, .int l7), (8, .int l8), (9, .int l9), (11, .int ((((1:Int32) <<< ((l5 + (1:Int32)) &&& 31)) - (1:Int32)) &&& ((-1:Int32) <<< (l9 &&& 31)))), (12, .int (0:Int32))]) [0, 2, 3, 4, 5, 6, 7, 8, 9, 11, 12] rfl ?_
                  exact t_Mo_match_337 B hk52 l2 l3 l4 l5 l6 l7 l8 l9 ((((1:Int32) <<< ((l5 + (1:Int32)) &&& 31)) - (1:Int32)) &&& ((-1:Int32) <<< (l9 &&& 31))) (0:Int32) r3.1
                · refine s_iconst (v := (0:Int32)) B d_Mo_match_326 (by decide) ?_
                  refine s_goto B d_Mo_match_327 rfl ?_
                  refine s_istore B d_Mo_match_332 (by decide) ?_
                  refine s_iconst (v := (0:Int32)) B d_Mo_match_334 (by decide) ?_
                  refine s_istore B d_Mo_match_335 (by decide) ?_
                  refine s_pick (lv1 := [(0, .ref 97), (2, .int l2), (3, .int l3), (4, .int l4), (5, .int l5), (6, .int l6), (7, .int l7), (8, .int l8), (9, .int l9), (11, .int (0:Int32)), (12, .int (0:Int32))]) [0, 2, 3, 4, 5, 6, 7, 8, 9, 11, 12] rfl ?_
                  exact t_Mo_match_337 B hk52 l2 l3 l4 l5 l6 l7 l8 l9 (0:Int32) (0:Int32) r3.1
              · refine s_if (fun h6_ => ?_) (fun h6_ => ?_)
                · refine s_tabIn B d_Mo_match_81 (by rw [h6_]; decide) (by rw [h6_]; decide) (by rw [h6_]; rfl) rfl ?_
                  refine s_iload B d_Mo_match_242 rfl ?_
                  refine s_aload_n B d_Mo_match_244 rfl ?_
                  refine s_getS (k := 28) (n := 121) B xc_Mo kd_97 (by decide) rfl rfl fl_Mo_87 sr_97_28 d_Mo_match_245 ?_
                  refine s_iload B d_Mo_match_248 rfl ?_
                  refine s_iload B d_Mo_match_250 rfl ?_
                  refine s_iadd B d_Mo_match_252 ?_
                  refine s_iald B (Or.inl kd_121) d_Mo_match_253 (fun v4 _ => ?_)
                  refine s_iconst (v := (-1:Int32)) B d_Mo_match_254 (by decide) ?_
                  refine s_ixor B d_Mo_match_255 ?_
                  refine s_iand B d_Mo_match_256 ?_
                  refine s_istore B d_Mo_match_257 (by decide) ?_
                  refine s_goto B d_Mo_match_259 rfl ?_
                  refine s_pick (lv1 := [(0, .ref 97), (2, .int l2), (3, .int l3), (4, .int l4), (5, .int l5), (6, .int l6), (7, .int l7), (8, .int l8), (9, .int l9), (11, .int (((((1:Int32) <<< ((l5 + (1:Int32)) &&& 31)) - (1:Int32)) &&& ((-1:Int32) <<< (l9 &&& 31))) &&& (v4 ^^^ (-1:Int32))))]) [0, 2, 3, 4, 5, 6, 7, 8, 9, 11] rfl ?_
                  exact t_Mo_match_415 B hk52 l2 l3 l4 l5 l6 l7 l8 l9 (((((1:Int32) <<< ((l5 + (1:Int32)) &&& 31)) - (1:Int32)) &&& ((-1:Int32) <<< (l9 &&& 31))) &&& (v4 ^^^ (-1:Int32))) r1.1
                · refine s_if (fun h7_ => ?_) (fun h7_ => ?_)
                  · refine s_tabIn B d_Mo_match_81 (by rw [h7_]; decide) (by rw [h7_]; decide) (by rw [h7_]; rfl) rfl ?_
                    refine s_iconst (v := (1:Int32)) B d_Mo_match_262 (by decide) ?_
                    refine s_iload B d_Mo_match_263 rfl ?_
                    refine s_ishl B d_Mo_match_265 ?_
                    refine s_istore B d_Mo_match_266 (by decide) ?_
                    refine s_iload B d_Mo_match_268 rfl ?_
                    refine s_istore B d_Mo_match_270 (by decide) ?_
                    refine s_pick (lv1 := [(0, .ref 97), (2, .int l2), (3, .int l3), (4, .int l4), (5, .int l5), (6, .int l6), (7, .int l7), (8, .int l8), (9, .int l9), (11, .int ((1:Int32) <<< (l9 &&& 31))), (12, .int l9)]) [0, 2, 3, 4, 5, 6, 7, 8, 9, 11, 12] rfl ?_
                    exact t_Mo_match_272 B hk52 l2 l3 l4 l5 l6 l7 l8 l9 ((1:Int32) <<< (l9 &&& 31)) l9 r1.1
                  · refine s_tabOut B d_Mo_match_81 (by have q0 := lv_neT h0_ (by decide : (0:Int32).toInt = 0); have q1 := lv_neT h1_ (by decide : (1:Int32).toInt = 1); have q2 := lv_neT h2_ (by decide : (2:Int32).toInt = 2); have q3 := lv_neT h3_ (by decide : (3:Int32).toInt = 3); have q4 := lv_neT h4_ (by decide : (4:Int32).toInt = 4); have q5 := lv_neT h5_ (by decide : (5:Int32).toInt = 5); have q6 := lv_neT h6_ (by decide : (6:Int32).toInt = 6); have q7 := lv_neT h7_ (by decide : (7:Int32).toInt = 7); omega) rfl ?_
                    refine s_iload_n B d_Mo_match_318 rfl ?_
                    refine s_pick (lv1 := [(0, .ref 97), (2, .int l2), (3, .int l3), (4, .int l4), (5, .int l5), (6, .int l6), (7, .int l7), (8, .int l8), (9, .int l9), (10, .int ((((1:Int32) <<< ((l5 + (1:Int32)) &&& 31)) - (1:Int32)) &&& ((-1:Int32) <<< (l9 &&& 31))))]) [0, 2, 3, 4, 5, 6, 7, 8, 9, 10] rfl ?_
                    refine s_callI (av := [.int l2]) (rest := []) B (lk_S B d_Mo_match_319 (gl_Mo_96 _) (List.mem_cons_of_mem _ st_Mo_sort) (List.mem_cons_of_mem _ in_Mo) (List.mem_cons_of_mem _ ml_Mo_96) rfl hs_Mo_sort (by decide) (by decide)) rfl x_rcS (fun _ _ => rfl) rfl rfl (by simp [Value.category]) rfl (fun r5 e9 => ct_Mo_sort _ _ r5 e9) (fun r5 _ => ?_)
                    refine s_iconst (v := (4:Int32)) B d_Mo_match_322 (by decide) ?_
                    refine s_icmp_ne B d_Mo_match_323 rfl (fun _ => ?_) (fun _ => ?_)
                    · refine s_iload B d_Mo_match_330 rfl ?_
                      refine s_istore B d_Mo_match_332 (by decide) ?_
                      refine s_iconst (v := (0:Int32)) B d_Mo_match_334 (by decide) ?_
                      refine s_istore B d_Mo_match_335 (by decide) ?_
                      refine s_pick (lv1 := [(0, .ref 97), (2, .int l2), (3, .int l3), (4, .int l4), (5, .int l5), (6, .int l6), (7, .int l7), (8, .int l8), (9, .int l9), (11, .int ((((1:Int32) <<< ((l5 + (1:Int32)) &&& 31)) - (1:Int32)) &&& ((-1:Int32) <<< (l9 &&& 31)))), (12, .int (0:Int32))]) [0, 2, 3, 4, 5, 6, 7, 8, 9, 11, 12] rfl ?_
                      exact t_Mo_match_337 B hk52 l2 l3 l4 l5 l6 l7 l8 l9 ((((1:Int32) <<< ((l5 + (1:Int32)) &&& 31)) - (1:Int32)) &&& ((-1:Int32) <<< (l9 &&& 31))) (0:Int32) r5.1
                    · refine s_iconst (v := (0:Int32)) B d_Mo_match_326 (by decide) ?_
                      refine s_goto B d_Mo_match_327 rfl ?_
                      refine s_istore B d_Mo_match_332 (by decide) ?_
                      refine s_iconst (v := (0:Int32)) B d_Mo_match_334 (by decide) ?_
                      refine s_istore B d_Mo_match_335 (by decide) ?_
                      refine s_pick (lv1 := [(0, .ref 97), (2, .int l2), (3, .int l3), (4, .int l4), (5, .int l5), (6, .int l6), (7, .int l7), (8, .int l8), (9, .int l9), (11, .int (0:Int32)), (12, .int (0:Int32))]) [0, 2, 3, 4, 5, 6, 7, 8, 9, 11, 12] rfl ?_
                      exact t_Mo_match_337 B hk52 l2 l3 l4 l5 l6 l7 l8 l9 (0:Int32) (0:Int32) r5.1
set_option maxRecDepth 100000 in
set_option maxHeartbeats 4000000 in
theorem t_Mo_match_52  (B : xB p R s m args meth c b_Mo_match 13 R_Mo (Cond.code y_Mo_match b_Mo_match 13 none :: x_T) none 2 40 D x_cl (xty g) base)  (l2 : Int32) (l3 : Int32) (l4 : Int32) (l5 : Int32) (l6 : Int32) (l7 : Int32) (l8 : Int32) (l9 : Int32) (M : MS)  : Sn p l e R s m args below meth c 13 D x_cl base (xwd g) cM x_g0 az kz (xfc cM) (xZ below args s D x_cl (xty g) base (xwd g) cM x_g0 az kz ovU) 52 [] [(0, .ref 97), (2, .int l2), (3, .int l3), (4, .int l4), (5, .int l5), (6, .int l6), (7, .int l7), (8, .int l8), (9, .int l9)] M (m_Mo_match_52 (l2, l3, l4, l5, l6, l7, l8, l9, M)) := by
  have q : ∀ (F : Nat) (i : Int32 × Int32 × Int32 × Int32 × Int32 × Int32 × Int32 × Int32 × MS), Sn p l e R s m args below meth c 13 D x_cl base (xwd g) cM x_g0 az kz (xfc cM) (xZ below args s D x_cl (xty g) base (xwd g) cM x_g0 az kz ovU) 52 [] [(0, .ref 97), (2, .int i.1), (3, .int i.2.1), (4, .int i.2.2.1), (5, .int i.2.2.2.1), (6, .int i.2.2.2.2.1), (7, .int i.2.2.2.2.2.1), (8, .int i.2.2.2.2.2.2.1), (9, .int i.2.2.2.2.2.2.2.1)] i.2.2.2.2.2.2.2.2 (fx (fun (k : Int32 × Int32 × Int32 × Int32 × Int32 × Int32 × Int32 × Int32 × MS → Option (MS × Unit)) (i : Int32 × Int32 × Int32 × Int32 × Int32 × Int32 × Int32 × Int32 × MS) => m_Mo_match_52b k i.1 i.2.1 i.2.2.1 i.2.2.2.1 i.2.2.2.2.1 i.2.2.2.2.2.1 i.2.2.2.2.2.2.1 i.2.2.2.2.2.2.2.1 i.2.2.2.2.2.2.2.2) F i) := by
    intro F
    induction F with
    | zero => intro i ; exact s_none
    | succ F ih => intro i ; exact t_Mo_match_52b B  (fun l2 l3 l4 l5 l6 l7 l8 l9 M  => ih (l2, l3, l4, l5, l6, l7, l8, l9, M) ) i.1 i.2.1 i.2.2.1 i.2.2.2.1 i.2.2.2.2.1 i.2.2.2.2.2.1 i.2.2.2.2.2.2.1 i.2.2.2.2.2.2.2.1 i.2.2.2.2.2.2.2.2 
  exact q FU (l2, l3, l4, l5, l6, l7, l8, l9, M) 
set_option maxRecDepth 100000 in
set_option maxHeartbeats 4000000 in
theorem t_Mo_match_25  (B : xB p R s m args meth c b_Mo_match 13 R_Mo (Cond.code y_Mo_match b_Mo_match 13 none :: x_T) none 2 40 D x_cl (xty g) base)  (l2 : Int32) (l3 : Int32) (l4 : Int32) (l5 : Int32) (l6 : Int32) (s0 : Int32) (M : MS)  : Sn p l e R s m args below meth c 13 D x_cl base (xwd g) cM x_g0 az kz (xfc cM) (xZ below args s D x_cl (xty g) base (xwd g) cM x_g0 az kz ovU) 25 [.int s0] [(0, .ref 97), (2, .int l2), (3, .int l3), (4, .int l4), (5, .int l5), (6, .int l6)] M (m_Mo_match_25 l2 l3 l4 l5 l6 s0 M) := by
  unfold m_Mo_match_25
  refine s_istore B d_Mo_match_25 (by decide) ?_
  refine s_iload_n B d_Mo_match_27 rfl ?_
  refine s_iconst (v := (1:Int32)) B d_Mo_match_28 (by decide) ?_
  refine s_icmp_le B d_Mo_match_29 rfl (fun _ => ?_) (fun _ => ?_)
  · refine s_iconst (v := (0:Int32)) B d_Mo_match_46 (by decide) ?_
    refine s_istore B d_Mo_match_47 (by decide) ?_
    refine s_iconst (v := (0:Int32)) B d_Mo_match_49 (by decide) ?_
    refine s_istore B d_Mo_match_50 (by decide) ?_
    refine s_pick (lv1 := [(0, .ref 97), (2, .int l2), (3, .int l3), (4, .int l4), (5, .int l5), (6, .int l6), (7, .int s0), (8, .int (0:Int32)), (9, .int (0:Int32))]) [0, 2, 3, 4, 5, 6, 7, 8, 9] rfl ?_
    exact t_Mo_match_52 B l2 l3 l4 l5 l6 s0 (0:Int32) (0:Int32) M
  · refine s_bipush (v := (17:Int32)) B d_Mo_match_32 (by decide) ?_
    refine s_aload_n B d_Mo_match_34 rfl ?_
    refine s_getS (k := 29) (n := 122) B xc_Mo kd_97 (by decide) rfl rfl fl_Mo_90 sr_97_29 d_Mo_match_35 ?_
    refine s_iload_n B d_Mo_match_38 rfl ?_
    refine s_iconst (v := (2:Int32)) B d_Mo_match_39 (by decide) ?_
    refine s_isub B d_Mo_match_40 ?_
    refine s_iald B (Or.inl kd_122) d_Mo_match_41 (fun v1 _ => ?_)
    refine s_imul B d_Mo_match_42 ?_
    refine s_goto B d_Mo_match_43 rfl ?_
    refine s_istore B d_Mo_match_47 (by decide) ?_
    refine s_iconst (v := (0:Int32)) B d_Mo_match_49 (by decide) ?_
    refine s_istore B d_Mo_match_50 (by decide) ?_
    refine s_pick (lv1 := [(0, .ref 97), (2, .int l2), (3, .int l3), (4, .int l4), (5, .int l5), (6, .int l6), (7, .int s0), (8, .int ((17:Int32) * v1)), (9, .int (0:Int32))]) [0, 2, 3, 4, 5, 6, 7, 8, 9] rfl ?_
    exact t_Mo_match_52 B l2 l3 l4 l5 l6 s0 ((17:Int32) * v1) (0:Int32) M
set_option maxRecDepth 100000 in
set_option maxHeartbeats 4000000 in
theorem t_Mo_match (B : xB p R s m args meth c b_Mo_match 13 R_Mo (Cond.code y_Mo_match b_Mo_match 13 none :: x_T) none 2 40 D x_cl (xty g) base) (a1 : Int32) (a2 : Int32) (a3 : Int32) (a4 : Int32) (a5 : Int32) (M : MS) : Sn p l e R s m args below meth c 13 D x_cl base (xwd g) cM x_g0 az kz (xfc cM) (xZ below args s D x_cl (xty g) base (xwd g) cM x_g0 az kz ovU) 0 [] [(0, .ref 97), (1, .int a1), (2, .int a2), (3, .int a3), (4, .int a4), (5, .int a5)] M (m_Mo_match a1 a2 a3 a4 a5 M) := by
  unfold m_Mo_match
  refine s_bipush (v := (17:Int32)) B d_Mo_match_0 (by decide) ?_
  refine s_iload_n B d_Mo_match_2 rfl ?_
  refine s_imul B d_Mo_match_3 ?_
  refine s_istore B d_Mo_match_4 (by decide) ?_
  refine s_iload_n B d_Mo_match_6 rfl ?_
  refine s_if_le B d_Mo_match_7 rfl (fun _ => ?_) (fun _ => ?_)
  · refine s_iconst (v := (0:Int32)) B d_Mo_match_24 (by decide) ?_
    refine s_pick (lv1 := [(0, .ref 97), (2, .int a2), (3, .int a3), (4, .int a4), (5, .int a5), (6, .int ((17:Int32) * a1))]) [0, 2, 3, 4, 5, 6] rfl ?_
    exact t_Mo_match_25 B a2 a3 a4 a5 ((17:Int32) * a1) (0:Int32) M
  · refine s_bipush (v := (17:Int32)) B d_Mo_match_10 (by decide) ?_
    refine s_aload_n B d_Mo_match_12 rfl ?_
    refine s_getS (k := 29) (n := 122) B xc_Mo kd_97 (by decide) rfl rfl fl_Mo_90 sr_97_29 d_Mo_match_13 ?_
    refine s_iload_n B d_Mo_match_16 rfl ?_
    refine s_iconst (v := (1:Int32)) B d_Mo_match_17 (by decide) ?_
    refine s_isub B d_Mo_match_18 ?_
    refine s_iald B (Or.inl kd_122) d_Mo_match_19 (fun v1 _ => ?_)
    refine s_imul B d_Mo_match_20 ?_
    refine s_goto B d_Mo_match_21 rfl ?_
    refine s_pick (lv1 := [(0, .ref 97), (2, .int a2), (3, .int a3), (4, .int a4), (5, .int a5), (6, .int ((17:Int32) * a1))]) [0, 2, 3, 4, 5, 6] rfl ?_
    exact t_Mo_match_25 B a2 a3 a4 a5 ((17:Int32) * a1) ((17:Int32) * v1) M
set_option maxRecDepth 100000 in
set_option maxHeartbeats 4000000 in
theorem ct_Mo_match {l : Launch} {D : va_G} {base : Nat} {g : Nat → ClassId} (a1 : Int32) (a2 : Int32) (a3 : Int32) (a4 : Int32) (a5 : Int32) (M : MS) (r : MS × Unit) (hr : m_Mo_match a1 a2 a3 a4 a5 M = some r) : Ct l y_Mo_match (Cond.code y_Mo_match b_Mo_match 13 none :: x_T) 2 40 D x_cl (xty g) base (xwd g) cM x_g0 [.ref 97, .int a1, .int a2, .int a3, .int a4, .int a5] M r.1 (ovU r.2) :=
  x_met (ov := ovU) (by decide) (Nat.le_of_ble_eq_true rfl) (fun p e R s m args below meth c az B => t_Mo_match B a1 a2 a3 a4 a5 M) r hr
end
theorem d_Mo_has_0 : decode b_Mo_has 0 = .ok (.iload_n 1, 1) := by decide +kernel
theorem d_Mo_has_1 : decode b_Mo_has 1 = .ok (.invokestatic 158, 3) := by decide +kernel
theorem d_Mo_has_4 : decode b_Mo_has 4 = .ok (.istore 4, 2) := by decide +kernel
theorem d_Mo_has_6 : decode b_Mo_has 6 = .ok (.aload_n 0, 1) := by decide +kernel
theorem d_Mo_has_7 : decode b_Mo_has 7 = .ok (.iload 4, 2) := by decide +kernel
theorem d_Mo_has_9 : decode b_Mo_has 9 = .ok (.ifCond .ne (7), 3) := by decide +kernel
theorem d_Mo_has_12 : decode b_Mo_has 12 = .ok (.iconst (1), 1) := by decide +kernel
theorem d_Mo_has_13 : decode b_Mo_has 13 = .ok (.goto (4), 3) := by decide +kernel
theorem d_Mo_has_16 : decode b_Mo_has 16 = .ok (.iconst (0), 1) := by decide +kernel
theorem d_Mo_has_17 : decode b_Mo_has 17 = .ok (.iload 4, 2) := by decide +kernel
theorem d_Mo_has_19 : decode b_Mo_has 19 = .ok (.ifCond .eq (17), 3) := by decide +kernel
theorem d_Mo_has_22 : decode b_Mo_has 22 = .ok (.iload_n 3, 1) := by decide +kernel
theorem d_Mo_has_23 : decode b_Mo_has 23 = .ok (.ifCond .lt (9), 3) := by decide +kernel
theorem d_Mo_has_26 : decode b_Mo_has 26 = .ok (.iload_n 3, 1) := by decide +kernel
theorem d_Mo_has_27 : decode b_Mo_has 27 = .ok (.bipush (16), 2) := by decide +kernel
theorem d_Mo_has_29 : decode b_Mo_has 29 = .ok (.if_icmp .le (7), 3) := by decide +kernel
theorem d_Mo_has_32 : decode b_Mo_has 32 = .ok (.iconst (1), 1) := by decide +kernel
theorem d_Mo_has_33 : decode b_Mo_has 33 = .ok (.goto (4), 3) := by decide +kernel
theorem d_Mo_has_36 : decode b_Mo_has 36 = .ok (.iconst (0), 1) := by decide +kernel
theorem d_Mo_has_37 : decode b_Mo_has 37 = .ok (.invokevirtual 161, 3) := by decide +kernel
theorem d_Mo_has_40 : decode b_Mo_has 40 = .ok (.ifCond .eq (5), 3) := by decide +kernel
theorem d_Mo_has_43 : decode b_Mo_has 43 = .ok (.iconst (0), 1) := by decide +kernel
theorem d_Mo_has_44 : decode b_Mo_has 44 = .ok (.ireturn, 1) := by decide +kernel
theorem d_Mo_has_45 : decode b_Mo_has 45 = .ok (.iconst (0), 1) := by decide +kernel
theorem d_Mo_has_46 : decode b_Mo_has 46 = .ok (.istore 5, 2) := by decide +kernel
theorem d_Mo_has_48 : decode b_Mo_has 48 = .ok (.aload_n 0, 1) := by decide +kernel
theorem d_Mo_has_49 : decode b_Mo_has 49 = .ok (.getfield 13, 3) := by decide +kernel
theorem d_Mo_has_52 : decode b_Mo_has 52 = .ok (.iload_n 1, 1) := by decide +kernel
theorem d_Mo_has_53 : decode b_Mo_has 53 = .ok (.iaload, 1) := by decide +kernel
theorem d_Mo_has_54 : decode b_Mo_has 54 = .ok (.iconst (1), 1) := by decide +kernel
theorem d_Mo_has_55 : decode b_Mo_has 55 = .ok (.isub, 1) := by decide +kernel
theorem d_Mo_has_56 : decode b_Mo_has 56 = .ok (.istore 6, 2) := by decide +kernel
theorem d_Mo_has_58 : decode b_Mo_has 58 = .ok (.iload 6, 2) := by decide +kernel
theorem d_Mo_has_60 : decode b_Mo_has 60 = .ok (.ifCond .lt (57), 3) := by decide +kernel
theorem d_Mo_has_63 : decode b_Mo_has 63 = .ok (.aload_n 0, 1) := by decide +kernel
theorem d_Mo_has_64 : decode b_Mo_has 64 = .ok (.getfield 7, 3) := by decide +kernel
theorem d_Mo_has_67 : decode b_Mo_has 67 = .ok (.bipush (100), 2) := by decide +kernel
theorem d_Mo_has_69 : decode b_Mo_has 69 = .ok (.iload_n 1, 1) := by decide +kernel
theorem d_Mo_has_70 : decode b_Mo_has 70 = .ok (.imul, 1) := by decide +kernel
theorem d_Mo_has_71 : decode b_Mo_has 71 = .ok (.iload 6, 2) := by decide +kernel
theorem d_Mo_has_73 : decode b_Mo_has 73 = .ok (.iadd, 1) := by decide +kernel
theorem d_Mo_has_74 : decode b_Mo_has 74 = .ok (.iaload, 1) := by decide +kernel
theorem d_Mo_has_75 : decode b_Mo_has 75 = .ok (.istore 7, 2) := by decide +kernel
theorem d_Mo_has_77 : decode b_Mo_has 77 = .ok (.aload_n 0, 1) := by decide +kernel
theorem d_Mo_has_78 : decode b_Mo_has 78 = .ok (.iload 6, 2) := by decide +kernel
theorem d_Mo_has_80 : decode b_Mo_has 80 = .ok (.iload 7, 2) := by decide +kernel
theorem d_Mo_has_82 : decode b_Mo_has 82 = .ok (.iload 5, 2) := by decide +kernel
theorem d_Mo_has_84 : decode b_Mo_has 84 = .ok (.iload_n 2, 1) := by decide +kernel
theorem d_Mo_has_85 : decode b_Mo_has 85 = .ok (.iload_n 3, 1) := by decide +kernel
theorem d_Mo_has_86 : decode b_Mo_has 86 = .ok (.invokevirtual 176, 3) := by decide +kernel
theorem d_Mo_has_89 : decode b_Mo_has 89 = .ok (.iload 5, 2) := by decide +kernel
theorem d_Mo_has_91 : decode b_Mo_has 91 = .ok (.iload 7, 2) := by decide +kernel
theorem d_Mo_has_93 : decode b_Mo_has 93 = .ok (.invokestatic 100, 3) := by decide +kernel
theorem d_Mo_has_96 : decode b_Mo_has 96 = .ok (.isub, 1) := by decide +kernel
theorem d_Mo_has_97 : decode b_Mo_has 97 = .ok (.istore 5, 2) := by decide +kernel
theorem d_Mo_has_99 : decode b_Mo_has 99 = .ok (.aload_n 0, 1) := by decide +kernel
theorem d_Mo_has_100 : decode b_Mo_has 100 = .ok (.getfield 90, 3) := by decide +kernel
theorem d_Mo_has_103 : decode b_Mo_has 103 = .ok (.iload 5, 2) := by decide +kernel
theorem d_Mo_has_105 : decode b_Mo_has 105 = .ok (.iload 6, 2) := by decide +kernel
theorem d_Mo_has_107 : decode b_Mo_has 107 = .ok (.iastore, 1) := by decide +kernel
theorem d_Mo_has_108 : decode b_Mo_has 108 = .ok (.iinc 5 (1), 3) := by decide +kernel
theorem d_Mo_has_111 : decode b_Mo_has 111 = .ok (.iinc 6 (-1), 3) := by decide +kernel
theorem d_Mo_has_114 : decode b_Mo_has 114 = .ok (.goto (-56), 3) := by decide +kernel
theorem d_Mo_has_117 : decode b_Mo_has 117 = .ok (.aload_n 0, 1) := by decide +kernel
theorem d_Mo_has_118 : decode b_Mo_has 118 = .ok (.getfield 87, 3) := by decide +kernel
theorem d_Mo_has_121 : decode b_Mo_has 121 = .ok (.iconst (0), 1) := by decide +kernel
theorem d_Mo_has_122 : decode b_Mo_has 122 = .ok (.iaload, 1) := by decide +kernel
theorem d_Mo_has_123 : decode b_Mo_has 123 = .ok (.iload_n 3, 1) := by decide +kernel
theorem d_Mo_has_124 : decode b_Mo_has 124 = .ok (.ishr, 1) := by decide +kernel
theorem d_Mo_has_125 : decode b_Mo_has 125 = .ok (.iconst (1), 1) := by decide +kernel
theorem d_Mo_has_126 : decode b_Mo_has 126 = .ok (.iand, 1) := by decide +kernel
theorem d_Mo_has_127 : decode b_Mo_has 127 = .ok (.iconst (1), 1) := by decide +kernel
theorem d_Mo_has_128 : decode b_Mo_has 128 = .ok (.if_icmp .ne (7), 3) := by decide +kernel
theorem d_Mo_has_131 : decode b_Mo_has 131 = .ok (.iconst (1), 1) := by decide +kernel
theorem d_Mo_has_132 : decode b_Mo_has 132 = .ok (.goto (4), 3) := by decide +kernel
theorem d_Mo_has_135 : decode b_Mo_has 135 = .ok (.iconst (0), 1) := by decide +kernel
theorem d_Mo_has_136 : decode b_Mo_has 136 = .ok (.ireturn, 1) := by decide +kernel
section
variable {p : Program} {l : Launch} {e : Env} {R : Room} {s : State} {m : MethodId} {args : Array Value} {below : List Frame} {meth : Method} {c : Code} {D : va_G} {base : Nat} {g : Nat → ClassId} {az : Nat → Nat} {kz : Nat × Nat}
set_option maxRecDepth 100000 in
set_option maxHeartbeats 4000000 in
theorem t_Mo_has_117  (B : xB p R s m args meth c b_Mo_has 8 R_Mo (Cond.code y_Mo_has b_Mo_has 8 (some .boolean) :: x_T) (some .boolean) 3 72 D x_cl (xty g) base)  (l3 : Int32) (M : MS)  : Sn p l e R s m args below meth c 8 D x_cl base (xwd g) cM x_g0 az kz (xfc cM) (xZ below args s D x_cl (xty g) base (xwd g) cM x_g0 az kz ovI) 117 [] [(0, .ref 97), (3, .int l3)] M (m_Mo_has_117 l3 M) := by
  unfold m_Mo_has_117
  refine s_aload_n B d_Mo_has_117 rfl ?_
  refine s_getS (k := 28) (n := 121) B xc_Mo kd_97 (by decide) rfl rfl fl_Mo_87 sr_97_28 d_Mo_has_118 ?_
  refine s_iconst (v := (0:Int32)) B d_Mo_has_121 (by decide) ?_
  refine s_iald B (Or.inl kd_121) d_Mo_has_122 (fun v1 _ => ?_)
  refine s_iload_n B d_Mo_has_123 rfl ?_
  refine s_ishr B d_Mo_has_124 ?_
  refine s_iconst (v := (1:Int32)) B d_Mo_has_125 (by decide) ?_
  refine s_iand B d_Mo_has_126 ?_
  refine s_iconst (v := (1:Int32)) B d_Mo_has_127 (by decide) ?_
  refine s_icmp_ne B d_Mo_has_128 rfl (fun _ => ?_) (fun _ => ?_)
  · refine s_iconst (v := (0:Int32)) B d_Mo_has_135 (by decide) ?_
    exact s_zret0 rfl B d_Mo_has_136
  · refine s_iconst (v := (1:Int32)) B d_Mo_has_131 (by decide) ?_
    refine s_goto B d_Mo_has_132 rfl ?_
    exact s_zret0 rfl B d_Mo_has_136
set_option maxRecDepth 100000 in
set_option maxHeartbeats 4000000 in
theorem t_Mo_has_58b {k58 : Int32 × Int32 × Int32 × Int32 × Int32 × MS → Option (MS × Int32)} (B : xB p R s m args meth c b_Mo_has 8 R_Mo (Cond.code y_Mo_has b_Mo_has 8 (some .boolean) :: x_T) (some .boolean) 3 72 D x_cl (xty g) base) (hk58 : ∀ (l1 : Int32) (l2 : Int32) (l3 : Int32) (l5 : Int32) (l6 : Int32) (M : MS) , Sn p l e R s m args below meth c 8 D x_cl base (xwd g) cM x_g0 az kz (xfc cM) (xZ below args s D x_cl (xty g) base (xwd g) cM x_g0 az kz ovI) 58 [] [(0, .ref 97), (1, .int l1), (2, .int l2), (3, .int l3), (5, .int l5), (6, .int l6)] M (k58 (l1, l2, l3, l5, l6, M))) (l1 : Int32) (l2 : Int32) (l3 : Int32) (l5 : Int32) (l6 : Int32) (M : MS)  : Sn p l e R s m args below meth c 8 D x_cl base (xwd g) cM x_g0 az kz (xfc cM) (xZ below args s D x_cl (xty g) base (xwd g) cM x_g0 az kz ovI) 58 [] [(0, .ref 97), (1, .int l1), (2, .int l2), (3, .int l3), (5, .int l5), (6, .int l6)] M (m_Mo_has_58b k58 l1 l2 l3 l5 l6 M) := by
  unfold m_Mo_has_58b
  refine s_iload B d_Mo_has_58 rfl ?_
  refine s_if_lt B d_Mo_has_60 rfl (fun _ => ?_) (fun _ => ?_)
  · refine s_pick (lv1 := [(0, .ref 97), (3, .int l3)]) [0, 3] rfl ?_
    exact t_Mo_has_117 B l3 M
  · refine s_aload_n B d_Mo_has_63 rfl ?_
    refine s_getS (k := 1) (n := 98) B xc_Mo kd_97 (by decide) rfl rfl fl_Mo_7 sr_97_1 d_Mo_has_64 ?_
    refine s_bipush (v := (100:Int32)) B d_Mo_has_67 (by decide) ?_
    refine s_iload_n B d_Mo_has_69 rfl ?_
    refine s_imul B d_Mo_has_70 ?_
    refine s_iload B d_Mo_has_71 rfl ?_
    refine s_iadd B d_Mo_has_73 ?_
    refine s_iald B (Or.inl kd_98) d_Mo_has_74 (fun v1 _ => ?_)
    refine s_istore B d_Mo_has_75 (by decide) ?_
    refine s_aload_n B d_Mo_has_77 rfl ?_
    refine s_iload B d_Mo_has_78 rfl ?_
    refine s_iload B d_Mo_has_80 rfl ?_
    refine s_iload B d_Mo_has_82 rfl ?_
    refine s_iload_n B d_Mo_has_84 rfl ?_
    refine s_iload_n B d_Mo_has_85 rfl ?_
    refine s_pick (lv1 := [(0, .ref 97), (1, .int l1), (2, .int l2), (3, .int l3), (5, .int l5), (6, .int l6), (7, .int v1)]) [0, 1, 2, 3, 5, 6, 7] rfl ?_
    refine s_callU (av := [.ref 97, .int l6, .int v1, .int l5, .int l2, .int l3]) (rest := []) B (lk_V B d_Mo_has_86 (gl_Mo_176 _) rfl hv_Mo_match (by decide) (by decide)) rfl (x_rcV B xc_Mo kd_97) (fun _ _ => rfl) rfl rfl (by simp [Value.category]) rfl (fun r2 e9 => ct_Mo_match _ _ _ _ _ _ r2 e9) (fun r2 _ => ?_)
    refine s_iload B d_Mo_has_89 rfl ?_
    refine s_iload B d_Mo_has_91 rfl ?_
    refine s_pick (lv1 := [(0, .ref 97), (1, .int l1), (2, .int l2), (3, .int l3), (6, .int l6)]) [0, 1, 2, 3, 6] rfl ?_
    refine s_callI (av := [.int v1]) (rest := [.int l5]) B (lk_S B d_Mo_has_93 (gl_Mo_100 _) (List.mem_cons_of_mem _ st_Mo_arity) (List.mem_cons_of_mem _ in_Mo) (List.mem_cons_of_mem _ ml_Mo_100) rfl hs_Mo_arity (by decide) (by decide)) rfl x_rcS (fun _ _ => rfl) rfl rfl (by simp [Value.category]) rfl (fun r3 e9 => ct_Mo_arity _ _ r3 e9) (fun r3 _ => ?_)
    refine s_isub B d_Mo_has_96 ?_
    refine s_istore B d_Mo_has_97 (by decide) ?_
    refine s_aload_n B d_Mo_has_99 rfl ?_
    refine s_getS (k := 29) (n := 122) B xc_Mo kd_97 (by decide) rfl rfl fl_Mo_90 sr_97_29 d_Mo_has_100 ?_
    refine s_iload B d_Mo_has_103 rfl ?_
    refine s_iload B d_Mo_has_105 rfl ?_
    refine s_iast B (Or.inl kd_122) d_Mo_has_107 (fun M4 _ => ?_)
    refine s_iinc (w := (1:Int32)) B d_Mo_has_108 rfl (by decide) (by decide) ?_
    refine s_iinc (w := (-1:Int32)) B d_Mo_has_111 rfl (by decide) (by decide) ?_
    refine s_goto B d_Mo_has_114 rfl ?_
    refine s_pick (lv1 := [(0, .ref 97), (1, .int l1), (2, .int l2), (3, .int l3), (5, .int ((l5 - r3.2) + (1:Int32))), (6, .int (l6 + (-1:Int32)))]) [0, 1, 2, 3, 5, 6] rfl ?_
    exact hk58 l1 l2 l3 ((l5 - r3.2) + (1:Int32)) (l6 + (-1:Int32)) M4
set_option maxRecDepth 100000 in
set_option maxHeartbeats 4000000 in
theorem t_Mo_has_58  (B : xB p R s m args meth c b_Mo_has 8 R_Mo (Cond.code y_Mo_has b_Mo_has 8 (some .boolean) :: x_T) (some .boolean) 3 72 D x_cl (xty g) base)  (l1 : Int32) (l2 : Int32) (l3 : Int32) (l5 : Int32) (l6 : Int32) (M : MS)  : Sn p l e R s m args below meth c 8 D x_cl base (xwd g) cM x_g0 az kz (xfc cM) (xZ below args s D x_cl (xty g) base (xwd g) cM x_g0 az kz ovI) 58 [] [(0, .ref 97), (1, .int l1), (2, .int l2), (3, .int l3), (5, .int l5), (6, .int l6)] M (m_Mo_has_58 (l1, l2, l3, l5, l6, M)) := by
  have q : ∀ (F : Nat) (i : Int32 × Int32 × Int32 × Int32 × Int32 × MS), Sn p l e R s m args below meth c 8 D x_cl base (xwd g) cM x_g0 az kz (xfc cM) (xZ below args s D x_cl (xty g) base (xwd g) cM x_g0 az kz ovI) 58 [] [(0, .ref 97), (1, .int i.1), (2, .int i.2.1), (3, .int i.2.2.1), (5, .int i.2.2.2.1), (6, .int i.2.2.2.2.1)] i.2.2.2.2.2 (fx (fun (k : Int32 × Int32 × Int32 × Int32 × Int32 × MS → Option (MS × Int32)) (i : Int32 × Int32 × Int32 × Int32 × Int32 × MS) => m_Mo_has_58b k i.1 i.2.1 i.2.2.1 i.2.2.2.1 i.2.2.2.2.1 i.2.2.2.2.2) F i) := by
    intro F
    induction F with
    | zero => intro i ; exact s_none
    | succ F ih => intro i ; exact t_Mo_has_58b B  (fun l1 l2 l3 l5 l6 M  => ih (l1, l2, l3, l5, l6, M) ) i.1 i.2.1 i.2.2.1 i.2.2.2.1 i.2.2.2.2.1 i.2.2.2.2.2 
  exact q FU (l1, l2, l3, l5, l6, M) 
set_option maxRecDepth 100000 in
set_option maxHeartbeats 4000000 in
theorem t_Mo_has_37  (B : xB p R s m args meth c b_Mo_has 8 R_Mo (Cond.code y_Mo_has b_Mo_has 8 (some .boolean) :: x_T) (some .boolean) 3 72 D x_cl (xty g) base)  (l1 : Int32) (l2 : Int32) (l3 : Int32) (s1 : Int32) (s2 : Int32) (M : MS)  : Sn p l e R s m args below meth c 8 D x_cl base (xwd g) cM x_g0 az kz (xfc cM) (xZ below args s D x_cl (xty g) base (xwd g) cM x_g0 az kz ovI) 37 [.int s2, .int s1, .ref 97] [(0, .ref 97), (1, .int l1), (2, .int l2), (3, .int l3)] M (m_Mo_has_37 l1 l2 l3 s1 s2 M) := by
  unfold m_Mo_has_37
  refine s_pick (lv1 := [(0, .ref 97), (1, .int l1), (2, .int l2), (3, .int l3)]) [0, 1, 2, 3] rfl ?_
  refine s_callI (av := [.ref 97, .int s1, .int s2]) (rest := []) B (lk_V B d_Mo_has_37 (gl_Mo_161 _) rfl hv_Mo_fails (by decide) (by decide)) rfl (x_rcV B xc_Mo kd_97) (fun _ _ => rfl) rfl rfl (by simp [Value.category]) rfl (fun r1 e9 => ct_Mo_fails _ _ _ r1 e9) (fun r1 _ => ?_)
  refine s_if_eq B d_Mo_has_40 rfl (fun _ => ?_) (fun _ => ?_)
  · refine s_iconst (v := (0:Int32)) B d_Mo_has_45 (by decide) ?_
    refine s_istore B d_Mo_has_46 (by decide) ?_
    refine s_aload_n B d_Mo_has_48 rfl ?_
    refine s_getS (k := 2) (n := 99) B xc_Mo kd_97 (by decide) rfl rfl fl_Mo_13 sr_97_2 d_Mo_has_49 ?_
    refine s_iload_n B d_Mo_has_52 rfl ?_
    refine s_iald B (Or.inl kd_99) d_Mo_has_53 (fun v2 _ => ?_)
    refine s_iconst (v := (1:Int32)) B d_Mo_has_54 (by decide) ?_
    refine s_isub B d_Mo_has_55 ?_
    refine s_istore B d_Mo_has_56 (by decide) ?_
    refine s_pick (lv1 := [(0, .ref 97), (1, .int l1), (2, .int l2), (3, .int l3), (5, .int (0:Int32)), (6, .int (v2 - (1:Int32)))]) [0, 1, 2, 3, 5, 6] rfl ?_
    exact t_Mo_has_58 B l1 l2 l3 (0:Int32) (v2 - (1:Int32)) r1.1
  · refine s_iconst (v := (0:Int32)) B d_Mo_has_43 (by decide) ?_
    exact s_zret0 rfl B d_Mo_has_44
set_option maxRecDepth 100000 in
set_option maxHeartbeats 4000000 in
theorem t_Mo_has_36  (B : xB p R s m args meth c b_Mo_has 8 R_Mo (Cond.code y_Mo_has b_Mo_has 8 (some .boolean) :: x_T) (some .boolean) 3 72 D x_cl (xty g) base)  (l1 : Int32) (l2 : Int32) (l3 : Int32) (s1 : Int32) (M : MS)  : Sn p l e R s m args below meth c 8 D x_cl base (xwd g) cM x_g0 az kz (xfc cM) (xZ below args s D x_cl (xty g) base (xwd g) cM x_g0 az kz ovI) 36 [.int s1, .ref 97] [(0, .ref 97), (1, .int l1), (2, .int l2), (3, .int l3)] M (m_Mo_has_36 l1 l2 l3 s1 M) := by
  unfold m_Mo_has_36
  refine s_iconst (v := (0:Int32)) B d_Mo_has_36 (by decide) ?_
  refine s_pick (lv1 := [(0, .ref 97), (1, .int l1), (2, .int l2), (3, .int l3)]) [0, 1, 2, 3] rfl ?_
  exact t_Mo_has_37 B l1 l2 l3 s1 (0:Int32) M
set_option maxRecDepth 100000 in
set_option maxHeartbeats 4000000 in
theorem t_Mo_has_32  (B : xB p R s m args meth c b_Mo_has 8 R_Mo (Cond.code y_Mo_has b_Mo_has 8 (some .boolean) :: x_T) (some .boolean) 3 72 D x_cl (xty g) base)  (l1 : Int32) (l2 : Int32) (l3 : Int32) (s1 : Int32) (M : MS)  : Sn p l e R s m args below meth c 8 D x_cl base (xwd g) cM x_g0 az kz (xfc cM) (xZ below args s D x_cl (xty g) base (xwd g) cM x_g0 az kz ovI) 32 [.int s1, .ref 97] [(0, .ref 97), (1, .int l1), (2, .int l2), (3, .int l3)] M (m_Mo_has_32 l1 l2 l3 s1 M) := by
  unfold m_Mo_has_32
  refine s_iconst (v := (1:Int32)) B d_Mo_has_32 (by decide) ?_
  refine s_goto B d_Mo_has_33 rfl ?_
  refine s_pick (lv1 := [(0, .ref 97), (1, .int l1), (2, .int l2), (3, .int l3)]) [0, 1, 2, 3] rfl ?_
  exact t_Mo_has_37 B l1 l2 l3 s1 (1:Int32) M
set_option maxRecDepth 100000 in
set_option maxHeartbeats 4000000 in
theorem t_Mo_has_17  (B : xB p R s m args meth c b_Mo_has 8 R_Mo (Cond.code y_Mo_has b_Mo_has 8 (some .boolean) :: x_T) (some .boolean) 3 72 D x_cl (xty g) base)  (l1 : Int32) (l2 : Int32) (l3 : Int32) (l4 : Int32) (s1 : Int32) (M : MS)  : Sn p l e R s m args below meth c 8 D x_cl base (xwd g) cM x_g0 az kz (xfc cM) (xZ below args s D x_cl (xty g) base (xwd g) cM x_g0 az kz ovI) 17 [.int s1, .ref 97] [(0, .ref 97), (1, .int l1), (2, .int l2), (3, .int l3), (4, .int l4)] M (m_Mo_has_17 l1 l2 l3 l4 s1 M) := by
  unfold m_Mo_has_17
  refine s_iload B d_Mo_has_17 rfl ?_
  refine s_if_eq B d_Mo_has_19 rfl (fun _ => ?_) (fun _ => ?_)
  · refine s_pick (lv1 := [(0, .ref 97), (1, .int l1), (2, .int l2), (3, .int l3)]) [0, 1, 2, 3] rfl ?_
    exact t_Mo_has_36 B l1 l2 l3 s1 M
  · refine s_iload_n B d_Mo_has_22 rfl ?_
    refine s_if_lt B d_Mo_has_23 rfl (fun _ => ?_) (fun _ => ?_)
    · refine s_pick (lv1 := [(0, .ref 97), (1, .int l1), (2, .int l2), (3, .int l3)]) [0, 1, 2, 3] rfl ?_
      exact t_Mo_has_32 B l1 l2 l3 s1 M
    · refine s_iload_n B d_Mo_has_26 rfl ?_
      refine s_bipush (v := (16:Int32)) B d_Mo_has_27 (by decide) ?_
      refine s_icmp_le B d_Mo_has_29 rfl (fun _ => ?_) (fun _ => ?_)
      · refine s_pick (lv1 := [(0, .ref 97), (1, .int l1), (2, .int l2), (3, .int l3)]) [0, 1, 2, 3] rfl ?_
        exact t_Mo_has_36 B l1 l2 l3 s1 M
      · refine s_pick (lv1 := [(0, .ref 97), (1, .int l1), (2, .int l2), (3, .int l3)]) [0, 1, 2, 3] rfl ?_
        exact t_Mo_has_32 B l1 l2 l3 s1 M
set_option maxRecDepth 100000 in
set_option maxHeartbeats 4000000 in
theorem t_Mo_has (B : xB p R s m args meth c b_Mo_has 8 R_Mo (Cond.code y_Mo_has b_Mo_has 8 (some .boolean) :: x_T) (some .boolean) 3 72 D x_cl (xty g) base) (a1 : Int32) (a2 : Int32) (a3 : Int32) (M : MS) : Sn p l e R s m args below meth c 8 D x_cl base (xwd g) cM x_g0 az kz (xfc cM) (xZ below args s D x_cl (xty g) base (xwd g) cM x_g0 az kz ovI) 0 [] [(0, .ref 97), (1, .int a1), (2, .int a2), (3, .int a3)] M (m_Mo_has a1 a2 a3 M) := by
  unfold m_Mo_has
  refine s_iload_n B d_Mo_has_0 rfl ?_
  refine s_pick (lv1 := [(0, .ref 97), (1, .int a1), (2, .int a2), (3, .int a3)]) [0, 1, 2, 3] rfl ?_
  refine s_callI (av := [.int a1]) (rest := []) B (lk_S B d_Mo_has_1 (gl_Mo_158 _) (List.mem_cons_of_mem _ st_Mo_isSlot) (List.mem_cons_of_mem _ in_Mo) (List.mem_cons_of_mem _ ml_Mo_158) rfl hs_Mo_isSlot (by decide) (by decide)) rfl x_rcS (fun _ _ => rfl) rfl rfl (by simp [Value.category]) rfl (fun r1 e9 => ct_Mo_isSlot _ _ r1 e9) (fun r1 _ => ?_)
  refine s_istore B d_Mo_has_4 (by decide) ?_
  refine s_aload_n B d_Mo_has_6 rfl ?_
  refine s_iload B d_Mo_has_7 rfl ?_
  refine s_if_ne B d_Mo_has_9 rfl (fun _ => ?_) (fun _ => ?_)
  · refine s_iconst (v := (0:Int32)) B d_Mo_has_16 (by decide) ?_
    refine s_pick (lv1 := [(0, .ref 97), (1, .int a1), (2, .int a2), (3, .int a3), (4, .int r1.2)]) [0, 1, 2, 3, 4] rfl ?_
    exact t_Mo_has_17 B a1 a2 a3 r1.2 (0:Int32) r1.1
  · refine s_iconst (v := (1:Int32)) B d_Mo_has_12 (by decide) ?_
    refine s_goto B d_Mo_has_13 rfl ?_
    refine s_pick (lv1 := [(0, .ref 97), (1, .int a1), (2, .int a2), (3, .int a3), (4, .int r1.2)]) [0, 1, 2, 3, 4] rfl ?_
    exact t_Mo_has_17 B a1 a2 a3 r1.2 (1:Int32) r1.1
set_option maxRecDepth 100000 in
set_option maxHeartbeats 4000000 in
theorem ct_Mo_has {l : Launch} {D : va_G} {base : Nat} {g : Nat → ClassId} (a1 : Int32) (a2 : Int32) (a3 : Int32) (M : MS) (r : MS × Int32) (hr : m_Mo_has a1 a2 a3 M = some r) : Ct l y_Mo_has (Cond.code y_Mo_has b_Mo_has 8 (some .boolean) :: x_T) 3 72 D x_cl (xty g) base (xwd g) cM x_g0 [.ref 97, .int a1, .int a2, .int a3] M r.1 (ovI r.2) :=
  x_met (ov := ovI) (by decide) (Nat.le_of_ble_eq_true rfl) (fun p e R s m args below meth c az B => t_Mo_has B a1 a2 a3 M) r hr
end
theorem d_Mo_known_0 : decode b_Mo_known 0 = .ok (.iconst (0), 1) := by decide +kernel
theorem d_Mo_known_1 : decode b_Mo_known 1 = .ok (.istore_n 3, 1) := by decide +kernel
theorem d_Mo_known_2 : decode b_Mo_known 2 = .ok (.iload_n 3, 1) := by decide +kernel
theorem d_Mo_known_3 : decode b_Mo_known 3 = .ok (.iload_n 1, 1) := by decide +kernel
theorem d_Mo_known_4 : decode b_Mo_known 4 = .ok (.if_icmp .ge (36), 3) := by decide +kernel
theorem d_Mo_known_7 : decode b_Mo_known 7 = .ok (.aload_n 0, 1) := by decide +kernel
theorem d_Mo_known_8 : decode b_Mo_known 8 = .ok (.getfield 43, 3) := by decide +kernel
theorem d_Mo_known_11 : decode b_Mo_known 11 = .ok (.sipush (300), 3) := by decide +kernel
theorem d_Mo_known_14 : decode b_Mo_known 14 = .ok (.iload_n 3, 1) := by decide +kernel
theorem d_Mo_known_15 : decode b_Mo_known 15 = .ok (.imul, 1) := by decide +kernel
theorem d_Mo_known_16 : decode b_Mo_known 16 = .ok (.aload_n 0, 1) := by decide +kernel
theorem d_Mo_known_17 : decode b_Mo_known 17 = .ok (.getfield 46, 3) := by decide +kernel
theorem d_Mo_known_20 : decode b_Mo_known 20 = .ok (.iload_n 3, 1) := by decide +kernel
theorem d_Mo_known_21 : decode b_Mo_known 21 = .ok (.iaload, 1) := by decide +kernel
theorem d_Mo_known_22 : decode b_Mo_known 22 = .ok (.aload_n 0, 1) := by decide +kernel
theorem d_Mo_known_23 : decode b_Mo_known 23 = .ok (.getfield 17, 3) := by decide +kernel
theorem d_Mo_known_26 : decode b_Mo_known 26 = .ok (.iconst (0), 1) := by decide +kernel
theorem d_Mo_known_27 : decode b_Mo_known 27 = .ok (.iload_n 2, 1) := by decide +kernel
theorem d_Mo_known_28 : decode b_Mo_known 28 = .ok (.invokestatic 172, 3) := by decide +kernel
theorem d_Mo_known_31 : decode b_Mo_known 31 = .ok (.ifCond .ne (9), 3) := by decide +kernel
theorem d_Mo_known_34 : decode b_Mo_known 34 = .ok (.iinc 3 (1), 3) := by decide +kernel
theorem d_Mo_known_37 : decode b_Mo_known 37 = .ok (.goto (-35), 3) := by decide +kernel
theorem d_Mo_known_40 : decode b_Mo_known 40 = .ok (.iload_n 3, 1) := by decide +kernel
theorem d_Mo_known_41 : decode b_Mo_known 41 = .ok (.ireturn, 1) := by decide +kernel
section
variable {p : Program} {l : Launch} {e : Env} {R : Room} {s : State} {m : MethodId} {args : Array Value} {below : List Frame} {meth : Method} {c : Code} {D : va_G} {base : Nat} {g : Nat → ClassId} {az : Nat → Nat} {kz : Nat × Nat}
set_option maxRecDepth 100000 in
set_option maxHeartbeats 4000000 in
theorem t_Mo_known_2b {k2 : Int32 × Int32 × Int32 × MS → Option (MS × Int32)} (B : xB p R s m args meth c b_Mo_known 4 R_Mo (Cond.code y_Mo_known b_Mo_known 4 (some .int) :: x_T) (some .int) 1 27 D x_cl (xty g) base) (hk2 : ∀ (l1 : Int32) (l2 : Int32) (l3 : Int32) (M : MS) , Sn p l e R s m args below meth c 4 D x_cl base (xwd g) cM x_g0 az kz (xfc cM) (xZ below args s D x_cl (xty g) base (xwd g) cM x_g0 az kz ovI) 2 [] [(0, .ref 97), (1, .int l1), (2, .int l2), (3, .int l3)] M (k2 (l1, l2, l3, M))) (l1 : Int32) (l2 : Int32) (l3 : Int32) (M : MS)  : Sn p l e R s m args below meth c 4 D x_cl base (xwd g) cM x_g0 az kz (xfc cM) (xZ below args s D x_cl (xty g) base (xwd g) cM x_g0 az kz ovI) 2 [] [(0, .ref 97), (1, .int l1), (2, .int l2), (3, .int l3)] M (m_Mo_known_2b k2 l1 l2 l3 M) := by
  unfold m_Mo_known_2b
  refine s_iload_n B d_Mo_known_2 rfl ?_
  refine s_iload_n B d_Mo_known_3 rfl ?_
  refine s_icmp_ge B d_Mo_known_4 rfl (fun _ => ?_) (fun _ => ?_)
  · refine s_iload_n B d_Mo_known_40 rfl ?_
    exact s_iret B d_Mo_known_41
  · refine s_aload_n B d_Mo_known_7 rfl ?_
    refine s_getS (k := 14) (n := 108) B xc_Mo kd_97 (by decide) rfl rfl fl_Mo_43 sr_97_14 d_Mo_known_8 ?_
    refine s_sipush (v := (300:Int32)) B d_Mo_known_11 (by decide) ?_
    refine s_iload_n B d_Mo_known_14 rfl ?_
    refine s_imul B d_Mo_known_15 ?_
    refine s_aload_n B d_Mo_known_16 rfl ?_
    refine s_getS (k := 15) (n := 109) B xc_Mo kd_97 (by decide) rfl rfl fl_Mo_46 sr_97_15 d_Mo_known_17 ?_
    refine s_iload_n B d_Mo_known_20 rfl ?_
    refine s_iald B (Or.inl kd_109) d_Mo_known_21 (fun v1 _ => ?_)
    refine s_aload_n B d_Mo_known_22 rfl ?_
    refine s_getS (k := 3) (n := 100) B xc_Mo kd_97 (by decide) rfl rfl fl_Mo_17 sr_97_3 d_Mo_known_23 ?_
    refine s_iconst (v := (0:Int32)) B d_Mo_known_26 (by decide) ?_
    refine s_iload_n B d_Mo_known_27 rfl ?_
    refine s_pick (lv1 := [(0, .ref 97), (1, .int l1), (2, .int l2), (3, .int l3)]) [0, 1, 2, 3] rfl ?_
    refine s_callI (av := [.ref 108, .int ((300:Int32) * l3), .int v1, .ref 100, .int (0:Int32), .int l2]) (rest := []) B (lk_S B d_Mo_known_28 (gl_Mo_172 _) (List.mem_cons_of_mem _ st_Mo_same) (List.mem_cons_of_mem _ in_Mo) (List.mem_cons_of_mem _ ml_Mo_172) rfl hs_Mo_same (by decide) (by decide)) rfl x_rcS (fun _ _ => rfl) rfl rfl (by simp [Value.category]) rfl (fun r2 e9 => ct_Mo_same _ _ _ _ _ _ _ r2 e9) (fun r2 _ => ?_)
    refine s_if_ne B d_Mo_known_31 rfl (fun _ => ?_) (fun _ => ?_)
    · refine s_iload_n B d_Mo_known_40 rfl ?_
      exact s_iret B d_Mo_known_41
    · refine s_iinc (w := (1:Int32)) B d_Mo_known_34 rfl (by decide) (by decide) ?_
      refine s_goto B d_Mo_known_37 rfl ?_
      refine s_pick (lv1 := [(0, .ref 97), (1, .int l1), (2, .int l2), (3, .int (l3 + (1:Int32)))]) [0, 1, 2, 3] rfl ?_
      exact hk2 l1 l2 (l3 + (1:Int32)) r2.1
set_option maxRecDepth 100000 in
set_option maxHeartbeats 4000000 in
theorem t_Mo_known_2  (B : xB p R s m args meth c b_Mo_known 4 R_Mo (Cond.code y_Mo_known b_Mo_known 4 (some .int) :: x_T) (some .int) 1 27 D x_cl (xty g) base)  (l1 : Int32) (l2 : Int32) (l3 : Int32) (M : MS)  : Sn p l e R s m args below meth c 4 D x_cl base (xwd g) cM x_g0 az kz (xfc cM) (xZ below args s D x_cl (xty g) base (xwd g) cM x_g0 az kz ovI) 2 [] [(0, .ref 97), (1, .int l1), (2, .int l2), (3, .int l3)] M (m_Mo_known_2 (l1, l2, l3, M)) := by
  have q : ∀ (F : Nat) (i : Int32 × Int32 × Int32 × MS), Sn p l e R s m args below meth c 4 D x_cl base (xwd g) cM x_g0 az kz (xfc cM) (xZ below args s D x_cl (xty g) base (xwd g) cM x_g0 az kz ovI) 2 [] [(0, .ref 97), (1, .int i.1), (2, .int i.2.1), (3, .int i.2.2.1)] i.2.2.2 (fx (fun (k : Int32 × Int32 × Int32 × MS → Option (MS × Int32)) (i : Int32 × Int32 × Int32 × MS) => m_Mo_known_2b k i.1 i.2.1 i.2.2.1 i.2.2.2) F i) := by
    intro F
    induction F with
    | zero => intro i ; exact s_none
    | succ F ih => intro i ; exact t_Mo_known_2b B  (fun l1 l2 l3 M  => ih (l1, l2, l3, M) ) i.1 i.2.1 i.2.2.1 i.2.2.2 
  exact q FU (l1, l2, l3, M) 
set_option maxRecDepth 100000 in
set_option maxHeartbeats 4000000 in
theorem t_Mo_known (B : xB p R s m args meth c b_Mo_known 4 R_Mo (Cond.code y_Mo_known b_Mo_known 4 (some .int) :: x_T) (some .int) 1 27 D x_cl (xty g) base) (a1 : Int32) (a2 : Int32) (M : MS) : Sn p l e R s m args below meth c 4 D x_cl base (xwd g) cM x_g0 az kz (xfc cM) (xZ below args s D x_cl (xty g) base (xwd g) cM x_g0 az kz ovI) 0 [] [(0, .ref 97), (1, .int a1), (2, .int a2)] M (m_Mo_known a1 a2 M) := by
  unfold m_Mo_known
  refine s_iconst (v := (0:Int32)) B d_Mo_known_0 (by decide) ?_
  refine s_istore_n B d_Mo_known_1 (by decide) ?_
  refine s_pick (lv1 := [(0, .ref 97), (1, .int a1), (2, .int a2), (3, .int (0:Int32))]) [0, 1, 2, 3] rfl ?_
  exact t_Mo_known_2 B a1 a2 (0:Int32) M
set_option maxRecDepth 100000 in
set_option maxHeartbeats 4000000 in
theorem ct_Mo_known {l : Launch} {D : va_G} {base : Nat} {g : Nat → ClassId} (a1 : Int32) (a2 : Int32) (M : MS) (r : MS × Int32) (hr : m_Mo_known a1 a2 M = some r) : Ct l y_Mo_known (Cond.code y_Mo_known b_Mo_known 4 (some .int) :: x_T) 1 27 D x_cl (xty g) base (xwd g) cM x_g0 [.ref 97, .int a1, .int a2] M r.1 (ovI r.2) :=
  x_met (ov := ovI) (by decide) (Nat.le_of_ble_eq_true rfl) (fun p e R s m args below meth c az B => t_Mo_known B a1 a2 M) r hr
end
theorem d_Mo_explore_0 : decode b_Mo_explore 0 = .ok (.iconst (1), 1) := by decide +kernel
theorem d_Mo_explore_1 : decode b_Mo_explore 1 = .ok (.istore_n 2, 1) := by decide +kernel
theorem d_Mo_explore_2 : decode b_Mo_explore 2 = .ok (.aload_n 0, 1) := by decide +kernel
theorem d_Mo_explore_3 : decode b_Mo_explore 3 = .ok (.getfield 46, 3) := by decide +kernel
theorem d_Mo_explore_6 : decode b_Mo_explore 6 = .ok (.iconst (0), 1) := by decide +kernel
theorem d_Mo_explore_7 : decode b_Mo_explore 7 = .ok (.aload_n 0, 1) := by decide +kernel
theorem d_Mo_explore_8 : decode b_Mo_explore 8 = .ok (.getfield 13, 3) := by decide +kernel
theorem d_Mo_explore_11 : decode b_Mo_explore 11 = .ok (.iload_n 1, 1) := by decide +kernel
theorem d_Mo_explore_12 : decode b_Mo_explore 12 = .ok (.iaload, 1) := by decide +kernel
theorem d_Mo_explore_13 : decode b_Mo_explore 13 = .ok (.iastore, 1) := by decide +kernel
theorem d_Mo_explore_14 : decode b_Mo_explore 14 = .ok (.iconst (0), 1) := by decide +kernel
theorem d_Mo_explore_15 : decode b_Mo_explore 15 = .ok (.istore_n 3, 1) := by decide +kernel
theorem d_Mo_explore_16 : decode b_Mo_explore 16 = .ok (.iload_n 3, 1) := by decide +kernel
theorem d_Mo_explore_17 : decode b_Mo_explore 17 = .ok (.aload_n 0, 1) := by decide +kernel
theorem d_Mo_explore_18 : decode b_Mo_explore 18 = .ok (.getfield 13, 3) := by decide +kernel
theorem d_Mo_explore_21 : decode b_Mo_explore 21 = .ok (.iload_n 1, 1) := by decide +kernel
theorem d_Mo_explore_22 : decode b_Mo_explore 22 = .ok (.iaload, 1) := by decide +kernel
theorem d_Mo_explore_23 : decode b_Mo_explore 23 = .ok (.if_icmp .ge (26), 3) := by decide +kernel
theorem d_Mo_explore_26 : decode b_Mo_explore 26 = .ok (.aload_n 0, 1) := by decide +kernel
theorem d_Mo_explore_27 : decode b_Mo_explore 27 = .ok (.getfield 43, 3) := by decide +kernel
theorem d_Mo_explore_30 : decode b_Mo_explore 30 = .ok (.iload_n 3, 1) := by decide +kernel
theorem d_Mo_explore_31 : decode b_Mo_explore 31 = .ok (.aload_n 0, 1) := by decide +kernel
theorem d_Mo_explore_32 : decode b_Mo_explore 32 = .ok (.getfield 7, 3) := by decide +kernel
theorem d_Mo_explore_35 : decode b_Mo_explore 35 = .ok (.bipush (100), 2) := by decide +kernel
theorem d_Mo_explore_37 : decode b_Mo_explore 37 = .ok (.iload_n 1, 1) := by decide +kernel
theorem d_Mo_explore_38 : decode b_Mo_explore 38 = .ok (.imul, 1) := by decide +kernel
theorem d_Mo_explore_39 : decode b_Mo_explore 39 = .ok (.iload_n 3, 1) := by decide +kernel
theorem d_Mo_explore_40 : decode b_Mo_explore 40 = .ok (.iadd, 1) := by decide +kernel
theorem d_Mo_explore_41 : decode b_Mo_explore 41 = .ok (.iaload, 1) := by decide +kernel
theorem d_Mo_explore_42 : decode b_Mo_explore 42 = .ok (.iastore, 1) := by decide +kernel
theorem d_Mo_explore_43 : decode b_Mo_explore 43 = .ok (.iinc 3 (1), 3) := by decide +kernel
theorem d_Mo_explore_46 : decode b_Mo_explore 46 = .ok (.goto (-30), 3) := by decide +kernel
theorem d_Mo_explore_49 : decode b_Mo_explore 49 = .ok (.iconst (0), 1) := by decide +kernel
theorem d_Mo_explore_50 : decode b_Mo_explore 50 = .ok (.istore_n 3, 1) := by decide +kernel
theorem d_Mo_explore_51 : decode b_Mo_explore 51 = .ok (.iload_n 3, 1) := by decide +kernel
theorem d_Mo_explore_52 : decode b_Mo_explore 52 = .ok (.iload_n 2, 1) := by decide +kernel
theorem d_Mo_explore_53 : decode b_Mo_explore 53 = .ok (.if_icmp .ge (156), 3) := by decide +kernel
theorem d_Mo_explore_56 : decode b_Mo_explore 56 = .ok (.iconst (0), 1) := by decide +kernel
theorem d_Mo_explore_57 : decode b_Mo_explore 57 = .ok (.istore 4, 2) := by decide +kernel
theorem d_Mo_explore_59 : decode b_Mo_explore 59 = .ok (.iload 4, 2) := by decide +kernel
theorem d_Mo_explore_61 : decode b_Mo_explore 61 = .ok (.iconst (4), 1) := by decide +kernel
theorem d_Mo_explore_62 : decode b_Mo_explore 62 = .ok (.if_icmp .ge (141), 3) := by decide +kernel
theorem d_Mo_explore_65 : decode b_Mo_explore 65 = .ok (.aload_n 0, 1) := by decide +kernel
theorem d_Mo_explore_66 : decode b_Mo_explore 66 = .ok (.aload_n 0, 1) := by decide +kernel
theorem d_Mo_explore_67 : decode b_Mo_explore 67 = .ok (.getfield 43, 3) := by decide +kernel
theorem d_Mo_explore_70 : decode b_Mo_explore 70 = .ok (.sipush (300), 3) := by decide +kernel
theorem d_Mo_explore_73 : decode b_Mo_explore 73 = .ok (.iload_n 3, 1) := by decide +kernel
theorem d_Mo_explore_74 : decode b_Mo_explore 74 = .ok (.imul, 1) := by decide +kernel
theorem d_Mo_explore_75 : decode b_Mo_explore 75 = .ok (.aload_n 0, 1) := by decide +kernel
theorem d_Mo_explore_76 : decode b_Mo_explore 76 = .ok (.getfield 46, 3) := by decide +kernel
theorem d_Mo_explore_79 : decode b_Mo_explore 79 = .ok (.iload_n 3, 1) := by decide +kernel
theorem d_Mo_explore_80 : decode b_Mo_explore 80 = .ok (.iaload, 1) := by decide +kernel
theorem d_Mo_explore_81 : decode b_Mo_explore 81 = .ok (.iload 4, 2) := by decide +kernel
theorem d_Mo_explore_83 : decode b_Mo_explore 83 = .ok (.invokevirtual 168, 3) := by decide +kernel
theorem d_Mo_explore_86 : decode b_Mo_explore 86 = .ok (.istore 5, 2) := by decide +kernel
theorem d_Mo_explore_88 : decode b_Mo_explore 88 = .ok (.aload_n 0, 1) := by decide +kernel
theorem d_Mo_explore_89 : decode b_Mo_explore 89 = .ok (.getfield 61, 3) := by decide +kernel
theorem d_Mo_explore_92 : decode b_Mo_explore 92 = .ok (.iload_n 3, 1) := by decide +kernel
theorem d_Mo_explore_93 : decode b_Mo_explore 93 = .ok (.aload_n 0, 1) := by decide +kernel
theorem d_Mo_explore_94 : decode b_Mo_explore 94 = .ok (.getfield 32, 3) := by decide +kernel
theorem d_Mo_explore_97 : decode b_Mo_explore 97 = .ok (.iconst (0), 1) := by decide +kernel
theorem d_Mo_explore_98 : decode b_Mo_explore 98 = .ok (.baload, 1) := by decide +kernel
theorem d_Mo_explore_99 : decode b_Mo_explore 99 = .ok (.bastore, 1) := by decide +kernel
theorem d_Mo_explore_100 : decode b_Mo_explore 100 = .ok (.iload 5, 2) := by decide +kernel
theorem d_Mo_explore_102 : decode b_Mo_explore 102 = .ok (.sipush (300), 3) := by decide +kernel
theorem d_Mo_explore_105 : decode b_Mo_explore 105 = .ok (.if_icmp .le (5), 3) := by decide +kernel
theorem d_Mo_explore_108 : decode b_Mo_explore 108 = .ok (.iconst (-1), 1) := by decide +kernel
theorem d_Mo_explore_109 : decode b_Mo_explore 109 = .ok (.ireturn, 1) := by decide +kernel
theorem d_Mo_explore_110 : decode b_Mo_explore 110 = .ok (.aload_n 0, 1) := by decide +kernel
theorem d_Mo_explore_111 : decode b_Mo_explore 111 = .ok (.iload_n 2, 1) := by decide +kernel
theorem d_Mo_explore_112 : decode b_Mo_explore 112 = .ok (.iload 5, 2) := by decide +kernel
theorem d_Mo_explore_114 : decode b_Mo_explore 114 = .ok (.invokevirtual 180, 3) := by decide +kernel
theorem d_Mo_explore_117 : decode b_Mo_explore 117 = .ok (.istore 6, 2) := by decide +kernel
theorem d_Mo_explore_119 : decode b_Mo_explore 119 = .ok (.aload_n 0, 1) := by decide +kernel
theorem d_Mo_explore_120 : decode b_Mo_explore 120 = .ok (.getfield 49, 3) := by decide +kernel
theorem d_Mo_explore_123 : decode b_Mo_explore 123 = .ok (.iconst (4), 1) := by decide +kernel
theorem d_Mo_explore_124 : decode b_Mo_explore 124 = .ok (.iload_n 3, 1) := by decide +kernel
theorem d_Mo_explore_125 : decode b_Mo_explore 125 = .ok (.imul, 1) := by decide +kernel
theorem d_Mo_explore_126 : decode b_Mo_explore 126 = .ok (.iload 4, 2) := by decide +kernel
theorem d_Mo_explore_128 : decode b_Mo_explore 128 = .ok (.iadd, 1) := by decide +kernel
theorem d_Mo_explore_129 : decode b_Mo_explore 129 = .ok (.iload 6, 2) := by decide +kernel
theorem d_Mo_explore_131 : decode b_Mo_explore 131 = .ok (.iastore, 1) := by decide +kernel
theorem d_Mo_explore_132 : decode b_Mo_explore 132 = .ok (.iload 6, 2) := by decide +kernel
theorem d_Mo_explore_134 : decode b_Mo_explore 134 = .ok (.iload_n 2, 1) := by decide +kernel
theorem d_Mo_explore_135 : decode b_Mo_explore 135 = .ok (.if_icmp .ge (6), 3) := by decide +kernel
theorem d_Mo_explore_138 : decode b_Mo_explore 138 = .ok (.goto (59), 3) := by decide +kernel
theorem d_Mo_explore_141 : decode b_Mo_explore 141 = .ok (.iload_n 2, 1) := by decide +kernel
theorem d_Mo_explore_142 : decode b_Mo_explore 142 = .ok (.sipush (150), 3) := by decide +kernel
theorem d_Mo_explore_145 : decode b_Mo_explore 145 = .ok (.if_icmp .ne (5), 3) := by decide +kernel
theorem d_Mo_explore_148 : decode b_Mo_explore 148 = .ok (.iconst (-1), 1) := by decide +kernel
theorem d_Mo_explore_149 : decode b_Mo_explore 149 = .ok (.ireturn, 1) := by decide +kernel
theorem d_Mo_explore_150 : decode b_Mo_explore 150 = .ok (.iconst (0), 1) := by decide +kernel
theorem d_Mo_explore_151 : decode b_Mo_explore 151 = .ok (.istore 7, 2) := by decide +kernel
theorem d_Mo_explore_153 : decode b_Mo_explore 153 = .ok (.iload 7, 2) := by decide +kernel
theorem d_Mo_explore_155 : decode b_Mo_explore 155 = .ok (.iload 5, 2) := by decide +kernel
theorem d_Mo_explore_157 : decode b_Mo_explore 157 = .ok (.if_icmp .ge (29), 3) := by decide +kernel
theorem d_Mo_explore_160 : decode b_Mo_explore 160 = .ok (.aload_n 0, 1) := by decide +kernel
theorem d_Mo_explore_161 : decode b_Mo_explore 161 = .ok (.getfield 43, 3) := by decide +kernel
theorem d_Mo_explore_164 : decode b_Mo_explore 164 = .ok (.sipush (300), 3) := by decide +kernel
theorem d_Mo_explore_167 : decode b_Mo_explore 167 = .ok (.iload_n 2, 1) := by decide +kernel
theorem d_Mo_explore_168 : decode b_Mo_explore 168 = .ok (.imul, 1) := by decide +kernel
theorem d_Mo_explore_169 : decode b_Mo_explore 169 = .ok (.iload 7, 2) := by decide +kernel
theorem d_Mo_explore_171 : decode b_Mo_explore 171 = .ok (.iadd, 1) := by decide +kernel
theorem d_Mo_explore_172 : decode b_Mo_explore 172 = .ok (.aload_n 0, 1) := by decide +kernel
theorem d_Mo_explore_173 : decode b_Mo_explore 173 = .ok (.getfield 17, 3) := by decide +kernel
theorem d_Mo_explore_176 : decode b_Mo_explore 176 = .ok (.iload 7, 2) := by decide +kernel
theorem d_Mo_explore_178 : decode b_Mo_explore 178 = .ok (.iaload, 1) := by decide +kernel
theorem d_Mo_explore_179 : decode b_Mo_explore 179 = .ok (.iastore, 1) := by decide +kernel
theorem d_Mo_explore_180 : decode b_Mo_explore 180 = .ok (.iinc 7 (1), 3) := by decide +kernel
theorem d_Mo_explore_183 : decode b_Mo_explore 183 = .ok (.goto (-30), 3) := by decide +kernel
theorem d_Mo_explore_186 : decode b_Mo_explore 186 = .ok (.aload_n 0, 1) := by decide +kernel
theorem d_Mo_explore_187 : decode b_Mo_explore 187 = .ok (.getfield 46, 3) := by decide +kernel
theorem d_Mo_explore_190 : decode b_Mo_explore 190 = .ok (.iload_n 2, 1) := by decide +kernel
theorem d_Mo_explore_191 : decode b_Mo_explore 191 = .ok (.iload 5, 2) := by decide +kernel
theorem d_Mo_explore_193 : decode b_Mo_explore 193 = .ok (.iastore, 1) := by decide +kernel
theorem d_Mo_explore_194 : decode b_Mo_explore 194 = .ok (.iinc 2 (1), 3) := by decide +kernel
theorem d_Mo_explore_197 : decode b_Mo_explore 197 = .ok (.iinc 4 (1), 3) := by decide +kernel
theorem d_Mo_explore_200 : decode b_Mo_explore 200 = .ok (.goto (-141), 3) := by decide +kernel
theorem d_Mo_explore_203 : decode b_Mo_explore 203 = .ok (.iinc 3 (1), 3) := by decide +kernel
theorem d_Mo_explore_206 : decode b_Mo_explore 206 = .ok (.goto (-155), 3) := by decide +kernel
theorem d_Mo_explore_209 : decode b_Mo_explore 209 = .ok (.iload_n 2, 1) := by decide +kernel
theorem d_Mo_explore_210 : decode b_Mo_explore 210 = .ok (.ireturn, 1) := by decide +kernel
section
variable {p : Program} {l : Launch} {e : Env} {R : Room} {s : State} {m : MethodId} {args : Array Value} {below : List Frame} {meth : Method} {c : Code} {D : va_G} {base : Nat} {g : Nat → ClassId} {az : Nat → Nat} {kz : Nat × Nat}
set_option maxRecDepth 100000 in
set_option maxHeartbeats 4000000 in
theorem t_Mo_explore_186 {k51 : Int32 × Int32 × MS → Option (MS × Int32)} {k59 : Int32 × Int32 × Int32 × MS → Option (MS × Int32)} (B : xB p R s m args meth c b_Mo_explore 8 R_Mo (Cond.code y_Mo_explore b_Mo_explore 8 (some .int) :: x_T) (some .int) 6 147 D x_cl (xty g) base) (hk51 : ∀ (l2 : Int32) (l3 : Int32) (M : MS) , Sn p l e R s m args below meth c 8 D x_cl base (xwd g) cM x_g0 az kz (xfc cM) (xZ below args s D x_cl (xty g) base (xwd g) cM x_g0 az kz ovI) 51 [] [(0, .ref 97), (2, .int l2), (3, .int l3)] M (k51 (l2, l3, M))) (hk59 : ∀ (l2 : Int32) (l3 : Int32) (l4 : Int32) (M : MS) , Sn p l e R s m args below meth c 8 D x_cl base (xwd g) cM x_g0 az kz (xfc cM) (xZ below args s D x_cl (xty g) base (xwd g) cM x_g0 az kz ovI) 59 [] [(0, .ref 97), (2, .int l2), (3, .int l3), (4, .int l4)] M (k59 (l2, l3, l4, M))) (l2 : Int32) (l3 : Int32) (l4 : Int32) (l5 : Int32) (M : MS)  : Sn p l e R s m args below meth c 8 D x_cl base (xwd g) cM x_g0 az kz (xfc cM) (xZ below args s D x_cl (xty g) base (xwd g) cM x_g0 az kz ovI) 186 [] [(0, .ref 97), (2, .int l2), (3, .int l3), (4, .int l4), (5, .int l5)] M (m_Mo_explore_186 k51 k59 l2 l3 l4 l5 M) := by
  unfold m_Mo_explore_186
  refine s_aload_n B d_Mo_explore_186 rfl ?_
  refine s_getS (k := 15) (n := 109) B xc_Mo kd_97 (by decide) rfl rfl fl_Mo_46 sr_97_15 d_Mo_explore_187 ?_
  refine s_iload_n B d_Mo_explore_190 rfl ?_
  refine s_iload B d_Mo_explore_191 rfl ?_
  refine s_iast B (Or.inl kd_109) d_Mo_explore_193 (fun M1 _ => ?_)
  refine s_iinc (w := (1:Int32)) B d_Mo_explore_194 rfl (by decide) (by decide) ?_
  refine s_iinc (w := (1:Int32)) B d_Mo_explore_197 rfl (by decide) (by decide) ?_
  refine s_goto B d_Mo_explore_200 rfl ?_
  refine s_pick (lv1 := [(0, .ref 97), (2, .int (l2 + (1:Int32))), (3, .int l3), (4, .int (l4 + (1:Int32)))]) [0, 2, 3, 4] rfl ?_
  exact hk59 (l2 + (1:Int32)) l3 (l4 + (1:Int32)) M1
set_option maxRecDepth 100000 in
set_option maxHeartbeats 4000000 in
theorem t_Mo_explore_153b {k51 : Int32 × Int32 × MS → Option (MS × Int32)} {k59 : Int32 × Int32 × Int32 × MS → Option (MS × Int32)} {k153 : Int32 × Int32 × Int32 × Int32 × Int32 × MS → Option (MS × Int32)} (B : xB p R s m args meth c b_Mo_explore 8 R_Mo (Cond.code y_Mo_explore b_Mo_explore 8 (some .int) :: x_T) (some .int) 6 147 D x_cl (xty g) base) (hk51 : ∀ (l2 : Int32) (l3 : Int32) (M : MS) , Sn p l e R s m args below meth c 8 D x_cl base (xwd g) cM x_g0 az kz (xfc cM) (xZ below args s D x_cl (xty g) base (xwd g) cM x_g0 az kz ovI) 51 [] [(0, .ref 97), (2, .int l2), (3, .int l3)] M (k51 (l2, l3, M))) (hk59 : ∀ (l2 : Int32) (l3 : Int32) (l4 : Int32) (M : MS) , Sn p l e R s m args below meth c 8 D x_cl base (xwd g) cM x_g0 az kz (xfc cM) (xZ below args s D x_cl (xty g) base (xwd g) cM x_g0 az kz ovI) 59 [] [(0, .ref 97), (2, .int l2), (3, .int l3), (4, .int l4)] M (k59 (l2, l3, l4, M))) (hk153 : ∀ (l2 : Int32) (l3 : Int32) (l4 : Int32) (l5 : Int32) (l7 : Int32) (M : MS) , Sn p l e R s m args below meth c 8 D x_cl base (xwd g) cM x_g0 az kz (xfc cM) (xZ below args s D x_cl (xty g) base (xwd g) cM x_g0 az kz ovI) 153 [] [(0, .ref 97), (2, .int l2), (3, .int l3), (4, .int l4), (5, .int l5), (7, .int l7)] M (k153 (l2, l3, l4, l5, l7, M))) (l2 : Int32) (l3 : Int32) (l4 : Int32) (l5 : Int32) (l7 : Int32) (M : MS)  : Sn p l e R s m args below meth c 8 D x_cl base (xwd g) cM x_g0 az kz (xfc cM) (xZ below args s D x_cl (xty g) base (xwd g) cM x_g0 az kz ovI) 153 [] [(0, .ref 97), (2, .int l2), (3, .int l3), (4, .int l4), (5, .int l5), (7, .int l7)] M (m_Mo_explore_153b k51 k59 k153 l2 l3 l4 l5 l7 M) := by
  unfold m_Mo_explore_153b
  refine s_iload B d_Mo_explore_153 rfl ?_
  refine s_iload B d_Mo_explore_155 rfl ?_
  refine s_icmp_ge B d_Mo_explore_157 rfl (fun _ => ?_) (fun _ => ?_)
  · refine s_pick (lv1 := [(0, .ref 97), (2, .int l2), (3, .int l3), (4, .int l4), (5, .int l5)]) [0, 2, 3, 4, 5] rfl ?_
    exact t_Mo_explore_186 B hk51 hk59 l2 l3 l4 l5 M
  · refine s_aload_n B d_Mo_explore_160 rfl ?_
    refine s_getS (k := 14) (n := 108) B xc_Mo kd_97 (by decide) rfl rfl fl_Mo_43 sr_97_14 d_Mo_explore_161 ?_
    refine s_sipush (v := (300:Int32)) B d_Mo_explore_164 (by decide) ?_
    refine s_iload_n B d_Mo_explore_167 rfl ?_
    refine s_imul B d_Mo_explore_168 ?_
    refine s_iload B d_Mo_explore_169 rfl ?_
    refine s_iadd B d_Mo_explore_171 ?_
    refine s_aload_n B d_Mo_explore_172 rfl ?_
    refine s_getS (k := 3) (n := 100) B xc_Mo kd_97 (by decide) rfl rfl fl_Mo_17 sr_97_3 d_Mo_explore_173 ?_
    refine s_iload B d_Mo_explore_176 rfl ?_
    refine s_iald B (Or.inl kd_100) d_Mo_explore_178 (fun v1 _ => ?_)
    refine s_iast B (Or.inl kd_108) d_Mo_explore_179 (fun M2 _ => ?_)
    refine s_iinc (w := (1:Int32)) B d_Mo_explore_180 rfl (by decide) (by decide) ?_
    refine s_goto B d_Mo_explore_183 rfl ?_
    refine s_pick (lv1 := [(0, .ref 97), (2, .int l2), (3, .int l3), (4, .int l4), (5, .int l5), (7, .int (l7 + (1:Int32)))]) [0, 2, 3, 4, 5, 7] rfl ?_
    exact hk153 l2 l3 l4 l5 (l7 + (1:Int32)) M2
set_option maxRecDepth 100000 in
set_option maxHeartbeats 4000000 in
theorem t_Mo_explore_153 {k51 : Int32 × Int32 × MS → Option (MS × Int32)} {k59 : Int32 × Int32 × Int32 × MS → Option (MS × Int32)} (B : xB p R s m args meth c b_Mo_explore 8 R_Mo (Cond.code y_Mo_explore b_Mo_explore 8 (some .int) :: x_T) (some .int) 6 147 D x_cl (xty g) base) (hk51 : ∀ (l2 : Int32) (l3 : Int32) (M : MS) , Sn p l e R s m args below meth c 8 D x_cl base (xwd g) cM x_g0 az kz (xfc cM) (xZ below args s D x_cl (xty g) base (xwd g) cM x_g0 az kz ovI) 51 [] [(0, .ref 97), (2, .int l2), (3, .int l3)] M (k51 (l2, l3, M))) (hk59 : ∀ (l2 : Int32) (l3 : Int32) (l4 : Int32) (M : MS) , Sn p l e R s m args below meth c 8 D x_cl base (xwd g) cM x_g0 az kz (xfc cM) (xZ below args s D x_cl (xty g) base (xwd g) cM x_g0 az kz ovI) 59 [] [(0, .ref 97), (2, .int l2), (3, .int l3), (4, .int l4)] M (k59 (l2, l3, l4, M))) (l2 : Int32) (l3 : Int32) (l4 : Int32) (l5 : Int32) (l7 : Int32) (M : MS)  : Sn p l e R s m args below meth c 8 D x_cl base (xwd g) cM x_g0 az kz (xfc cM) (xZ below args s D x_cl (xty g) base (xwd g) cM x_g0 az kz ovI) 153 [] [(0, .ref 97), (2, .int l2), (3, .int l3), (4, .int l4), (5, .int l5), (7, .int l7)] M (m_Mo_explore_153 k51 k59 (l2, l3, l4, l5, l7, M)) := by
  have q : ∀ (F : Nat) (i : Int32 × Int32 × Int32 × Int32 × Int32 × MS), Sn p l e R s m args below meth c 8 D x_cl base (xwd g) cM x_g0 az kz (xfc cM) (xZ below args s D x_cl (xty g) base (xwd g) cM x_g0 az kz ovI) 153 [] [(0, .ref 97), (2, .int i.1), (3, .int i.2.1), (4, .int i.2.2.1), (5, .int i.2.2.2.1), (7, .int i.2.2.2.2.1)] i.2.2.2.2.2 (fx (fun (k : Int32 × Int32 × Int32 × Int32 × Int32 × MS → Option (MS × Int32)) (i : Int32 × Int32 × Int32 × Int32 × Int32 × MS) => m_Mo_explore_153b k51 k59 k i.1 i.2.1 i.2.2.1 i.2.2.2.1 i.2.2.2.2.1 i.2.2.2.2.2) F i) := by
    intro F
    induction F with
    | zero => intro i ; exact s_none
    | succ F ih => intro i ; exact t_Mo_explore_153b B hk51 hk59 (fun l2 l3 l4 l5 l7 M  => ih (l2, l3, l4, l5, l7, M) ) i.1 i.2.1 i.2.2.1 i.2.2.2.1 i.2.2.2.2.1 i.2.2.2.2.2 
  exact q FU (l2, l3, l4, l5, l7, M) 
set_option maxRecDepth 100000 in
set_option maxHeartbeats 4000000 in
theorem t_Mo_explore_59b {k51 : Int32 × Int32 × MS → Option (MS × Int32)} {k59 : Int32 × Int32 × Int32 × MS → Option (MS × Int32)} (B : xB p R s m args meth c b_Mo_explore 8 R_Mo (Cond.code y_Mo_explore b_Mo_explore 8 (some .int) :: x_T) (some .int) 6 147 D x_cl (xty g) base) (hk51 : ∀ (l2 : Int32) (l3 : Int32) (M : MS) , Sn p l e R s m args below meth c 8 D x_cl base (xwd g) cM x_g0 az kz (xfc cM) (xZ below args s D x_cl (xty g) base (xwd g) cM x_g0 az kz ovI) 51 [] [(0, .ref 97), (2, .int l2), (3, .int l3)] M (k51 (l2, l3, M))) (hk59 : ∀ (l2 : Int32) (l3 : Int32) (l4 : Int32) (M : MS) , Sn p l e R s m args below meth c 8 D x_cl base (xwd g) cM x_g0 az kz (xfc cM) (xZ below args s D x_cl (xty g) base (xwd g) cM x_g0 az kz ovI) 59 [] [(0, .ref 97), (2, .int l2), (3, .int l3), (4, .int l4)] M (k59 (l2, l3, l4, M))) (l2 : Int32) (l3 : Int32) (l4 : Int32) (M : MS)  : Sn p l e R s m args below meth c 8 D x_cl base (xwd g) cM x_g0 az kz (xfc cM) (xZ below args s D x_cl (xty g) base (xwd g) cM x_g0 az kz ovI) 59 [] [(0, .ref 97), (2, .int l2), (3, .int l3), (4, .int l4)] M (m_Mo_explore_59b k51 k59 l2 l3 l4 M) := by
  unfold m_Mo_explore_59b
  refine s_iload B d_Mo_explore_59 rfl ?_
  refine s_iconst (v := (4:Int32)) B d_Mo_explore_61 (by decide) ?_
  refine s_icmp_ge B d_Mo_explore_62 rfl (fun _ => ?_) (fun _ => ?_)
  · refine s_iinc (w := (1:Int32)) B d_Mo_explore_203 rfl (by decide) (by decide) ?_
    refine s_goto B d_Mo_explore_206 rfl ?_
    refine s_pick (lv1 := [(0, .ref 97), (2, .int l2), (3, .int (l3 + (1:Int32)))]) [0, 2, 3] rfl ?_
    exact hk51 l2 (l3 + (1:Int32)) M
  · refine s_aload_n B d_Mo_explore_65 rfl ?_
    refine s_aload_n B d_Mo_explore_66 rfl ?_
    refine s_getS (k := 14) (n := 108) B xc_Mo kd_97 (by decide) rfl rfl fl_Mo_43 sr_97_14 d_Mo_explore_67 ?_
    refine s_sipush (v := (300:Int32)) B d_Mo_explore_70 (by decide) ?_
    refine s_iload_n B d_Mo_explore_73 rfl ?_
    refine s_imul B d_Mo_explore_74 ?_
    refine s_aload_n B d_Mo_explore_75 rfl ?_
    refine s_getS (k := 15) (n := 109) B xc_Mo kd_97 (by decide) rfl rfl fl_Mo_46 sr_97_15 d_Mo_explore_76 ?_
    refine s_iload_n B d_Mo_explore_79 rfl ?_
    refine s_iald B (Or.inl kd_109) d_Mo_explore_80 (fun v1 _ => ?_)
    refine s_iload B d_Mo_explore_81 rfl ?_
    refine s_pick (lv1 := [(0, .ref 97), (2, .int l2), (3, .int l3), (4, .int l4)]) [0, 2, 3, 4] rfl ?_
    refine s_callI (av := [.ref 97, .ref 108, .int ((300:Int32) * l3), .int v1, .int l4]) (rest := []) B (lk_V B d_Mo_explore_83 (gl_Mo_168 _) rfl hv_Mo_derived (by decide) (by decide)) rfl (x_rcV B xc_Mo kd_97) (fun _ _ => rfl) rfl rfl (by simp [Value.category]) rfl (fun r2 e9 => ct_Mo_derived _ _ _ _ _ r2 e9) (fun r2 _ => ?_)
    refine s_istore B d_Mo_explore_86 (by decide) ?_
    refine s_aload_n B d_Mo_explore_88 rfl ?_
    refine s_getS (k := 20) (n := 114) B xc_Mo kd_97 (by decide) rfl rfl fl_Mo_61 sr_97_20 d_Mo_explore_89 ?_
    refine s_iload_n B d_Mo_explore_92 rfl ?_
    refine s_aload_n B d_Mo_explore_93 rfl ?_
    refine s_getS (k := 8) (n := 105) B xc_Mo kd_97 (by decide) rfl rfl fl_Mo_32 sr_97_8 d_Mo_explore_94 ?_
    refine s_iconst (v := (0:Int32)) B d_Mo_explore_97 (by decide) ?_
    refine s_zald B kd_105 d_Mo_explore_98 (fun v3 _ => ?_)
    refine s_zast B kd_114 d_Mo_explore_99 (fun M4 _ => ?_)
    refine s_iload B d_Mo_explore_100 rfl ?_
    refine s_sipush (v := (300:Int32)) B d_Mo_explore_102 (by decide) ?_
    refine s_icmp_le B d_Mo_explore_105 rfl (fun _ => ?_) (fun _ => ?_)
    · refine s_aload_n B d_Mo_explore_110 rfl ?_
      refine s_iload_n B d_Mo_explore_111 rfl ?_
      refine s_iload B d_Mo_explore_112 rfl ?_
      refine s_pick (lv1 := [(0, .ref 97), (2, .int l2), (3, .int l3), (4, .int l4), (5, .int r2.2)]) [0, 2, 3, 4, 5] rfl ?_
      refine s_callI (av := [.ref 97, .int l2, .int r2.2]) (rest := []) B (lk_V B d_Mo_explore_114 (gl_Mo_180 _) rfl hv_Mo_known (by decide) (by decide)) rfl (x_rcV B xc_Mo kd_97) (fun _ _ => rfl) rfl rfl (by simp [Value.category]) rfl (fun r5 e9 => ct_Mo_known _ _ _ r5 e9) (fun r5 _ => ?_)
      refine s_istore B d_Mo_explore_117 (by decide) ?_
      refine s_aload_n B d_Mo_explore_119 rfl ?_
      refine s_getS (k := 16) (n := 110) B xc_Mo kd_97 (by decide) rfl rfl fl_Mo_49 sr_97_16 d_Mo_explore_120 ?_
      refine s_iconst (v := (4:Int32)) B d_Mo_explore_123 (by decide) ?_
      refine s_iload_n B d_Mo_explore_124 rfl ?_
      refine s_imul B d_Mo_explore_125 ?_
      refine s_iload B d_Mo_explore_126 rfl ?_
      refine s_iadd B d_Mo_explore_128 ?_
      refine s_iload B d_Mo_explore_129 rfl ?_
      refine s_iast B (Or.inl kd_110) d_Mo_explore_131 (fun M6 _ => ?_)
      refine s_iload B d_Mo_explore_132 rfl ?_
      refine s_iload_n B d_Mo_explore_134 rfl ?_
      refine s_icmp_ge B d_Mo_explore_135 rfl (fun _ => ?_) (fun _ => ?_)
      · refine s_iload_n B d_Mo_explore_141 rfl ?_
        refine s_sipush (v := (150:Int32)) B d_Mo_explore_142 (by decide) ?_
        refine s_icmp_ne B d_Mo_explore_145 rfl (fun _ => ?_) (fun _ => ?_)
        · refine s_iconst (v := (0:Int32)) B d_Mo_explore_150 (by decide) ?_
          refine s_istore B d_Mo_explore_151 (by decide) ?_
          refine s_pick (lv1 := [(0, .ref 97), (2, .int l2), (3, .int l3), (4, .int l4), (5, .int r2.2), (7, .int (0:Int32))]) [0, 2, 3, 4, 5, 7] rfl ?_
          exact t_Mo_explore_153 B hk51 hk59 l2 l3 l4 r2.2 (0:Int32) M6
        · refine s_iconst (v := (-1:Int32)) B d_Mo_explore_148 (by decide) ?_
          exact s_iret B d_Mo_explore_149
      · refine s_goto B d_Mo_explore_138 rfl ?_
        refine s_iinc (w := (1:Int32)) B d_Mo_explore_197 rfl (by decide) (by decide) ?_
        refine s_goto B d_Mo_explore_200 rfl ?_
        refine s_pick (lv1 := [(0, .ref 97), (2, .int l2), (3, .int l3), (4, .int (l4 + (1:Int32)))]) [0, 2, 3, 4] rfl ?_
        exact hk59 l2 l3 (l4 + (1:Int32)) M6
    · refine s_iconst (v := (-1:Int32)) B d_Mo_explore_108 (by decide) ?_
      exact s_iret B d_Mo_explore_109
set_option maxRecDepth 100000 in
set_option maxHeartbeats 4000000 in
theorem t_Mo_explore_59 {k51 : Int32 × Int32 × MS → Option (MS × Int32)} (B : xB p R s m args meth c b_Mo_explore 8 R_Mo (Cond.code y_Mo_explore b_Mo_explore 8 (some .int) :: x_T) (some .int) 6 147 D x_cl (xty g) base) (hk51 : ∀ (l2 : Int32) (l3 : Int32) (M : MS) , Sn p l e R s m args below meth c 8 D x_cl base (xwd g) cM x_g0 az kz (xfc cM) (xZ below args s D x_cl (xty g) base (xwd g) cM x_g0 az kz ovI) 51 [] [(0, .ref 97), (2, .int l2), (3, .int l3)] M (k51 (l2, l3, M))) (l2 : Int32) (l3 : Int32) (l4 : Int32) (M : MS)  : Sn p l e R s m args below meth c 8 D x_cl base (xwd g) cM x_g0 az kz (xfc cM) (xZ below args s D x_cl (xty g) base (xwd g) cM x_g0 az kz ovI) 59 [] [(0, .ref 97), (2, .int l2), (3, .int l3), (4, .int l4)] M (m_Mo_explore_59 k51 (l2, l3, l4, M)) := by
  have q : ∀ (F : Nat) (i : Int32 × Int32 × Int32 × MS), Sn p l e R s m args below meth c 8 D x_cl base (xwd g) cM x_g0 az kz (xfc cM) (xZ below args s D x_cl (xty g) base (xwd g) cM x_g0 az kz ovI) 59 [] [(0, .ref 97), (2, .int i.1), (3, .int i.2.1), (4, .int i.2.2.1)] i.2.2.2 (fx (fun (k : Int32 × Int32 × Int32 × MS → Option (MS × Int32)) (i : Int32 × Int32 × Int32 × MS) => m_Mo_explore_59b k51 k i.1 i.2.1 i.2.2.1 i.2.2.2) F i) := by
    intro F
    induction F with
    | zero => intro i ; exact s_none
    | succ F ih => intro i ; exact t_Mo_explore_59b B hk51 (fun l2 l3 l4 M  => ih (l2, l3, l4, M) ) i.1 i.2.1 i.2.2.1 i.2.2.2 
  exact q FU (l2, l3, l4, M) 
set_option maxRecDepth 100000 in
set_option maxHeartbeats 4000000 in
theorem t_Mo_explore_51b {k51 : Int32 × Int32 × MS → Option (MS × Int32)} (B : xB p R s m args meth c b_Mo_explore 8 R_Mo (Cond.code y_Mo_explore b_Mo_explore 8 (some .int) :: x_T) (some .int) 6 147 D x_cl (xty g) base) (hk51 : ∀ (l2 : Int32) (l3 : Int32) (M : MS) , Sn p l e R s m args below meth c 8 D x_cl base (xwd g) cM x_g0 az kz (xfc cM) (xZ below args s D x_cl (xty g) base (xwd g) cM x_g0 az kz ovI) 51 [] [(0, .ref 97), (2, .int l2), (3, .int l3)] M (k51 (l2, l3, M))) (l2 : Int32) (l3 : Int32) (M : MS)  : Sn p l e R s m args below meth c 8 D x_cl base (xwd g) cM x_g0 az kz (xfc cM) (xZ below args s D x_cl (xty g) base (xwd g) cM x_g0 az kz ovI) 51 [] [(0, .ref 97), (2, .int l2), (3, .int l3)] M (m_Mo_explore_51b k51 l2 l3 M) := by
  unfold m_Mo_explore_51b
  refine s_iload_n B d_Mo_explore_51 rfl ?_
  refine s_iload_n B d_Mo_explore_52 rfl ?_
  refine s_icmp_ge B d_Mo_explore_53 rfl (fun _ => ?_) (fun _ => ?_)
  · refine s_iload_n B d_Mo_explore_209 rfl ?_
    exact s_iret B d_Mo_explore_210
  · refine s_iconst (v := (0:Int32)) B d_Mo_explore_56 (by decide) ?_
    refine s_istore B d_Mo_explore_57 (by decide) ?_
    refine s_pick (lv1 := [(0, .ref 97), (2, .int l2), (3, .int l3), (4, .int (0:Int32))]) [0, 2, 3, 4] rfl ?_
    exact t_Mo_explore_59 B hk51 l2 l3 (0:Int32) M
set_option maxRecDepth 100000 in
set_option maxHeartbeats 4000000 in
theorem t_Mo_explore_51  (B : xB p R s m args meth c b_Mo_explore 8 R_Mo (Cond.code y_Mo_explore b_Mo_explore 8 (some .int) :: x_T) (some .int) 6 147 D x_cl (xty g) base)  (l2 : Int32) (l3 : Int32) (M : MS)  : Sn p l e R s m args below meth c 8 D x_cl base (xwd g) cM x_g0 az kz (xfc cM) (xZ below args s D x_cl (xty g) base (xwd g) cM x_g0 az kz ovI) 51 [] [(0, .ref 97), (2, .int l2), (3, .int l3)] M (m_Mo_explore_51 (l2, l3, M)) := by
  have q : ∀ (F : Nat) (i : Int32 × Int32 × MS), Sn p l e R s m args below meth c 8 D x_cl base (xwd g) cM x_g0 az kz (xfc cM) (xZ below args s D x_cl (xty g) base (xwd g) cM x_g0 az kz ovI) 51 [] [(0, .ref 97), (2, .int i.1), (3, .int i.2.1)] i.2.2 (fx (fun (k : Int32 × Int32 × MS → Option (MS × Int32)) (i : Int32 × Int32 × MS) => m_Mo_explore_51b k i.1 i.2.1 i.2.2) F i) := by
    intro F
    induction F with
    | zero => intro i ; exact s_none
    | succ F ih => intro i ; exact t_Mo_explore_51b B  (fun l2 l3 M  => ih (l2, l3, M) ) i.1 i.2.1 i.2.2 
  exact q FU (l2, l3, M) 
set_option maxRecDepth 100000 in
set_option maxHeartbeats 4000000 in
theorem t_Mo_explore_16b {k16 : Int32 × Int32 × Int32 × MS → Option (MS × Int32)} (B : xB p R s m args meth c b_Mo_explore 8 R_Mo (Cond.code y_Mo_explore b_Mo_explore 8 (some .int) :: x_T) (some .int) 6 147 D x_cl (xty g) base) (hk16 : ∀ (l1 : Int32) (l2 : Int32) (l3 : Int32) (M : MS) , Sn p l e R s m args below meth c 8 D x_cl base (xwd g) cM x_g0 az kz (xfc cM) (xZ below args s D x_cl (xty g) base (xwd g) cM x_g0 az kz ovI) 16 [] [(0, .ref 97), (1, .int l1), (2, .int l2), (3, .int l3)] M (k16 (l1, l2, l3, M))) (l1 : Int32) (l2 : Int32) (l3 : Int32) (M : MS)  : Sn p l e R s m args below meth c 8 D x_cl base (xwd g) cM x_g0 az kz (xfc cM) (xZ below args s D x_cl (xty g) base (xwd g) cM x_g0 az kz ovI) 16 [] [(0, .ref 97), (1, .int l1), (2, .int l2), (3, .int l3)] M (m_Mo_explore_16b k16 l1 l2 l3 M) := by
  unfold m_Mo_explore_16b
  refine s_iload_n B d_Mo_explore_16 rfl ?_
  refine s_aload_n B d_Mo_explore_17 rfl ?_
  refine s_getS (k := 2) (n := 99) B xc_Mo kd_97 (by decide) rfl rfl fl_Mo_13 sr_97_2 d_Mo_explore_18 ?_
  refine s_iload_n B d_Mo_explore_21 rfl ?_
  refine s_iald B (Or.inl kd_99) d_Mo_explore_22 (fun v1 _ => ?_)
  refine s_icmp_ge B d_Mo_explore_23 rfl (fun _ => ?_) (fun _ => ?_)
  · refine s_iconst (v := (0:Int32)) B d_Mo_explore_49 (by decide) ?_
    refine s_istore_n B d_Mo_explore_50 (by decide) ?_
    refine s_pick (lv1 := [(0, .ref 97), (2, .int l2), (3, .int (0:Int32))]) [0, 2, 3] rfl ?_
    exact t_Mo_explore_51 B l2 (0:Int32) M
  · refine s_aload_n B d_Mo_explore_26 rfl ?_
    refine s_getS (k := 14) (n := 108) B xc_Mo kd_97 (by decide) rfl rfl fl_Mo_43 sr_97_14 d_Mo_explore_27 ?_
    refine s_iload_n B d_Mo_explore_30 rfl ?_
    refine s_aload_n B d_Mo_explore_31 rfl ?_
    refine s_getS (k := 1) (n := 98) B xc_Mo kd_97 (by decide) rfl rfl fl_Mo_7 sr_97_1 d_Mo_explore_32 ?_
    refine s_bipush (v := (100:Int32)) B d_Mo_explore_35 (by decide) ?_
    refine s_iload_n B d_Mo_explore_37 rfl ?_
    refine s_imul B d_Mo_explore_38 ?_
    refine s_iload_n B d_Mo_explore_39 rfl ?_
    refine s_iadd B d_Mo_explore_40 ?_
    refine s_iald B (Or.inl kd_98) d_Mo_explore_41 (fun v2 _ => ?_)
    refine s_iast B (Or.inl kd_108) d_Mo_explore_42 (fun M3 _ => ?_)
    refine s_iinc (w := (1:Int32)) B d_Mo_explore_43 rfl (by decide) (by decide) ?_
    refine s_goto B d_Mo_explore_46 rfl ?_
    refine s_pick (lv1 := [(0, .ref 97), (1, .int l1), (2, .int l2), (3, .int (l3 + (1:Int32)))]) [0, 1, 2, 3] rfl ?_
    exact hk16 l1 l2 (l3 + (1:Int32)) M3
set_option maxRecDepth 100000 in
set_option maxHeartbeats 4000000 in
theorem t_Mo_explore_16  (B : xB p R s m args meth c b_Mo_explore 8 R_Mo (Cond.code y_Mo_explore b_Mo_explore 8 (some .int) :: x_T) (some .int) 6 147 D x_cl (xty g) base)  (l1 : Int32) (l2 : Int32) (l3 : Int32) (M : MS)  : Sn p l e R s m args below meth c 8 D x_cl base (xwd g) cM x_g0 az kz (xfc cM) (xZ below args s D x_cl (xty g) base (xwd g) cM x_g0 az kz ovI) 16 [] [(0, .ref 97), (1, .int l1), (2, .int l2), (3, .int l3)] M (m_Mo_explore_16 (l1, l2, l3, M)) := by
  have q : ∀ (F : Nat) (i : Int32 × Int32 × Int32 × MS), Sn p l e R s m args below meth c 8 D x_cl base (xwd g) cM x_g0 az kz (xfc cM) (xZ below args s D x_cl (xty g) base (xwd g) cM x_g0 az kz ovI) 16 [] [(0, .ref 97), (1, .int i.1), (2, .int i.2.1), (3, .int i.2.2.1)] i.2.2.2 (fx (fun (k : Int32 × Int32 × Int32 × MS → Option (MS × Int32)) (i : Int32 × Int32 × Int32 × MS) => m_Mo_explore_16b k i.1 i.2.1 i.2.2.1 i.2.2.2) F i) := by
    intro F
    induction F with
    | zero => intro i ; exact s_none
    | succ F ih => intro i ; exact t_Mo_explore_16b B  (fun l1 l2 l3 M  => ih (l1, l2, l3, M) ) i.1 i.2.1 i.2.2.1 i.2.2.2 
  exact q FU (l1, l2, l3, M) 
set_option maxRecDepth 100000 in
set_option maxHeartbeats 4000000 in
theorem t_Mo_explore (B : xB p R s m args meth c b_Mo_explore 8 R_Mo (Cond.code y_Mo_explore b_Mo_explore 8 (some .int) :: x_T) (some .int) 6 147 D x_cl (xty g) base) (a1 : Int32) (M : MS) : Sn p l e R s m args below meth c 8 D x_cl base (xwd g) cM x_g0 az kz (xfc cM) (xZ below args s D x_cl (xty g) base (xwd g) cM x_g0 az kz ovI) 0 [] [(0, .ref 97), (1, .int a1)] M (m_Mo_explore a1 M) := by
  unfold m_Mo_explore
  refine s_iconst (v := (1:Int32)) B d_Mo_explore_0 (by decide) ?_
  refine s_istore_n B d_Mo_explore_1 (by decide) ?_
  refine s_aload_n B d_Mo_explore_2 rfl ?_
  refine s_getS (k := 15) (n := 109) B xc_Mo kd_97 (by decide) rfl rfl fl_Mo_46 sr_97_15 d_Mo_explore_3 ?_
  refine s_iconst (v := (0:Int32)) B d_Mo_explore_6 (by decide) ?_
  refine s_aload_n B d_Mo_explore_7 rfl ?_
  refine s_getS (k := 2) (n := 99) B xc_Mo kd_97 (by decide) rfl rfl fl_Mo_13 sr_97_2 d_Mo_explore_8 ?_
  refine s_iload_n B d_Mo_explore_11 rfl ?_
  refine s_iald B (Or.inl kd_99) d_Mo_explore_12 (fun v1 _ => ?_)
  refine s_iast B (Or.inl kd_109) d_Mo_explore_13 (fun M2 _ => ?_)
  refine s_iconst (v := (0:Int32)) B d_Mo_explore_14 (by decide) ?_
  refine s_istore_n B d_Mo_explore_15 (by decide) ?_
  refine s_pick (lv1 := [(0, .ref 97), (1, .int a1), (2, .int (1:Int32)), (3, .int (0:Int32))]) [0, 1, 2, 3] rfl ?_
  exact t_Mo_explore_16 B a1 (1:Int32) (0:Int32) M2
set_option maxRecDepth 100000 in
set_option maxHeartbeats 4000000 in
theorem ct_Mo_explore {l : Launch} {D : va_G} {base : Nat} {g : Nat → ClassId} (a1 : Int32) (M : MS) (r : MS × Int32) (hr : m_Mo_explore a1 M = some r) : Ct l y_Mo_explore (Cond.code y_Mo_explore b_Mo_explore 8 (some .int) :: x_T) 6 147 D x_cl (xty g) base (xwd g) cM x_g0 [.ref 97, .int a1] M r.1 (ovI r.2) :=
  x_met (ov := ovI) (by decide) (Nat.le_of_ble_eq_true rfl) (fun p e R s m args below meth c az B => t_Mo_explore B a1 M) r hr
end
theorem d_Mo_states_0 : decode b_Mo_states 0 = .ok (.aload_n 0, 1) := by decide +kernel
theorem d_Mo_states_1 : decode b_Mo_states 1 = .ok (.iload_n 1, 1) := by decide +kernel
theorem d_Mo_states_2 : decode b_Mo_states 2 = .ok (.invokestatic 158, 3) := by decide +kernel
theorem d_Mo_states_5 : decode b_Mo_states 5 = .ok (.ifCond .ne (7), 3) := by decide +kernel
theorem d_Mo_states_8 : decode b_Mo_states 8 = .ok (.iconst (1), 1) := by decide +kernel
theorem d_Mo_states_9 : decode b_Mo_states 9 = .ok (.goto (4), 3) := by decide +kernel
theorem d_Mo_states_12 : decode b_Mo_states 12 = .ok (.iconst (0), 1) := by decide +kernel
theorem d_Mo_states_13 : decode b_Mo_states 13 = .ok (.iconst (0), 1) := by decide +kernel
theorem d_Mo_states_14 : decode b_Mo_states 14 = .ok (.invokevirtual 161, 3) := by decide +kernel
theorem d_Mo_states_17 : decode b_Mo_states 17 = .ok (.ifCond .eq (5), 3) := by decide +kernel
theorem d_Mo_states_20 : decode b_Mo_states 20 = .ok (.iconst (0), 1) := by decide +kernel
theorem d_Mo_states_21 : decode b_Mo_states 21 = .ok (.ireturn, 1) := by decide +kernel
theorem d_Mo_states_22 : decode b_Mo_states 22 = .ok (.aload_n 0, 1) := by decide +kernel
theorem d_Mo_states_23 : decode b_Mo_states 23 = .ok (.iload_n 1, 1) := by decide +kernel
theorem d_Mo_states_24 : decode b_Mo_states 24 = .ok (.invokevirtual 183, 3) := by decide +kernel
theorem d_Mo_states_27 : decode b_Mo_states 27 = .ok (.ireturn, 1) := by decide +kernel
section
variable {p : Program} {l : Launch} {e : Env} {R : Room} {s : State} {m : MethodId} {args : Array Value} {below : List Frame} {meth : Method} {c : Code} {D : va_G} {base : Nat} {g : Nat → ClassId} {az : Nat → Nat} {kz : Nat × Nat}
set_option maxRecDepth 100000 in
set_option maxHeartbeats 4000000 in
theorem t_Mo_states_13  (B : xB p R s m args meth c b_Mo_states 2 R_Mo (Cond.code y_Mo_states b_Mo_states 2 (some .int) :: x_T) (some .int) 7 174 D x_cl (xty g) base)  (l1 : Int32) (s1 : Int32) (M : MS)  : Sn p l e R s m args below meth c 2 D x_cl base (xwd g) cM x_g0 az kz (xfc cM) (xZ below args s D x_cl (xty g) base (xwd g) cM x_g0 az kz ovI) 13 [.int s1, .ref 97] [(0, .ref 97), (1, .int l1)] M (m_Mo_states_13 l1 s1 M) := by
  unfold m_Mo_states_13
  refine s_iconst (v := (0:Int32)) B d_Mo_states_13 (by decide) ?_
  refine s_pick (lv1 := [(0, .ref 97), (1, .int l1)]) [0, 1] rfl ?_
  refine s_callI (av := [.ref 97, .int s1, .int (0:Int32)]) (rest := []) B (lk_V B d_Mo_states_14 (gl_Mo_161 _) rfl hv_Mo_fails (by decide) (by decide)) rfl (x_rcV B xc_Mo kd_97) (fun _ _ => rfl) rfl rfl (by simp [Value.category]) rfl (fun r1 e9 => ct_Mo_fails _ _ _ r1 e9) (fun r1 _ => ?_)
  refine s_if_eq B d_Mo_states_17 rfl (fun _ => ?_) (fun _ => ?_)
  · refine s_aload_n B d_Mo_states_22 rfl ?_
    refine s_iload_n B d_Mo_states_23 rfl ?_
    refine s_pick (lv1 := []) [] rfl ?_
    refine s_callI (av := [.ref 97, .int l1]) (rest := []) B (lk_V B d_Mo_states_24 (gl_Mo_183 _) rfl hv_Mo_explore (by decide) (by decide)) rfl (x_rcV B xc_Mo kd_97) (fun _ _ => rfl) rfl rfl (by simp [Value.category]) rfl (fun r2 e9 => ct_Mo_explore _ _ r2 e9) (fun r2 _ => ?_)
    exact s_iret B d_Mo_states_27
  · refine s_iconst (v := (0:Int32)) B d_Mo_states_20 (by decide) ?_
    exact s_iret B d_Mo_states_21
set_option maxRecDepth 100000 in
set_option maxHeartbeats 4000000 in
theorem t_Mo_states (B : xB p R s m args meth c b_Mo_states 2 R_Mo (Cond.code y_Mo_states b_Mo_states 2 (some .int) :: x_T) (some .int) 7 174 D x_cl (xty g) base) (a1 : Int32) (M : MS) : Sn p l e R s m args below meth c 2 D x_cl base (xwd g) cM x_g0 az kz (xfc cM) (xZ below args s D x_cl (xty g) base (xwd g) cM x_g0 az kz ovI) 0 [] [(0, .ref 97), (1, .int a1)] M (m_Mo_states a1 M) := by
  unfold m_Mo_states
  refine s_aload_n B d_Mo_states_0 rfl ?_
  refine s_iload_n B d_Mo_states_1 rfl ?_
  refine s_pick (lv1 := [(0, .ref 97), (1, .int a1)]) [0, 1] rfl ?_
  refine s_callI (av := [.int a1]) (rest := [.ref 97]) B (lk_S B d_Mo_states_2 (gl_Mo_158 _) (List.mem_cons_of_mem _ st_Mo_isSlot) (List.mem_cons_of_mem _ in_Mo) (List.mem_cons_of_mem _ ml_Mo_158) rfl hs_Mo_isSlot (by decide) (by decide)) rfl x_rcS (fun _ _ => rfl) rfl rfl (by simp [Value.category]) rfl (fun r1 e9 => ct_Mo_isSlot _ _ r1 e9) (fun r1 _ => ?_)
  refine s_if_ne B d_Mo_states_5 rfl (fun _ => ?_) (fun _ => ?_)
  · refine s_iconst (v := (0:Int32)) B d_Mo_states_12 (by decide) ?_
    refine s_pick (lv1 := [(0, .ref 97), (1, .int a1)]) [0, 1] rfl ?_
    exact t_Mo_states_13 B a1 (0:Int32) r1.1
  · refine s_iconst (v := (1:Int32)) B d_Mo_states_8 (by decide) ?_
    refine s_goto B d_Mo_states_9 rfl ?_
    refine s_pick (lv1 := [(0, .ref 97), (1, .int a1)]) [0, 1] rfl ?_
    exact t_Mo_states_13 B a1 (1:Int32) r1.1
set_option maxRecDepth 100000 in
set_option maxHeartbeats 4000000 in
theorem ct_Mo_states {l : Launch} {D : va_G} {base : Nat} {g : Nat → ClassId} (a1 : Int32) (M : MS) (r : MS × Int32) (hr : m_Mo_states a1 M = some r) : Ct l y_Mo_states (Cond.code y_Mo_states b_Mo_states 2 (some .int) :: x_T) 7 174 D x_cl (xty g) base (xwd g) cM x_g0 [.ref 97, .int a1] M r.1 (ovI r.2) :=
  x_met (ov := ovI) (by decide) (Nat.le_of_ble_eq_true rfl) (fun p e R s m args below meth c az B => t_Mo_states B a1 M) r hr
end
