theorem d_Mo_alike_0 : decode b_Mo_alike 0 = .ok (.aload_n 0, 1) := by decide +kernel
theorem d_Mo_alike_1 : decode b_Mo_alike 1 = .ok (.getfield 55, 3) := by decide +kernel
theorem d_Mo_alike_4 : decode b_Mo_alike 4 = .ok (.iload_n 1, 1) := by decide +kernel
theorem d_Mo_alike_5 : decode b_Mo_alike 5 = .ok (.iaload, 1) := by decide +kernel
theorem d_Mo_alike_6 : decode b_Mo_alike 6 = .ok (.aload_n 0, 1) := by decide +kernel
theorem d_Mo_alike_7 : decode b_Mo_alike 7 = .ok (.getfield 55, 3) := by decide +kernel
theorem d_Mo_alike_10 : decode b_Mo_alike 10 = .ok (.iload_n 2, 1) := by decide +kernel
theorem d_Mo_alike_11 : decode b_Mo_alike 11 = .ok (.iaload, 1) := by decide +kernel
theorem d_Mo_alike_12 : decode b_Mo_alike 12 = .ok (.if_icmp .ne (7), 3) := by decide +kernel
theorem d_Mo_alike_15 : decode b_Mo_alike 15 = .ok (.iconst (1), 1) := by decide +kernel
theorem d_Mo_alike_16 : decode b_Mo_alike 16 = .ok (.goto (4), 3) := by decide +kernel
theorem d_Mo_alike_19 : decode b_Mo_alike 19 = .ok (.iconst (0), 1) := by decide +kernel
theorem d_Mo_alike_20 : decode b_Mo_alike 20 = .ok (.istore_n 3, 1) := by decide +kernel
theorem d_Mo_alike_21 : decode b_Mo_alike 21 = .ok (.iconst (0), 1) := by decide +kernel
theorem d_Mo_alike_22 : decode b_Mo_alike 22 = .ok (.istore 4, 2) := by decide +kernel
theorem d_Mo_alike_24 : decode b_Mo_alike 24 = .ok (.iload 4, 2) := by decide +kernel
theorem d_Mo_alike_26 : decode b_Mo_alike 26 = .ok (.iconst (4), 1) := by decide +kernel
theorem d_Mo_alike_27 : decode b_Mo_alike 27 = .ok (.if_icmp .ge (54), 3) := by decide +kernel
theorem d_Mo_alike_30 : decode b_Mo_alike 30 = .ok (.iload_n 3, 1) := by decide +kernel
theorem d_Mo_alike_31 : decode b_Mo_alike 31 = .ok (.ifCond .eq (42), 3) := by decide +kernel
theorem d_Mo_alike_34 : decode b_Mo_alike 34 = .ok (.aload_n 0, 1) := by decide +kernel
theorem d_Mo_alike_35 : decode b_Mo_alike 35 = .ok (.getfield 55, 3) := by decide +kernel
theorem d_Mo_alike_38 : decode b_Mo_alike 38 = .ok (.aload_n 0, 1) := by decide +kernel
theorem d_Mo_alike_39 : decode b_Mo_alike 39 = .ok (.getfield 49, 3) := by decide +kernel
theorem d_Mo_alike_42 : decode b_Mo_alike 42 = .ok (.iconst (4), 1) := by decide +kernel
theorem d_Mo_alike_43 : decode b_Mo_alike 43 = .ok (.iload_n 1, 1) := by decide +kernel
theorem d_Mo_alike_44 : decode b_Mo_alike 44 = .ok (.imul, 1) := by decide +kernel
theorem d_Mo_alike_45 : decode b_Mo_alike 45 = .ok (.iload 4, 2) := by decide +kernel
theorem d_Mo_alike_47 : decode b_Mo_alike 47 = .ok (.iadd, 1) := by decide +kernel
theorem d_Mo_alike_48 : decode b_Mo_alike 48 = .ok (.iaload, 1) := by decide +kernel
theorem d_Mo_alike_49 : decode b_Mo_alike 49 = .ok (.iaload, 1) := by decide +kernel
theorem d_Mo_alike_50 : decode b_Mo_alike 50 = .ok (.aload_n 0, 1) := by decide +kernel
theorem d_Mo_alike_51 : decode b_Mo_alike 51 = .ok (.getfield 55, 3) := by decide +kernel
theorem d_Mo_alike_54 : decode b_Mo_alike 54 = .ok (.aload_n 0, 1) := by decide +kernel
theorem d_Mo_alike_55 : decode b_Mo_alike 55 = .ok (.getfield 49, 3) := by decide +kernel
theorem d_Mo_alike_58 : decode b_Mo_alike 58 = .ok (.iconst (4), 1) := by decide +kernel
theorem d_Mo_alike_59 : decode b_Mo_alike 59 = .ok (.iload_n 2, 1) := by decide +kernel
theorem d_Mo_alike_60 : decode b_Mo_alike 60 = .ok (.imul, 1) := by decide +kernel
theorem d_Mo_alike_61 : decode b_Mo_alike 61 = .ok (.iload 4, 2) := by decide +kernel
theorem d_Mo_alike_63 : decode b_Mo_alike 63 = .ok (.iadd, 1) := by decide +kernel
theorem d_Mo_alike_64 : decode b_Mo_alike 64 = .ok (.iaload, 1) := by decide +kernel
theorem d_Mo_alike_65 : decode b_Mo_alike 65 = .ok (.iaload, 1) := by decide +kernel
theorem d_Mo_alike_66 : decode b_Mo_alike 66 = .ok (.if_icmp .ne (7), 3) := by decide +kernel
theorem d_Mo_alike_69 : decode b_Mo_alike 69 = .ok (.iconst (1), 1) := by decide +kernel
theorem d_Mo_alike_70 : decode b_Mo_alike 70 = .ok (.goto (4), 3) := by decide +kernel
theorem d_Mo_alike_73 : decode b_Mo_alike 73 = .ok (.iconst (0), 1) := by decide +kernel
theorem d_Mo_alike_74 : decode b_Mo_alike 74 = .ok (.istore_n 3, 1) := by decide +kernel
theorem d_Mo_alike_75 : decode b_Mo_alike 75 = .ok (.iinc 4 (1), 3) := by decide +kernel
theorem d_Mo_alike_78 : decode b_Mo_alike 78 = .ok (.goto (-54), 3) := by decide +kernel
theorem d_Mo_alike_81 : decode b_Mo_alike 81 = .ok (.iload_n 3, 1) := by decide +kernel
theorem d_Mo_alike_82 : decode b_Mo_alike 82 = .ok (.ireturn, 1) := by decide +kernel
section
variable {p : Program} {l : Launch} {e : Env} {R : Room} {s : State} {m : MethodId} {args : Array Value} {below : List Frame} {meth : Method} {c : Code} {D : va_G} {base : Nat} {g : Nat → ClassId} {az : Nat → Nat} {kz : Nat × Nat}
set_option maxRecDepth 100000 in
set_option maxHeartbeats 4000000 in
theorem t_Mo_alike_24b {k24 : Int32 × Int32 × Int32 × Int32 × MS → Option (MS × Int32)} (B : xB p R s m args meth c b_Mo_alike 5 R_Mo (Cond.code y_Mo_alike b_Mo_alike 5 (some .boolean) :: x_T) (some .boolean) 0 0 D x_cl (xty g) base) (hk24 : ∀ (l1 : Int32) (l2 : Int32) (l3 : Int32) (l4 : Int32) (M : MS) , Sn p l e R s m args below meth c 5 D x_cl base (xwd g) cM x_g0 az kz (xfc cM) (xZ below args s D x_cl (xty g) base (xwd g) cM x_g0 az kz ovI) 24 [] [(0, .ref 97), (1, .int l1), (2, .int l2), (3, .int l3), (4, .int l4)] M (k24 (l1, l2, l3, l4, M))) (l1 : Int32) (l2 : Int32) (l3 : Int32) (l4 : Int32) (M : MS)  : Sn p l e R s m args below meth c 5 D x_cl base (xwd g) cM x_g0 az kz (xfc cM) (xZ below args s D x_cl (xty g) base (xwd g) cM x_g0 az kz ovI) 24 [] [(0, .ref 97), (1, .int l1), (2, .int l2), (3, .int l3), (4, .int l4)] M (m_Mo_alike_24b k24 l1 l2 l3 l4 M) := by
  unfold m_Mo_alike_24b
  refine s_iload B d_Mo_alike_24 rfl ?_
  refine s_iconst (v := (4:Int32)) B d_Mo_alike_26 (by decide) ?_
  refine s_icmp_ge B d_Mo_alike_27 rfl (fun _ => ?_) (fun _ => ?_)
  · refine s_iload_n B d_Mo_alike_81 rfl ?_
    exact s_zret B d_Mo_alike_82
  · refine s_iload_n B d_Mo_alike_30 rfl ?_
    refine s_if_eq B d_Mo_alike_31 rfl (fun _ => ?_) (fun _ => ?_)
    · refine s_iconst (v := (0:Int32)) B d_Mo_alike_73 (by decide) ?_
      refine s_istore_n B d_Mo_alike_74 (by decide) ?_
      refine s_iinc (w := (1:Int32)) B d_Mo_alike_75 rfl (by decide) (by decide) ?_
      refine s_goto B d_Mo_alike_78 rfl ?_
      refine s_pick (lv1 := [(0, .ref 97), (1, .int l1), (2, .int l2), (3, .int (0:Int32)), (4, .int (l4 + (1:Int32)))]) [0, 1, 2, 3, 4] rfl ?_
      exact hk24 l1 l2 (0:Int32) (l4 + (1:Int32)) M
    · refine s_aload_n B d_Mo_alike_34 rfl ?_
      refine s_getS (k := 18) (n := 112) B xc_Mo kd_97 (by decide) rfl rfl fl_Mo_55 sr_97_18 d_Mo_alike_35 ?_
      refine s_aload_n B d_Mo_alike_38 rfl ?_
      refine s_getS (k := 16) (n := 110) B xc_Mo kd_97 (by decide) rfl rfl fl_Mo_49 sr_97_16 d_Mo_alike_39 ?_
      refine s_iconst (v := (4:Int32)) B d_Mo_alike_42 (by decide) ?_
      refine s_iload_n B d_Mo_alike_43 rfl ?_
      refine s_imul B d_Mo_alike_44 ?_
      refine s_iload B d_Mo_alike_45 rfl ?_
      refine s_iadd B d_Mo_alike_47 ?_
      refine s_iald B (Or.inl kd_110) d_Mo_alike_48 (fun v1 _ => ?_)
      refine s_iald B (Or.inl kd_112) d_Mo_alike_49 (fun v2 _ => ?_)
      refine s_aload_n B d_Mo_alike_50 rfl ?_
      refine s_getS (k := 18) (n := 112) B xc_Mo kd_97 (by decide) rfl rfl fl_Mo_55 sr_97_18 d_Mo_alike_51 ?_
      refine s_aload_n B d_Mo_alike_54 rfl ?_
      refine s_getS (k := 16) (n := 110) B xc_Mo kd_97 (by decide) rfl rfl fl_Mo_49 sr_97_16 d_Mo_alike_55 ?_
      refine s_iconst (v := (4:Int32)) B d_Mo_alike_58 (by decide) ?_
      refine s_iload_n B d_Mo_alike_59 rfl ?_
      refine s_imul B d_Mo_alike_60 ?_
      refine s_iload B d_Mo_alike_61 rfl ?_
      refine s_iadd B d_Mo_alike_63 ?_
      refine s_iald B (Or.inl kd_110) d_Mo_alike_64 (fun v3 _ => ?_)
      refine s_iald B (Or.inl kd_112) d_Mo_alike_65 (fun v4 _ => ?_)
      refine s_icmp_ne B d_Mo_alike_66 rfl (fun _ => ?_) (fun _ => ?_)
      · refine s_iconst (v := (0:Int32)) B d_Mo_alike_73 (by decide) ?_
        refine s_istore_n B d_Mo_alike_74 (by decide) ?_
        refine s_iinc (w := (1:Int32)) B d_Mo_alike_75 rfl (by decide) (by decide) ?_
        refine s_goto B d_Mo_alike_78 rfl ?_
        refine s_pick (lv1 := [(0, .ref 97), (1, .int l1), (2, .int l2), (3, .int (0:Int32)), (4, .int (l4 + (1:Int32)))]) [0, 1, 2, 3, 4] rfl ?_
        exact hk24 l1 l2 (0:Int32) (l4 + (1:Int32)) M
      · refine s_iconst (v := (1:Int32)) B d_Mo_alike_69 (by decide) ?_
        refine s_goto B d_Mo_alike_70 rfl ?_
        refine s_istore_n B d_Mo_alike_74 (by decide) ?_
        refine s_iinc (w := (1:Int32)) B d_Mo_alike_75 rfl (by decide) (by decide) ?_
        refine s_goto B d_Mo_alike_78 rfl ?_
        refine s_pick (lv1 := [(0, .ref 97), (1, .int l1), (2, .int l2), (3, .int (1:Int32)), (4, .int (l4 + (1:Int32)))]) [0, 1, 2, 3, 4] rfl ?_
        exact hk24 l1 l2 (1:Int32) (l4 + (1:Int32)) M
set_option maxRecDepth 100000 in
set_option maxHeartbeats 4000000 in
theorem t_Mo_alike_24  (B : xB p R s m args meth c b_Mo_alike 5 R_Mo (Cond.code y_Mo_alike b_Mo_alike 5 (some .boolean) :: x_T) (some .boolean) 0 0 D x_cl (xty g) base)  (l1 : Int32) (l2 : Int32) (l3 : Int32) (l4 : Int32) (M : MS)  : Sn p l e R s m args below meth c 5 D x_cl base (xwd g) cM x_g0 az kz (xfc cM) (xZ below args s D x_cl (xty g) base (xwd g) cM x_g0 az kz ovI) 24 [] [(0, .ref 97), (1, .int l1), (2, .int l2), (3, .int l3), (4, .int l4)] M (m_Mo_alike_24 (l1, l2, l3, l4, M)) := by
  have q : ∀ (F : Nat) (i : Int32 × Int32 × Int32 × Int32 × MS), Sn p l e R s m args below meth c 5 D x_cl base (xwd g) cM x_g0 az kz (xfc cM) (xZ below args s D x_cl (xty g) base (xwd g) cM x_g0 az kz ovI) 24 [] [(0, .ref 97), (1, .int i.1), (2, .int i.2.1), (3, .int i.2.2.1), (4, .int i.2.2.2.1)] i.2.2.2.2 (fx (fun (k : Int32 × Int32 × Int32 × Int32 × MS → Option (MS × Int32)) (i : Int32 × Int32 × Int32 × Int32 × MS) => m_Mo_alike_24b k i.1 i.2.1 i.2.2.1 i.2.2.2.1 i.2.2.2.2) F i) := by
    intro F
    induction F with
    | zero => intro i ; exact s_none
    | succ F ih => intro i ; exact t_Mo_alike_24b B  (fun l1 l2 l3 l4 M  => ih (l1, l2, l3, l4, M) ) i.1 i.2.1 i.2.2.1 i.2.2.2.1 i.2.2.2.2 
  exact q FU (l1, l2, l3, l4, M) 
set_option maxRecDepth 100000 in
set_option maxHeartbeats 4000000 in
theorem t_Mo_alike (B : xB p R s m args meth c b_Mo_alike 5 R_Mo (Cond.code y_Mo_alike b_Mo_alike 5 (some .boolean) :: x_T) (some .boolean) 0 0 D x_cl (xty g) base) (a1 : Int32) (a2 : Int32) (M : MS) : Sn p l e R s m args below meth c 5 D x_cl base (xwd g) cM x_g0 az kz (xfc cM) (xZ below args s D x_cl (xty g) base (xwd g) cM x_g0 az kz ovI) 0 [] [(0, .ref 97), (1, .int a1), (2, .int a2)] M (m_Mo_alike a1 a2 M) := by
  unfold m_Mo_alike
  refine s_aload_n B d_Mo_alike_0 rfl ?_
  refine s_getS (k := 18) (n := 112) B xc_Mo kd_97 (by decide) rfl rfl fl_Mo_55 sr_97_18 d_Mo_alike_1 ?_
  refine s_iload_n B d_Mo_alike_4 rfl ?_
  refine s_iald B (Or.inl kd_112) d_Mo_alike_5 (fun v1 _ => ?_)
  refine s_aload_n B d_Mo_alike_6 rfl ?_
  refine s_getS (k := 18) (n := 112) B xc_Mo kd_97 (by decide) rfl rfl fl_Mo_55 sr_97_18 d_Mo_alike_7 ?_
  refine s_iload_n B d_Mo_alike_10 rfl ?_
  refine s_iald B (Or.inl kd_112) d_Mo_alike_11 (fun v2 _ => ?_)
  refine s_icmp_ne B d_Mo_alike_12 rfl (fun _ => ?_) (fun _ => ?_)
  · refine s_iconst (v := (0:Int32)) B d_Mo_alike_19 (by decide) ?_
    refine s_istore_n B d_Mo_alike_20 (by decide) ?_
    refine s_iconst (v := (0:Int32)) B d_Mo_alike_21 (by decide) ?_
    refine s_istore B d_Mo_alike_22 (by decide) ?_
    refine s_pick (lv1 := [(0, .ref 97), (1, .int a1), (2, .int a2), (3, .int (0:Int32)), (4, .int (0:Int32))]) [0, 1, 2, 3, 4] rfl ?_
    exact t_Mo_alike_24 B a1 a2 (0:Int32) (0:Int32) M
  · refine s_iconst (v := (1:Int32)) B d_Mo_alike_15 (by decide) ?_
    refine s_goto B d_Mo_alike_16 rfl ?_
    refine s_istore_n B d_Mo_alike_20 (by decide) ?_
    refine s_iconst (v := (0:Int32)) B d_Mo_alike_21 (by decide) ?_
    refine s_istore B d_Mo_alike_22 (by decide) ?_
    refine s_pick (lv1 := [(0, .ref 97), (1, .int a1), (2, .int a2), (3, .int (1:Int32)), (4, .int (0:Int32))]) [0, 1, 2, 3, 4] rfl ?_
    exact t_Mo_alike_24 B a1 a2 (1:Int32) (0:Int32) M
set_option maxRecDepth 100000 in
set_option maxHeartbeats 4000000 in
theorem ct_Mo_alike {l : Launch} {D : va_G} {base : Nat} {g : Nat → ClassId} (a1 : Int32) (a2 : Int32) (M : MS) (r : MS × Int32) (hr : m_Mo_alike a1 a2 M = some r) : Ct l y_Mo_alike (Cond.code y_Mo_alike b_Mo_alike 5 (some .boolean) :: x_T) 0 0 D x_cl (xty g) base (xwd g) cM x_g0 [.ref 97, .int a1, .int a2] M r.1 (ovI r.2) :=
  x_met (ov := ovI) (by decide) (Nat.le_of_ble_eq_true rfl) (fun p e R s m args below meth c az B => t_Mo_alike B a1 a2 M) r hr
end
theorem d_Mo_languages_0 : decode b_Mo_languages 0 = .ok (.aload_n 0, 1) := by decide +kernel
theorem d_Mo_languages_1 : decode b_Mo_languages 1 = .ok (.iload_n 1, 1) := by decide +kernel
theorem d_Mo_languages_2 : decode b_Mo_languages 2 = .ok (.invokestatic 158, 3) := by decide +kernel
theorem d_Mo_languages_5 : decode b_Mo_languages 5 = .ok (.ifCond .ne (7), 3) := by decide +kernel
theorem d_Mo_languages_8 : decode b_Mo_languages 8 = .ok (.iconst (1), 1) := by decide +kernel
theorem d_Mo_languages_9 : decode b_Mo_languages 9 = .ok (.goto (4), 3) := by decide +kernel
theorem d_Mo_languages_12 : decode b_Mo_languages 12 = .ok (.iconst (0), 1) := by decide +kernel
theorem d_Mo_languages_13 : decode b_Mo_languages 13 = .ok (.iconst (0), 1) := by decide +kernel
theorem d_Mo_languages_14 : decode b_Mo_languages 14 = .ok (.invokevirtual 161, 3) := by decide +kernel
theorem d_Mo_languages_17 : decode b_Mo_languages 17 = .ok (.ifCond .eq (5), 3) := by decide +kernel
theorem d_Mo_languages_20 : decode b_Mo_languages 20 = .ok (.iconst (0), 1) := by decide +kernel
theorem d_Mo_languages_21 : decode b_Mo_languages 21 = .ok (.ireturn, 1) := by decide +kernel
theorem d_Mo_languages_22 : decode b_Mo_languages 22 = .ok (.aload_n 0, 1) := by decide +kernel
theorem d_Mo_languages_23 : decode b_Mo_languages 23 = .ok (.iload_n 1, 1) := by decide +kernel
theorem d_Mo_languages_24 : decode b_Mo_languages 24 = .ok (.invokevirtual 183, 3) := by decide +kernel
theorem d_Mo_languages_27 : decode b_Mo_languages 27 = .ok (.istore_n 2, 1) := by decide +kernel
theorem d_Mo_languages_28 : decode b_Mo_languages 28 = .ok (.iconst (0), 1) := by decide +kernel
theorem d_Mo_languages_29 : decode b_Mo_languages 29 = .ok (.istore_n 3, 1) := by decide +kernel
theorem d_Mo_languages_30 : decode b_Mo_languages 30 = .ok (.iconst (-1), 1) := by decide +kernel
theorem d_Mo_languages_31 : decode b_Mo_languages 31 = .ok (.istore 4, 2) := by decide +kernel
theorem d_Mo_languages_33 : decode b_Mo_languages 33 = .ok (.iconst (0), 1) := by decide +kernel
theorem d_Mo_languages_34 : decode b_Mo_languages 34 = .ok (.istore 5, 2) := by decide +kernel
theorem d_Mo_languages_36 : decode b_Mo_languages 36 = .ok (.iload 5, 2) := by decide +kernel
theorem d_Mo_languages_38 : decode b_Mo_languages 38 = .ok (.iload_n 2, 1) := by decide +kernel
theorem d_Mo_languages_39 : decode b_Mo_languages 39 = .ok (.if_icmp .ge (31), 3) := by decide +kernel
theorem d_Mo_languages_42 : decode b_Mo_languages 42 = .ok (.aload_n 0, 1) := by decide +kernel
theorem d_Mo_languages_43 : decode b_Mo_languages 43 = .ok (.getfield 55, 3) := by decide +kernel
theorem d_Mo_languages_46 : decode b_Mo_languages 46 = .ok (.iload 5, 2) := by decide +kernel
theorem d_Mo_languages_48 : decode b_Mo_languages 48 = .ok (.aload_n 0, 1) := by decide +kernel
theorem d_Mo_languages_49 : decode b_Mo_languages 49 = .ok (.getfield 61, 3) := by decide +kernel
theorem d_Mo_languages_52 : decode b_Mo_languages 52 = .ok (.iload 5, 2) := by decide +kernel
theorem d_Mo_languages_54 : decode b_Mo_languages 54 = .ok (.baload, 1) := by decide +kernel
theorem d_Mo_languages_55 : decode b_Mo_languages 55 = .ok (.ifCond .eq (7), 3) := by decide +kernel
theorem d_Mo_languages_58 : decode b_Mo_languages 58 = .ok (.iconst (1), 1) := by decide +kernel
theorem d_Mo_languages_59 : decode b_Mo_languages 59 = .ok (.goto (4), 3) := by decide +kernel
theorem d_Mo_languages_62 : decode b_Mo_languages 62 = .ok (.iconst (0), 1) := by decide +kernel
theorem d_Mo_languages_63 : decode b_Mo_languages 63 = .ok (.iastore, 1) := by decide +kernel
theorem d_Mo_languages_64 : decode b_Mo_languages 64 = .ok (.iinc 5 (1), 3) := by decide +kernel
theorem d_Mo_languages_67 : decode b_Mo_languages 67 = .ok (.goto (-31), 3) := by decide +kernel
theorem d_Mo_languages_70 : decode b_Mo_languages 70 = .ok (.iload_n 3, 1) := by decide +kernel
theorem d_Mo_languages_71 : decode b_Mo_languages 71 = .ok (.iload 4, 2) := by decide +kernel
theorem d_Mo_languages_73 : decode b_Mo_languages 73 = .ok (.if_icmp .eq (126), 3) := by decide +kernel
theorem d_Mo_languages_76 : decode b_Mo_languages 76 = .ok (.iload_n 2, 1) := by decide +kernel
theorem d_Mo_languages_77 : decode b_Mo_languages 77 = .ok (.ifCond .le (122), 3) := by decide +kernel
theorem d_Mo_languages_80 : decode b_Mo_languages 80 = .ok (.iload_n 3, 1) := by decide +kernel
theorem d_Mo_languages_81 : decode b_Mo_languages 81 = .ok (.istore 4, 2) := by decide +kernel
theorem d_Mo_languages_83 : decode b_Mo_languages 83 = .ok (.iconst (0), 1) := by decide +kernel
theorem d_Mo_languages_84 : decode b_Mo_languages 84 = .ok (.istore_n 3, 1) := by decide +kernel
theorem d_Mo_languages_85 : decode b_Mo_languages 85 = .ok (.iconst (0), 1) := by decide +kernel
theorem d_Mo_languages_86 : decode b_Mo_languages 86 = .ok (.istore 5, 2) := by decide +kernel
theorem d_Mo_languages_88 : decode b_Mo_languages 88 = .ok (.iload 5, 2) := by decide +kernel
theorem d_Mo_languages_90 : decode b_Mo_languages 90 = .ok (.iload_n 2, 1) := by decide +kernel
theorem d_Mo_languages_91 : decode b_Mo_languages 91 = .ok (.if_icmp .ge (76), 3) := by decide +kernel
theorem d_Mo_languages_94 : decode b_Mo_languages 94 = .ok (.iconst (0), 1) := by decide +kernel
theorem d_Mo_languages_95 : decode b_Mo_languages 95 = .ok (.istore 6, 2) := by decide +kernel
theorem d_Mo_languages_97 : decode b_Mo_languages 97 = .ok (.iload 6, 2) := by decide +kernel
theorem d_Mo_languages_99 : decode b_Mo_languages 99 = .ok (.iload 5, 2) := by decide +kernel
theorem d_Mo_languages_101 : decode b_Mo_languages 101 = .ok (.if_icmp .ge (20), 3) := by decide +kernel
theorem d_Mo_languages_104 : decode b_Mo_languages 104 = .ok (.aload_n 0, 1) := by decide +kernel
theorem d_Mo_languages_105 : decode b_Mo_languages 105 = .ok (.iload 5, 2) := by decide +kernel
theorem d_Mo_languages_107 : decode b_Mo_languages 107 = .ok (.iload 6, 2) := by decide +kernel
theorem d_Mo_languages_109 : decode b_Mo_languages 109 = .ok (.invokevirtual 186, 3) := by decide +kernel
theorem d_Mo_languages_112 : decode b_Mo_languages 112 = .ok (.ifCond .ne (9), 3) := by decide +kernel
theorem d_Mo_languages_115 : decode b_Mo_languages 115 = .ok (.iinc 6 (1), 3) := by decide +kernel
theorem d_Mo_languages_118 : decode b_Mo_languages 118 = .ok (.goto (-21), 3) := by decide +kernel
theorem d_Mo_languages_121 : decode b_Mo_languages 121 = .ok (.aload_n 0, 1) := by decide +kernel
theorem d_Mo_languages_122 : decode b_Mo_languages 122 = .ok (.getfield 58, 3) := by decide +kernel
theorem d_Mo_languages_125 : decode b_Mo_languages 125 = .ok (.iload 5, 2) := by decide +kernel
theorem d_Mo_languages_127 : decode b_Mo_languages 127 = .ok (.iload 6, 2) := by decide +kernel
theorem d_Mo_languages_129 : decode b_Mo_languages 129 = .ok (.iload 5, 2) := by decide +kernel
theorem d_Mo_languages_131 : decode b_Mo_languages 131 = .ok (.if_icmp .ge (13), 3) := by decide +kernel
theorem d_Mo_languages_134 : decode b_Mo_languages 134 = .ok (.aload_n 0, 1) := by decide +kernel
theorem d_Mo_languages_135 : decode b_Mo_languages 135 = .ok (.getfield 58, 3) := by decide +kernel
theorem d_Mo_languages_138 : decode b_Mo_languages 138 = .ok (.iload 6, 2) := by decide +kernel
theorem d_Mo_languages_140 : decode b_Mo_languages 140 = .ok (.iaload, 1) := by decide +kernel
theorem d_Mo_languages_141 : decode b_Mo_languages 141 = .ok (.goto (4), 3) := by decide +kernel
theorem d_Mo_languages_144 : decode b_Mo_languages 144 = .ok (.iload_n 3, 1) := by decide +kernel
theorem d_Mo_languages_145 : decode b_Mo_languages 145 = .ok (.iastore, 1) := by decide +kernel
theorem d_Mo_languages_146 : decode b_Mo_languages 146 = .ok (.iload_n 3, 1) := by decide +kernel
theorem d_Mo_languages_147 : decode b_Mo_languages 147 = .ok (.iload 6, 2) := by decide +kernel
theorem d_Mo_languages_149 : decode b_Mo_languages 149 = .ok (.iload 5, 2) := by decide +kernel
theorem d_Mo_languages_151 : decode b_Mo_languages 151 = .ok (.if_icmp .ge (7), 3) := by decide +kernel
theorem d_Mo_languages_154 : decode b_Mo_languages 154 = .ok (.iconst (0), 1) := by decide +kernel
theorem d_Mo_languages_155 : decode b_Mo_languages 155 = .ok (.goto (4), 3) := by decide +kernel
theorem d_Mo_languages_158 : decode b_Mo_languages 158 = .ok (.iconst (1), 1) := by decide +kernel
theorem d_Mo_languages_159 : decode b_Mo_languages 159 = .ok (.iadd, 1) := by decide +kernel
theorem d_Mo_languages_160 : decode b_Mo_languages 160 = .ok (.istore_n 3, 1) := by decide +kernel
theorem d_Mo_languages_161 : decode b_Mo_languages 161 = .ok (.iinc 5 (1), 3) := by decide +kernel
theorem d_Mo_languages_164 : decode b_Mo_languages 164 = .ok (.goto (-76), 3) := by decide +kernel
theorem d_Mo_languages_167 : decode b_Mo_languages 167 = .ok (.iconst (0), 1) := by decide +kernel
theorem d_Mo_languages_168 : decode b_Mo_languages 168 = .ok (.istore 5, 2) := by decide +kernel
theorem d_Mo_languages_170 : decode b_Mo_languages 170 = .ok (.iload 5, 2) := by decide +kernel
theorem d_Mo_languages_172 : decode b_Mo_languages 172 = .ok (.iload_n 2, 1) := by decide +kernel
theorem d_Mo_languages_173 : decode b_Mo_languages 173 = .ok (.if_icmp .ge (23), 3) := by decide +kernel
theorem d_Mo_languages_176 : decode b_Mo_languages 176 = .ok (.aload_n 0, 1) := by decide +kernel
theorem d_Mo_languages_177 : decode b_Mo_languages 177 = .ok (.getfield 55, 3) := by decide +kernel
theorem d_Mo_languages_180 : decode b_Mo_languages 180 = .ok (.iload 5, 2) := by decide +kernel
theorem d_Mo_languages_182 : decode b_Mo_languages 182 = .ok (.aload_n 0, 1) := by decide +kernel
theorem d_Mo_languages_183 : decode b_Mo_languages 183 = .ok (.getfield 58, 3) := by decide +kernel
theorem d_Mo_languages_186 : decode b_Mo_languages 186 = .ok (.iload 5, 2) := by decide +kernel
theorem d_Mo_languages_188 : decode b_Mo_languages 188 = .ok (.iaload, 1) := by decide +kernel
theorem d_Mo_languages_189 : decode b_Mo_languages 189 = .ok (.iastore, 1) := by decide +kernel
theorem d_Mo_languages_190 : decode b_Mo_languages 190 = .ok (.iinc 5 (1), 3) := by decide +kernel
theorem d_Mo_languages_193 : decode b_Mo_languages 193 = .ok (.goto (-23), 3) := by decide +kernel
theorem d_Mo_languages_196 : decode b_Mo_languages 196 = .ok (.goto (-126), 3) := by decide +kernel
theorem d_Mo_languages_199 : decode b_Mo_languages 199 = .ok (.iload_n 2, 1) := by decide +kernel
theorem d_Mo_languages_200 : decode b_Mo_languages 200 = .ok (.iconst (-1), 1) := by decide +kernel
theorem d_Mo_languages_201 : decode b_Mo_languages 201 = .ok (.if_icmp .ne (7), 3) := by decide +kernel
theorem d_Mo_languages_204 : decode b_Mo_languages 204 = .ok (.iconst (-1), 1) := by decide +kernel
theorem d_Mo_languages_205 : decode b_Mo_languages 205 = .ok (.goto (4), 3) := by decide +kernel
theorem d_Mo_languages_208 : decode b_Mo_languages 208 = .ok (.iload_n 3, 1) := by decide +kernel
theorem d_Mo_languages_209 : decode b_Mo_languages 209 = .ok (.ireturn, 1) := by decide +kernel
section
variable {p : Program} {l : Launch} {e : Env} {R : Room} {s : State} {m : MethodId} {args : Array Value} {below : List Frame} {meth : Method} {c : Code} {D : va_G} {base : Nat} {g : Nat → ClassId} {az : Nat → Nat} {kz : Nat × Nat}
set_option maxRecDepth 100000 in
set_option maxHeartbeats 4000000 in
theorem t_Mo_languages_199  (B : xB p R s m args meth c b_Mo_languages 7 R_Mo (Cond.code y_Mo_languages b_Mo_languages 7 (some .int) :: x_T) (some .int) 7 174 D x_cl (xty g) base)  (l2 : Int32) (l3 : Int32) (M : MS)  : Sn p l e R s m args below meth c 7 D x_cl base (xwd g) cM x_g0 az kz (xfc cM) (xZ below args s D x_cl (xty g) base (xwd g) cM x_g0 az kz ovI) 199 [] [(2, .int l2), (3, .int l3)] M (m_Mo_languages_199 l2 l3 M) := by
  unfold m_Mo_languages_199
  refine s_iload_n B d_Mo_languages_199 rfl ?_
  refine s_iconst (v := (-1:Int32)) B d_Mo_languages_200 (by decide) ?_
  refine s_icmp_ne B d_Mo_languages_201 rfl (fun _ => ?_) (fun _ => ?_)
  · refine s_iload_n B d_Mo_languages_208 rfl ?_
    exact s_iret B d_Mo_languages_209
  · refine s_iconst (v := (-1:Int32)) B d_Mo_languages_204 (by decide) ?_
    refine s_goto B d_Mo_languages_205 rfl ?_
    exact s_iret B d_Mo_languages_209
set_option maxRecDepth 100000 in
set_option maxHeartbeats 4000000 in
theorem t_Mo_languages_170b {k70 : Int32 × Int32 × Int32 × MS → Option (MS × Int32)} {k170 : Int32 × Int32 × Int32 × Int32 × MS → Option (MS × Int32)} (B : xB p R s m args meth c b_Mo_languages 7 R_Mo (Cond.code y_Mo_languages b_Mo_languages 7 (some .int) :: x_T) (some .int) 7 174 D x_cl (xty g) base) (hk70 : ∀ (l2 : Int32) (l3 : Int32) (l4 : Int32) (M : MS) , Sn p l e R s m args below meth c 7 D x_cl base (xwd g) cM x_g0 az kz (xfc cM) (xZ below args s D x_cl (xty g) base (xwd g) cM x_g0 az kz ovI) 70 [] [(0, .ref 97), (2, .int l2), (3, .int l3), (4, .int l4)] M (k70 (l2, l3, l4, M))) (hk170 : ∀ (l2 : Int32) (l3 : Int32) (l4 : Int32) (l5 : Int32) (M : MS) , Sn p l e R s m args below meth c 7 D x_cl base (xwd g) cM x_g0 az kz (xfc cM) (xZ below args s D x_cl (xty g) base (xwd g) cM x_g0 az kz ovI) 170 [] [(0, .ref 97), (2, .int l2), (3, .int l3), (4, .int l4), (5, .int l5)] M (k170 (l2, l3, l4, l5, M))) (l2 : Int32) (l3 : Int32) (l4 : Int32) (l5 : Int32) (M : MS)  : Sn p l e R s m args below meth c 7 D x_cl base (xwd g) cM x_g0 az kz (xfc cM) (xZ below args s D x_cl (xty g) base (xwd g) cM x_g0 az kz ovI) 170 [] [(0, .ref 97), (2, .int l2), (3, .int l3), (4, .int l4), (5, .int l5)] M (m_Mo_languages_170b k70 k170 l2 l3 l4 l5 M) := by
  unfold m_Mo_languages_170b
  refine s_iload B d_Mo_languages_170 rfl ?_
  refine s_iload_n B d_Mo_languages_172 rfl ?_
  refine s_icmp_ge B d_Mo_languages_173 rfl (fun _ => ?_) (fun _ => ?_)
  · refine s_goto B d_Mo_languages_196 rfl ?_
    refine s_pick (lv1 := [(0, .ref 97), (2, .int l2), (3, .int l3), (4, .int l4)]) [0, 2, 3, 4] rfl ?_
    exact hk70 l2 l3 l4 M
  · refine s_aload_n B d_Mo_languages_176 rfl ?_
    refine s_getS (k := 18) (n := 112) B xc_Mo kd_97 (by decide) rfl rfl fl_Mo_55 sr_97_18 d_Mo_languages_177 ?_
    refine s_iload B d_Mo_languages_180 rfl ?_
    refine s_aload_n B d_Mo_languages_182 rfl ?_
    refine s_getS (k := 19) (n := 113) B xc_Mo kd_97 (by decide) rfl rfl fl_Mo_58 sr_97_19 d_Mo_languages_183 ?_
    refine s_iload B d_Mo_languages_186 rfl ?_
    refine s_iald B (Or.inl kd_113) d_Mo_languages_188 (fun v1 _ => ?_)
    refine s_iast B (Or.inl kd_112) d_Mo_languages_189 (fun M2 _ => ?_)
    refine s_iinc (w := (1:Int32)) B d_Mo_languages_190 rfl (by decide) (by decide) ?_
    refine s_goto B d_Mo_languages_193 rfl ?_
    refine s_pick (lv1 := [(0, .ref 97), (2, .int l2), (3, .int l3), (4, .int l4), (5, .int (l5 + (1:Int32)))]) [0, 2, 3, 4, 5] rfl ?_
    exact hk170 l2 l3 l4 (l5 + (1:Int32)) M2
set_option maxRecDepth 100000 in
set_option maxHeartbeats 4000000 in
theorem t_Mo_languages_170 {k70 : Int32 × Int32 × Int32 × MS → Option (MS × Int32)} (B : xB p R s m args meth c b_Mo_languages 7 R_Mo (Cond.code y_Mo_languages b_Mo_languages 7 (some .int) :: x_T) (some .int) 7 174 D x_cl (xty g) base) (hk70 : ∀ (l2 : Int32) (l3 : Int32) (l4 : Int32) (M : MS) , Sn p l e R s m args below meth c 7 D x_cl base (xwd g) cM x_g0 az kz (xfc cM) (xZ below args s D x_cl (xty g) base (xwd g) cM x_g0 az kz ovI) 70 [] [(0, .ref 97), (2, .int l2), (3, .int l3), (4, .int l4)] M (k70 (l2, l3, l4, M))) (l2 : Int32) (l3 : Int32) (l4 : Int32) (l5 : Int32) (M : MS)  : Sn p l e R s m args below meth c 7 D x_cl base (xwd g) cM x_g0 az kz (xfc cM) (xZ below args s D x_cl (xty g) base (xwd g) cM x_g0 az kz ovI) 170 [] [(0, .ref 97), (2, .int l2), (3, .int l3), (4, .int l4), (5, .int l5)] M (m_Mo_languages_170 k70 (l2, l3, l4, l5, M)) := by
  have q : ∀ (F : Nat) (i : Int32 × Int32 × Int32 × Int32 × MS), Sn p l e R s m args below meth c 7 D x_cl base (xwd g) cM x_g0 az kz (xfc cM) (xZ below args s D x_cl (xty g) base (xwd g) cM x_g0 az kz ovI) 170 [] [(0, .ref 97), (2, .int i.1), (3, .int i.2.1), (4, .int i.2.2.1), (5, .int i.2.2.2.1)] i.2.2.2.2 (fx (fun (k : Int32 × Int32 × Int32 × Int32 × MS → Option (MS × Int32)) (i : Int32 × Int32 × Int32 × Int32 × MS) => m_Mo_languages_170b k70 k i.1 i.2.1 i.2.2.1 i.2.2.2.1 i.2.2.2.2) F i) := by
    intro F
    induction F with
    | zero => intro i ; exact s_none
    | succ F ih => intro i ; exact t_Mo_languages_170b B hk70 (fun l2 l3 l4 l5 M  => ih (l2, l3, l4, l5, M) ) i.1 i.2.1 i.2.2.1 i.2.2.2.1 i.2.2.2.2 
  exact q FU (l2, l3, l4, l5, M) 
set_option maxRecDepth 100000 in
set_option maxHeartbeats 4000000 in
theorem t_Mo_languages_145 {k70 : Int32 × Int32 × Int32 × MS → Option (MS × Int32)} {k88 : Int32 × Int32 × Int32 × Int32 × MS → Option (MS × Int32)} (B : xB p R s m args meth c b_Mo_languages 7 R_Mo (Cond.code y_Mo_languages b_Mo_languages 7 (some .int) :: x_T) (some .int) 7 174 D x_cl (xty g) base) (hk70 : ∀ (l2 : Int32) (l3 : Int32) (l4 : Int32) (M : MS) , Sn p l e R s m args below meth c 7 D x_cl base (xwd g) cM x_g0 az kz (xfc cM) (xZ below args s D x_cl (xty g) base (xwd g) cM x_g0 az kz ovI) 70 [] [(0, .ref 97), (2, .int l2), (3, .int l3), (4, .int l4)] M (k70 (l2, l3, l4, M))) (hk88 : ∀ (l2 : Int32) (l3 : Int32) (l4 : Int32) (l5 : Int32) (M : MS) , Sn p l e R s m args below meth c 7 D x_cl base (xwd g) cM x_g0 az kz (xfc cM) (xZ below args s D x_cl (xty g) base (xwd g) cM x_g0 az kz ovI) 88 [] [(0, .ref 97), (2, .int l2), (3, .int l3), (4, .int l4), (5, .int l5)] M (k88 (l2, l3, l4, l5, M))) (l2 : Int32) (l3 : Int32) (l4 : Int32) (l5 : Int32) (l6 : Int32) (s1 : Int32) (s2 : Int32) (M : MS)  : Sn p l e R s m args below meth c 7 D x_cl base (xwd g) cM x_g0 az kz (xfc cM) (xZ below args s D x_cl (xty g) base (xwd g) cM x_g0 az kz ovI) 145 [.int s2, .int s1, .ref 113] [(0, .ref 97), (2, .int l2), (3, .int l3), (4, .int l4), (5, .int l5), (6, .int l6)] M (m_Mo_languages_145 k70 k88 l2 l3 l4 l5 l6 s1 s2 M) := by
  unfold m_Mo_languages_145
  refine s_iast B (Or.inl kd_113) d_Mo_languages_145 (fun M1 _ => ?_)
  refine s_iload_n B d_Mo_languages_146 rfl ?_
  refine s_iload B d_Mo_languages_147 rfl ?_
  refine s_iload B d_Mo_languages_149 rfl ?_
  refine s_icmp_ge B d_Mo_languages_151 rfl (fun _ => ?_) (fun _ => ?_)
  · refine s_iconst (v := (1:Int32)) B d_Mo_languages_158 (by decide) ?_
    refine s_iadd B d_Mo_languages_159 ?_
    refine s_istore_n B d_Mo_languages_160 (by decide) ?_
    refine s_iinc (w := (1:Int32)) B d_Mo_languages_161 rfl (by decide) (by decide) ?_
    refine s_goto B d_Mo_languages_164 rfl ?_
    refine s_pick (lv1 := [(0, .ref 97), (2, .int l2), (3, .int (l3 + (1:Int32))), (4, .int l4), (5, .int (l5 + (1:Int32)))]) [0, 2, 3, 4, 5] rfl ?_
    exact hk88 l2 (l3 + (1:Int32)) l4 (l5 + (1:Int32)) M1
  · refine s_iconst (v := (0:Int32)) B d_Mo_languages_154 (by decide) ?_
    refine s_goto B d_Mo_languages_155 rfl ?_
    refine s_iadd B d_Mo_languages_159 ?_
    refine s_istore_n B d_Mo_languages_160 (by decide) ?_
    refine s_iinc (w := (1:Int32)) B d_Mo_languages_161 rfl (by decide) (by decide) ?_
    refine s_goto B d_Mo_languages_164 rfl ?_
    refine s_pick (lv1 := [(0, .ref 97), (2, .int l2), (3, .int (l3 + (0:Int32))), (4, .int l4), (5, .int (l5 + (1:Int32)))]) [0, 2, 3, 4, 5] rfl ?_
    exact hk88 l2 (l3 + (0:Int32)) l4 (l5 + (1:Int32)) M1
set_option maxRecDepth 100000 in
set_option maxHeartbeats 4000000 in
theorem t_Mo_languages_121 {k70 : Int32 × Int32 × Int32 × MS → Option (MS × Int32)} {k88 : Int32 × Int32 × Int32 × Int32 × MS → Option (MS × Int32)} (B : xB p R s m args meth c b_Mo_languages 7 R_Mo (Cond.code y_Mo_languages b_Mo_languages 7 (some .int) :: x_T) (some .int) 7 174 D x_cl (xty g) base) (hk70 : ∀ (l2 : Int32) (l3 : Int32) (l4 : Int32) (M : MS) , Sn p l e R s m args below meth c 7 D x_cl base (xwd g) cM x_g0 az kz (xfc cM) (xZ below args s D x_cl (xty g) base (xwd g) cM x_g0 az kz ovI) 70 [] [(0, .ref 97), (2, .int l2), (3, .int l3), (4, .int l4)] M (k70 (l2, l3, l4, M))) (hk88 : ∀ (l2 : Int32) (l3 : Int32) (l4 : Int32) (l5 : Int32) (M : MS) , Sn p l e R s m args below meth c 7 D x_cl base (xwd g) cM x_g0 az kz (xfc cM) (xZ below args s D x_cl (xty g) base (xwd g) cM x_g0 az kz ovI) 88 [] [(0, .ref 97), (2, .int l2), (3, .int l3), (4, .int l4), (5, .int l5)] M (k88 (l2, l3, l4, l5, M))) (l2 : Int32) (l3 : Int32) (l4 : Int32) (l5 : Int32) (l6 : Int32) (M : MS)  : Sn p l e R s m args below meth c 7 D x_cl base (xwd g) cM x_g0 az kz (xfc cM) (xZ below args s D x_cl (xty g) base (xwd g) cM x_g0 az kz ovI) 121 [] [(0, .ref 97), (2, .int l2), (3, .int l3), (4, .int l4), (5, .int l5), (6, .int l6)] M (m_Mo_languages_121 k70 k88 l2 l3 l4 l5 l6 M) := by
  unfold m_Mo_languages_121
  refine s_aload_n B d_Mo_languages_121 rfl ?_
  refine s_getS (k := 19) (n := 113) B xc_Mo kd_97 (by decide) rfl rfl fl_Mo_58 sr_97_19 d_Mo_languages_122 ?_
  refine s_iload B d_Mo_languages_125 rfl ?_
  refine s_iload B d_Mo_languages_127 rfl ?_
  refine s_iload B d_Mo_languages_129 rfl ?_
  refine s_icmp_ge B d_Mo_languages_131 rfl (fun _ => ?_) (fun _ => ?_)
  · refine s_iload_n B d_Mo_languages_144 rfl ?_
    refine s_pick (lv1 := [(0, .ref 97), (2, .int l2), (3, .int l3), (4, .int l4), (5, .int l5), (6, .int l6)]) [0, 2, 3, 4, 5, 6] rfl ?_
    exact t_Mo_languages_145 B hk70 hk88 l2 l3 l4 l5 l6 l5 l3 M
  · refine s_aload_n B d_Mo_languages_134 rfl ?_
    refine s_getS (k := 19) (n := 113) B xc_Mo kd_97 (by decide) rfl rfl fl_Mo_58 sr_97_19 d_Mo_languages_135 ?_
    refine s_iload B d_Mo_languages_138 rfl ?_
    refine s_iald B (Or.inl kd_113) d_Mo_languages_140 (fun v1 _ => ?_)
    refine s_goto B d_Mo_languages_141 rfl ?_
    refine s_pick (lv1 := [(0, .ref 97), (2, .int l2), (3, .int l3), (4, .int l4), (5, .int l5), (6, .int l6)]) [0, 2, 3, 4, 5, 6] rfl ?_
    exact t_Mo_languages_145 B hk70 hk88 l2 l3 l4 l5 l6 l5 v1 M
set_option maxRecDepth 100000 in
set_option maxHeartbeats 4000000 in
theorem t_Mo_languages_97b {k70 : Int32 × Int32 × Int32 × MS → Option (MS × Int32)} {k88 : Int32 × Int32 × Int32 × Int32 × MS → Option (MS × Int32)} {k97 : Int32 × Int32 × Int32 × Int32 × Int32 × MS → Option (MS × Int32)} (B : xB p R s m args meth c b_Mo_languages 7 R_Mo (Cond.code y_Mo_languages b_Mo_languages 7 (some .int) :: x_T) (some .int) 7 174 D x_cl (xty g) base) (hk70 : ∀ (l2 : Int32) (l3 : Int32) (l4 : Int32) (M : MS) , Sn p l e R s m args below meth c 7 D x_cl base (xwd g) cM x_g0 az kz (xfc cM) (xZ below args s D x_cl (xty g) base (xwd g) cM x_g0 az kz ovI) 70 [] [(0, .ref 97), (2, .int l2), (3, .int l3), (4, .int l4)] M (k70 (l2, l3, l4, M))) (hk88 : ∀ (l2 : Int32) (l3 : Int32) (l4 : Int32) (l5 : Int32) (M : MS) , Sn p l e R s m args below meth c 7 D x_cl base (xwd g) cM x_g0 az kz (xfc cM) (xZ below args s D x_cl (xty g) base (xwd g) cM x_g0 az kz ovI) 88 [] [(0, .ref 97), (2, .int l2), (3, .int l3), (4, .int l4), (5, .int l5)] M (k88 (l2, l3, l4, l5, M))) (hk97 : ∀ (l2 : Int32) (l3 : Int32) (l4 : Int32) (l5 : Int32) (l6 : Int32) (M : MS) , Sn p l e R s m args below meth c 7 D x_cl base (xwd g) cM x_g0 az kz (xfc cM) (xZ below args s D x_cl (xty g) base (xwd g) cM x_g0 az kz ovI) 97 [] [(0, .ref 97), (2, .int l2), (3, .int l3), (4, .int l4), (5, .int l5), (6, .int l6)] M (k97 (l2, l3, l4, l5, l6, M))) (l2 : Int32) (l3 : Int32) (l4 : Int32) (l5 : Int32) (l6 : Int32) (M : MS)  : Sn p l e R s m args below meth c 7 D x_cl base (xwd g) cM x_g0 az kz (xfc cM) (xZ below args s D x_cl (xty g) base (xwd g) cM x_g0 az kz ovI) 97 [] [(0, .ref 97), (2, .int l2), (3, .int l3), (4, .int l4), (5, .int l5), (6, .int l6)] M (m_Mo_languages_97b k70 k88 k97 l2 l3 l4 l5 l6 M) := by
  unfold m_Mo_languages_97b
  refine s_iload B d_Mo_languages_97 rfl ?_
  refine s_iload B d_Mo_languages_99 rfl ?_
  refine s_icmp_ge B d_Mo_languages_101 rfl (fun _ => ?_) (fun _ => ?_)
  · refine s_pick (lv1 := [(0, .ref 97), (2, .int l2), (3, .int l3), (4, .int l4), (5, .int l5), (6, .int l6)]) [0, 2, 3, 4, 5, 6] rfl ?_
    exact t_Mo_languages_121 B hk70 hk88 l2 l3 l4 l5 l6 M
  · refine s_aload_n B d_Mo_languages_104 rfl ?_
    refine s_iload B d_Mo_languages_105 rfl ?_
    refine s_iload B d_Mo_languages_107 rfl ?_
    refine s_pick (lv1 := [(0, .ref 97), (2, .int l2), (3, .int l3), (4, .int l4), (5, .int l5), (6, .int l6)]) [0, 2, 3, 4, 5, 6] rfl ?_
    refine s_callI (av := [.ref 97, .int l5, .int l6]) (rest := []) B (lk_V B d_Mo_languages_109 (gl_Mo_186 _) rfl hv_Mo_alike (by decide) (by decide)) rfl (x_rcV B xc_Mo kd_97) (fun _ _ => rfl) rfl rfl (by simp [Value.category]) rfl (fun r1 e9 => ct_Mo_alike _ _ _ r1 e9) (fun r1 _ => ?_)
    refine s_if_ne B d_Mo_languages_112 rfl (fun _ => ?_) (fun _ => ?_)
    · refine s_pick (lv1 := [(0, .ref 97), (2, .int l2), (3, .int l3), (4, .int l4), (5, .int l5), (6, .int l6)]) [0, 2, 3, 4, 5, 6] rfl ?_
      exact t_Mo_languages_121 B hk70 hk88 l2 l3 l4 l5 l6 r1.1
    · refine s_iinc (w := (1:Int32)) B d_Mo_languages_115 rfl (by decide) (by decide) ?_
      refine s_goto B d_Mo_languages_118 rfl ?_
      refine s_pick (lv1 := [(0, .ref 97), (2, .int l2), (3, .int l3), (4, .int l4), (5, .int l5), (6, .int (l6 + (1:Int32)))]) [0, 2, 3, 4, 5, 6] rfl ?_
      exact hk97 l2 l3 l4 l5 (l6 + (1:Int32)) r1.1
set_option maxRecDepth 100000 in
set_option maxHeartbeats 4000000 in
theorem t_Mo_languages_97 {k70 : Int32 × Int32 × Int32 × MS → Option (MS × Int32)} {k88 : Int32 × Int32 × Int32 × Int32 × MS → Option (MS × Int32)} (B : xB p R s m args meth c b_Mo_languages 7 R_Mo (Cond.code y_Mo_languages b_Mo_languages 7 (some .int) :: x_T) (some .int) 7 174 D x_cl (xty g) base) (hk70 : ∀ (l2 : Int32) (l3 : Int32) (l4 : Int32) (M : MS) , Sn p l e R s m args below meth c 7 D x_cl base (xwd g) cM x_g0 az kz (xfc cM) (xZ below args s D x_cl (xty g) base (xwd g) cM x_g0 az kz ovI) 70 [] [(0, .ref 97), (2, .int l2), (3, .int l3), (4, .int l4)] M (k70 (l2, l3, l4, M))) (hk88 : ∀ (l2 : Int32) (l3 : Int32) (l4 : Int32) (l5 : Int32) (M : MS) , Sn p l e R s m args below meth c 7 D x_cl base (xwd g) cM x_g0 az kz (xfc cM) (xZ below args s D x_cl (xty g) base (xwd g) cM x_g0 az kz ovI) 88 [] [(0, .ref 97), (2, .int l2), (3, .int l3), (4, .int l4), (5, .int l5)] M (k88 (l2, l3, l4, l5, M))) (l2 : Int32) (l3 : Int32) (l4 : Int32) (l5 : Int32) (l6 : Int32) (M : MS)  : Sn p l e R s m args below meth c 7 D x_cl base (xwd g) cM x_g0 az kz (xfc cM) (xZ below args s D x_cl (xty g) base (xwd g) cM x_g0 az kz ovI) 97 [] [(0, .ref 97), (2, .int l2), (3, .int l3), (4, .int l4), (5, .int l5), (6, .int l6)] M (m_Mo_languages_97 k70 k88 (l2, l3, l4, l5, l6, M)) := by
  have q : ∀ (F : Nat) (i : Int32 × Int32 × Int32 × Int32 × Int32 × MS), Sn p l e R s m args below meth c 7 D x_cl base (xwd g) cM x_g0 az kz (xfc cM) (xZ below args s D x_cl (xty g) base (xwd g) cM x_g0 az kz ovI) 97 [] [(0, .ref 97), (2, .int i.1), (3, .int i.2.1), (4, .int i.2.2.1), (5, .int i.2.2.2.1), (6, .int i.2.2.2.2.1)] i.2.2.2.2.2 (fx (fun (k : Int32 × Int32 × Int32 × Int32 × Int32 × MS → Option (MS × Int32)) (i : Int32 × Int32 × Int32 × Int32 × Int32 × MS) => m_Mo_languages_97b k70 k88 k i.1 i.2.1 i.2.2.1 i.2.2.2.1 i.2.2.2.2.1 i.2.2.2.2.2) F i) := by
    intro F
    induction F with
    | zero => intro i ; exact s_none
    | succ F ih => intro i ; exact t_Mo_languages_97b B hk70 hk88 (fun l2 l3 l4 l5 l6 M  => ih (l2, l3, l4, l5, l6, M) ) i.1 i.2.1 i.2.2.1 i.2.2.2.1 i.2.2.2.2.1 i.2.2.2.2.2 
  exact q FU (l2, l3, l4, l5, l6, M) 
set_option maxRecDepth 100000 in
set_option maxHeartbeats 4000000 in
theorem t_Mo_languages_88b {k70 : Int32 × Int32 × Int32 × MS → Option (MS × Int32)} {k88 : Int32 × Int32 × Int32 × Int32 × MS → Option (MS × Int32)} (B : xB p R s m args meth c b_Mo_languages 7 R_Mo (Cond.code y_Mo_languages b_Mo_languages 7 (some .int) :: x_T) (some .int) 7 174 D x_cl (xty g) base) (hk70 : ∀ (l2 : Int32) (l3 : Int32) (l4 : Int32) (M : MS) , Sn p l e R s m args below meth c 7 D x_cl base (xwd g) cM x_g0 az kz (xfc cM) (xZ below args s D x_cl (xty g) base (xwd g) cM x_g0 az kz ovI) 70 [] [(0, .ref 97), (2, .int l2), (3, .int l3), (4, .int l4)] M (k70 (l2, l3, l4, M))) (hk88 : ∀ (l2 : Int32) (l3 : Int32) (l4 : Int32) (l5 : Int32) (M : MS) , Sn p l e R s m args below meth c 7 D x_cl base (xwd g) cM x_g0 az kz (xfc cM) (xZ below args s D x_cl (xty g) base (xwd g) cM x_g0 az kz ovI) 88 [] [(0, .ref 97), (2, .int l2), (3, .int l3), (4, .int l4), (5, .int l5)] M (k88 (l2, l3, l4, l5, M))) (l2 : Int32) (l3 : Int32) (l4 : Int32) (l5 : Int32) (M : MS)  : Sn p l e R s m args below meth c 7 D x_cl base (xwd g) cM x_g0 az kz (xfc cM) (xZ below args s D x_cl (xty g) base (xwd g) cM x_g0 az kz ovI) 88 [] [(0, .ref 97), (2, .int l2), (3, .int l3), (4, .int l4), (5, .int l5)] M (m_Mo_languages_88b k70 k88 l2 l3 l4 l5 M) := by
  unfold m_Mo_languages_88b
  refine s_iload B d_Mo_languages_88 rfl ?_
  refine s_iload_n B d_Mo_languages_90 rfl ?_
  refine s_icmp_ge B d_Mo_languages_91 rfl (fun _ => ?_) (fun _ => ?_)
  · refine s_iconst (v := (0:Int32)) B d_Mo_languages_167 (by decide) ?_
    refine s_istore B d_Mo_languages_168 (by decide) ?_
    refine s_pick (lv1 := [(0, .ref 97), (2, .int l2), (3, .int l3), (4, .int l4), (5, .int (0:Int32))]) [0, 2, 3, 4, 5] rfl ?_
    exact t_Mo_languages_170 B hk70 l2 l3 l4 (0:Int32) M
  · refine s_iconst (v := (0:Int32)) B d_Mo_languages_94 (by decide) ?_
    refine s_istore B d_Mo_languages_95 (by decide) ?_
    refine s_pick (lv1 := [(0, .ref 97), (2, .int l2), (3, .int l3), (4, .int l4), (5, .int l5), (6, .int (0:Int32))]) [0, 2, 3, 4, 5, 6] rfl ?_
    exact t_Mo_languages_97 B hk70 hk88 l2 l3 l4 l5 (0:Int32) M
set_option maxRecDepth 100000 in
set_option maxHeartbeats 4000000 in
theorem t_Mo_languages_88 {k70 : Int32 × Int32 × Int32 × MS → Option (MS × Int32)} (B : xB p R s m args meth c b_Mo_languages 7 R_Mo (Cond.code y_Mo_languages b_Mo_languages 7 (some .int) :: x_T) (some .int) 7 174 D x_cl (xty g) base) (hk70 : ∀ (l2 : Int32) (l3 : Int32) (l4 : Int32) (M : MS) , Sn p l e R s m args below meth c 7 D x_cl base (xwd g) cM x_g0 az kz (xfc cM) (xZ below args s D x_cl (xty g) base (xwd g) cM x_g0 az kz ovI) 70 [] [(0, .ref 97), (2, .int l2), (3, .int l3), (4, .int l4)] M (k70 (l2, l3, l4, M))) (l2 : Int32) (l3 : Int32) (l4 : Int32) (l5 : Int32) (M : MS)  : Sn p l e R s m args below meth c 7 D x_cl base (xwd g) cM x_g0 az kz (xfc cM) (xZ below args s D x_cl (xty g) base (xwd g) cM x_g0 az kz ovI) 88 [] [(0, .ref 97), (2, .int l2), (3, .int l3), (4, .int l4), (5, .int l5)] M (m_Mo_languages_88 k70 (l2, l3, l4, l5, M)) := by
  have q : ∀ (F : Nat) (i : Int32 × Int32 × Int32 × Int32 × MS), Sn p l e R s m args below meth c 7 D x_cl base (xwd g) cM x_g0 az kz (xfc cM) (xZ below args s D x_cl (xty g) base (xwd g) cM x_g0 az kz ovI) 88 [] [(0, .ref 97), (2, .int i.1), (3, .int i.2.1), (4, .int i.2.2.1), (5, .int i.2.2.2.1)] i.2.2.2.2 (fx (fun (k : Int32 × Int32 × Int32 × Int32 × MS → Option (MS × Int32)) (i : Int32 × Int32 × Int32 × Int32 × MS) => m_Mo_languages_88b k70 k i.1 i.2.1 i.2.2.1 i.2.2.2.1 i.2.2.2.2) F i) := by
    intro F
    induction F with
    | zero => intro i ; exact s_none
    | succ F ih => intro i ; exact t_Mo_languages_88b B hk70 (fun l2 l3 l4 l5 M  => ih (l2, l3, l4, l5, M) ) i.1 i.2.1 i.2.2.1 i.2.2.2.1 i.2.2.2.2 
  exact q FU (l2, l3, l4, l5, M) 
set_option maxRecDepth 100000 in
set_option maxHeartbeats 4000000 in
theorem t_Mo_languages_70b {k70 : Int32 × Int32 × Int32 × MS → Option (MS × Int32)} (B : xB p R s m args meth c b_Mo_languages 7 R_Mo (Cond.code y_Mo_languages b_Mo_languages 7 (some .int) :: x_T) (some .int) 7 174 D x_cl (xty g) base) (hk70 : ∀ (l2 : Int32) (l3 : Int32) (l4 : Int32) (M : MS) , Sn p l e R s m args below meth c 7 D x_cl base (xwd g) cM x_g0 az kz (xfc cM) (xZ below args s D x_cl (xty g) base (xwd g) cM x_g0 az kz ovI) 70 [] [(0, .ref 97), (2, .int l2), (3, .int l3), (4, .int l4)] M (k70 (l2, l3, l4, M))) (l2 : Int32) (l3 : Int32) (l4 : Int32) (M : MS)  : Sn p l e R s m args below meth c 7 D x_cl base (xwd g) cM x_g0 az kz (xfc cM) (xZ below args s D x_cl (xty g) base (xwd g) cM x_g0 az kz ovI) 70 [] [(0, .ref 97), (2, .int l2), (3, .int l3), (4, .int l4)] M (m_Mo_languages_70b k70 l2 l3 l4 M) := by
  unfold m_Mo_languages_70b
  refine s_iload_n B d_Mo_languages_70 rfl ?_
  refine s_iload B d_Mo_languages_71 rfl ?_
  refine s_icmp_eq B d_Mo_languages_73 rfl (fun _ => ?_) (fun _ => ?_)
  · refine s_pick (lv1 := [(2, .int l2), (3, .int l3)]) [2, 3] rfl ?_
    exact t_Mo_languages_199 B l2 l3 M
  · refine s_iload_n B d_Mo_languages_76 rfl ?_
    refine s_if_le B d_Mo_languages_77 rfl (fun _ => ?_) (fun _ => ?_)
    · refine s_pick (lv1 := [(2, .int l2), (3, .int l3)]) [2, 3] rfl ?_
      exact t_Mo_languages_199 B l2 l3 M
    · refine s_iload_n B d_Mo_languages_80 rfl ?_
      refine s_istore B d_Mo_languages_81 (by decide) ?_
      refine s_iconst (v := (0:Int32)) B d_Mo_languages_83 (by decide) ?_
      refine s_istore_n B d_Mo_languages_84 (by decide) ?_
      refine s_iconst (v := (0:Int32)) B d_Mo_languages_85 (by decide) ?_
      refine s_istore B d_Mo_languages_86 (by decide) ?_
      refine s_pick (lv1 := [(0, .ref 97), (2, .int l2), (3, .int (0:Int32)), (4, .int l3), (5, .int (0:Int32))]) [0, 2, 3, 4, 5] rfl ?_
      exact t_Mo_languages_88 B hk70 l2 (0:Int32) l3 (0:Int32) M
set_option maxRecDepth 100000 in
set_option maxHeartbeats 4000000 in
theorem t_Mo_languages_70  (B : xB p R s m args meth c b_Mo_languages 7 R_Mo (Cond.code y_Mo_languages b_Mo_languages 7 (some .int) :: x_T) (some .int) 7 174 D x_cl (xty g) base)  (l2 : Int32) (l3 : Int32) (l4 : Int32) (M : MS)  : Sn p l e R s m args below meth c 7 D x_cl base (xwd g) cM x_g0 az kz (xfc cM) (xZ below args s D x_cl (xty g) base (xwd g) cM x_g0 az kz ovI) 70 [] [(0, .ref 97), (2, .int l2), (3, .int l3), (4, .int l4)] M (m_Mo_languages_70 (l2, l3, l4, M)) := by
  have q : ∀ (F : Nat) (i : Int32 × Int32 × Int32 × MS), Sn p l e R s m args below meth c 7 D x_cl base (xwd g) cM x_g0 az kz (xfc cM) (xZ below args s D x_cl (xty g) base (xwd g) cM x_g0 az kz ovI) 70 [] [(0, .ref 97), (2, .int i.1), (3, .int i.2.1), (4, .int i.2.2.1)] i.2.2.2 (fx (fun (k : Int32 × Int32 × Int32 × MS → Option (MS × Int32)) (i : Int32 × Int32 × Int32 × MS) => m_Mo_languages_70b k i.1 i.2.1 i.2.2.1 i.2.2.2) F i) := by
    intro F
    induction F with
    | zero => intro i ; exact s_none
    | succ F ih => intro i ; exact t_Mo_languages_70b B  (fun l2 l3 l4 M  => ih (l2, l3, l4, M) ) i.1 i.2.1 i.2.2.1 i.2.2.2 
  exact q FU (l2, l3, l4, M) 
set_option maxRecDepth 100000 in
set_option maxHeartbeats 4000000 in
theorem t_Mo_languages_63 {k36 : Int32 × Int32 × Int32 × Int32 × MS → Option (MS × Int32)} (B : xB p R s m args meth c b_Mo_languages 7 R_Mo (Cond.code y_Mo_languages b_Mo_languages 7 (some .int) :: x_T) (some .int) 7 174 D x_cl (xty g) base) (hk36 : ∀ (l2 : Int32) (l3 : Int32) (l4 : Int32) (l5 : Int32) (M : MS) , Sn p l e R s m args below meth c 7 D x_cl base (xwd g) cM x_g0 az kz (xfc cM) (xZ below args s D x_cl (xty g) base (xwd g) cM x_g0 az kz ovI) 36 [] [(0, .ref 97), (2, .int l2), (3, .int l3), (4, .int l4), (5, .int l5)] M (k36 (l2, l3, l4, l5, M))) (l2 : Int32) (l3 : Int32) (l4 : Int32) (l5 : Int32) (s1 : Int32) (s2 : Int32) (M : MS)  : Sn p l e R s m args below meth c 7 D x_cl base (xwd g) cM x_g0 az kz (xfc cM) (xZ below args s D x_cl (xty g) base (xwd g) cM x_g0 az kz ovI) 63 [.int s2, .int s1, .ref 112] [(0, .ref 97), (2, .int l2), (3, .int l3), (4, .int l4), (5, .int l5)] M (m_Mo_languages_63 k36 l2 l3 l4 l5 s1 s2 M) := by
  unfold m_Mo_languages_63
  refine s_iast B (Or.inl kd_112) d_Mo_languages_63 (fun M1 _ => ?_)
  refine s_iinc (w := (1:Int32)) B d_Mo_languages_64 rfl (by decide) (by decide) ?_
  refine s_goto B d_Mo_languages_67 rfl ?_
  refine s_pick (lv1 := [(0, .ref 97), (2, .int l2), (3, .int l3), (4, .int l4), (5, .int (l5 + (1:Int32)))]) [0, 2, 3, 4, 5] rfl ?_
  exact hk36 l2 l3 l4 (l5 + (1:Int32)) M1
set_option maxRecDepth 100000 in
set_option maxHeartbeats 4000000 in
theorem t_Mo_languages_36b {k36 : Int32 × Int32 × Int32 × Int32 × MS → Option (MS × Int32)} (B : xB p R s m args meth c b_Mo_languages 7 R_Mo (Cond.code y_Mo_languages b_Mo_languages 7 (some .int) :: x_T) (some .int) 7 174 D x_cl (xty g) base) (hk36 : ∀ (l2 : Int32) (l3 : Int32) (l4 : Int32) (l5 : Int32) (M : MS) , Sn p l e R s m args below meth c 7 D x_cl base (xwd g) cM x_g0 az kz (xfc cM) (xZ below args s D x_cl (xty g) base (xwd g) cM x_g0 az kz ovI) 36 [] [(0, .ref 97), (2, .int l2), (3, .int l3), (4, .int l4), (5, .int l5)] M (k36 (l2, l3, l4, l5, M))) (l2 : Int32) (l3 : Int32) (l4 : Int32) (l5 : Int32) (M : MS)  : Sn p l e R s m args below meth c 7 D x_cl base (xwd g) cM x_g0 az kz (xfc cM) (xZ below args s D x_cl (xty g) base (xwd g) cM x_g0 az kz ovI) 36 [] [(0, .ref 97), (2, .int l2), (3, .int l3), (4, .int l4), (5, .int l5)] M (m_Mo_languages_36b k36 l2 l3 l4 l5 M) := by
  unfold m_Mo_languages_36b
  refine s_iload B d_Mo_languages_36 rfl ?_
  refine s_iload_n B d_Mo_languages_38 rfl ?_
  refine s_icmp_ge B d_Mo_languages_39 rfl (fun _ => ?_) (fun _ => ?_)
  · refine s_pick (lv1 := [(0, .ref 97), (2, .int l2), (3, .int l3), (4, .int l4)]) [0, 2, 3, 4] rfl ?_
    exact t_Mo_languages_70 B l2 l3 l4 M
  · refine s_aload_n B d_Mo_languages_42 rfl ?_
    refine s_getS (k := 18) (n := 112) B xc_Mo kd_97 (by decide) rfl rfl fl_Mo_55 sr_97_18 d_Mo_languages_43 ?_
    refine s_iload B d_Mo_languages_46 rfl ?_
    refine s_aload_n B d_Mo_languages_48 rfl ?_
    refine s_getS (k := 20) (n := 114) B xc_Mo kd_97 (by decide) rfl rfl fl_Mo_61 sr_97_20 d_Mo_languages_49 ?_
    refine s_iload B d_Mo_languages_52 rfl ?_
    refine s_zald B kd_114 d_Mo_languages_54 (fun v1 _ => ?_)
    refine s_if_eq B d_Mo_languages_55 rfl (fun _ => ?_) (fun _ => ?_)
    · refine s_iconst (v := (0:Int32)) B d_Mo_languages_62 (by decide) ?_
      refine s_pick (lv1 := [(0, .ref 97), (2, .int l2), (3, .int l3), (4, .int l4), (5, .int l5)]) [0, 2, 3, 4, 5] rfl ?_
      exact t_Mo_languages_63 B hk36 l2 l3 l4 l5 l5 (0:Int32) M
    · refine s_iconst (v := (1:Int32)) B d_Mo_languages_58 (by decide) ?_
      refine s_goto B d_Mo_languages_59 rfl ?_
      refine s_pick (lv1 := [(0, .ref 97), (2, .int l2), (3, .int l3), (4, .int l4), (5, .int l5)]) [0, 2, 3, 4, 5] rfl ?_
      exact t_Mo_languages_63 B hk36 l2 l3 l4 l5 l5 (1:Int32) M
set_option maxRecDepth 100000 in
set_option maxHeartbeats 4000000 in
theorem t_Mo_languages_36  (B : xB p R s m args meth c b_Mo_languages 7 R_Mo (Cond.code y_Mo_languages b_Mo_languages 7 (some .int) :: x_T) (some .int) 7 174 D x_cl (xty g) base)  (l2 : Int32) (l3 : Int32) (l4 : Int32) (l5 : Int32) (M : MS)  : Sn p l e R s m args below meth c 7 D x_cl base (xwd g) cM x_g0 az kz (xfc cM) (xZ below args s D x_cl (xty g) base (xwd g) cM x_g0 az kz ovI) 36 [] [(0, .ref 97), (2, .int l2), (3, .int l3), (4, .int l4), (5, .int l5)] M (m_Mo_languages_36 (l2, l3, l4, l5, M)) := by
  have q : ∀ (F : Nat) (i : Int32 × Int32 × Int32 × Int32 × MS), Sn p l e R s m args below meth c 7 D x_cl base (xwd g) cM x_g0 az kz (xfc cM) (xZ below args s D x_cl (xty g) base (xwd g) cM x_g0 az kz ovI) 36 [] [(0, .ref 97), (2, .int i.1), (3, .int i.2.1), (4, .int i.2.2.1), (5, .int i.2.2.2.1)] i.2.2.2.2 (fx (fun (k : Int32 × Int32 × Int32 × Int32 × MS → Option (MS × Int32)) (i : Int32 × Int32 × Int32 × Int32 × MS) => m_Mo_languages_36b k i.1 i.2.1 i.2.2.1 i.2.2.2.1 i.2.2.2.2) F i) := by
    intro F
    induction F with
    | zero => intro i ; exact s_none
    | succ F ih => intro i ; exact t_Mo_languages_36b B  (fun l2 l3 l4 l5 M  => ih (l2, l3, l4, l5, M) ) i.1 i.2.1 i.2.2.1 i.2.2.2.1 i.2.2.2.2 
  exact q FU (l2, l3, l4, l5, M) 
set_option maxRecDepth 100000 in
set_option maxHeartbeats 4000000 in
theorem t_Mo_languages_13  (B : xB p R s m args meth c b_Mo_languages 7 R_Mo (Cond.code y_Mo_languages b_Mo_languages 7 (some .int) :: x_T) (some .int) 7 174 D x_cl (xty g) base)  (l1 : Int32) (s1 : Int32) (M : MS)  : Sn p l e R s m args below meth c 7 D x_cl base (xwd g) cM x_g0 az kz (xfc cM) (xZ below args s D x_cl (xty g) base (xwd g) cM x_g0 az kz ovI) 13 [.int s1, .ref 97] [(0, .ref 97), (1, .int l1)] M (m_Mo_languages_13 l1 s1 M) := by
  unfold m_Mo_languages_13
  refine s_iconst (v := (0:Int32)) B d_Mo_languages_13 (by decide) ?_
  refine s_pick (lv1 := [(0, .ref 97), (1, .int l1)]) [0, 1] rfl ?_
  refine s_callI (av := [.ref 97, .int s1, .int (0:Int32)]) (rest := []) B (lk_V B d_Mo_languages_14 (gl_Mo_161 _) rfl hv_Mo_fails (by decide) (by decide)) rfl (x_rcV B xc_Mo kd_97) (fun _ _ => rfl) rfl rfl (by simp [Value.category]) rfl (fun r1 e9 => ct_Mo_fails _ _ _ r1 e9) (fun r1 _ => ?_)
  refine s_if_eq B d_Mo_languages_17 rfl (fun _ => ?_) (fun _ => ?_)
  · refine s_aload_n B d_Mo_languages_22 rfl ?_
    refine s_iload_n B d_Mo_languages_23 rfl ?_
    refine s_pick (lv1 := [(0, .ref 97)]) [0] rfl ?_
    refine s_callI (av := [.ref 97, .int l1]) (rest := []) B (lk_V B d_Mo_languages_24 (gl_Mo_183 _) rfl hv_Mo_explore (by decide) (by decide)) rfl (x_rcV B xc_Mo kd_97) (fun _ _ => rfl) rfl rfl (by simp [Value.category]) rfl (fun r2 e9 => ct_Mo_explore _ _ r2 e9) (fun r2 _ => ?_)
    refine s_istore_n B d_Mo_languages_27 (by decide) ?_
    refine s_iconst (v := (0:Int32)) B d_Mo_languages_28 (by decide) ?_
    refine s_istore_n B d_Mo_languages_29 (by decide) ?_
    refine s_iconst (v := (-1:Int32)) B d_Mo_languages_30 (by decide) ?_
    refine s_istore B d_Mo_languages_31 (by decide) ?_
    refine s_iconst (v := (0:Int32)) B d_Mo_languages_33 (by decide) ?_
    refine s_istore B d_Mo_languages_34 (by decide) ?_
    refine s_pick (lv1 := [(0, .ref 97), (2, .int r2.2), (3, .int (0:Int32)), (4, .int (-1:Int32)), (5, .int (0:Int32))]) [0, 2, 3, 4, 5] rfl ?_
    exact t_Mo_languages_36 B r2.2 (0:Int32) (-1:Int32) (0:Int32) r2.1
  · refine s_iconst (v := (0:Int32)) B d_Mo_languages_20 (by decide) ?_
    exact s_iret B d_Mo_languages_21
set_option maxRecDepth 100000 in
set_option maxHeartbeats 4000000 in
theorem t_Mo_languages (B : xB p R s m args meth c b_Mo_languages 7 R_Mo (Cond.code y_Mo_languages b_Mo_languages 7 (some .int) :: x_T) (some .int) 7 174 D x_cl (xty g) base) (a1 : Int32) (M : MS) : Sn p l e R s m args below meth c 7 D x_cl base (xwd g) cM x_g0 az kz (xfc cM) (xZ below args s D x_cl (xty g) base (xwd g) cM x_g0 az kz ovI) 0 [] [(0, .ref 97), (1, .int a1)] M (m_Mo_languages a1 M) := by
  unfold m_Mo_languages
  refine s_aload_n B d_Mo_languages_0 rfl ?_
  refine s_iload_n B d_Mo_languages_1 rfl ?_
  refine s_pick (lv1 := [(0, .ref 97), (1, .int a1)]) [0, 1] rfl ?_
  refine s_callI (av := [.int a1]) (rest := [.ref 97]) B (lk_S B d_Mo_languages_2 (gl_Mo_158 _) (List.mem_cons_of_mem _ st_Mo_isSlot) (List.mem_cons_of_mem _ in_Mo) (List.mem_cons_of_mem _ ml_Mo_158) rfl hs_Mo_isSlot (by decide) (by decide)) rfl x_rcS (fun _ _ => rfl) rfl rfl (by simp [Value.category]) rfl (fun r1 e9 => ct_Mo_isSlot _ _ r1 e9) (fun r1 _ => ?_)
  refine s_if_ne B d_Mo_languages_5 rfl (fun _ => ?_) (fun _ => ?_)
  · refine s_iconst (v := (0:Int32)) B d_Mo_languages_12 (by decide) ?_
    refine s_pick (lv1 := [(0, .ref 97), (1, .int a1)]) [0, 1] rfl ?_
    exact t_Mo_languages_13 B a1 (0:Int32) r1.1
  · refine s_iconst (v := (1:Int32)) B d_Mo_languages_8 (by decide) ?_
    refine s_goto B d_Mo_languages_9 rfl ?_
    refine s_pick (lv1 := [(0, .ref 97), (1, .int a1)]) [0, 1] rfl ?_
    exact t_Mo_languages_13 B a1 (1:Int32) r1.1
set_option maxRecDepth 100000 in
set_option maxHeartbeats 4000000 in
theorem ct_Mo_languages {l : Launch} {D : va_G} {base : Nat} {g : Nat → ClassId} (a1 : Int32) (M : MS) (r : MS × Int32) (hr : m_Mo_languages a1 M = some r) : Ct l y_Mo_languages (Cond.code y_Mo_languages b_Mo_languages 7 (some .int) :: x_T) 7 174 D x_cl (xty g) base (xwd g) cM x_g0 [.ref 97, .int a1] M r.1 (ovI r.2) :=
  x_met (ov := ovI) (by decide) (Nat.le_of_ble_eq_true rfl) (fun p e R s m args below meth c az B => t_Mo_languages B a1 M) r hr
end
theorem d_Mo_tell_0 : decode b_Mo_tell 0 = .ok (.aload_n 0, 1) := by decide +kernel
theorem d_Mo_tell_1 : decode b_Mo_tell 1 = .ok (.iconst (0), 1) := by decide +kernel
theorem d_Mo_tell_2 : decode b_Mo_tell 2 = .ok (.putfield 83, 3) := by decide +kernel
theorem d_Mo_tell_5 : decode b_Mo_tell 5 = .ok (.iload_n 1, 1) := by decide +kernel
theorem d_Mo_tell_6 : decode b_Mo_tell 6 = .ok (.istore_n 2, 1) := by decide +kernel
theorem d_Mo_tell_7 : decode b_Mo_tell 7 = .ok (.aload_n 0, 1) := by decide +kernel
theorem d_Mo_tell_8 : decode b_Mo_tell 8 = .ok (.getfield 74, 3) := by decide +kernel
theorem d_Mo_tell_11 : decode b_Mo_tell 11 = .ok (.iload_n 2, 1) := by decide +kernel
theorem d_Mo_tell_12 : decode b_Mo_tell 12 = .ok (.iaload, 1) := by decide +kernel
theorem d_Mo_tell_13 : decode b_Mo_tell 13 = .ok (.iconst (-1), 1) := by decide +kernel
theorem d_Mo_tell_14 : decode b_Mo_tell 14 = .ok (.if_icmp .eq (25), 3) := by decide +kernel
theorem d_Mo_tell_17 : decode b_Mo_tell 17 = .ok (.aload_n 0, 1) := by decide +kernel
theorem d_Mo_tell_18 : decode b_Mo_tell 18 = .ok (.dup, 1) := by decide +kernel
theorem d_Mo_tell_19 : decode b_Mo_tell 19 = .ok (.getfield 83, 3) := by decide +kernel
theorem d_Mo_tell_22 : decode b_Mo_tell 22 = .ok (.iconst (1), 1) := by decide +kernel
theorem d_Mo_tell_23 : decode b_Mo_tell 23 = .ok (.iadd, 1) := by decide +kernel
theorem d_Mo_tell_24 : decode b_Mo_tell 24 = .ok (.putfield 83, 3) := by decide +kernel
theorem d_Mo_tell_27 : decode b_Mo_tell 27 = .ok (.aload_n 0, 1) := by decide +kernel
theorem d_Mo_tell_28 : decode b_Mo_tell 28 = .ok (.getfield 74, 3) := by decide +kernel
theorem d_Mo_tell_31 : decode b_Mo_tell 31 = .ok (.iload_n 2, 1) := by decide +kernel
theorem d_Mo_tell_32 : decode b_Mo_tell 32 = .ok (.iaload, 1) := by decide +kernel
theorem d_Mo_tell_33 : decode b_Mo_tell 33 = .ok (.iconst (4), 1) := by decide +kernel
theorem d_Mo_tell_34 : decode b_Mo_tell 34 = .ok (.idiv, 1) := by decide +kernel
theorem d_Mo_tell_35 : decode b_Mo_tell 35 = .ok (.istore_n 2, 1) := by decide +kernel
theorem d_Mo_tell_36 : decode b_Mo_tell 36 = .ok (.goto (-29), 3) := by decide +kernel
theorem d_Mo_tell_39 : decode b_Mo_tell 39 = .ok (.aload_n 0, 1) := by decide +kernel
theorem d_Mo_tell_40 : decode b_Mo_tell 40 = .ok (.getfield 83, 3) := by decide +kernel
theorem d_Mo_tell_43 : decode b_Mo_tell 43 = .ok (.istore_n 2, 1) := by decide +kernel
theorem d_Mo_tell_44 : decode b_Mo_tell 44 = .ok (.iload_n 1, 1) := by decide +kernel
theorem d_Mo_tell_45 : decode b_Mo_tell 45 = .ok (.istore_n 3, 1) := by decide +kernel
theorem d_Mo_tell_46 : decode b_Mo_tell 46 = .ok (.aload_n 0, 1) := by decide +kernel
theorem d_Mo_tell_47 : decode b_Mo_tell 47 = .ok (.getfield 74, 3) := by decide +kernel
theorem d_Mo_tell_50 : decode b_Mo_tell 50 = .ok (.iload_n 3, 1) := by decide +kernel
theorem d_Mo_tell_51 : decode b_Mo_tell 51 = .ok (.iaload, 1) := by decide +kernel
theorem d_Mo_tell_52 : decode b_Mo_tell 52 = .ok (.iconst (-1), 1) := by decide +kernel
theorem d_Mo_tell_53 : decode b_Mo_tell 53 = .ok (.if_icmp .eq (32), 3) := by decide +kernel
theorem d_Mo_tell_56 : decode b_Mo_tell 56 = .ok (.iinc 2 (-1), 3) := by decide +kernel
theorem d_Mo_tell_59 : decode b_Mo_tell 59 = .ok (.aload_n 0, 1) := by decide +kernel
theorem d_Mo_tell_60 : decode b_Mo_tell 60 = .ok (.getfield 77, 3) := by decide +kernel
theorem d_Mo_tell_63 : decode b_Mo_tell 63 = .ok (.iload_n 2, 1) := by decide +kernel
theorem d_Mo_tell_64 : decode b_Mo_tell 64 = .ok (.aload_n 0, 1) := by decide +kernel
theorem d_Mo_tell_65 : decode b_Mo_tell 65 = .ok (.getfield 74, 3) := by decide +kernel
theorem d_Mo_tell_68 : decode b_Mo_tell 68 = .ok (.iload_n 3, 1) := by decide +kernel
theorem d_Mo_tell_69 : decode b_Mo_tell 69 = .ok (.iaload, 1) := by decide +kernel
theorem d_Mo_tell_70 : decode b_Mo_tell 70 = .ok (.iconst (4), 1) := by decide +kernel
theorem d_Mo_tell_71 : decode b_Mo_tell 71 = .ok (.irem, 1) := by decide +kernel
theorem d_Mo_tell_72 : decode b_Mo_tell 72 = .ok (.iastore, 1) := by decide +kernel
theorem d_Mo_tell_73 : decode b_Mo_tell 73 = .ok (.aload_n 0, 1) := by decide +kernel
theorem d_Mo_tell_74 : decode b_Mo_tell 74 = .ok (.getfield 74, 3) := by decide +kernel
theorem d_Mo_tell_77 : decode b_Mo_tell 77 = .ok (.iload_n 3, 1) := by decide +kernel
theorem d_Mo_tell_78 : decode b_Mo_tell 78 = .ok (.iaload, 1) := by decide +kernel
theorem d_Mo_tell_79 : decode b_Mo_tell 79 = .ok (.iconst (4), 1) := by decide +kernel
theorem d_Mo_tell_80 : decode b_Mo_tell 80 = .ok (.idiv, 1) := by decide +kernel
theorem d_Mo_tell_81 : decode b_Mo_tell 81 = .ok (.istore_n 3, 1) := by decide +kernel
theorem d_Mo_tell_82 : decode b_Mo_tell 82 = .ok (.goto (-36), 3) := by decide +kernel
theorem d_Mo_tell_85 : decode b_Mo_tell 85 = .ok (.return_, 1) := by decide +kernel
section
variable {p : Program} {l : Launch} {e : Env} {R : Room} {s : State} {m : MethodId} {args : Array Value} {below : List Frame} {meth : Method} {c : Code} {D : va_G} {base : Nat} {g : Nat → ClassId} {az : Nat → Nat} {kz : Nat × Nat}
set_option maxRecDepth 100000 in
set_option maxHeartbeats 4000000 in
theorem t_Mo_tell_46b {k46 : Int32 × Int32 × MS → Option (MS × Unit)} (B : xB p R s m args meth c b_Mo_tell 4 R_Mo (Cond.code y_Mo_tell b_Mo_tell 4 none :: x_T) none 0 0 D x_cl (xty g) base) (hk46 : ∀ (l2 : Int32) (l3 : Int32) (M : MS) , Sn p l e R s m args below meth c 4 D x_cl base (xwd g) cM x_g0 az kz (xfc cM) (xZ below args s D x_cl (xty g) base (xwd g) cM x_g0 az kz ovU) 46 [] [(0, .ref 97), (2, .int l2), (3, .int l3)] M (k46 (l2, l3, M))) (l2 : Int32) (l3 : Int32) (M : MS)  : Sn p l e R s m args below meth c 4 D x_cl base (xwd g) cM x_g0 az kz (xfc cM) (xZ below args s D x_cl (xty g) base (xwd g) cM x_g0 az kz ovU) 46 [] [(0, .ref 97), (2, .int l2), (3, .int l3)] M (m_Mo_tell_46b k46 l2 l3 M) := by
  unfold m_Mo_tell_46b
  refine s_aload_n B d_Mo_tell_46 rfl ?_
  refine s_getS (k := 24) (n := 118) B xc_Mo kd_97 (by decide) rfl rfl fl_Mo_74 sr_97_24 d_Mo_tell_47 ?_
  refine s_iload_n B d_Mo_tell_50 rfl ?_
  refine s_iald B (Or.inl kd_118) d_Mo_tell_51 (fun v1 _ => ?_)
  refine s_iconst (v := (-1:Int32)) B d_Mo_tell_52 (by decide) ?_
  refine s_icmp_eq B d_Mo_tell_53 rfl (fun _ => ?_) (fun _ => ?_)
  · exact s_vret B d_Mo_tell_85
  · refine s_iinc (w := (-1:Int32)) B d_Mo_tell_56 rfl (by decide) (by decide) ?_
    refine s_aload_n B d_Mo_tell_59 rfl ?_
    refine s_getS (k := 25) (n := 119) B xc_Mo kd_97 (by decide) rfl rfl fl_Mo_77 sr_97_25 d_Mo_tell_60 ?_
    refine s_iload_n B d_Mo_tell_63 rfl ?_
    refine s_aload_n B d_Mo_tell_64 rfl ?_
    refine s_getS (k := 24) (n := 118) B xc_Mo kd_97 (by decide) rfl rfl fl_Mo_74 sr_97_24 d_Mo_tell_65 ?_
    refine s_iload_n B d_Mo_tell_68 rfl ?_
    refine s_iald B (Or.inl kd_118) d_Mo_tell_69 (fun v2 _ => ?_)
    refine s_iconst (v := (4:Int32)) B d_Mo_tell_70 (by decide) ?_
    refine s_irem B d_Mo_tell_71 (by decide) ?_
    refine s_iast B (Or.inl kd_119) d_Mo_tell_72 (fun M3 _ => ?_)
    refine s_aload_n B d_Mo_tell_73 rfl ?_
    refine s_getS (k := 24) (n := 118) B xc_Mo kd_97 (by decide) rfl rfl fl_Mo_74 sr_97_24 d_Mo_tell_74 ?_
    refine s_iload_n B d_Mo_tell_77 rfl ?_
    refine s_iald B (Or.inl kd_118) d_Mo_tell_78 (fun v4 _ => ?_)
    refine s_iconst (v := (4:Int32)) B d_Mo_tell_79 (by decide) ?_
    refine s_idiv B d_Mo_tell_80 (by decide) ?_
    refine s_istore_n B d_Mo_tell_81 (by decide) ?_
    refine s_goto B d_Mo_tell_82 rfl ?_
    refine s_pick (lv1 := [(0, .ref 97), (2, .int (l2 + (-1:Int32))), (3, .int (v4 / (4:Int32)))]) [0, 2, 3] rfl ?_
    exact hk46 (l2 + (-1:Int32)) (v4 / (4:Int32)) M3
set_option maxRecDepth 100000 in
set_option maxHeartbeats 4000000 in
theorem t_Mo_tell_46  (B : xB p R s m args meth c b_Mo_tell 4 R_Mo (Cond.code y_Mo_tell b_Mo_tell 4 none :: x_T) none 0 0 D x_cl (xty g) base)  (l2 : Int32) (l3 : Int32) (M : MS)  : Sn p l e R s m args below meth c 4 D x_cl base (xwd g) cM x_g0 az kz (xfc cM) (xZ below args s D x_cl (xty g) base (xwd g) cM x_g0 az kz ovU) 46 [] [(0, .ref 97), (2, .int l2), (3, .int l3)] M (m_Mo_tell_46 (l2, l3, M)) := by
  have q : ∀ (F : Nat) (i : Int32 × Int32 × MS), Sn p l e R s m args below meth c 4 D x_cl base (xwd g) cM x_g0 az kz (xfc cM) (xZ below args s D x_cl (xty g) base (xwd g) cM x_g0 az kz ovU) 46 [] [(0, .ref 97), (2, .int i.1), (3, .int i.2.1)] i.2.2 (fx (fun (k : Int32 × Int32 × MS → Option (MS × Unit)) (i : Int32 × Int32 × MS) => m_Mo_tell_46b k i.1 i.2.1 i.2.2) F i) := by
    intro F
    induction F with
    | zero => intro i ; exact s_none
    | succ F ih => intro i ; exact t_Mo_tell_46b B  (fun l2 l3 M  => ih (l2, l3, M) ) i.1 i.2.1 i.2.2 
  exact q FU (l2, l3, M) 
set_option maxRecDepth 100000 in
set_option maxHeartbeats 4000000 in
theorem t_Mo_tell_7b {k7 : Int32 × Int32 × MS → Option (MS × Unit)} (B : xB p R s m args meth c b_Mo_tell 4 R_Mo (Cond.code y_Mo_tell b_Mo_tell 4 none :: x_T) none 0 0 D x_cl (xty g) base) (hk7 : ∀ (l1 : Int32) (l2 : Int32) (M : MS) , Sn p l e R s m args below meth c 4 D x_cl base (xwd g) cM x_g0 az kz (xfc cM) (xZ below args s D x_cl (xty g) base (xwd g) cM x_g0 az kz ovU) 7 [] [(0, .ref 97), (1, .int l1), (2, .int l2)] M (k7 (l1, l2, M))) (l1 : Int32) (l2 : Int32) (M : MS)  : Sn p l e R s m args below meth c 4 D x_cl base (xwd g) cM x_g0 az kz (xfc cM) (xZ below args s D x_cl (xty g) base (xwd g) cM x_g0 az kz ovU) 7 [] [(0, .ref 97), (1, .int l1), (2, .int l2)] M (m_Mo_tell_7b k7 l1 l2 M) := by
  unfold m_Mo_tell_7b
  refine s_aload_n B d_Mo_tell_7 rfl ?_
  refine s_getS (k := 24) (n := 118) B xc_Mo kd_97 (by decide) rfl rfl fl_Mo_74 sr_97_24 d_Mo_tell_8 ?_
  refine s_iload_n B d_Mo_tell_11 rfl ?_
  refine s_iald B (Or.inl kd_118) d_Mo_tell_12 (fun v1 _ => ?_)
  refine s_iconst (v := (-1:Int32)) B d_Mo_tell_13 (by decide) ?_
  refine s_icmp_eq B d_Mo_tell_14 rfl (fun _ => ?_) (fun _ => ?_)
  · refine s_aload_n B d_Mo_tell_39 rfl ?_
    refine s_getI (k := 27) B xc_Mo kd_97 (by decide) rfl rfl fl_Mo_83 d_Mo_tell_40 ?_
    refine s_istore_n B d_Mo_tell_43 (by decide) ?_
    refine s_iload_n B d_Mo_tell_44 rfl ?_
    refine s_istore_n B d_Mo_tell_45 (by decide) ?_
    refine s_pick (lv1 := [(0, .ref 97), (2, .int (gI M 97 27)), (3, .int l1)]) [0, 2, 3] rfl ?_
    exact t_Mo_tell_46 B (gI M 97 27) l1 M
  · refine s_aload_n B d_Mo_tell_17 rfl ?_
    refine s_dup B d_Mo_tell_18 rfl ?_
    refine s_getI (k := 27) B xc_Mo kd_97 (by decide) rfl rfl fl_Mo_83 d_Mo_tell_19 ?_
    refine s_iconst (v := (1:Int32)) B d_Mo_tell_22 (by decide) ?_
    refine s_iadd B d_Mo_tell_23 ?_
    refine s_putI (k := 27) (ty := .int) B xc_Mo kd_97 (by decide) rfl rfl fl_Mo_83 rfl rfl rfl rfl d_Mo_tell_24 (fun M2 _ => ?_)
    refine s_aload_n B d_Mo_tell_27 rfl ?_
    refine s_getS (k := 24) (n := 118) B xc_Mo kd_97 (by decide) rfl rfl fl_Mo_74 sr_97_24 d_Mo_tell_28 ?_
    refine s_iload_n B d_Mo_tell_31 rfl ?_
    refine s_iald B (Or.inl kd_118) d_Mo_tell_32 (fun v3 _ => ?_)
    refine s_iconst (v := (4:Int32)) B d_Mo_tell_33 (by decide) ?_
    refine s_idiv B d_Mo_tell_34 (by decide) ?_
    refine s_istore_n B d_Mo_tell_35 (by decide) ?_
    refine s_goto B d_Mo_tell_36 rfl ?_
    refine s_pick (lv1 := [(0, .ref 97), (1, .int l1), (2, .int (v3 / (4:Int32)))]) [0, 1, 2] rfl ?_
    exact hk7 l1 (v3 / (4:Int32)) M2
set_option maxRecDepth 100000 in
set_option maxHeartbeats 4000000 in
theorem t_Mo_tell_7  (B : xB p R s m args meth c b_Mo_tell 4 R_Mo (Cond.code y_Mo_tell b_Mo_tell 4 none :: x_T) none 0 0 D x_cl (xty g) base)  (l1 : Int32) (l2 : Int32) (M : MS)  : Sn p l e R s m args below meth c 4 D x_cl base (xwd g) cM x_g0 az kz (xfc cM) (xZ below args s D x_cl (xty g) base (xwd g) cM x_g0 az kz ovU) 7 [] [(0, .ref 97), (1, .int l1), (2, .int l2)] M (m_Mo_tell_7 (l1, l2, M)) := by
  have q : ∀ (F : Nat) (i : Int32 × Int32 × MS), Sn p l e R s m args below meth c 4 D x_cl base (xwd g) cM x_g0 az kz (xfc cM) (xZ below args s D x_cl (xty g) base (xwd g) cM x_g0 az kz ovU) 7 [] [(0, .ref 97), (1, .int i.1), (2, .int i.2.1)] i.2.2 (fx (fun (k : Int32 × Int32 × MS → Option (MS × Unit)) (i : Int32 × Int32 × MS) => m_Mo_tell_7b k i.1 i.2.1 i.2.2) F i) := by
    intro F
    induction F with
    | zero => intro i ; exact s_none
    | succ F ih => intro i ; exact t_Mo_tell_7b B  (fun l1 l2 M  => ih (l1, l2, M) ) i.1 i.2.1 i.2.2 
  exact q FU (l1, l2, M) 
set_option maxRecDepth 100000 in
set_option maxHeartbeats 4000000 in
theorem t_Mo_tell (B : xB p R s m args meth c b_Mo_tell 4 R_Mo (Cond.code y_Mo_tell b_Mo_tell 4 none :: x_T) none 0 0 D x_cl (xty g) base) (a1 : Int32) (M : MS) : Sn p l e R s m args below meth c 4 D x_cl base (xwd g) cM x_g0 az kz (xfc cM) (xZ below args s D x_cl (xty g) base (xwd g) cM x_g0 az kz ovU) 0 [] [(0, .ref 97), (1, .int a1)] M (m_Mo_tell a1 M) := by
  unfold m_Mo_tell
  refine s_aload_n B d_Mo_tell_0 rfl ?_
  refine s_iconst (v := (0:Int32)) B d_Mo_tell_1 (by decide) ?_
  refine s_putI (k := 27) (ty := .int) B xc_Mo kd_97 (by decide) rfl rfl fl_Mo_83 rfl rfl rfl rfl d_Mo_tell_2 (fun M1 _ => ?_)
  refine s_iload_n B d_Mo_tell_5 rfl ?_
  refine s_istore_n B d_Mo_tell_6 (by decide) ?_
  refine s_pick (lv1 := [(0, .ref 97), (1, .int a1), (2, .int a1)]) [0, 1, 2] rfl ?_
  exact t_Mo_tell_7 B a1 a1 M1
set_option maxRecDepth 100000 in
set_option maxHeartbeats 4000000 in
theorem ct_Mo_tell {l : Launch} {D : va_G} {base : Nat} {g : Nat → ClassId} (a1 : Int32) (M : MS) (r : MS × Unit) (hr : m_Mo_tell a1 M = some r) : Ct l y_Mo_tell (Cond.code y_Mo_tell b_Mo_tell 4 none :: x_T) 0 0 D x_cl (xty g) base (xwd g) cM x_g0 [.ref 97, .int a1] M r.1 (ovU r.2) :=
  x_met (ov := ovU) (by decide) (Nat.le_of_ble_eq_true rfl) (fun p e R s m args below meth c az B => t_Mo_tell B a1 M) r hr
end
theorem d_Mo_equal_0 : decode b_Mo_equal 0 = .ok (.aload_n 0, 1) := by decide +kernel
theorem d_Mo_equal_1 : decode b_Mo_equal 1 = .ok (.iload_n 1, 1) := by decide +kernel
theorem d_Mo_equal_2 : decode b_Mo_equal 2 = .ok (.invokestatic 158, 3) := by decide +kernel
theorem d_Mo_equal_5 : decode b_Mo_equal 5 = .ok (.ifCond .eq (10), 3) := by decide +kernel
theorem d_Mo_equal_8 : decode b_Mo_equal 8 = .ok (.iload_n 2, 1) := by decide +kernel
theorem d_Mo_equal_9 : decode b_Mo_equal 9 = .ok (.invokestatic 158, 3) := by decide +kernel
theorem d_Mo_equal_12 : decode b_Mo_equal 12 = .ok (.ifCond .ne (7), 3) := by decide +kernel
theorem d_Mo_equal_15 : decode b_Mo_equal 15 = .ok (.iconst (1), 1) := by decide +kernel
theorem d_Mo_equal_16 : decode b_Mo_equal 16 = .ok (.goto (4), 3) := by decide +kernel
theorem d_Mo_equal_19 : decode b_Mo_equal 19 = .ok (.iconst (0), 1) := by decide +kernel
theorem d_Mo_equal_20 : decode b_Mo_equal 20 = .ok (.iconst (0), 1) := by decide +kernel
theorem d_Mo_equal_21 : decode b_Mo_equal 21 = .ok (.invokevirtual 161, 3) := by decide +kernel
theorem d_Mo_equal_24 : decode b_Mo_equal 24 = .ok (.ifCond .eq (5), 3) := by decide +kernel
theorem d_Mo_equal_27 : decode b_Mo_equal 27 = .ok (.iconst (0), 1) := by decide +kernel
theorem d_Mo_equal_28 : decode b_Mo_equal 28 = .ok (.ireturn, 1) := by decide +kernel
theorem d_Mo_equal_29 : decode b_Mo_equal 29 = .ok (.aload_n 0, 1) := by decide +kernel
theorem d_Mo_equal_30 : decode b_Mo_equal 30 = .ok (.iconst (-1), 1) := by decide +kernel
theorem d_Mo_equal_31 : decode b_Mo_equal 31 = .ok (.putfield 83, 3) := by decide +kernel
theorem d_Mo_equal_34 : decode b_Mo_equal 34 = .ok (.aload_n 0, 1) := by decide +kernel
theorem d_Mo_equal_35 : decode b_Mo_equal 35 = .ok (.iload_n 1, 1) := by decide +kernel
theorem d_Mo_equal_36 : decode b_Mo_equal 36 = .ok (.invokevirtual 183, 3) := by decide +kernel
theorem d_Mo_equal_39 : decode b_Mo_equal 39 = .ok (.iconst (-1), 1) := by decide +kernel
theorem d_Mo_equal_40 : decode b_Mo_equal 40 = .ok (.if_icmp .ne (5), 3) := by decide +kernel
theorem d_Mo_equal_43 : decode b_Mo_equal 43 = .ok (.iconst (-1), 1) := by decide +kernel
theorem d_Mo_equal_44 : decode b_Mo_equal 44 = .ok (.ireturn, 1) := by decide +kernel
theorem d_Mo_equal_45 : decode b_Mo_equal 45 = .ok (.iconst (0), 1) := by decide +kernel
theorem d_Mo_equal_46 : decode b_Mo_equal 46 = .ok (.istore_n 3, 1) := by decide +kernel
theorem d_Mo_equal_47 : decode b_Mo_equal 47 = .ok (.iload_n 3, 1) := by decide +kernel
theorem d_Mo_equal_48 : decode b_Mo_equal 48 = .ok (.sipush (600), 3) := by decide +kernel
theorem d_Mo_equal_51 : decode b_Mo_equal 51 = .ok (.if_icmp .ge (21), 3) := by decide +kernel
theorem d_Mo_equal_54 : decode b_Mo_equal 54 = .ok (.aload_n 0, 1) := by decide +kernel
theorem d_Mo_equal_55 : decode b_Mo_equal 55 = .ok (.getfield 52, 3) := by decide +kernel
theorem d_Mo_equal_58 : decode b_Mo_equal 58 = .ok (.iload_n 3, 1) := by decide +kernel
theorem d_Mo_equal_59 : decode b_Mo_equal 59 = .ok (.aload_n 0, 1) := by decide +kernel
theorem d_Mo_equal_60 : decode b_Mo_equal 60 = .ok (.getfield 49, 3) := by decide +kernel
theorem d_Mo_equal_63 : decode b_Mo_equal 63 = .ok (.iload_n 3, 1) := by decide +kernel
theorem d_Mo_equal_64 : decode b_Mo_equal 64 = .ok (.iaload, 1) := by decide +kernel
theorem d_Mo_equal_65 : decode b_Mo_equal 65 = .ok (.iastore, 1) := by decide +kernel
theorem d_Mo_equal_66 : decode b_Mo_equal 66 = .ok (.iinc 3 (1), 3) := by decide +kernel
theorem d_Mo_equal_69 : decode b_Mo_equal 69 = .ok (.goto (-22), 3) := by decide +kernel
theorem d_Mo_equal_72 : decode b_Mo_equal 72 = .ok (.iconst (0), 1) := by decide +kernel
theorem d_Mo_equal_73 : decode b_Mo_equal 73 = .ok (.istore_n 3, 1) := by decide +kernel
theorem d_Mo_equal_74 : decode b_Mo_equal 74 = .ok (.iload_n 3, 1) := by decide +kernel
theorem d_Mo_equal_75 : decode b_Mo_equal 75 = .ok (.sipush (150), 3) := by decide +kernel
theorem d_Mo_equal_78 : decode b_Mo_equal 78 = .ok (.if_icmp .ge (21), 3) := by decide +kernel
theorem d_Mo_equal_81 : decode b_Mo_equal 81 = .ok (.aload_n 0, 1) := by decide +kernel
theorem d_Mo_equal_82 : decode b_Mo_equal 82 = .ok (.getfield 64, 3) := by decide +kernel
theorem d_Mo_equal_85 : decode b_Mo_equal 85 = .ok (.iload_n 3, 1) := by decide +kernel
theorem d_Mo_equal_86 : decode b_Mo_equal 86 = .ok (.aload_n 0, 1) := by decide +kernel
theorem d_Mo_equal_87 : decode b_Mo_equal 87 = .ok (.getfield 61, 3) := by decide +kernel
theorem d_Mo_equal_90 : decode b_Mo_equal 90 = .ok (.iload_n 3, 1) := by decide +kernel
theorem d_Mo_equal_91 : decode b_Mo_equal 91 = .ok (.baload, 1) := by decide +kernel
theorem d_Mo_equal_92 : decode b_Mo_equal 92 = .ok (.bastore, 1) := by decide +kernel
theorem d_Mo_equal_93 : decode b_Mo_equal 93 = .ok (.iinc 3 (1), 3) := by decide +kernel
theorem d_Mo_equal_96 : decode b_Mo_equal 96 = .ok (.goto (-22), 3) := by decide +kernel
theorem d_Mo_equal_99 : decode b_Mo_equal 99 = .ok (.aload_n 0, 1) := by decide +kernel
theorem d_Mo_equal_100 : decode b_Mo_equal 100 = .ok (.iload_n 2, 1) := by decide +kernel
theorem d_Mo_equal_101 : decode b_Mo_equal 101 = .ok (.invokevirtual 183, 3) := by decide +kernel
theorem d_Mo_equal_104 : decode b_Mo_equal 104 = .ok (.iconst (-1), 1) := by decide +kernel
theorem d_Mo_equal_105 : decode b_Mo_equal 105 = .ok (.if_icmp .ne (5), 3) := by decide +kernel
theorem d_Mo_equal_108 : decode b_Mo_equal 108 = .ok (.iconst (-1), 1) := by decide +kernel
theorem d_Mo_equal_109 : decode b_Mo_equal 109 = .ok (.ireturn, 1) := by decide +kernel
theorem d_Mo_equal_110 : decode b_Mo_equal 110 = .ok (.iconst (0), 1) := by decide +kernel
theorem d_Mo_equal_111 : decode b_Mo_equal 111 = .ok (.istore_n 3, 1) := by decide +kernel
theorem d_Mo_equal_112 : decode b_Mo_equal 112 = .ok (.iload_n 3, 1) := by decide +kernel
theorem d_Mo_equal_113 : decode b_Mo_equal 113 = .ok (.sipush (22500), 3) := by decide +kernel
theorem d_Mo_equal_116 : decode b_Mo_equal 116 = .ok (.if_icmp .ge (16), 3) := by decide +kernel
theorem d_Mo_equal_119 : decode b_Mo_equal 119 = .ok (.aload_n 0, 1) := by decide +kernel
theorem d_Mo_equal_120 : decode b_Mo_equal 120 = .ok (.getfield 80, 3) := by decide +kernel
theorem d_Mo_equal_123 : decode b_Mo_equal 123 = .ok (.iload_n 3, 1) := by decide +kernel
theorem d_Mo_equal_124 : decode b_Mo_equal 124 = .ok (.iconst (0), 1) := by decide +kernel
theorem d_Mo_equal_125 : decode b_Mo_equal 125 = .ok (.bastore, 1) := by decide +kernel
theorem d_Mo_equal_126 : decode b_Mo_equal 126 = .ok (.iinc 3 (1), 3) := by decide +kernel
theorem d_Mo_equal_129 : decode b_Mo_equal 129 = .ok (.goto (-17), 3) := by decide +kernel
theorem d_Mo_equal_132 : decode b_Mo_equal 132 = .ok (.aload_n 0, 1) := by decide +kernel
theorem d_Mo_equal_133 : decode b_Mo_equal 133 = .ok (.getfield 71, 3) := by decide +kernel
theorem d_Mo_equal_136 : decode b_Mo_equal 136 = .ok (.iconst (0), 1) := by decide +kernel
theorem d_Mo_equal_137 : decode b_Mo_equal 137 = .ok (.iconst (0), 1) := by decide +kernel
theorem d_Mo_equal_138 : decode b_Mo_equal 138 = .ok (.iastore, 1) := by decide +kernel
theorem d_Mo_equal_139 : decode b_Mo_equal 139 = .ok (.aload_n 0, 1) := by decide +kernel
theorem d_Mo_equal_140 : decode b_Mo_equal 140 = .ok (.getfield 74, 3) := by decide +kernel
theorem d_Mo_equal_143 : decode b_Mo_equal 143 = .ok (.iconst (0), 1) := by decide +kernel
theorem d_Mo_equal_144 : decode b_Mo_equal 144 = .ok (.iconst (-1), 1) := by decide +kernel
theorem d_Mo_equal_145 : decode b_Mo_equal 145 = .ok (.iastore, 1) := by decide +kernel
theorem d_Mo_equal_146 : decode b_Mo_equal 146 = .ok (.aload_n 0, 1) := by decide +kernel
theorem d_Mo_equal_147 : decode b_Mo_equal 147 = .ok (.getfield 80, 3) := by decide +kernel
theorem d_Mo_equal_150 : decode b_Mo_equal 150 = .ok (.iconst (0), 1) := by decide +kernel
theorem d_Mo_equal_151 : decode b_Mo_equal 151 = .ok (.iconst (1), 1) := by decide +kernel
theorem d_Mo_equal_152 : decode b_Mo_equal 152 = .ok (.bastore, 1) := by decide +kernel
theorem d_Mo_equal_153 : decode b_Mo_equal 153 = .ok (.iconst (1), 1) := by decide +kernel
theorem d_Mo_equal_154 : decode b_Mo_equal 154 = .ok (.istore_n 3, 1) := by decide +kernel
theorem d_Mo_equal_155 : decode b_Mo_equal 155 = .ok (.iconst (0), 1) := by decide +kernel
theorem d_Mo_equal_156 : decode b_Mo_equal 156 = .ok (.istore 4, 2) := by decide +kernel
theorem d_Mo_equal_158 : decode b_Mo_equal 158 = .ok (.iload 4, 2) := by decide +kernel
theorem d_Mo_equal_160 : decode b_Mo_equal 160 = .ok (.iload_n 3, 1) := by decide +kernel
theorem d_Mo_equal_161 : decode b_Mo_equal 161 = .ok (.if_icmp .ge (151), 3) := by decide +kernel
theorem d_Mo_equal_164 : decode b_Mo_equal 164 = .ok (.aload_n 0, 1) := by decide +kernel
theorem d_Mo_equal_165 : decode b_Mo_equal 165 = .ok (.getfield 71, 3) := by decide +kernel
theorem d_Mo_equal_168 : decode b_Mo_equal 168 = .ok (.iload 4, 2) := by decide +kernel
theorem d_Mo_equal_170 : decode b_Mo_equal 170 = .ok (.iaload, 1) := by decide +kernel
theorem d_Mo_equal_171 : decode b_Mo_equal 171 = .ok (.sipush (150), 3) := by decide +kernel
theorem d_Mo_equal_174 : decode b_Mo_equal 174 = .ok (.idiv, 1) := by decide +kernel
theorem d_Mo_equal_175 : decode b_Mo_equal 175 = .ok (.istore 5, 2) := by decide +kernel
theorem d_Mo_equal_177 : decode b_Mo_equal 177 = .ok (.aload_n 0, 1) := by decide +kernel
theorem d_Mo_equal_178 : decode b_Mo_equal 178 = .ok (.getfield 71, 3) := by decide +kernel
theorem d_Mo_equal_181 : decode b_Mo_equal 181 = .ok (.iload 4, 2) := by decide +kernel
theorem d_Mo_equal_183 : decode b_Mo_equal 183 = .ok (.iaload, 1) := by decide +kernel
theorem d_Mo_equal_184 : decode b_Mo_equal 184 = .ok (.sipush (150), 3) := by decide +kernel
theorem d_Mo_equal_187 : decode b_Mo_equal 187 = .ok (.irem, 1) := by decide +kernel
theorem d_Mo_equal_188 : decode b_Mo_equal 188 = .ok (.istore 6, 2) := by decide +kernel
theorem d_Mo_equal_190 : decode b_Mo_equal 190 = .ok (.aload_n 0, 1) := by decide +kernel
theorem d_Mo_equal_191 : decode b_Mo_equal 191 = .ok (.getfield 64, 3) := by decide +kernel
theorem d_Mo_equal_194 : decode b_Mo_equal 194 = .ok (.iload 5, 2) := by decide +kernel
theorem d_Mo_equal_196 : decode b_Mo_equal 196 = .ok (.baload, 1) := by decide +kernel
theorem d_Mo_equal_197 : decode b_Mo_equal 197 = .ok (.aload_n 0, 1) := by decide +kernel
theorem d_Mo_equal_198 : decode b_Mo_equal 198 = .ok (.getfield 61, 3) := by decide +kernel
theorem d_Mo_equal_201 : decode b_Mo_equal 201 = .ok (.iload 6, 2) := by decide +kernel
theorem d_Mo_equal_203 : decode b_Mo_equal 203 = .ok (.baload, 1) := by decide +kernel
theorem d_Mo_equal_204 : decode b_Mo_equal 204 = .ok (.if_icmp .eq (11), 3) := by decide +kernel
theorem d_Mo_equal_207 : decode b_Mo_equal 207 = .ok (.aload_n 0, 1) := by decide +kernel
theorem d_Mo_equal_208 : decode b_Mo_equal 208 = .ok (.iload 4, 2) := by decide +kernel
theorem d_Mo_equal_210 : decode b_Mo_equal 210 = .ok (.invokevirtual 190, 3) := by decide +kernel
theorem d_Mo_equal_213 : decode b_Mo_equal 213 = .ok (.iconst (0), 1) := by decide +kernel
theorem d_Mo_equal_214 : decode b_Mo_equal 214 = .ok (.ireturn, 1) := by decide +kernel
theorem d_Mo_equal_215 : decode b_Mo_equal 215 = .ok (.iconst (0), 1) := by decide +kernel
theorem d_Mo_equal_216 : decode b_Mo_equal 216 = .ok (.istore 7, 2) := by decide +kernel
theorem d_Mo_equal_218 : decode b_Mo_equal 218 = .ok (.iload 7, 2) := by decide +kernel
theorem d_Mo_equal_220 : decode b_Mo_equal 220 = .ok (.iconst (4), 1) := by decide +kernel
theorem d_Mo_equal_221 : decode b_Mo_equal 221 = .ok (.if_icmp .ge (85), 3) := by decide +kernel
theorem d_Mo_equal_224 : decode b_Mo_equal 224 = .ok (.sipush (150), 3) := by decide +kernel
theorem d_Mo_equal_227 : decode b_Mo_equal 227 = .ok (.aload_n 0, 1) := by decide +kernel
theorem d_Mo_equal_228 : decode b_Mo_equal 228 = .ok (.getfield 52, 3) := by decide +kernel
theorem d_Mo_equal_231 : decode b_Mo_equal 231 = .ok (.iconst (4), 1) := by decide +kernel
theorem d_Mo_equal_232 : decode b_Mo_equal 232 = .ok (.iload 5, 2) := by decide +kernel
theorem d_Mo_equal_234 : decode b_Mo_equal 234 = .ok (.imul, 1) := by decide +kernel
theorem d_Mo_equal_235 : decode b_Mo_equal 235 = .ok (.iload 7, 2) := by decide +kernel
theorem d_Mo_equal_237 : decode b_Mo_equal 237 = .ok (.iadd, 1) := by decide +kernel
theorem d_Mo_equal_238 : decode b_Mo_equal 238 = .ok (.iaload, 1) := by decide +kernel
theorem d_Mo_equal_239 : decode b_Mo_equal 239 = .ok (.imul, 1) := by decide +kernel
theorem d_Mo_equal_240 : decode b_Mo_equal 240 = .ok (.aload_n 0, 1) := by decide +kernel
theorem d_Mo_equal_241 : decode b_Mo_equal 241 = .ok (.getfield 49, 3) := by decide +kernel
theorem d_Mo_equal_244 : decode b_Mo_equal 244 = .ok (.iconst (4), 1) := by decide +kernel
theorem d_Mo_equal_245 : decode b_Mo_equal 245 = .ok (.iload 6, 2) := by decide +kernel
theorem d_Mo_equal_247 : decode b_Mo_equal 247 = .ok (.imul, 1) := by decide +kernel
theorem d_Mo_equal_248 : decode b_Mo_equal 248 = .ok (.iload 7, 2) := by decide +kernel
theorem d_Mo_equal_250 : decode b_Mo_equal 250 = .ok (.iadd, 1) := by decide +kernel
theorem d_Mo_equal_251 : decode b_Mo_equal 251 = .ok (.iaload, 1) := by decide +kernel
theorem d_Mo_equal_252 : decode b_Mo_equal 252 = .ok (.iadd, 1) := by decide +kernel
theorem d_Mo_equal_253 : decode b_Mo_equal 253 = .ok (.istore 8, 2) := by decide +kernel
theorem d_Mo_equal_255 : decode b_Mo_equal 255 = .ok (.aload_n 0, 1) := by decide +kernel
theorem d_Mo_equal_256 : decode b_Mo_equal 256 = .ok (.getfield 80, 3) := by decide +kernel
theorem d_Mo_equal_259 : decode b_Mo_equal 259 = .ok (.iload 8, 2) := by decide +kernel
theorem d_Mo_equal_261 : decode b_Mo_equal 261 = .ok (.baload, 1) := by decide +kernel
theorem d_Mo_equal_262 : decode b_Mo_equal 262 = .ok (.ifCond .eq (6), 3) := by decide +kernel
theorem d_Mo_equal_265 : decode b_Mo_equal 265 = .ok (.goto (35), 3) := by decide +kernel
theorem d_Mo_equal_268 : decode b_Mo_equal 268 = .ok (.aload_n 0, 1) := by decide +kernel
theorem d_Mo_equal_269 : decode b_Mo_equal 269 = .ok (.getfield 80, 3) := by decide +kernel
theorem d_Mo_equal_272 : decode b_Mo_equal 272 = .ok (.iload 8, 2) := by decide +kernel
theorem d_Mo_equal_274 : decode b_Mo_equal 274 = .ok (.iconst (1), 1) := by decide +kernel
theorem d_Mo_equal_275 : decode b_Mo_equal 275 = .ok (.bastore, 1) := by decide +kernel
theorem d_Mo_equal_276 : decode b_Mo_equal 276 = .ok (.aload_n 0, 1) := by decide +kernel
theorem d_Mo_equal_277 : decode b_Mo_equal 277 = .ok (.getfield 71, 3) := by decide +kernel
theorem d_Mo_equal_280 : decode b_Mo_equal 280 = .ok (.iload_n 3, 1) := by decide +kernel
theorem d_Mo_equal_281 : decode b_Mo_equal 281 = .ok (.iload 8, 2) := by decide +kernel
theorem d_Mo_equal_283 : decode b_Mo_equal 283 = .ok (.iastore, 1) := by decide +kernel
theorem d_Mo_equal_284 : decode b_Mo_equal 284 = .ok (.aload_n 0, 1) := by decide +kernel
theorem d_Mo_equal_285 : decode b_Mo_equal 285 = .ok (.getfield 74, 3) := by decide +kernel
theorem d_Mo_equal_288 : decode b_Mo_equal 288 = .ok (.iload_n 3, 1) := by decide +kernel
theorem d_Mo_equal_289 : decode b_Mo_equal 289 = .ok (.iconst (4), 1) := by decide +kernel
theorem d_Mo_equal_290 : decode b_Mo_equal 290 = .ok (.iload 4, 2) := by decide +kernel
theorem d_Mo_equal_292 : decode b_Mo_equal 292 = .ok (.imul, 1) := by decide +kernel
theorem d_Mo_equal_293 : decode b_Mo_equal 293 = .ok (.iload 7, 2) := by decide +kernel
theorem d_Mo_equal_295 : decode b_Mo_equal 295 = .ok (.iadd, 1) := by decide +kernel
theorem d_Mo_equal_296 : decode b_Mo_equal 296 = .ok (.iastore, 1) := by decide +kernel
theorem d_Mo_equal_297 : decode b_Mo_equal 297 = .ok (.iinc 3 (1), 3) := by decide +kernel
theorem d_Mo_equal_300 : decode b_Mo_equal 300 = .ok (.iinc 7 (1), 3) := by decide +kernel
theorem d_Mo_equal_303 : decode b_Mo_equal 303 = .ok (.goto (-85), 3) := by decide +kernel
theorem d_Mo_equal_306 : decode b_Mo_equal 306 = .ok (.iinc 4 (1), 3) := by decide +kernel
theorem d_Mo_equal_309 : decode b_Mo_equal 309 = .ok (.goto (-151), 3) := by decide +kernel
theorem d_Mo_equal_312 : decode b_Mo_equal 312 = .ok (.iconst (1), 1) := by decide +kernel
theorem d_Mo_equal_313 : decode b_Mo_equal 313 = .ok (.ireturn, 1) := by decide +kernel
section
variable {p : Program} {l : Launch} {e : Env} {R : Room} {s : State} {m : MethodId} {args : Array Value} {below : List Frame} {meth : Method} {c : Code} {D : va_G} {base : Nat} {g : Nat → ClassId} {az : Nat → Nat} {kz : Nat × Nat}
set_option maxRecDepth 100000 in
set_option maxHeartbeats 4000000 in
theorem t_Mo_equal_218b {k158 : Int32 × Int32 × MS → Option (MS × Int32)} {k218 : Int32 × Int32 × Int32 × Int32 × Int32 × MS → Option (MS × Int32)} (B : xB p R s m args meth c b_Mo_equal 9 R_Mo (Cond.code y_Mo_equal b_Mo_equal 9 (some .int) :: x_T) (some .int) 7 174 D x_cl (xty g) base) (hk158 : ∀ (l3 : Int32) (l4 : Int32) (M : MS) , Sn p l e R s m args below meth c 9 D x_cl base (xwd g) cM x_g0 az kz (xfc cM) (xZ below args s D x_cl (xty g) base (xwd g) cM x_g0 az kz ovI) 158 [] [(0, .ref 97), (3, .int l3), (4, .int l4)] M (k158 (l3, l4, M))) (hk218 : ∀ (l3 : Int32) (l4 : Int32) (l5 : Int32) (l6 : Int32) (l7 : Int32) (M : MS) , Sn p l e R s m args below meth c 9 D x_cl base (xwd g) cM x_g0 az kz (xfc cM) (xZ below args s D x_cl (xty g) base (xwd g) cM x_g0 az kz ovI) 218 [] [(0, .ref 97), (3, .int l3), (4, .int l4), (5, .int l5), (6, .int l6), (7, .int l7)] M (k218 (l3, l4, l5, l6, l7, M))) (l3 : Int32) (l4 : Int32) (l5 : Int32) (l6 : Int32) (l7 : Int32) (M : MS)  : Sn p l e R s m args below meth c 9 D x_cl base (xwd g) cM x_g0 az kz (xfc cM) (xZ below args s D x_cl (xty g) base (xwd g) cM x_g0 az kz ovI) 218 [] [(0, .ref 97), (3, .int l3), (4, .int l4), (5, .int l5), (6, .int l6), (7, .int l7)] M (m_Mo_equal_218b k158 k218 l3 l4 l5 l6 l7 M) := by
  unfold m_Mo_equal_218b
  refine s_iload B d_Mo_equal_218 rfl ?_
  refine s_iconst (v := (4:Int32)) B d_Mo_equal_220 (by decide) ?_
  refine s_icmp_ge B d_Mo_equal_221 rfl (fun _ => ?_) (fun _ => ?_)
  · refine s_iinc (w := (1:Int32)) B d_Mo_equal_306 rfl (by decide) (by decide) ?_
    refine s_goto B d_Mo_equal_309 rfl ?_
    refine s_pick (lv1 := [(0, .ref 97), (3, .int l3), (4, .int (l4 + (1:Int32)))]) [0, 3, 4] rfl ?_
    exact hk158 l3 (l4 + (1:Int32)) M
  · refine s_sipush (v := (150:Int32)) B d_Mo_equal_224 (by decide) ?_
    refine s_aload_n B d_Mo_equal_227 rfl ?_
    refine s_getS (k := 17) (n := 111) B xc_Mo kd_97 (by decide) rfl rfl fl_Mo_52 sr_97_17 d_Mo_equal_228 ?_
    refine s_iconst (v := (4:Int32)) B d_Mo_equal_231 (by decide) ?_
    refine s_iload B d_Mo_equal_232 rfl ?_
    refine s_imul B d_Mo_equal_234 ?_
    refine s_iload B d_Mo_equal_235 rfl ?_
    refine s_iadd B d_Mo_equal_237 ?_
    refine s_iald B (Or.inl kd_111) d_Mo_equal_238 (fun v1 _ => ?_)
    refine s_imul B d_Mo_equal_239 ?_
    refine s_aload_n B d_Mo_equal_240 rfl ?_
    refine s_getS (k := 16) (n := 110) B xc_Mo kd_97 (by decide) rfl rfl fl_Mo_49 sr_97_16 d_Mo_equal_241 ?_
    refine s_iconst (v := (4:Int32)) B d_Mo_equal_244 (by decide) ?_
    refine s_iload B d_Mo_equal_245 rfl ?_
    refine s_imul B d_Mo_equal_247 ?_
    refine s_iload B d_Mo_equal_248 rfl ?_
    refine s_iadd B d_Mo_equal_250 ?_
    refine s_iald B (Or.inl kd_110) d_Mo_equal_251 (fun v2 _ => ?_)
    refine s_iadd B d_Mo_equal_252 ?_
    refine s_istore B d_Mo_equal_253 (by decide) ?_
    refine s_aload_n B d_Mo_equal_255 rfl ?_
    refine s_getS (k := 26) (n := 120) B xc_Mo kd_97 (by decide) rfl rfl fl_Mo_80 sr_97_26 d_Mo_equal_256 ?_
    refine s_iload B d_Mo_equal_259 rfl ?_
    refine s_zald B kd_120 d_Mo_equal_261 (fun v3 _ => ?_)
    refine s_if_eq B d_Mo_equal_262 rfl (fun _ => ?_) (fun _ => ?_)
    · refine s_aload_n B d_Mo_equal_268 rfl ?_
      refine s_getS (k := 26) (n := 120) B xc_Mo kd_97 (by decide) rfl rfl fl_Mo_80 sr_97_26 d_Mo_equal_269 ?_
      refine s_iload B d_Mo_equal_272 rfl ?_
      refine s_iconst (v := (1:Int32)) B d_Mo_equal_274 (by decide) ?_
      refine s_zast B kd_120 d_Mo_equal_275 (fun M4 _ => ?_)
      refine s_aload_n B d_Mo_equal_276 rfl ?_
      refine s_getS (k := 23) (n := 117) B xc_Mo kd_97 (by decide) rfl rfl fl_Mo_71 sr_97_23 d_Mo_equal_277 ?_
      refine s_iload_n B d_Mo_equal_280 rfl ?_
      refine s_iload B d_Mo_equal_281 rfl ?_
      refine s_iast B (Or.inl kd_117) d_Mo_equal_283 (fun M5 _ => ?_)
      refine s_aload_n B d_Mo_equal_284 rfl ?_
      refine s_getS (k := 24) (n := 118) B xc_Mo kd_97 (by decide) rfl rfl fl_Mo_74 sr_97_24 d_Mo_equal_285 ?_
      refine s_iload_n B d_Mo_equal_288 rfl ?_
      refine s_iconst (v := (4:Int32)) B d_Mo_equal_289 (by decide) ?_
      refine s_iload B d_Mo_equal_290 rfl ?_
      refine s_imul B d_Mo_equal_292 ?_
      refine s_iload B d_Mo_equal_293 rfl ?_
      refine s_iadd B d_Mo_equal_295 ?_
      refine s_iast B (Or.inl kd_118) d_Mo_equal_296 (fun M6 _ => ?_)
      refine s_iinc (w := (1:Int32)) B d_Mo_equal_297 rfl (by decide) (by decide) ?_
      refine s_iinc (w := (1:Int32)) B d_Mo_equal_300 rfl (by decide) (by decide) ?_
      refine s_goto B d_Mo_equal_303 rfl ?_
      refine s_pick (lv1 := [(0, .ref 97), (3, .int (l3 + (1:Int32))), (4, .int l4), (5, .int l5), (6, .int l6), (7, .int (l7 + (1:Int32)))]) [0, 3, 4, 5, 6, 7] rfl ?_
      exact hk218 (l3 + (1:Int32)) l4 l5 l6 (l7 + (1:Int32)) M6
    · refine s_goto B d_Mo_equal_265 rfl ?_
      refine s_iinc (w := (1:Int32)) B d_Mo_equal_300 rfl (by decide) (by decide) ?_
      refine s_goto B d_Mo_equal_303 rfl ?_
      refine s_pick (lv1 := [(0, .ref 97), (3, .int l3), (4, .int l4), (5, .int l5), (6, .int l6), (7, .int (l7 + (1:Int32)))]) [0, 3, 4, 5, 6, 7] rfl ?_
      exact hk218 l3 l4 l5 l6 (l7 + (1:Int32)) M
set_option maxRecDepth 100000 in
set_option maxHeartbeats 4000000 in
theorem t_Mo_equal_218 {k158 : Int32 × Int32 × MS → Option (MS × Int32)} (B : xB p R s m args meth c b_Mo_equal 9 R_Mo (Cond.code y_Mo_equal b_Mo_equal 9 (some .int) :: x_T) (some .int) 7 174 D x_cl (xty g) base) (hk158 : ∀ (l3 : Int32) (l4 : Int32) (M : MS) , Sn p l e R s m args below meth c 9 D x_cl base (xwd g) cM x_g0 az kz (xfc cM) (xZ below args s D x_cl (xty g) base (xwd g) cM x_g0 az kz ovI) 158 [] [(0, .ref 97), (3, .int l3), (4, .int l4)] M (k158 (l3, l4, M))) (l3 : Int32) (l4 : Int32) (l5 : Int32) (l6 : Int32) (l7 : Int32) (M : MS)  : Sn p l e R s m args below meth c 9 D x_cl base (xwd g) cM x_g0 az kz (xfc cM) (xZ below args s D x_cl (xty g) base (xwd g) cM x_g0 az kz ovI) 218 [] [(0, .ref 97), (3, .int l3), (4, .int l4), (5, .int l5), (6, .int l6), (7, .int l7)] M (m_Mo_equal_218 k158 (l3, l4, l5, l6, l7, M)) := by
  have q : ∀ (F : Nat) (i : Int32 × Int32 × Int32 × Int32 × Int32 × MS), Sn p l e R s m args below meth c 9 D x_cl base (xwd g) cM x_g0 az kz (xfc cM) (xZ below args s D x_cl (xty g) base (xwd g) cM x_g0 az kz ovI) 218 [] [(0, .ref 97), (3, .int i.1), (4, .int i.2.1), (5, .int i.2.2.1), (6, .int i.2.2.2.1), (7, .int i.2.2.2.2.1)] i.2.2.2.2.2 (fx (fun (k : Int32 × Int32 × Int32 × Int32 × Int32 × MS → Option (MS × Int32)) (i : Int32 × Int32 × Int32 × Int32 × Int32 × MS) => m_Mo_equal_218b k158 k i.1 i.2.1 i.2.2.1 i.2.2.2.1 i.2.2.2.2.1 i.2.2.2.2.2) F i) := by
    intro F
    induction F with
    | zero => intro i ; exact s_none
    | succ F ih => intro i ; exact t_Mo_equal_218b B hk158 (fun l3 l4 l5 l6 l7 M  => ih (l3, l4, l5, l6, l7, M) ) i.1 i.2.1 i.2.2.1 i.2.2.2.1 i.2.2.2.2.1 i.2.2.2.2.2 
  exact q FU (l3, l4, l5, l6, l7, M) 
set_option maxRecDepth 100000 in
set_option maxHeartbeats 4000000 in
theorem t_Mo_equal_207  (B : xB p R s m args meth c b_Mo_equal 9 R_Mo (Cond.code y_Mo_equal b_Mo_equal 9 (some .int) :: x_T) (some .int) 7 174 D x_cl (xty g) base)  (l4 : Int32) (M : MS)  : Sn p l e R s m args below meth c 9 D x_cl base (xwd g) cM x_g0 az kz (xfc cM) (xZ below args s D x_cl (xty g) base (xwd g) cM x_g0 az kz ovI) 207 [] [(0, .ref 97), (4, .int l4)] M (m_Mo_equal_207 l4 M) := by
  unfold m_Mo_equal_207
  refine s_aload_n B d_Mo_equal_207 rfl ?_
  refine s_iload B d_Mo_equal_208 rfl ?_
  refine s_pick (lv1 := []) [] rfl ?_
  refine s_callU (av := [.ref 97, .int l4]) (rest := []) B (lk_V B d_Mo_equal_210 (gl_Mo_190 _) rfl hv_Mo_tell (by decide) (by decide)) rfl (x_rcV B xc_Mo kd_97) (fun _ _ => rfl) rfl rfl (by simp [Value.category]) rfl (fun r1 e9 => ct_Mo_tell _ _ r1 e9) (fun r1 _ => ?_)
  refine s_iconst (v := (0:Int32)) B d_Mo_equal_213 (by decide) ?_
  exact s_iret B d_Mo_equal_214
set_option maxRecDepth 100000 in
set_option maxHeartbeats 4000000 in
theorem t_Mo_equal_158b {k158 : Int32 × Int32 × MS → Option (MS × Int32)} (B : xB p R s m args meth c b_Mo_equal 9 R_Mo (Cond.code y_Mo_equal b_Mo_equal 9 (some .int) :: x_T) (some .int) 7 174 D x_cl (xty g) base) (hk158 : ∀ (l3 : Int32) (l4 : Int32) (M : MS) , Sn p l e R s m args below meth c 9 D x_cl base (xwd g) cM x_g0 az kz (xfc cM) (xZ below args s D x_cl (xty g) base (xwd g) cM x_g0 az kz ovI) 158 [] [(0, .ref 97), (3, .int l3), (4, .int l4)] M (k158 (l3, l4, M))) (l3 : Int32) (l4 : Int32) (M : MS)  : Sn p l e R s m args below meth c 9 D x_cl base (xwd g) cM x_g0 az kz (xfc cM) (xZ below args s D x_cl (xty g) base (xwd g) cM x_g0 az kz ovI) 158 [] [(0, .ref 97), (3, .int l3), (4, .int l4)] M (m_Mo_equal_158b k158 l3 l4 M) := by
  unfold m_Mo_equal_158b
  refine s_iload B d_Mo_equal_158 rfl ?_
  refine s_iload_n B d_Mo_equal_160 rfl ?_
  refine s_icmp_ge B d_Mo_equal_161 rfl (fun _ => ?_) (fun _ => ?_)
  · refine s_iconst (v := (1:Int32)) B d_Mo_equal_312 (by decide) ?_
    exact s_iret B d_Mo_equal_313
  · refine s_aload_n B d_Mo_equal_164 rfl ?_
    refine s_getS (k := 23) (n := 117) B xc_Mo kd_97 (by decide) rfl rfl fl_Mo_71 sr_97_23 d_Mo_equal_165 ?_
    refine s_iload B d_Mo_equal_168 rfl ?_
    refine s_iald B (Or.inl kd_117) d_Mo_equal_170 (fun v1 _ => ?_)
    refine s_sipush (v := (150:Int32)) B d_Mo_equal_171 (by decide) ?_
    refine s_idiv B d_Mo_equal_174 (by decide) ?_
    refine s_istore B d_Mo_equal_175 (by decide) ?_
    refine s_aload_n B d_Mo_equal_177 rfl ?_
    refine s_getS (k := 23) (n := 117) B xc_Mo kd_97 (by decide) rfl rfl fl_Mo_71 sr_97_23 d_Mo_equal_178 ?_
    refine s_iload B d_Mo_equal_181 rfl ?_
    refine s_iald B (Or.inl kd_117) d_Mo_equal_183 (fun v2 _ => ?_)
    refine s_sipush (v := (150:Int32)) B d_Mo_equal_184 (by decide) ?_
    refine s_irem B d_Mo_equal_187 (by decide) ?_
    refine s_istore B d_Mo_equal_188 (by decide) ?_
    refine s_aload_n B d_Mo_equal_190 rfl ?_
    refine s_getS (k := 21) (n := 115) B xc_Mo kd_97 (by decide) rfl rfl fl_Mo_64 sr_97_21 d_Mo_equal_191 ?_
    refine s_iload B d_Mo_equal_194 rfl ?_
    refine s_zald B kd_115 d_Mo_equal_196 (fun v3 _ => ?_)
    refine s_aload_n B d_Mo_equal_197 rfl ?_
    refine s_getS (k := 20) (n := 114) B xc_Mo kd_97 (by decide) rfl rfl fl_Mo_61 sr_97_20 d_Mo_equal_198 ?_
    refine s_iload B d_Mo_equal_201 rfl ?_
    refine s_zald B kd_114 d_Mo_equal_203 (fun v4 _ => ?_)
    refine s_icmp_eq B d_Mo_equal_204 rfl (fun _ => ?_) (fun _ => ?_)
    · refine s_iconst (v := (0:Int32)) B d_Mo_equal_215 (by decide) ?_
      refine s_istore B d_Mo_equal_216 (by decide) ?_
      refine s_pick (lv1 := [(0, .ref 97), (3, .int l3), (4, .int l4), (5, .int (v1 / (150:Int32))), (6, .int (v2 - v2 / (150:Int32) * (150:Int32))), (7, .int (0:Int32))]) [0, 3, 4, 5, 6, 7] rfl ?_
      exact t_Mo_equal_218 B hk158 l3 l4 (v1 / (150:Int32)) (v2 - v2 / (150:Int32) * (150:Int32)) (0:Int32) M
    · refine s_pick (lv1 := [(0, .ref 97), (4, .int l4)]) [0, 4] rfl ?_
      exact t_Mo_equal_207 B l4 M
set_option maxRecDepth 100000 in
set_option maxHeartbeats 4000000 in
theorem t_Mo_equal_158  (B : xB p R s m args meth c b_Mo_equal 9 R_Mo (Cond.code y_Mo_equal b_Mo_equal 9 (some .int) :: x_T) (some .int) 7 174 D x_cl (xty g) base)  (l3 : Int32) (l4 : Int32) (M : MS)  : Sn p l e R s m args below meth c 9 D x_cl base (xwd g) cM x_g0 az kz (xfc cM) (xZ below args s D x_cl (xty g) base (xwd g) cM x_g0 az kz ovI) 158 [] [(0, .ref 97), (3, .int l3), (4, .int l4)] M (m_Mo_equal_158 (l3, l4, M)) := by
  have q : ∀ (F : Nat) (i : Int32 × Int32 × MS), Sn p l e R s m args below meth c 9 D x_cl base (xwd g) cM x_g0 az kz (xfc cM) (xZ below args s D x_cl (xty g) base (xwd g) cM x_g0 az kz ovI) 158 [] [(0, .ref 97), (3, .int i.1), (4, .int i.2.1)] i.2.2 (fx (fun (k : Int32 × Int32 × MS → Option (MS × Int32)) (i : Int32 × Int32 × MS) => m_Mo_equal_158b k i.1 i.2.1 i.2.2) F i) := by
    intro F
    induction F with
    | zero => intro i ; exact s_none
    | succ F ih => intro i ; exact t_Mo_equal_158b B  (fun l3 l4 M  => ih (l3, l4, M) ) i.1 i.2.1 i.2.2 
  exact q FU (l3, l4, M) 
set_option maxRecDepth 100000 in
set_option maxHeartbeats 4000000 in
theorem t_Mo_equal_132  (B : xB p R s m args meth c b_Mo_equal 9 R_Mo (Cond.code y_Mo_equal b_Mo_equal 9 (some .int) :: x_T) (some .int) 7 174 D x_cl (xty g) base)   (M : MS)  : Sn p l e R s m args below meth c 9 D x_cl base (xwd g) cM x_g0 az kz (xfc cM) (xZ below args s D x_cl (xty g) base (xwd g) cM x_g0 az kz ovI) 132 [] [(0, .ref 97)] M (m_Mo_equal_132 M) := by
  unfold m_Mo_equal_132
  refine s_aload_n B d_Mo_equal_132 rfl ?_
  refine s_getS (k := 23) (n := 117) B xc_Mo kd_97 (by decide) rfl rfl fl_Mo_71 sr_97_23 d_Mo_equal_133 ?_
  refine s_iconst (v := (0:Int32)) B d_Mo_equal_136 (by decide) ?_
  refine s_iconst (v := (0:Int32)) B d_Mo_equal_137 (by decide) ?_
  refine s_iast B (Or.inl kd_117) d_Mo_equal_138 (fun M1 _ => ?_)
  refine s_aload_n B d_Mo_equal_139 rfl ?_
  refine s_getS (k := 24) (n := 118) B xc_Mo kd_97 (by decide) rfl rfl fl_Mo_74 sr_97_24 d_Mo_equal_140 ?_
  refine s_iconst (v := (0:Int32)) B d_Mo_equal_143 (by decide) ?_
  refine s_iconst (v := (-1:Int32)) B d_Mo_equal_144 (by decide) ?_
  refine s_iast B (Or.inl kd_118) d_Mo_equal_145 (fun M2 _ => ?_)
  refine s_aload_n B d_Mo_equal_146 rfl ?_
  refine s_getS (k := 26) (n := 120) B xc_Mo kd_97 (by decide) rfl rfl fl_Mo_80 sr_97_26 d_Mo_equal_147 ?_
  refine s_iconst (v := (0:Int32)) B d_Mo_equal_150 (by decide) ?_
  refine s_iconst (v := (1:Int32)) B d_Mo_equal_151 (by decide) ?_
  refine s_zast B kd_120 d_Mo_equal_152 (fun M3 _ => ?_)
  refine s_iconst (v := (1:Int32)) B d_Mo_equal_153 (by decide) ?_
  refine s_istore_n B d_Mo_equal_154 (by decide) ?_
  refine s_iconst (v := (0:Int32)) B d_Mo_equal_155 (by decide) ?_
  refine s_istore B d_Mo_equal_156 (by decide) ?_
  refine s_pick (lv1 := [(0, .ref 97), (3, .int (1:Int32)), (4, .int (0:Int32))]) [0, 3, 4] rfl ?_
  exact t_Mo_equal_158 B (1:Int32) (0:Int32) M3
set_option maxRecDepth 100000 in
set_option maxHeartbeats 4000000 in
theorem t_Mo_equal_112b {k112 : Int32 × MS → Option (MS × Int32)} (B : xB p R s m args meth c b_Mo_equal 9 R_Mo (Cond.code y_Mo_equal b_Mo_equal 9 (some .int) :: x_T) (some .int) 7 174 D x_cl (xty g) base) (hk112 : ∀ (l3 : Int32) (M : MS) , Sn p l e R s m args below meth c 9 D x_cl base (xwd g) cM x_g0 az kz (xfc cM) (xZ below args s D x_cl (xty g) base (xwd g) cM x_g0 az kz ovI) 112 [] [(0, .ref 97), (3, .int l3)] M (k112 (l3, M))) (l3 : Int32) (M : MS)  : Sn p l e R s m args below meth c 9 D x_cl base (xwd g) cM x_g0 az kz (xfc cM) (xZ below args s D x_cl (xty g) base (xwd g) cM x_g0 az kz ovI) 112 [] [(0, .ref 97), (3, .int l3)] M (m_Mo_equal_112b k112 l3 M) := by
  unfold m_Mo_equal_112b
  refine s_iload_n B d_Mo_equal_112 rfl ?_
  refine s_sipush (v := (22500:Int32)) B d_Mo_equal_113 (by decide) ?_
  refine s_icmp_ge B d_Mo_equal_116 rfl (fun _ => ?_) (fun _ => ?_)
  · refine s_pick (lv1 := [(0, .ref 97)]) [0] rfl ?_
    exact t_Mo_equal_132 B M
  · refine s_aload_n B d_Mo_equal_119 rfl ?_
    refine s_getS (k := 26) (n := 120) B xc_Mo kd_97 (by decide) rfl rfl fl_Mo_80 sr_97_26 d_Mo_equal_120 ?_
    refine s_iload_n B d_Mo_equal_123 rfl ?_
    refine s_iconst (v := (0:Int32)) B d_Mo_equal_124 (by decide) ?_
    refine s_zast B kd_120 d_Mo_equal_125 (fun M1 _ => ?_)
    refine s_iinc (w := (1:Int32)) B d_Mo_equal_126 rfl (by decide) (by decide) ?_
    refine s_goto B d_Mo_equal_129 rfl ?_
    refine s_pick (lv1 := [(0, .ref 97), (3, .int (l3 + (1:Int32)))]) [0, 3] rfl ?_
    exact hk112 (l3 + (1:Int32)) M1
set_option maxRecDepth 100000 in
set_option maxHeartbeats 4000000 in
theorem t_Mo_equal_112  (B : xB p R s m args meth c b_Mo_equal 9 R_Mo (Cond.code y_Mo_equal b_Mo_equal 9 (some .int) :: x_T) (some .int) 7 174 D x_cl (xty g) base)  (l3 : Int32) (M : MS)  : Sn p l e R s m args below meth c 9 D x_cl base (xwd g) cM x_g0 az kz (xfc cM) (xZ below args s D x_cl (xty g) base (xwd g) cM x_g0 az kz ovI) 112 [] [(0, .ref 97), (3, .int l3)] M (m_Mo_equal_112 (l3, M)) := by
  have q : ∀ (F : Nat) (i : Int32 × MS), Sn p l e R s m args below meth c 9 D x_cl base (xwd g) cM x_g0 az kz (xfc cM) (xZ below args s D x_cl (xty g) base (xwd g) cM x_g0 az kz ovI) 112 [] [(0, .ref 97), (3, .int i.1)] i.2 (fx (fun (k : Int32 × MS → Option (MS × Int32)) (i : Int32 × MS) => m_Mo_equal_112b k i.1 i.2) F i) := by
    intro F
    induction F with
    | zero => intro i ; exact s_none
    | succ F ih => intro i ; exact t_Mo_equal_112b B  (fun l3 M  => ih (l3, M) ) i.1 i.2 
  exact q FU (l3, M) 
set_option maxRecDepth 100000 in
set_option maxHeartbeats 4000000 in
theorem t_Mo_equal_99  (B : xB p R s m args meth c b_Mo_equal 9 R_Mo (Cond.code y_Mo_equal b_Mo_equal 9 (some .int) :: x_T) (some .int) 7 174 D x_cl (xty g) base)  (l2 : Int32) (M : MS)  : Sn p l e R s m args below meth c 9 D x_cl base (xwd g) cM x_g0 az kz (xfc cM) (xZ below args s D x_cl (xty g) base (xwd g) cM x_g0 az kz ovI) 99 [] [(0, .ref 97), (2, .int l2)] M (m_Mo_equal_99 l2 M) := by
  unfold m_Mo_equal_99
  refine s_aload_n B d_Mo_equal_99 rfl ?_
  refine s_iload_n B d_Mo_equal_100 rfl ?_
  refine s_pick (lv1 := [(0, .ref 97)]) [0] rfl ?_
  refine s_callI (av := [.ref 97, .int l2]) (rest := []) B (lk_V B d_Mo_equal_101 (gl_Mo_183 _) rfl hv_Mo_explore (by decide) (by decide)) rfl (x_rcV B xc_Mo kd_97) (fun _ _ => rfl) rfl rfl (by simp [Value.category]) rfl (fun r1 e9 => ct_Mo_explore _ _ r1 e9) (fun r1 _ => ?_)
  refine s_iconst (v := (-1:Int32)) B d_Mo_equal_104 (by decide) ?_
  refine s_icmp_ne B d_Mo_equal_105 rfl (fun _ => ?_) (fun _ => ?_)
  · refine s_iconst (v := (0:Int32)) B d_Mo_equal_110 (by decide) ?_
    refine s_istore_n B d_Mo_equal_111 (by decide) ?_
    refine s_pick (lv1 := [(0, .ref 97), (3, .int (0:Int32))]) [0, 3] rfl ?_
    exact t_Mo_equal_112 B (0:Int32) r1.1
  · refine s_iconst (v := (-1:Int32)) B d_Mo_equal_108 (by decide) ?_
    exact s_iret B d_Mo_equal_109
set_option maxRecDepth 100000 in
set_option maxHeartbeats 4000000 in
theorem t_Mo_equal_74b {k74 : Int32 × Int32 × MS → Option (MS × Int32)} (B : xB p R s m args meth c b_Mo_equal 9 R_Mo (Cond.code y_Mo_equal b_Mo_equal 9 (some .int) :: x_T) (some .int) 7 174 D x_cl (xty g) base) (hk74 : ∀ (l2 : Int32) (l3 : Int32) (M : MS) , Sn p l e R s m args below meth c 9 D x_cl base (xwd g) cM x_g0 az kz (xfc cM) (xZ below args s D x_cl (xty g) base (xwd g) cM x_g0 az kz ovI) 74 [] [(0, .ref 97), (2, .int l2), (3, .int l3)] M (k74 (l2, l3, M))) (l2 : Int32) (l3 : Int32) (M : MS)  : Sn p l e R s m args below meth c 9 D x_cl base (xwd g) cM x_g0 az kz (xfc cM) (xZ below args s D x_cl (xty g) base (xwd g) cM x_g0 az kz ovI) 74 [] [(0, .ref 97), (2, .int l2), (3, .int l3)] M (m_Mo_equal_74b k74 l2 l3 M) := by
  unfold m_Mo_equal_74b
  refine s_iload_n B d_Mo_equal_74 rfl ?_
  refine s_sipush (v := (150:Int32)) B d_Mo_equal_75 (by decide) ?_
  refine s_icmp_ge B d_Mo_equal_78 rfl (fun _ => ?_) (fun _ => ?_)
  · refine s_pick (lv1 := [(0, .ref 97), (2, .int l2)]) [0, 2] rfl ?_
    exact t_Mo_equal_99 B l2 M
  · refine s_aload_n B d_Mo_equal_81 rfl ?_
    refine s_getS (k := 21) (n := 115) B xc_Mo kd_97 (by decide) rfl rfl fl_Mo_64 sr_97_21 d_Mo_equal_82 ?_
    refine s_iload_n B d_Mo_equal_85 rfl ?_
    refine s_aload_n B d_Mo_equal_86 rfl ?_
    refine s_getS (k := 20) (n := 114) B xc_Mo kd_97 (by decide) rfl rfl fl_Mo_61 sr_97_20 d_Mo_equal_87 ?_
    refine s_iload_n B d_Mo_equal_90 rfl ?_
    refine s_zald B kd_114 d_Mo_equal_91 (fun v1 _ => ?_)
    refine s_zast B kd_115 d_Mo_equal_92 (fun M2 _ => ?_)
    refine s_iinc (w := (1:Int32)) B d_Mo_equal_93 rfl (by decide) (by decide) ?_
    refine s_goto B d_Mo_equal_96 rfl ?_
    refine s_pick (lv1 := [(0, .ref 97), (2, .int l2), (3, .int (l3 + (1:Int32)))]) [0, 2, 3] rfl ?_
    exact hk74 l2 (l3 + (1:Int32)) M2
set_option maxRecDepth 100000 in
set_option maxHeartbeats 4000000 in
theorem t_Mo_equal_74  (B : xB p R s m args meth c b_Mo_equal 9 R_Mo (Cond.code y_Mo_equal b_Mo_equal 9 (some .int) :: x_T) (some .int) 7 174 D x_cl (xty g) base)  (l2 : Int32) (l3 : Int32) (M : MS)  : Sn p l e R s m args below meth c 9 D x_cl base (xwd g) cM x_g0 az kz (xfc cM) (xZ below args s D x_cl (xty g) base (xwd g) cM x_g0 az kz ovI) 74 [] [(0, .ref 97), (2, .int l2), (3, .int l3)] M (m_Mo_equal_74 (l2, l3, M)) := by
  have q : ∀ (F : Nat) (i : Int32 × Int32 × MS), Sn p l e R s m args below meth c 9 D x_cl base (xwd g) cM x_g0 az kz (xfc cM) (xZ below args s D x_cl (xty g) base (xwd g) cM x_g0 az kz ovI) 74 [] [(0, .ref 97), (2, .int i.1), (3, .int i.2.1)] i.2.2 (fx (fun (k : Int32 × Int32 × MS → Option (MS × Int32)) (i : Int32 × Int32 × MS) => m_Mo_equal_74b k i.1 i.2.1 i.2.2) F i) := by
    intro F
    induction F with
    | zero => intro i ; exact s_none
    | succ F ih => intro i ; exact t_Mo_equal_74b B  (fun l2 l3 M  => ih (l2, l3, M) ) i.1 i.2.1 i.2.2 
  exact q FU (l2, l3, M) 
set_option maxRecDepth 100000 in
set_option maxHeartbeats 4000000 in
theorem t_Mo_equal_47b {k47 : Int32 × Int32 × MS → Option (MS × Int32)} (B : xB p R s m args meth c b_Mo_equal 9 R_Mo (Cond.code y_Mo_equal b_Mo_equal 9 (some .int) :: x_T) (some .int) 7 174 D x_cl (xty g) base) (hk47 : ∀ (l2 : Int32) (l3 : Int32) (M : MS) , Sn p l e R s m args below meth c 9 D x_cl base (xwd g) cM x_g0 az kz (xfc cM) (xZ below args s D x_cl (xty g) base (xwd g) cM x_g0 az kz ovI) 47 [] [(0, .ref 97), (2, .int l2), (3, .int l3)] M (k47 (l2, l3, M))) (l2 : Int32) (l3 : Int32) (M : MS)  : Sn p l e R s m args below meth c 9 D x_cl base (xwd g) cM x_g0 az kz (xfc cM) (xZ below args s D x_cl (xty g) base (xwd g) cM x_g0 az kz ovI) 47 [] [(0, .ref 97), (2, .int l2), (3, .int l3)] M (m_Mo_equal_47b k47 l2 l3 M) := by
  unfold m_Mo_equal_47b
  refine s_iload_n B d_Mo_equal_47 rfl ?_
  refine s_sipush (v := (600:Int32)) B d_Mo_equal_48 (by decide) ?_
  refine s_icmp_ge B d_Mo_equal_51 rfl (fun _ => ?_) (fun _ => ?_)
  · refine s_iconst (v := (0:Int32)) B d_Mo_equal_72 (by decide) ?_
    refine s_istore_n B d_Mo_equal_73 (by decide) ?_
    refine s_pick (lv1 := [(0, .ref 97), (2, .int l2), (3, .int (0:Int32))]) [0, 2, 3] rfl ?_
    exact t_Mo_equal_74 B l2 (0:Int32) M
  · refine s_aload_n B d_Mo_equal_54 rfl ?_
    refine s_getS (k := 17) (n := 111) B xc_Mo kd_97 (by decide) rfl rfl fl_Mo_52 sr_97_17 d_Mo_equal_55 ?_
    refine s_iload_n B d_Mo_equal_58 rfl ?_
    refine s_aload_n B d_Mo_equal_59 rfl ?_
    refine s_getS (k := 16) (n := 110) B xc_Mo kd_97 (by decide) rfl rfl fl_Mo_49 sr_97_16 d_Mo_equal_60 ?_
    refine s_iload_n B d_Mo_equal_63 rfl ?_
    refine s_iald B (Or.inl kd_110) d_Mo_equal_64 (fun v1 _ => ?_)
    refine s_iast B (Or.inl kd_111) d_Mo_equal_65 (fun M2 _ => ?_)
    refine s_iinc (w := (1:Int32)) B d_Mo_equal_66 rfl (by decide) (by decide) ?_
    refine s_goto B d_Mo_equal_69 rfl ?_
    refine s_pick (lv1 := [(0, .ref 97), (2, .int l2), (3, .int (l3 + (1:Int32)))]) [0, 2, 3] rfl ?_
    exact hk47 l2 (l3 + (1:Int32)) M2
set_option maxRecDepth 100000 in
set_option maxHeartbeats 4000000 in
theorem t_Mo_equal_47  (B : xB p R s m args meth c b_Mo_equal 9 R_Mo (Cond.code y_Mo_equal b_Mo_equal 9 (some .int) :: x_T) (some .int) 7 174 D x_cl (xty g) base)  (l2 : Int32) (l3 : Int32) (M : MS)  : Sn p l e R s m args below meth c 9 D x_cl base (xwd g) cM x_g0 az kz (xfc cM) (xZ below args s D x_cl (xty g) base (xwd g) cM x_g0 az kz ovI) 47 [] [(0, .ref 97), (2, .int l2), (3, .int l3)] M (m_Mo_equal_47 (l2, l3, M)) := by
  have q : ∀ (F : Nat) (i : Int32 × Int32 × MS), Sn p l e R s m args below meth c 9 D x_cl base (xwd g) cM x_g0 az kz (xfc cM) (xZ below args s D x_cl (xty g) base (xwd g) cM x_g0 az kz ovI) 47 [] [(0, .ref 97), (2, .int i.1), (3, .int i.2.1)] i.2.2 (fx (fun (k : Int32 × Int32 × MS → Option (MS × Int32)) (i : Int32 × Int32 × MS) => m_Mo_equal_47b k i.1 i.2.1 i.2.2) F i) := by
    intro F
    induction F with
    | zero => intro i ; exact s_none
    | succ F ih => intro i ; exact t_Mo_equal_47b B  (fun l2 l3 M  => ih (l2, l3, M) ) i.1 i.2.1 i.2.2 
  exact q FU (l2, l3, M) 
set_option maxRecDepth 100000 in
set_option maxHeartbeats 4000000 in
theorem t_Mo_equal_20  (B : xB p R s m args meth c b_Mo_equal 9 R_Mo (Cond.code y_Mo_equal b_Mo_equal 9 (some .int) :: x_T) (some .int) 7 174 D x_cl (xty g) base)  (l1 : Int32) (l2 : Int32) (s1 : Int32) (M : MS)  : Sn p l e R s m args below meth c 9 D x_cl base (xwd g) cM x_g0 az kz (xfc cM) (xZ below args s D x_cl (xty g) base (xwd g) cM x_g0 az kz ovI) 20 [.int s1, .ref 97] [(0, .ref 97), (1, .int l1), (2, .int l2)] M (m_Mo_equal_20 l1 l2 s1 M) := by
  unfold m_Mo_equal_20
  refine s_iconst (v := (0:Int32)) B d_Mo_equal_20 (by decide) ?_
  refine s_pick (lv1 := [(0, .ref 97), (1, .int l1), (2, .int l2)]) [0, 1, 2] rfl ?_
  refine s_callI (av := [.ref 97, .int s1, .int (0:Int32)]) (rest := []) B (lk_V B d_Mo_equal_21 (gl_Mo_161 _) rfl hv_Mo_fails (by decide) (by decide)) rfl (x_rcV B xc_Mo kd_97) (fun _ _ => rfl) rfl rfl (by simp [Value.category]) rfl (fun r1 e9 => ct_Mo_fails _ _ _ r1 e9) (fun r1 _ => ?_)
  refine s_if_eq B d_Mo_equal_24 rfl (fun _ => ?_) (fun _ => ?_)
  · refine s_aload_n B d_Mo_equal_29 rfl ?_
    refine s_iconst (v := (-1:Int32)) B d_Mo_equal_30 (by decide) ?_
    refine s_putI (k := 27) (ty := .int) B xc_Mo kd_97 (by decide) rfl rfl fl_Mo_83 rfl rfl rfl rfl d_Mo_equal_31 (fun M2 _ => ?_)
    refine s_aload_n B d_Mo_equal_34 rfl ?_
    refine s_iload_n B d_Mo_equal_35 rfl ?_
    refine s_pick (lv1 := [(0, .ref 97), (2, .int l2)]) [0, 2] rfl ?_
    refine s_callI (av := [.ref 97, .int l1]) (rest := []) B (lk_V B d_Mo_equal_36 (gl_Mo_183 _) rfl hv_Mo_explore (by decide) (by decide)) rfl (x_rcV B xc_Mo kd_97) (fun _ _ => rfl) rfl rfl (by simp [Value.category]) rfl (fun r3 e9 => ct_Mo_explore _ _ r3 e9) (fun r3 _ => ?_)
    refine s_iconst (v := (-1:Int32)) B d_Mo_equal_39 (by decide) ?_
    refine s_icmp_ne B d_Mo_equal_40 rfl (fun _ => ?_) (fun _ => ?_)
    · refine s_iconst (v := (0:Int32)) B d_Mo_equal_45 (by decide) ?_
      refine s_istore_n B d_Mo_equal_46 (by decide) ?_
      refine s_pick (lv1 := [(0, .ref 97), (2, .int l2), (3, .int (0:Int32))]) [0, 2, 3] rfl ?_
      exact t_Mo_equal_47 B l2 (0:Int32) r3.1
    · refine s_iconst (v := (-1:Int32)) B d_Mo_equal_43 (by decide) ?_
      exact s_iret B d_Mo_equal_44
  · refine s_iconst (v := (0:Int32)) B d_Mo_equal_27 (by decide) ?_
    exact s_iret B d_Mo_equal_28
set_option maxRecDepth 100000 in
set_option maxHeartbeats 4000000 in
theorem t_Mo_equal_15  (B : xB p R s m args meth c b_Mo_equal 9 R_Mo (Cond.code y_Mo_equal b_Mo_equal 9 (some .int) :: x_T) (some .int) 7 174 D x_cl (xty g) base)  (l1 : Int32) (l2 : Int32) (M : MS)  : Sn p l e R s m args below meth c 9 D x_cl base (xwd g) cM x_g0 az kz (xfc cM) (xZ below args s D x_cl (xty g) base (xwd g) cM x_g0 az kz ovI) 15 [.ref 97] [(0, .ref 97), (1, .int l1), (2, .int l2)] M (m_Mo_equal_15 l1 l2 M) := by
  unfold m_Mo_equal_15
  refine s_iconst (v := (1:Int32)) B d_Mo_equal_15 (by decide) ?_
  refine s_goto B d_Mo_equal_16 rfl ?_
  refine s_pick (lv1 := [(0, .ref 97), (1, .int l1), (2, .int l2)]) [0, 1, 2] rfl ?_
  exact t_Mo_equal_20 B l1 l2 (1:Int32) M
set_option maxRecDepth 100000 in
set_option maxHeartbeats 4000000 in
theorem t_Mo_equal (B : xB p R s m args meth c b_Mo_equal 9 R_Mo (Cond.code y_Mo_equal b_Mo_equal 9 (some .int) :: x_T) (some .int) 7 174 D x_cl (xty g) base) (a1 : Int32) (a2 : Int32) (M : MS) : Sn p l e R s m args below meth c 9 D x_cl base (xwd g) cM x_g0 az kz (xfc cM) (xZ below args s D x_cl (xty g) base (xwd g) cM x_g0 az kz ovI) 0 [] [(0, .ref 97), (1, .int a1), (2, .int a2)] M (m_Mo_equal a1 a2 M) := by
  unfold m_Mo_equal
  refine s_aload_n B d_Mo_equal_0 rfl ?_
  refine s_iload_n B d_Mo_equal_1 rfl ?_
  refine s_pick (lv1 := [(0, .ref 97), (1, .int a1), (2, .int a2)]) [0, 1, 2] rfl ?_
  refine s_callI (av := [.int a1]) (rest := [.ref 97]) B (lk_S B d_Mo_equal_2 (gl_Mo_158 _) (List.mem_cons_of_mem _ st_Mo_isSlot) (List.mem_cons_of_mem _ in_Mo) (List.mem_cons_of_mem _ ml_Mo_158) rfl hs_Mo_isSlot (by decide) (by decide)) rfl x_rcS (fun _ _ => rfl) rfl rfl (by simp [Value.category]) rfl (fun r1 e9 => ct_Mo_isSlot _ _ r1 e9) (fun r1 _ => ?_)
  refine s_if_eq B d_Mo_equal_5 rfl (fun _ => ?_) (fun _ => ?_)
  · refine s_pick (lv1 := [(0, .ref 97), (1, .int a1), (2, .int a2)]) [0, 1, 2] rfl ?_
    exact t_Mo_equal_15 B a1 a2 r1.1
  · refine s_iload_n B d_Mo_equal_8 rfl ?_
    refine s_pick (lv1 := [(0, .ref 97), (1, .int a1), (2, .int a2)]) [0, 1, 2] rfl ?_
    refine s_callI (av := [.int a2]) (rest := [.ref 97]) B (lk_S B d_Mo_equal_9 (gl_Mo_158 _) (List.mem_cons_of_mem _ st_Mo_isSlot) (List.mem_cons_of_mem _ in_Mo) (List.mem_cons_of_mem _ ml_Mo_158) rfl hs_Mo_isSlot (by decide) (by decide)) rfl x_rcS (fun _ _ => rfl) rfl rfl (by simp [Value.category]) rfl (fun r2 e9 => ct_Mo_isSlot _ _ r2 e9) (fun r2 _ => ?_)
    refine s_if_ne B d_Mo_equal_12 rfl (fun _ => ?_) (fun _ => ?_)
    · refine s_iconst (v := (0:Int32)) B d_Mo_equal_19 (by decide) ?_
      refine s_pick (lv1 := [(0, .ref 97), (1, .int a1), (2, .int a2)]) [0, 1, 2] rfl ?_
      exact t_Mo_equal_20 B a1 a2 (0:Int32) r2.1
    · refine s_pick (lv1 := [(0, .ref 97), (1, .int a1), (2, .int a2)]) [0, 1, 2] rfl ?_
      exact t_Mo_equal_15 B a1 a2 r2.1
set_option maxRecDepth 100000 in
set_option maxHeartbeats 4000000 in
theorem ct_Mo_equal {l : Launch} {D : va_G} {base : Nat} {g : Nat → ClassId} (a1 : Int32) (a2 : Int32) (M : MS) (r : MS × Int32) (hr : m_Mo_equal a1 a2 M = some r) : Ct l y_Mo_equal (Cond.code y_Mo_equal b_Mo_equal 9 (some .int) :: x_T) 7 174 D x_cl (xty g) base (xwd g) cM x_g0 [.ref 97, .int a1, .int a2] M r.1 (ovI r.2) :=
  x_met (ov := ovI) (by decide) (Nat.le_of_ble_eq_true rfl) (fun p e R s m args below meth c az B => t_Mo_equal B a1 a2 M) r hr
end
theorem d_Mo_witness_0 : decode b_Mo_witness 0 = .ok (.aload_n 0, 1) := by decide +kernel
theorem d_Mo_witness_1 : decode b_Mo_witness 1 = .ok (.iconst (0), 1) := by decide +kernel
theorem d_Mo_witness_2 : decode b_Mo_witness 2 = .ok (.putfield 93, 3) := by decide +kernel
theorem d_Mo_witness_5 : decode b_Mo_witness 5 = .ok (.aload_n 0, 1) := by decide +kernel
theorem d_Mo_witness_6 : decode b_Mo_witness 6 = .ok (.getfield 83, 3) := by decide +kernel
theorem d_Mo_witness_9 : decode b_Mo_witness 9 = .ok (.iconst (-1), 1) := by decide +kernel
theorem d_Mo_witness_10 : decode b_Mo_witness 10 = .ok (.if_icmp .eq (16), 3) := by decide +kernel
theorem d_Mo_witness_13 : decode b_Mo_witness 13 = .ok (.iload_n 1, 1) := by decide +kernel
theorem d_Mo_witness_14 : decode b_Mo_witness 14 = .ok (.iconst (-1), 1) := by decide +kernel
theorem d_Mo_witness_15 : decode b_Mo_witness 15 = .ok (.if_icmp .lt (11), 3) := by decide +kernel
theorem d_Mo_witness_18 : decode b_Mo_witness 18 = .ok (.iload_n 1, 1) := by decide +kernel
theorem d_Mo_witness_19 : decode b_Mo_witness 19 = .ok (.aload_n 0, 1) := by decide +kernel
theorem d_Mo_witness_20 : decode b_Mo_witness 20 = .ok (.getfield 83, 3) := by decide +kernel
theorem d_Mo_witness_23 : decode b_Mo_witness 23 = .ok (.if_icmp .lt (7), 3) := by decide +kernel
theorem d_Mo_witness_26 : decode b_Mo_witness 26 = .ok (.iconst (-1), 1) := by decide +kernel
theorem d_Mo_witness_27 : decode b_Mo_witness 27 = .ok (.goto (21), 3) := by decide +kernel
theorem d_Mo_witness_30 : decode b_Mo_witness 30 = .ok (.iload_n 1, 1) := by decide +kernel
theorem d_Mo_witness_31 : decode b_Mo_witness 31 = .ok (.iconst (-1), 1) := by decide +kernel
theorem d_Mo_witness_32 : decode b_Mo_witness 32 = .ok (.if_icmp .ne (10), 3) := by decide +kernel
theorem d_Mo_witness_35 : decode b_Mo_witness 35 = .ok (.aload_n 0, 1) := by decide +kernel
theorem d_Mo_witness_36 : decode b_Mo_witness 36 = .ok (.getfield 83, 3) := by decide +kernel
theorem d_Mo_witness_39 : decode b_Mo_witness 39 = .ok (.goto (9), 3) := by decide +kernel
theorem d_Mo_witness_42 : decode b_Mo_witness 42 = .ok (.aload_n 0, 1) := by decide +kernel
theorem d_Mo_witness_43 : decode b_Mo_witness 43 = .ok (.getfield 77, 3) := by decide +kernel
theorem d_Mo_witness_46 : decode b_Mo_witness 46 = .ok (.iload_n 1, 1) := by decide +kernel
theorem d_Mo_witness_47 : decode b_Mo_witness 47 = .ok (.iaload, 1) := by decide +kernel
theorem d_Mo_witness_48 : decode b_Mo_witness 48 = .ok (.ireturn, 1) := by decide +kernel
section
variable {p : Program} {l : Launch} {e : Env} {R : Room} {s : State} {m : MethodId} {args : Array Value} {below : List Frame} {meth : Method} {c : Code} {D : va_G} {base : Nat} {g : Nat → ClassId} {az : Nat → Nat} {kz : Nat × Nat}
set_option maxRecDepth 100000 in
set_option maxHeartbeats 4000000 in
theorem t_Mo_witness (B : xB p R s m args meth c b_Mo_witness 2 R_Mo (Cond.code y_Mo_witness b_Mo_witness 2 (some .int) :: x_T) (some .int) 0 0 D x_cl (xty g) base) (a1 : Int32) (M : MS) : Sn p l e R s m args below meth c 2 D x_cl base (xwd g) cM x_g0 az kz (xfc cM) (xZ below args s D x_cl (xty g) base (xwd g) cM x_g0 az kz ovI) 0 [] [(0, .ref 97), (1, .int a1)] M (m_Mo_witness a1 M) := by
  unfold m_Mo_witness
  refine s_aload_n B d_Mo_witness_0 rfl ?_
  refine s_iconst (v := (0:Int32)) B d_Mo_witness_1 (by decide) ?_
  refine s_putI (k := 0) (ty := .int) B xc_Mo kd_97 (by decide) rfl rfl fl_Mo_93 rfl rfl rfl rfl d_Mo_witness_2 (fun M1 _ => ?_)
  refine s_aload_n B d_Mo_witness_5 rfl ?_
  refine s_getI (k := 27) B xc_Mo kd_97 (by decide) rfl rfl fl_Mo_83 d_Mo_witness_6 ?_
  refine s_iconst (v := (-1:Int32)) B d_Mo_witness_9 (by decide) ?_
  refine s_icmp_eq B d_Mo_witness_10 rfl (fun _ => ?_) (fun _ => ?_)
  · refine s_iconst (v := (-1:Int32)) B d_Mo_witness_26 (by decide) ?_
    refine s_goto B d_Mo_witness_27 rfl ?_
    exact s_iret B d_Mo_witness_48
  · refine s_iload_n B d_Mo_witness_13 rfl ?_
    refine s_iconst (v := (-1:Int32)) B d_Mo_witness_14 (by decide) ?_
    refine s_icmp_lt B d_Mo_witness_15 rfl (fun _ => ?_) (fun _ => ?_)
    · refine s_iconst (v := (-1:Int32)) B d_Mo_witness_26 (by decide) ?_
      refine s_goto B d_Mo_witness_27 rfl ?_
      exact s_iret B d_Mo_witness_48
    · refine s_iload_n B d_Mo_witness_18 rfl ?_
      refine s_aload_n B d_Mo_witness_19 rfl ?_
      refine s_getI (k := 27) B xc_Mo kd_97 (by decide) rfl rfl fl_Mo_83 d_Mo_witness_20 ?_
      refine s_icmp_lt B d_Mo_witness_23 rfl (fun _ => ?_) (fun _ => ?_)
      · refine s_iload_n B d_Mo_witness_30 rfl ?_
        refine s_iconst (v := (-1:Int32)) B d_Mo_witness_31 (by decide) ?_
        refine s_icmp_ne B d_Mo_witness_32 rfl (fun _ => ?_) (fun _ => ?_)
        · refine s_aload_n B d_Mo_witness_42 rfl ?_
          refine s_getS (k := 25) (n := 119) B xc_Mo kd_97 (by decide) rfl rfl fl_Mo_77 sr_97_25 d_Mo_witness_43 ?_
          refine s_iload_n B d_Mo_witness_46 rfl ?_
          refine s_iald B (Or.inl kd_119) d_Mo_witness_47 (fun v2 _ => ?_)
          exact s_iret B d_Mo_witness_48
        · refine s_aload_n B d_Mo_witness_35 rfl ?_
          refine s_getI (k := 27) B xc_Mo kd_97 (by decide) rfl rfl fl_Mo_83 d_Mo_witness_36 ?_
          refine s_goto B d_Mo_witness_39 rfl ?_
          exact s_iret B d_Mo_witness_48
      · refine s_iconst (v := (-1:Int32)) B d_Mo_witness_26 (by decide) ?_
        refine s_goto B d_Mo_witness_27 rfl ?_
        exact s_iret B d_Mo_witness_48
set_option maxRecDepth 100000 in
set_option maxHeartbeats 4000000 in
theorem ct_Mo_witness {l : Launch} {D : va_G} {base : Nat} {g : Nat → ClassId} (a1 : Int32) (M : MS) (r : MS × Int32) (hr : m_Mo_witness a1 M = some r) : Ct l y_Mo_witness (Cond.code y_Mo_witness b_Mo_witness 2 (some .int) :: x_T) 0 0 D x_cl (xty g) base (xwd g) cM x_g0 [.ref 97, .int a1] M r.1 (ovI r.2) :=
  x_met (ov := ovI) (by decide) (Nat.le_of_ble_eq_true rfl) (fun p e R s m args below meth c az B => t_Mo_witness B a1 M) r hr
end
theorem d_Mo_count_0 : decode b_Mo_count 0 = .ok (.iconst (0), 1) := by decide +kernel
theorem d_Mo_count_1 : decode b_Mo_count 1 = .ok (.istore_n 2, 1) := by decide +kernel
theorem d_Mo_count_2 : decode b_Mo_count 2 = .ok (.iload_n 2, 1) := by decide +kernel
theorem d_Mo_count_3 : decode b_Mo_count 3 = .ok (.iload_n 1, 1) := by decide +kernel
theorem d_Mo_count_4 : decode b_Mo_count 4 = .ok (.if_icmp .ge (29), 3) := by decide +kernel
theorem d_Mo_count_7 : decode b_Mo_count 7 = .ok (.aload_n 0, 1) := by decide +kernel
theorem d_Mo_count_8 : decode b_Mo_count 8 = .ok (.getfield 67, 3) := by decide +kernel
theorem d_Mo_count_11 : decode b_Mo_count 11 = .ok (.iload_n 2, 1) := by decide +kernel
theorem d_Mo_count_12 : decode b_Mo_count 12 = .ok (.aload_n 0, 1) := by decide +kernel
theorem d_Mo_count_13 : decode b_Mo_count 13 = .ok (.getfield 61, 3) := by decide +kernel
theorem d_Mo_count_16 : decode b_Mo_count 16 = .ok (.iload_n 2, 1) := by decide +kernel
theorem d_Mo_count_17 : decode b_Mo_count 17 = .ok (.baload, 1) := by decide +kernel
theorem d_Mo_count_18 : decode b_Mo_count 18 = .ok (.ifCond .eq (7), 3) := by decide +kernel
theorem d_Mo_count_21 : decode b_Mo_count 21 = .ok (.lconst 1, 1) := by decide +kernel
theorem d_Mo_count_22 : decode b_Mo_count 22 = .ok (.goto (4), 3) := by decide +kernel
theorem d_Mo_count_25 : decode b_Mo_count 25 = .ok (.lconst 0, 1) := by decide +kernel
theorem d_Mo_count_26 : decode b_Mo_count 26 = .ok (.lastore, 1) := by decide +kernel
theorem d_Mo_count_27 : decode b_Mo_count 27 = .ok (.iinc 2 (1), 3) := by decide +kernel
theorem d_Mo_count_30 : decode b_Mo_count 30 = .ok (.goto (-28), 3) := by decide +kernel
theorem d_Mo_count_33 : decode b_Mo_count 33 = .ok (.iconst (1), 1) := by decide +kernel
theorem d_Mo_count_34 : decode b_Mo_count 34 = .ok (.istore_n 2, 1) := by decide +kernel
theorem d_Mo_count_35 : decode b_Mo_count 35 = .ok (.iload_n 2, 1) := by decide +kernel
theorem d_Mo_count_36 : decode b_Mo_count 36 = .ok (.bipush (16), 2) := by decide +kernel
theorem d_Mo_count_38 : decode b_Mo_count 38 = .ok (.if_icmp .gt (83), 3) := by decide +kernel
theorem d_Mo_count_41 : decode b_Mo_count 41 = .ok (.iconst (0), 1) := by decide +kernel
theorem d_Mo_count_42 : decode b_Mo_count 42 = .ok (.istore_n 3, 1) := by decide +kernel
theorem d_Mo_count_43 : decode b_Mo_count 43 = .ok (.iload_n 3, 1) := by decide +kernel
theorem d_Mo_count_44 : decode b_Mo_count 44 = .ok (.iload_n 1, 1) := by decide +kernel
theorem d_Mo_count_45 : decode b_Mo_count 45 = .ok (.if_icmp .ge (70), 3) := by decide +kernel
theorem d_Mo_count_48 : decode b_Mo_count 48 = .ok (.lconst 0, 1) := by decide +kernel
theorem d_Mo_count_49 : decode b_Mo_count 49 = .ok (.lstore 4, 2) := by decide +kernel
theorem d_Mo_count_51 : decode b_Mo_count 51 = .ok (.iconst (0), 1) := by decide +kernel
theorem d_Mo_count_52 : decode b_Mo_count 52 = .ok (.istore 6, 2) := by decide +kernel
theorem d_Mo_count_54 : decode b_Mo_count 54 = .ok (.iload 6, 2) := by decide +kernel
theorem d_Mo_count_56 : decode b_Mo_count 56 = .ok (.iconst (4), 1) := by decide +kernel
theorem d_Mo_count_57 : decode b_Mo_count 57 = .ok (.if_icmp .ge (38), 3) := by decide +kernel
theorem d_Mo_count_60 : decode b_Mo_count 60 = .ok (.lload 4, 2) := by decide +kernel
theorem d_Mo_count_62 : decode b_Mo_count 62 = .ok (.aload_n 0, 1) := by decide +kernel
theorem d_Mo_count_63 : decode b_Mo_count 63 = .ok (.getfield 67, 3) := by decide +kernel
theorem d_Mo_count_66 : decode b_Mo_count 66 = .ok (.sipush (150), 3) := by decide +kernel
theorem d_Mo_count_69 : decode b_Mo_count 69 = .ok (.iload_n 2, 1) := by decide +kernel
theorem d_Mo_count_70 : decode b_Mo_count 70 = .ok (.iconst (1), 1) := by decide +kernel
theorem d_Mo_count_71 : decode b_Mo_count 71 = .ok (.isub, 1) := by decide +kernel
theorem d_Mo_count_72 : decode b_Mo_count 72 = .ok (.imul, 1) := by decide +kernel
theorem d_Mo_count_73 : decode b_Mo_count 73 = .ok (.aload_n 0, 1) := by decide +kernel
theorem d_Mo_count_74 : decode b_Mo_count 74 = .ok (.getfield 49, 3) := by decide +kernel
theorem d_Mo_count_77 : decode b_Mo_count 77 = .ok (.iconst (4), 1) := by decide +kernel
theorem d_Mo_count_78 : decode b_Mo_count 78 = .ok (.iload_n 3, 1) := by decide +kernel
theorem d_Mo_count_79 : decode b_Mo_count 79 = .ok (.imul, 1) := by decide +kernel
theorem d_Mo_count_80 : decode b_Mo_count 80 = .ok (.iload 6, 2) := by decide +kernel
theorem d_Mo_count_82 : decode b_Mo_count 82 = .ok (.iadd, 1) := by decide +kernel
theorem d_Mo_count_83 : decode b_Mo_count 83 = .ok (.iaload, 1) := by decide +kernel
theorem d_Mo_count_84 : decode b_Mo_count 84 = .ok (.iadd, 1) := by decide +kernel
theorem d_Mo_count_85 : decode b_Mo_count 85 = .ok (.laload, 1) := by decide +kernel
theorem d_Mo_count_86 : decode b_Mo_count 86 = .ok (.ladd, 1) := by decide +kernel
theorem d_Mo_count_87 : decode b_Mo_count 87 = .ok (.lstore 4, 2) := by decide +kernel
theorem d_Mo_count_89 : decode b_Mo_count 89 = .ok (.iinc 6 (1), 3) := by decide +kernel
theorem d_Mo_count_92 : decode b_Mo_count 92 = .ok (.goto (-38), 3) := by decide +kernel
theorem d_Mo_count_95 : decode b_Mo_count 95 = .ok (.aload_n 0, 1) := by decide +kernel
theorem d_Mo_count_96 : decode b_Mo_count 96 = .ok (.getfield 67, 3) := by decide +kernel
theorem d_Mo_count_99 : decode b_Mo_count 99 = .ok (.sipush (150), 3) := by decide +kernel
theorem d_Mo_count_102 : decode b_Mo_count 102 = .ok (.iload_n 2, 1) := by decide +kernel
theorem d_Mo_count_103 : decode b_Mo_count 103 = .ok (.imul, 1) := by decide +kernel
theorem d_Mo_count_104 : decode b_Mo_count 104 = .ok (.iload_n 3, 1) := by decide +kernel
theorem d_Mo_count_105 : decode b_Mo_count 105 = .ok (.iadd, 1) := by decide +kernel
theorem d_Mo_count_106 : decode b_Mo_count 106 = .ok (.lload 4, 2) := by decide +kernel
theorem d_Mo_count_108 : decode b_Mo_count 108 = .ok (.lastore, 1) := by decide +kernel
theorem d_Mo_count_109 : decode b_Mo_count 109 = .ok (.iinc 3 (1), 3) := by decide +kernel
theorem d_Mo_count_112 : decode b_Mo_count 112 = .ok (.goto (-69), 3) := by decide +kernel
theorem d_Mo_count_115 : decode b_Mo_count 115 = .ok (.iinc 2 (1), 3) := by decide +kernel
theorem d_Mo_count_118 : decode b_Mo_count 118 = .ok (.goto (-83), 3) := by decide +kernel
theorem d_Mo_count_121 : decode b_Mo_count 121 = .ok (.return_, 1) := by decide +kernel
section
variable {p : Program} {l : Launch} {e : Env} {R : Room} {s : State} {m : MethodId} {args : Array Value} {below : List Frame} {meth : Method} {c : Code} {D : va_G} {base : Nat} {g : Nat → ClassId} {az : Nat → Nat} {kz : Nat × Nat}
set_option maxRecDepth 100000 in
set_option maxHeartbeats 4000000 in
theorem t_Mo_count_95 {k35 : Int32 × Int32 × MS → Option (MS × Unit)} {k43 : Int32 × Int32 × Int32 × MS → Option (MS × Unit)} (B : xB p R s m args meth c b_Mo_count 7 R_Mo (Cond.code y_Mo_count b_Mo_count 7 none :: x_T) none 0 0 D x_cl (xty g) base) (hk35 : ∀ (l1 : Int32) (l2 : Int32) (M : MS) , Sn p l e R s m args below meth c 7 D x_cl base (xwd g) cM x_g0 az kz (xfc cM) (xZ below args s D x_cl (xty g) base (xwd g) cM x_g0 az kz ovU) 35 [] [(0, .ref 97), (1, .int l1), (2, .int l2)] M (k35 (l1, l2, M))) (hk43 : ∀ (l1 : Int32) (l2 : Int32) (l3 : Int32) (M : MS) , Sn p l e R s m args below meth c 7 D x_cl base (xwd g) cM x_g0 az kz (xfc cM) (xZ below args s D x_cl (xty g) base (xwd g) cM x_g0 az kz ovU) 43 [] [(0, .ref 97), (1, .int l1), (2, .int l2), (3, .int l3)] M (k43 (l1, l2, l3, M))) (l1 : Int32) (l2 : Int32) (l3 : Int32) (l4 : Int64) (M : MS)  : Sn p l e R s m args below meth c 7 D x_cl base (xwd g) cM x_g0 az kz (xfc cM) (xZ below args s D x_cl (xty g) base (xwd g) cM x_g0 az kz ovU) 95 [] [(0, .ref 97), (1, .int l1), (2, .int l2), (3, .int l3), (4, .long l4)] M (m_Mo_count_95 k35 k43 l1 l2 l3 l4 M) := by
  unfold m_Mo_count_95
  refine s_aload_n B d_Mo_count_95 rfl ?_
  refine s_getS (k := 22) (n := 116) B xc_Mo kd_97 (by decide) rfl rfl fl_Mo_67 sr_97_22 d_Mo_count_96 ?_
  refine s_sipush (v := (150:Int32)) B d_Mo_count_99 (by decide) ?_
  refine s_iload_n B d_Mo_count_102 rfl ?_
  refine s_imul B d_Mo_count_103 ?_
  refine s_iload_n B d_Mo_count_104 rfl ?_
  refine s_iadd B d_Mo_count_105 ?_
  refine s_lload B d_Mo_count_106 rfl ?_
  refine s_last B kd_116 d_Mo_count_108 (fun M1 _ => ?_)
  refine s_iinc (w := (1:Int32)) B d_Mo_count_109 rfl (by decide) (by decide) ?_
  refine s_goto B d_Mo_count_112 rfl ?_
  refine s_pick (lv1 := [(0, .ref 97), (1, .int l1), (2, .int l2), (3, .int (l3 + (1:Int32)))]) [0, 1, 2, 3] rfl ?_
  exact hk43 l1 l2 (l3 + (1:Int32)) M1
set_option maxRecDepth 100000 in
set_option maxHeartbeats 4000000 in
theorem t_Mo_count_54b {k35 : Int32 × Int32 × MS → Option (MS × Unit)} {k43 : Int32 × Int32 × Int32 × MS → Option (MS × Unit)} {k54 : Int32 × Int32 × Int32 × Int64 × Int32 × MS → Option (MS × Unit)} (B : xB p R s m args meth c b_Mo_count 7 R_Mo (Cond.code y_Mo_count b_Mo_count 7 none :: x_T) none 0 0 D x_cl (xty g) base) (hk35 : ∀ (l1 : Int32) (l2 : Int32) (M : MS) , Sn p l e R s m args below meth c 7 D x_cl base (xwd g) cM x_g0 az kz (xfc cM) (xZ below args s D x_cl (xty g) base (xwd g) cM x_g0 az kz ovU) 35 [] [(0, .ref 97), (1, .int l1), (2, .int l2)] M (k35 (l1, l2, M))) (hk43 : ∀ (l1 : Int32) (l2 : Int32) (l3 : Int32) (M : MS) , Sn p l e R s m args below meth c 7 D x_cl base (xwd g) cM x_g0 az kz (xfc cM) (xZ below args s D x_cl (xty g) base (xwd g) cM x_g0 az kz ovU) 43 [] [(0, .ref 97), (1, .int l1), (2, .int l2), (3, .int l3)] M (k43 (l1, l2, l3, M))) (hk54 : ∀ (l1 : Int32) (l2 : Int32) (l3 : Int32) (l4 : Int64) (l6 : Int32) (M : MS) , Sn p l e R s m args below meth c 7 D x_cl base (xwd g) cM x_g0 az kz (xfc cM) (xZ below args s D x_cl (xty g) base (xwd g) cM x_g0 az kz ovU) 54 [] [(0, .ref 97), (1, .int l1), (2, .int l2), (3, .int l3), (4, .long l4), (6, .int l6)] M (k54 (l1, l2, l3, l4, l6, M))) (l1 : Int32) (l2 : Int32) (l3 : Int32) (l4 : Int64) (l6 : Int32) (M : MS)  : Sn p l e R s m args below meth c 7 D x_cl base (xwd g) cM x_g0 az kz (xfc cM) (xZ below args s D x_cl (xty g) base (xwd g) cM x_g0 az kz ovU) 54 [] [(0, .ref 97), (1, .int l1), (2, .int l2), (3, .int l3), (4, .long l4), (6, .int l6)] M (m_Mo_count_54b k35 k43 k54 l1 l2 l3 l4 l6 M) := by
  unfold m_Mo_count_54b
  refine s_iload B d_Mo_count_54 rfl ?_
  refine s_iconst (v := (4:Int32)) B d_Mo_count_56 (by decide) ?_
  refine s_icmp_ge B d_Mo_count_57 rfl (fun _ => ?_) (fun _ => ?_)
  · refine s_pick (lv1 := [(0, .ref 97), (1, .int l1), (2, .int l2), (3, .int l3), (4, .long l4)]) [0, 1, 2, 3, 4] rfl ?_
    exact t_Mo_count_95 B hk35 hk43 l1 l2 l3 l4 M
  · refine s_lload B d_Mo_count_60 rfl ?_
    refine s_aload_n B d_Mo_count_62 rfl ?_
    refine s_getS (k := 22) (n := 116) B xc_Mo kd_97 (by decide) rfl rfl fl_Mo_67 sr_97_22 d_Mo_count_63 ?_
    refine s_sipush (v := (150:Int32)) B d_Mo_count_66 (by decide) ?_
    refine s_iload_n B d_Mo_count_69 rfl ?_
    refine s_iconst (v := (1:Int32)) B d_Mo_count_70 (by decide) ?_
    refine s_isub B d_Mo_count_71 ?_
    refine s_imul B d_Mo_count_72 ?_
    refine s_aload_n B d_Mo_count_73 rfl ?_
    refine s_getS (k := 16) (n := 110) B xc_Mo kd_97 (by decide) rfl rfl fl_Mo_49 sr_97_16 d_Mo_count_74 ?_
    refine s_iconst (v := (4:Int32)) B d_Mo_count_77 (by decide) ?_
    refine s_iload_n B d_Mo_count_78 rfl ?_
    refine s_imul B d_Mo_count_79 ?_
    refine s_iload B d_Mo_count_80 rfl ?_
    refine s_iadd B d_Mo_count_82 ?_
    refine s_iald B (Or.inl kd_110) d_Mo_count_83 (fun v1 _ => ?_)
    refine s_iadd B d_Mo_count_84 ?_
    refine s_lald B kd_116 d_Mo_count_85 (fun v2 _ => ?_)
    refine s_ladd B d_Mo_count_86 ?_
    refine s_lstore B d_Mo_count_87 (by decide) ?_
    refine s_iinc (w := (1:Int32)) B d_Mo_count_89 rfl (by decide) (by decide) ?_
    refine s_goto B d_Mo_count_92 rfl ?_
    refine s_pick (lv1 := [(0, .ref 97), (1, .int l1), (2, .int l2), (3, .int l3), (4, .long (l4 + v2)), (6, .int (l6 + (1:Int32)))]) [0, 1, 2, 3, 4, 6] rfl ?_
    exact hk54 l1 l2 l3 (l4 + v2) (l6 + (1:Int32)) M
set_option maxRecDepth 100000 in
set_option maxHeartbeats 4000000 in
theorem t_Mo_count_54 {k35 : Int32 × Int32 × MS → Option (MS × Unit)} {k43 : Int32 × Int32 × Int32 × MS → Option (MS × Unit)} (B : xB p R s m args meth c b_Mo_count 7 R_Mo (Cond.code y_Mo_count b_Mo_count 7 none :: x_T) none 0 0 D x_cl (xty g) base) (hk35 : ∀ (l1 : Int32) (l2 : Int32) (M : MS) , Sn p l e R s m args below meth c 7 D x_cl base (xwd g) cM x_g0 az kz (xfc cM) (xZ below args s D x_cl (xty g) base (xwd g) cM x_g0 az kz ovU) 35 [] [(0, .ref 97), (1, .int l1), (2, .int l2)] M (k35 (l1, l2, M))) (hk43 : ∀ (l1 : Int32) (l2 : Int32) (l3 : Int32) (M : MS) , Sn p l e R s m args below meth c 7 D x_cl base (xwd g) cM x_g0 az kz (xfc cM) (xZ below args s D x_cl (xty g) base (xwd g) cM x_g0 az kz ovU) 43 [] [(0, .ref 97), (1, .int l1), (2, .int l2), (3, .int l3)] M (k43 (l1, l2, l3, M))) (l1 : Int32) (l2 : Int32) (l3 : Int32) (l4 : Int64) (l6 : Int32) (M : MS)  : Sn p l e R s m args below meth c 7 D x_cl base (xwd g) cM x_g0 az kz (xfc cM) (xZ below args s D x_cl (xty g) base (xwd g) cM x_g0 az kz ovU) 54 [] [(0, .ref 97), (1, .int l1), (2, .int l2), (3, .int l3), (4, .long l4), (6, .int l6)] M (m_Mo_count_54 k35 k43 (l1, l2, l3, l4, l6, M)) := by
  have q : ∀ (F : Nat) (i : Int32 × Int32 × Int32 × Int64 × Int32 × MS), Sn p l e R s m args below meth c 7 D x_cl base (xwd g) cM x_g0 az kz (xfc cM) (xZ below args s D x_cl (xty g) base (xwd g) cM x_g0 az kz ovU) 54 [] [(0, .ref 97), (1, .int i.1), (2, .int i.2.1), (3, .int i.2.2.1), (4, .long i.2.2.2.1), (6, .int i.2.2.2.2.1)] i.2.2.2.2.2 (fx (fun (k : Int32 × Int32 × Int32 × Int64 × Int32 × MS → Option (MS × Unit)) (i : Int32 × Int32 × Int32 × Int64 × Int32 × MS) => m_Mo_count_54b k35 k43 k i.1 i.2.1 i.2.2.1 i.2.2.2.1 i.2.2.2.2.1 i.2.2.2.2.2) F i) := by
    intro F
    induction F with
    | zero => intro i ; exact s_none
    | succ F ih => intro i ; exact t_Mo_count_54b B hk35 hk43 (fun l1 l2 l3 l4 l6 M  => ih (l1, l2, l3, l4, l6, M) ) i.1 i.2.1 i.2.2.1 i.2.2.2.1 i.2.2.2.2.1 i.2.2.2.2.2 
  exact q FU (l1, l2, l3, l4, l6, M) 
set_option maxRecDepth 100000 in
set_option maxHeartbeats 4000000 in
theorem t_Mo_count_43b {k35 : Int32 × Int32 × MS → Option (MS × Unit)} {k43 : Int32 × Int32 × Int32 × MS → Option (MS × Unit)} (B : xB p R s m args meth c b_Mo_count 7 R_Mo (Cond.code y_Mo_count b_Mo_count 7 none :: x_T) none 0 0 D x_cl (xty g) base) (hk35 : ∀ (l1 : Int32) (l2 : Int32) (M : MS) , Sn p l e R s m args below meth c 7 D x_cl base (xwd g) cM x_g0 az kz (xfc cM) (xZ below args s D x_cl (xty g) base (xwd g) cM x_g0 az kz ovU) 35 [] [(0, .ref 97), (1, .int l1), (2, .int l2)] M (k35 (l1, l2, M))) (hk43 : ∀ (l1 : Int32) (l2 : Int32) (l3 : Int32) (M : MS) , Sn p l e R s m args below meth c 7 D x_cl base (xwd g) cM x_g0 az kz (xfc cM) (xZ below args s D x_cl (xty g) base (xwd g) cM x_g0 az kz ovU) 43 [] [(0, .ref 97), (1, .int l1), (2, .int l2), (3, .int l3)] M (k43 (l1, l2, l3, M))) (l1 : Int32) (l2 : Int32) (l3 : Int32) (M : MS)  : Sn p l e R s m args below meth c 7 D x_cl base (xwd g) cM x_g0 az kz (xfc cM) (xZ below args s D x_cl (xty g) base (xwd g) cM x_g0 az kz ovU) 43 [] [(0, .ref 97), (1, .int l1), (2, .int l2), (3, .int l3)] M (m_Mo_count_43b k35 k43 l1 l2 l3 M) := by
  unfold m_Mo_count_43b
  refine s_iload_n B d_Mo_count_43 rfl ?_
  refine s_iload_n B d_Mo_count_44 rfl ?_
  refine s_icmp_ge B d_Mo_count_45 rfl (fun _ => ?_) (fun _ => ?_)
  · refine s_iinc (w := (1:Int32)) B d_Mo_count_115 rfl (by decide) (by decide) ?_
    refine s_goto B d_Mo_count_118 rfl ?_
    refine s_pick (lv1 := [(0, .ref 97), (1, .int l1), (2, .int (l2 + (1:Int32)))]) [0, 1, 2] rfl ?_
    exact hk35 l1 (l2 + (1:Int32)) M
  · refine s_lconst (v := (0:Int64)) B d_Mo_count_48 (by decide) ?_
    refine s_lstore B d_Mo_count_49 (by decide) ?_
    refine s_iconst (v := (0:Int32)) B d_Mo_count_51 (by decide) ?_
    refine s_istore B d_Mo_count_52 (by decide) ?_
    refine s_pick (lv1 := [(0, .ref 97), (1, .int l1), (2, .int l2), (3, .int l3), (4, .long (0:Int64)), (6, .int (0:Int32))]) [0, 1, 2, 3, 4, 6] rfl ?_
    exact t_Mo_count_54 B hk35 hk43 l1 l2 l3 (0:Int64) (0:Int32) M
set_option maxRecDepth 100000 in
set_option maxHeartbeats 4000000 in
theorem t_Mo_count_43 {k35 : Int32 × Int32 × MS → Option (MS × Unit)} (B : xB p R s m args meth c b_Mo_count 7 R_Mo (Cond.code y_Mo_count b_Mo_count 7 none :: x_T) none 0 0 D x_cl (xty g) base) (hk35 : ∀ (l1 : Int32) (l2 : Int32) (M : MS) , Sn p l e R s m args below meth c 7 D x_cl base (xwd g) cM x_g0 az kz (xfc cM) (xZ below args s D x_cl (xty g) base (xwd g) cM x_g0 az kz ovU) 35 [] [(0, .ref 97), (1, .int l1), (2, .int l2)] M (k35 (l1, l2, M))) (l1 : Int32) (l2 : Int32) (l3 : Int32) (M : MS)  : Sn p l e R s m args below meth c 7 D x_cl base (xwd g) cM x_g0 az kz (xfc cM) (xZ below args s D x_cl (xty g) base (xwd g) cM x_g0 az kz ovU) 43 [] [(0, .ref 97), (1, .int l1), (2, .int l2), (3, .int l3)] M (m_Mo_count_43 k35 (l1, l2, l3, M)) := by
  have q : ∀ (F : Nat) (i : Int32 × Int32 × Int32 × MS), Sn p l e R s m args below meth c 7 D x_cl base (xwd g) cM x_g0 az kz (xfc cM) (xZ below args s D x_cl (xty g) base (xwd g) cM x_g0 az kz ovU) 43 [] [(0, .ref 97), (1, .int i.1), (2, .int i.2.1), (3, .int i.2.2.1)] i.2.2.2 (fx (fun (k : Int32 × Int32 × Int32 × MS → Option (MS × Unit)) (i : Int32 × Int32 × Int32 × MS) => m_Mo_count_43b k35 k i.1 i.2.1 i.2.2.1 i.2.2.2) F i) := by
    intro F
    induction F with
    | zero => intro i ; exact s_none
    | succ F ih => intro i ; exact t_Mo_count_43b B hk35 (fun l1 l2 l3 M  => ih (l1, l2, l3, M) ) i.1 i.2.1 i.2.2.1 i.2.2.2 
  exact q FU (l1, l2, l3, M) 
set_option maxRecDepth 100000 in
set_option maxHeartbeats 4000000 in
theorem t_Mo_count_35b {k35 : Int32 × Int32 × MS → Option (MS × Unit)} (B : xB p R s m args meth c b_Mo_count 7 R_Mo (Cond.code y_Mo_count b_Mo_count 7 none :: x_T) none 0 0 D x_cl (xty g) base) (hk35 : ∀ (l1 : Int32) (l2 : Int32) (M : MS) , Sn p l e R s m args below meth c 7 D x_cl base (xwd g) cM x_g0 az kz (xfc cM) (xZ below args s D x_cl (xty g) base (xwd g) cM x_g0 az kz ovU) 35 [] [(0, .ref 97), (1, .int l1), (2, .int l2)] M (k35 (l1, l2, M))) (l1 : Int32) (l2 : Int32) (M : MS)  : Sn p l e R s m args below meth c 7 D x_cl base (xwd g) cM x_g0 az kz (xfc cM) (xZ below args s D x_cl (xty g) base (xwd g) cM x_g0 az kz ovU) 35 [] [(0, .ref 97), (1, .int l1), (2, .int l2)] M (m_Mo_count_35b k35 l1 l2 M) := by
  unfold m_Mo_count_35b
  refine s_iload_n B d_Mo_count_35 rfl ?_
  refine s_bipush (v := (16:Int32)) B d_Mo_count_36 (by decide) ?_
  refine s_icmp_gt B d_Mo_count_38 rfl (fun _ => ?_) (fun _ => ?_)
  · exact s_vret B d_Mo_count_121
  · refine s_iconst (v := (0:Int32)) B d_Mo_count_41 (by decide) ?_
    refine s_istore_n B d_Mo_count_42 (by decide) ?_
    refine s_pick (lv1 := [(0, .ref 97), (1, .int l1), (2, .int l2), (3, .int (0:Int32))]) [0, 1, 2, 3] rfl ?_
    exact t_Mo_count_43 B hk35 l1 l2 (0:Int32) M
set_option maxRecDepth 100000 in
set_option maxHeartbeats 4000000 in
theorem t_Mo_count_35  (B : xB p R s m args meth c b_Mo_count 7 R_Mo (Cond.code y_Mo_count b_Mo_count 7 none :: x_T) none 0 0 D x_cl (xty g) base)  (l1 : Int32) (l2 : Int32) (M : MS)  : Sn p l e R s m args below meth c 7 D x_cl base (xwd g) cM x_g0 az kz (xfc cM) (xZ below args s D x_cl (xty g) base (xwd g) cM x_g0 az kz ovU) 35 [] [(0, .ref 97), (1, .int l1), (2, .int l2)] M (m_Mo_count_35 (l1, l2, M)) := by
  have q : ∀ (F : Nat) (i : Int32 × Int32 × MS), Sn p l e R s m args below meth c 7 D x_cl base (xwd g) cM x_g0 az kz (xfc cM) (xZ below args s D x_cl (xty g) base (xwd g) cM x_g0 az kz ovU) 35 [] [(0, .ref 97), (1, .int i.1), (2, .int i.2.1)] i.2.2 (fx (fun (k : Int32 × Int32 × MS → Option (MS × Unit)) (i : Int32 × Int32 × MS) => m_Mo_count_35b k i.1 i.2.1 i.2.2) F i) := by
    intro F
    induction F with
    | zero => intro i ; exact s_none
    | succ F ih => intro i ; exact t_Mo_count_35b B  (fun l1 l2 M  => ih (l1, l2, M) ) i.1 i.2.1 i.2.2 
  exact q FU (l1, l2, M) 
set_option maxRecDepth 100000 in
set_option maxHeartbeats 4000000 in
theorem t_Mo_count_26 {k2 : Int32 × Int32 × MS → Option (MS × Unit)} (B : xB p R s m args meth c b_Mo_count 7 R_Mo (Cond.code y_Mo_count b_Mo_count 7 none :: x_T) none 0 0 D x_cl (xty g) base) (hk2 : ∀ (l1 : Int32) (l2 : Int32) (M : MS) , Sn p l e R s m args below meth c 7 D x_cl base (xwd g) cM x_g0 az kz (xfc cM) (xZ below args s D x_cl (xty g) base (xwd g) cM x_g0 az kz ovU) 2 [] [(0, .ref 97), (1, .int l1), (2, .int l2)] M (k2 (l1, l2, M))) (l1 : Int32) (l2 : Int32) (s1 : Int32) (s2 : Int64) (M : MS)  : Sn p l e R s m args below meth c 7 D x_cl base (xwd g) cM x_g0 az kz (xfc cM) (xZ below args s D x_cl (xty g) base (xwd g) cM x_g0 az kz ovU) 26 [.long s2, .int s1, .ref 116] [(0, .ref 97), (1, .int l1), (2, .int l2)] M (m_Mo_count_26 k2 l1 l2 s1 s2 M) := by
  unfold m_Mo_count_26
  refine s_last B kd_116 d_Mo_count_26 (fun M1 _ => ?_)
  refine s_iinc (w := (1:Int32)) B d_Mo_count_27 rfl (by decide) (by decide) ?_
  refine s_goto B d_Mo_count_30 rfl ?_
  refine s_pick (lv1 := [(0, .ref 97), (1, .int l1), (2, .int (l2 + (1:Int32)))]) [0, 1, 2] rfl ?_
  exact hk2 l1 (l2 + (1:Int32)) M1
set_option maxRecDepth 100000 in
set_option maxHeartbeats 4000000 in
theorem t_Mo_count_2b {k2 : Int32 × Int32 × MS → Option (MS × Unit)} (B : xB p R s m args meth c b_Mo_count 7 R_Mo (Cond.code y_Mo_count b_Mo_count 7 none :: x_T) none 0 0 D x_cl (xty g) base) (hk2 : ∀ (l1 : Int32) (l2 : Int32) (M : MS) , Sn p l e R s m args below meth c 7 D x_cl base (xwd g) cM x_g0 az kz (xfc cM) (xZ below args s D x_cl (xty g) base (xwd g) cM x_g0 az kz ovU) 2 [] [(0, .ref 97), (1, .int l1), (2, .int l2)] M (k2 (l1, l2, M))) (l1 : Int32) (l2 : Int32) (M : MS)  : Sn p l e R s m args below meth c 7 D x_cl base (xwd g) cM x_g0 az kz (xfc cM) (xZ below args s D x_cl (xty g) base (xwd g) cM x_g0 az kz ovU) 2 [] [(0, .ref 97), (1, .int l1), (2, .int l2)] M (m_Mo_count_2b k2 l1 l2 M) := by
  unfold m_Mo_count_2b
  refine s_iload_n B d_Mo_count_2 rfl ?_
  refine s_iload_n B d_Mo_count_3 rfl ?_
  refine s_icmp_ge B d_Mo_count_4 rfl (fun _ => ?_) (fun _ => ?_)
  · refine s_iconst (v := (1:Int32)) B d_Mo_count_33 (by decide) ?_
    refine s_istore_n B d_Mo_count_34 (by decide) ?_
    refine s_pick (lv1 := [(0, .ref 97), (1, .int l1), (2, .int (1:Int32))]) [0, 1, 2] rfl ?_
    exact t_Mo_count_35 B l1 (1:Int32) M
  · refine s_aload_n B d_Mo_count_7 rfl ?_
    refine s_getS (k := 22) (n := 116) B xc_Mo kd_97 (by decide) rfl rfl fl_Mo_67 sr_97_22 d_Mo_count_8 ?_
    refine s_iload_n B d_Mo_count_11 rfl ?_
    refine s_aload_n B d_Mo_count_12 rfl ?_
    refine s_getS (k := 20) (n := 114) B xc_Mo kd_97 (by decide) rfl rfl fl_Mo_61 sr_97_20 d_Mo_count_13 ?_
    refine s_iload_n B d_Mo_count_16 rfl ?_
    refine s_zald B kd_114 d_Mo_count_17 (fun v1 _ => ?_)
    refine s_if_eq B d_Mo_count_18 rfl (fun _ => ?_) (fun _ => ?_)
    · refine s_lconst (v := (0:Int64)) B d_Mo_count_25 (by decide) ?_
      refine s_pick (lv1 := [(0, .ref 97), (1, .int l1), (2, .int l2)]) [0, 1, 2] rfl ?_
      exact t_Mo_count_26 B hk2 l1 l2 l2 (0:Int64) M
    · refine s_lconst (v := (1:Int64)) B d_Mo_count_21 (by decide) ?_
      refine s_goto B d_Mo_count_22 rfl ?_
      refine s_pick (lv1 := [(0, .ref 97), (1, .int l1), (2, .int l2)]) [0, 1, 2] rfl ?_
      exact t_Mo_count_26 B hk2 l1 l2 l2 (1:Int64) M
set_option maxRecDepth 100000 in
set_option maxHeartbeats 4000000 in
theorem t_Mo_count_2  (B : xB p R s m args meth c b_Mo_count 7 R_Mo (Cond.code y_Mo_count b_Mo_count 7 none :: x_T) none 0 0 D x_cl (xty g) base)  (l1 : Int32) (l2 : Int32) (M : MS)  : Sn p l e R s m args below meth c 7 D x_cl base (xwd g) cM x_g0 az kz (xfc cM) (xZ below args s D x_cl (xty g) base (xwd g) cM x_g0 az kz ovU) 2 [] [(0, .ref 97), (1, .int l1), (2, .int l2)] M (m_Mo_count_2 (l1, l2, M)) := by
  have q : ∀ (F : Nat) (i : Int32 × Int32 × MS), Sn p l e R s m args below meth c 7 D x_cl base (xwd g) cM x_g0 az kz (xfc cM) (xZ below args s D x_cl (xty g) base (xwd g) cM x_g0 az kz ovU) 2 [] [(0, .ref 97), (1, .int i.1), (2, .int i.2.1)] i.2.2 (fx (fun (k : Int32 × Int32 × MS → Option (MS × Unit)) (i : Int32 × Int32 × MS) => m_Mo_count_2b k i.1 i.2.1 i.2.2) F i) := by
    intro F
    induction F with
    | zero => intro i ; exact s_none
    | succ F ih => intro i ; exact t_Mo_count_2b B  (fun l1 l2 M  => ih (l1, l2, M) ) i.1 i.2.1 i.2.2 
  exact q FU (l1, l2, M) 
set_option maxRecDepth 100000 in
set_option maxHeartbeats 4000000 in
theorem t_Mo_count (B : xB p R s m args meth c b_Mo_count 7 R_Mo (Cond.code y_Mo_count b_Mo_count 7 none :: x_T) none 0 0 D x_cl (xty g) base) (a1 : Int32) (M : MS) : Sn p l e R s m args below meth c 7 D x_cl base (xwd g) cM x_g0 az kz (xfc cM) (xZ below args s D x_cl (xty g) base (xwd g) cM x_g0 az kz ovU) 0 [] [(0, .ref 97), (1, .int a1)] M (m_Mo_count a1 M) := by
  unfold m_Mo_count
  refine s_iconst (v := (0:Int32)) B d_Mo_count_0 (by decide) ?_
  refine s_istore_n B d_Mo_count_1 (by decide) ?_
  refine s_pick (lv1 := [(0, .ref 97), (1, .int a1), (2, .int (0:Int32))]) [0, 1, 2] rfl ?_
  exact t_Mo_count_2 B a1 (0:Int32) M
set_option maxRecDepth 100000 in
set_option maxHeartbeats 4000000 in
theorem ct_Mo_count {l : Launch} {D : va_G} {base : Nat} {g : Nat → ClassId} (a1 : Int32) (M : MS) (r : MS × Unit) (hr : m_Mo_count a1 M = some r) : Ct l y_Mo_count (Cond.code y_Mo_count b_Mo_count 7 none :: x_T) 0 0 D x_cl (xty g) base (xwd g) cM x_g0 [.ref 97, .int a1] M r.1 (ovU r.2) :=
  x_met (ov := ovU) (by decide) (Nat.le_of_ble_eq_true rfl) (fun p e R s m args below meth c az B => t_Mo_count B a1 M) r hr
end
theorem d_Mo_words_0 : decode b_Mo_words 0 = .ok (.iload_n 1, 1) := by decide +kernel
theorem d_Mo_words_1 : decode b_Mo_words 1 = .ok (.invokestatic 158, 3) := by decide +kernel
theorem d_Mo_words_4 : decode b_Mo_words 4 = .ok (.istore_n 3, 1) := by decide +kernel
theorem d_Mo_words_5 : decode b_Mo_words 5 = .ok (.aload_n 0, 1) := by decide +kernel
theorem d_Mo_words_6 : decode b_Mo_words 6 = .ok (.iload_n 3, 1) := by decide +kernel
theorem d_Mo_words_7 : decode b_Mo_words 7 = .ok (.ifCond .ne (7), 3) := by decide +kernel
theorem d_Mo_words_10 : decode b_Mo_words 10 = .ok (.iconst (1), 1) := by decide +kernel
theorem d_Mo_words_11 : decode b_Mo_words 11 = .ok (.goto (4), 3) := by decide +kernel
theorem d_Mo_words_14 : decode b_Mo_words 14 = .ok (.iconst (0), 1) := by decide +kernel
theorem d_Mo_words_15 : decode b_Mo_words 15 = .ok (.iload_n 3, 1) := by decide +kernel
theorem d_Mo_words_16 : decode b_Mo_words 16 = .ok (.ifCond .eq (17), 3) := by decide +kernel
theorem d_Mo_words_19 : decode b_Mo_words 19 = .ok (.iload_n 2, 1) := by decide +kernel
theorem d_Mo_words_20 : decode b_Mo_words 20 = .ok (.ifCond .lt (9), 3) := by decide +kernel
theorem d_Mo_words_23 : decode b_Mo_words 23 = .ok (.iload_n 2, 1) := by decide +kernel
theorem d_Mo_words_24 : decode b_Mo_words 24 = .ok (.bipush (16), 2) := by decide +kernel
theorem d_Mo_words_26 : decode b_Mo_words 26 = .ok (.if_icmp .le (7), 3) := by decide +kernel
theorem d_Mo_words_29 : decode b_Mo_words 29 = .ok (.iconst (1), 1) := by decide +kernel
theorem d_Mo_words_30 : decode b_Mo_words 30 = .ok (.goto (4), 3) := by decide +kernel
theorem d_Mo_words_33 : decode b_Mo_words 33 = .ok (.iconst (0), 1) := by decide +kernel
theorem d_Mo_words_34 : decode b_Mo_words 34 = .ok (.invokevirtual 161, 3) := by decide +kernel
theorem d_Mo_words_37 : decode b_Mo_words 37 = .ok (.ifCond .eq (5), 3) := by decide +kernel
theorem d_Mo_words_40 : decode b_Mo_words 40 = .ok (.lconst 0, 1) := by decide +kernel
theorem d_Mo_words_41 : decode b_Mo_words 41 = .ok (.lreturn, 1) := by decide +kernel
theorem d_Mo_words_42 : decode b_Mo_words 42 = .ok (.aload_n 0, 1) := by decide +kernel
theorem d_Mo_words_43 : decode b_Mo_words 43 = .ok (.iload_n 1, 1) := by decide +kernel
theorem d_Mo_words_44 : decode b_Mo_words 44 = .ok (.invokevirtual 183, 3) := by decide +kernel
theorem d_Mo_words_47 : decode b_Mo_words 47 = .ok (.istore 4, 2) := by decide +kernel
theorem d_Mo_words_49 : decode b_Mo_words 49 = .ok (.iload 4, 2) := by decide +kernel
theorem d_Mo_words_51 : decode b_Mo_words 51 = .ok (.iconst (-1), 1) := by decide +kernel
theorem d_Mo_words_52 : decode b_Mo_words 52 = .ok (.if_icmp .ne (7), 3) := by decide +kernel
theorem d_Mo_words_55 : decode b_Mo_words 55 = .ok (.ldc2_w 194, 3) := by decide +kernel
theorem d_Mo_words_58 : decode b_Mo_words 58 = .ok (.lreturn, 1) := by decide +kernel
theorem d_Mo_words_59 : decode b_Mo_words 59 = .ok (.aload_n 0, 1) := by decide +kernel
theorem d_Mo_words_60 : decode b_Mo_words 60 = .ok (.iload 4, 2) := by decide +kernel
theorem d_Mo_words_62 : decode b_Mo_words 62 = .ok (.invokevirtual 196, 3) := by decide +kernel
theorem d_Mo_words_65 : decode b_Mo_words 65 = .ok (.aload_n 0, 1) := by decide +kernel
theorem d_Mo_words_66 : decode b_Mo_words 66 = .ok (.getfield 67, 3) := by decide +kernel
theorem d_Mo_words_69 : decode b_Mo_words 69 = .ok (.sipush (150), 3) := by decide +kernel
theorem d_Mo_words_72 : decode b_Mo_words 72 = .ok (.iload_n 2, 1) := by decide +kernel
theorem d_Mo_words_73 : decode b_Mo_words 73 = .ok (.imul, 1) := by decide +kernel
theorem d_Mo_words_74 : decode b_Mo_words 74 = .ok (.laload, 1) := by decide +kernel
theorem d_Mo_words_75 : decode b_Mo_words 75 = .ok (.lreturn, 1) := by decide +kernel
section
variable {p : Program} {l : Launch} {e : Env} {R : Room} {s : State} {m : MethodId} {args : Array Value} {below : List Frame} {meth : Method} {c : Code} {D : va_G} {base : Nat} {g : Nat → ClassId} {az : Nat → Nat} {kz : Nat × Nat}
set_option maxRecDepth 100000 in
set_option maxHeartbeats 4000000 in
theorem t_Mo_words_34  (B : xB p R s m args meth c b_Mo_words 5 R_Mo (Cond.code y_Mo_words b_Mo_words 5 (some .long) :: x_T) (some .long) 7 174 D x_cl (xty g) base)  (l1 : Int32) (l2 : Int32) (s1 : Int32) (s2 : Int32) (M : MS)  : Sn p l e R s m args below meth c 5 D x_cl base (xwd g) cM x_g0 az kz (xfc cM) (xZ below args s D x_cl (xty g) base (xwd g) cM x_g0 az kz ovL) 34 [.int s2, .int s1, .ref 97] [(0, .ref 97), (1, .int l1), (2, .int l2)] M (m_Mo_words_34 l1 l2 s1 s2 M) := by
  unfold m_Mo_words_34
  refine s_pick (lv1 := [(0, .ref 97), (1, .int l1), (2, .int l2)]) [0, 1, 2] rfl ?_
  refine s_callI (av := [.ref 97, .int s1, .int s2]) (rest := []) B (lk_V B d_Mo_words_34 (gl_Mo_161 _) rfl hv_Mo_fails (by decide) (by decide)) rfl (x_rcV B xc_Mo kd_97) (fun _ _ => rfl) rfl rfl (by simp [Value.category]) rfl (fun r1 e9 => ct_Mo_fails _ _ _ r1 e9) (fun r1 _ => ?_)
  refine s_if_eq B d_Mo_words_37 rfl (fun _ => ?_) (fun _ => ?_)
  · refine s_aload_n B d_Mo_words_42 rfl ?_
    refine s_iload_n B d_Mo_words_43 rfl ?_
    refine s_pick (lv1 := [(0, .ref 97), (2, .int l2)]) [0, 2] rfl ?_
    refine s_callI (av := [.ref 97, .int l1]) (rest := []) B (lk_V B d_Mo_words_44 (gl_Mo_183 _) rfl hv_Mo_explore (by decide) (by decide)) rfl (x_rcV B xc_Mo kd_97) (fun _ _ => rfl) rfl rfl (by simp [Value.category]) rfl (fun r2 e9 => ct_Mo_explore _ _ r2 e9) (fun r2 _ => ?_)
    refine s_istore B d_Mo_words_47 (by decide) ?_
    refine s_iload B d_Mo_words_49 rfl ?_
    refine s_iconst (v := (-1:Int32)) B d_Mo_words_51 (by decide) ?_
    refine s_icmp_ne B d_Mo_words_52 rfl (fun _ => ?_) (fun _ => ?_)
    · refine s_aload_n B d_Mo_words_59 rfl ?_
      refine s_iload B d_Mo_words_60 rfl ?_
      refine s_pick (lv1 := [(0, .ref 97), (2, .int l2)]) [0, 2] rfl ?_
      refine s_callU (av := [.ref 97, .int r2.2]) (rest := []) B (lk_V B d_Mo_words_62 (gl_Mo_196 _) rfl hv_Mo_count (by decide) (by decide)) rfl (x_rcV B xc_Mo kd_97) (fun _ _ => rfl) rfl rfl (by simp [Value.category]) rfl (fun r3 e9 => ct_Mo_count _ _ r3 e9) (fun r3 _ => ?_)
      refine s_aload_n B d_Mo_words_65 rfl ?_
      refine s_getS (k := 22) (n := 116) B xc_Mo kd_97 (by decide) rfl rfl fl_Mo_67 sr_97_22 d_Mo_words_66 ?_
      refine s_sipush (v := (150:Int32)) B d_Mo_words_69 (by decide) ?_
      refine s_iload_n B d_Mo_words_72 rfl ?_
      refine s_imul B d_Mo_words_73 ?_
      refine s_lald B kd_116 d_Mo_words_74 (fun v4 _ => ?_)
      exact s_lret B d_Mo_words_75
    · refine s_ldc2 (v := (-1:Int64)) B d_Mo_words_55 (List.mem_cons_of_mem _ cs_Mo_194) ?_
      exact s_lret B d_Mo_words_58
  · refine s_lconst (v := (0:Int64)) B d_Mo_words_40 (by decide) ?_
    exact s_lret B d_Mo_words_41
set_option maxRecDepth 100000 in
set_option maxHeartbeats 4000000 in
theorem t_Mo_words_33  (B : xB p R s m args meth c b_Mo_words 5 R_Mo (Cond.code y_Mo_words b_Mo_words 5 (some .long) :: x_T) (some .long) 7 174 D x_cl (xty g) base)  (l1 : Int32) (l2 : Int32) (s1 : Int32) (M : MS)  : Sn p l e R s m args below meth c 5 D x_cl base (xwd g) cM x_g0 az kz (xfc cM) (xZ below args s D x_cl (xty g) base (xwd g) cM x_g0 az kz ovL) 33 [.int s1, .ref 97] [(0, .ref 97), (1, .int l1), (2, .int l2)] M (m_Mo_words_33 l1 l2 s1 M) := by
  unfold m_Mo_words_33
  refine s_iconst (v := (0:Int32)) B d_Mo_words_33 (by decide) ?_
  refine s_pick (lv1 := [(0, .ref 97), (1, .int l1), (2, .int l2)]) [0, 1, 2] rfl ?_
  exact t_Mo_words_34 B l1 l2 s1 (0:Int32) M
set_option maxRecDepth 100000 in
set_option maxHeartbeats 4000000 in
theorem t_Mo_words_29  (B : xB p R s m args meth c b_Mo_words 5 R_Mo (Cond.code y_Mo_words b_Mo_words 5 (some .long) :: x_T) (some .long) 7 174 D x_cl (xty g) base)  (l1 : Int32) (l2 : Int32) (s1 : Int32) (M : MS)  : Sn p l e R s m args below meth c 5 D x_cl base (xwd g) cM x_g0 az kz (xfc cM) (xZ below args s D x_cl (xty g) base (xwd g) cM x_g0 az kz ovL) 29 [.int s1, .ref 97] [(0, .ref 97), (1, .int l1), (2, .int l2)] M (m_Mo_words_29 l1 l2 s1 M) := by
  unfold m_Mo_words_29
  refine s_iconst (v := (1:Int32)) B d_Mo_words_29 (by decide) ?_
  refine s_goto B d_Mo_words_30 rfl ?_
  refine s_pick (lv1 := [(0, .ref 97), (1, .int l1), (2, .int l2)]) [0, 1, 2] rfl ?_
  exact t_Mo_words_34 B l1 l2 s1 (1:Int32) M
set_option maxRecDepth 100000 in
set_option maxHeartbeats 4000000 in
theorem t_Mo_words_15  (B : xB p R s m args meth c b_Mo_words 5 R_Mo (Cond.code y_Mo_words b_Mo_words 5 (some .long) :: x_T) (some .long) 7 174 D x_cl (xty g) base)  (l1 : Int32) (l2 : Int32) (l3 : Int32) (s1 : Int32) (M : MS)  : Sn p l e R s m args below meth c 5 D x_cl base (xwd g) cM x_g0 az kz (xfc cM) (xZ below args s D x_cl (xty g) base (xwd g) cM x_g0 az kz ovL) 15 [.int s1, .ref 97] [(0, .ref 97), (1, .int l1), (2, .int l2), (3, .int l3)] M (m_Mo_words_15 l1 l2 l3 s1 M) := by
  unfold m_Mo_words_15
  refine s_iload_n B d_Mo_words_15 rfl ?_
  refine s_if_eq B d_Mo_words_16 rfl (fun _ => ?_) (fun _ => ?_)
  · refine s_pick (lv1 := [(0, .ref 97), (1, .int l1), (2, .int l2)]) [0, 1, 2] rfl ?_
    exact t_Mo_words_33 B l1 l2 s1 M
  · refine s_iload_n B d_Mo_words_19 rfl ?_
    refine s_if_lt B d_Mo_words_20 rfl (fun _ => ?_) (fun _ => ?_)
    · refine s_pick (lv1 := [(0, .ref 97), (1, .int l1), (2, .int l2)]) [0, 1, 2] rfl ?_
      exact t_Mo_words_29 B l1 l2 s1 M
    · refine s_iload_n B d_Mo_words_23 rfl ?_
      refine s_bipush (v := (16:Int32)) B d_Mo_words_24 (by decide) ?_
      refine s_icmp_le B d_Mo_words_26 rfl (fun _ => ?_) (fun _ => ?_)
      · refine s_pick (lv1 := [(0, .ref 97), (1, .int l1), (2, .int l2)]) [0, 1, 2] rfl ?_
        exact t_Mo_words_33 B l1 l2 s1 M
      · refine s_pick (lv1 := [(0, .ref 97), (1, .int l1), (2, .int l2)]) [0, 1, 2] rfl ?_
        exact t_Mo_words_29 B l1 l2 s1 M
set_option maxRecDepth 100000 in
set_option maxHeartbeats 4000000 in
theorem t_Mo_words (B : xB p R s m args meth c b_Mo_words 5 R_Mo (Cond.code y_Mo_words b_Mo_words 5 (some .long) :: x_T) (some .long) 7 174 D x_cl (xty g) base) (a1 : Int32) (a2 : Int32) (M : MS) : Sn p l e R s m args below meth c 5 D x_cl base (xwd g) cM x_g0 az kz (xfc cM) (xZ below args s D x_cl (xty g) base (xwd g) cM x_g0 az kz ovL) 0 [] [(0, .ref 97), (1, .int a1), (2, .int a2)] M (m_Mo_words a1 a2 M) := by
  unfold m_Mo_words
  refine s_iload_n B d_Mo_words_0 rfl ?_
  refine s_pick (lv1 := [(0, .ref 97), (1, .int a1), (2, .int a2)]) [0, 1, 2] rfl ?_
  refine s_callI (av := [.int a1]) (rest := []) B (lk_S B d_Mo_words_1 (gl_Mo_158 _) (List.mem_cons_of_mem _ st_Mo_isSlot) (List.mem_cons_of_mem _ in_Mo) (List.mem_cons_of_mem _ ml_Mo_158) rfl hs_Mo_isSlot (by decide) (by decide)) rfl x_rcS (fun _ _ => rfl) rfl rfl (by simp [Value.category]) rfl (fun r1 e9 => ct_Mo_isSlot _ _ r1 e9) (fun r1 _ => ?_)
  refine s_istore_n B d_Mo_words_4 (by decide) ?_
  refine s_aload_n B d_Mo_words_5 rfl ?_
  refine s_iload_n B d_Mo_words_6 rfl ?_
  refine s_if_ne B d_Mo_words_7 rfl (fun _ => ?_) (fun _ => ?_)
  · refine s_iconst (v := (0:Int32)) B d_Mo_words_14 (by decide) ?_
    refine s_pick (lv1 := [(0, .ref 97), (1, .int a1), (2, .int a2), (3, .int r1.2)]) [0, 1, 2, 3] rfl ?_
    exact t_Mo_words_15 B a1 a2 r1.2 (0:Int32) r1.1
  · refine s_iconst (v := (1:Int32)) B d_Mo_words_10 (by decide) ?_
    refine s_goto B d_Mo_words_11 rfl ?_
    refine s_pick (lv1 := [(0, .ref 97), (1, .int a1), (2, .int a2), (3, .int r1.2)]) [0, 1, 2, 3] rfl ?_
    exact t_Mo_words_15 B a1 a2 r1.2 (1:Int32) r1.1
set_option maxRecDepth 100000 in
set_option maxHeartbeats 4000000 in
theorem ct_Mo_words {l : Launch} {D : va_G} {base : Nat} {g : Nat → ClassId} (a1 : Int32) (a2 : Int32) (M : MS) (r : MS × Int64) (hr : m_Mo_words a1 a2 M = some r) : Ct l y_Mo_words (Cond.code y_Mo_words b_Mo_words 5 (some .long) :: x_T) 7 174 D x_cl (xty g) base (xwd g) cM x_g0 [.ref 97, .int a1, .int a2] M r.1 (ovL r.2) :=
  x_met (ov := ovL) (by decide) (Nat.le_of_ble_eq_true rfl) (fun p e R s m args below meth c az B => t_Mo_words B a1 a2 M) r hr
end
theorem d_Mo_ends_0 : decode b_Mo_ends 0 = .ok (.aload_n 0, 1) := by decide +kernel
theorem d_Mo_ends_1 : decode b_Mo_ends 1 = .ok (.iload_n 1, 1) := by decide +kernel
theorem d_Mo_ends_2 : decode b_Mo_ends 2 = .ok (.invokestatic 158, 3) := by decide +kernel
theorem d_Mo_ends_5 : decode b_Mo_ends 5 = .ok (.ifCond .ne (7), 3) := by decide +kernel
theorem d_Mo_ends_8 : decode b_Mo_ends 8 = .ok (.iconst (1), 1) := by decide +kernel
theorem d_Mo_ends_9 : decode b_Mo_ends 9 = .ok (.goto (4), 3) := by decide +kernel
theorem d_Mo_ends_12 : decode b_Mo_ends 12 = .ok (.iconst (0), 1) := by decide +kernel
theorem d_Mo_ends_13 : decode b_Mo_ends 13 = .ok (.iconst (0), 1) := by decide +kernel
theorem d_Mo_ends_14 : decode b_Mo_ends 14 = .ok (.invokevirtual 161, 3) := by decide +kernel
theorem d_Mo_ends_17 : decode b_Mo_ends 17 = .ok (.ifCond .eq (5), 3) := by decide +kernel
theorem d_Mo_ends_20 : decode b_Mo_ends 20 = .ok (.iconst (0), 1) := by decide +kernel
theorem d_Mo_ends_21 : decode b_Mo_ends 21 = .ok (.ireturn, 1) := by decide +kernel
theorem d_Mo_ends_22 : decode b_Mo_ends 22 = .ok (.aload_n 0, 1) := by decide +kernel
theorem d_Mo_ends_23 : decode b_Mo_ends 23 = .ok (.iload_n 1, 1) := by decide +kernel
theorem d_Mo_ends_24 : decode b_Mo_ends 24 = .ok (.invokevirtual 183, 3) := by decide +kernel
theorem d_Mo_ends_27 : decode b_Mo_ends 27 = .ok (.istore_n 2, 1) := by decide +kernel
theorem d_Mo_ends_28 : decode b_Mo_ends 28 = .ok (.iload_n 2, 1) := by decide +kernel
theorem d_Mo_ends_29 : decode b_Mo_ends 29 = .ok (.iconst (-1), 1) := by decide +kernel
theorem d_Mo_ends_30 : decode b_Mo_ends 30 = .ok (.if_icmp .ne (5), 3) := by decide +kernel
theorem d_Mo_ends_33 : decode b_Mo_ends 33 = .ok (.iconst (-1), 1) := by decide +kernel
theorem d_Mo_ends_34 : decode b_Mo_ends 34 = .ok (.ireturn, 1) := by decide +kernel
theorem d_Mo_ends_35 : decode b_Mo_ends 35 = .ok (.iconst (0), 1) := by decide +kernel
theorem d_Mo_ends_36 : decode b_Mo_ends 36 = .ok (.istore_n 3, 1) := by decide +kernel
theorem d_Mo_ends_37 : decode b_Mo_ends 37 = .ok (.iload_n 3, 1) := by decide +kernel
theorem d_Mo_ends_38 : decode b_Mo_ends 38 = .ok (.iload_n 2, 1) := by decide +kernel
theorem d_Mo_ends_39 : decode b_Mo_ends 39 = .ok (.if_icmp .ge (29), 3) := by decide +kernel
theorem d_Mo_ends_42 : decode b_Mo_ends 42 = .ok (.aload_n 0, 1) := by decide +kernel
theorem d_Mo_ends_43 : decode b_Mo_ends 43 = .ok (.getfield 55, 3) := by decide +kernel
theorem d_Mo_ends_46 : decode b_Mo_ends 46 = .ok (.iload_n 3, 1) := by decide +kernel
theorem d_Mo_ends_47 : decode b_Mo_ends 47 = .ok (.aload_n 0, 1) := by decide +kernel
theorem d_Mo_ends_48 : decode b_Mo_ends 48 = .ok (.getfield 61, 3) := by decide +kernel
theorem d_Mo_ends_51 : decode b_Mo_ends 51 = .ok (.iload_n 3, 1) := by decide +kernel
theorem d_Mo_ends_52 : decode b_Mo_ends 52 = .ok (.baload, 1) := by decide +kernel
theorem d_Mo_ends_53 : decode b_Mo_ends 53 = .ok (.ifCond .eq (7), 3) := by decide +kernel
theorem d_Mo_ends_56 : decode b_Mo_ends 56 = .ok (.iconst (1), 1) := by decide +kernel
theorem d_Mo_ends_57 : decode b_Mo_ends 57 = .ok (.goto (4), 3) := by decide +kernel
theorem d_Mo_ends_60 : decode b_Mo_ends 60 = .ok (.iconst (0), 1) := by decide +kernel
theorem d_Mo_ends_61 : decode b_Mo_ends 61 = .ok (.iastore, 1) := by decide +kernel
theorem d_Mo_ends_62 : decode b_Mo_ends 62 = .ok (.iinc 3 (1), 3) := by decide +kernel
theorem d_Mo_ends_65 : decode b_Mo_ends 65 = .ok (.goto (-28), 3) := by decide +kernel
theorem d_Mo_ends_68 : decode b_Mo_ends 68 = .ok (.iconst (1), 1) := by decide +kernel
theorem d_Mo_ends_69 : decode b_Mo_ends 69 = .ok (.istore_n 3, 1) := by decide +kernel
theorem d_Mo_ends_70 : decode b_Mo_ends 70 = .ok (.iconst (1), 1) := by decide +kernel
theorem d_Mo_ends_71 : decode b_Mo_ends 71 = .ok (.istore 4, 2) := by decide +kernel
theorem d_Mo_ends_73 : decode b_Mo_ends 73 = .ok (.iload 4, 2) := by decide +kernel
theorem d_Mo_ends_75 : decode b_Mo_ends 75 = .ok (.iconst (2), 1) := by decide +kernel
theorem d_Mo_ends_76 : decode b_Mo_ends 76 = .ok (.iload_n 2, 1) := by decide +kernel
theorem d_Mo_ends_77 : decode b_Mo_ends 77 = .ok (.imul, 1) := by decide +kernel
theorem d_Mo_ends_78 : decode b_Mo_ends 78 = .ok (.if_icmp .ge (128), 3) := by decide +kernel
theorem d_Mo_ends_81 : decode b_Mo_ends 81 = .ok (.iconst (0), 1) := by decide +kernel
theorem d_Mo_ends_82 : decode b_Mo_ends 82 = .ok (.istore 5, 2) := by decide +kernel
theorem d_Mo_ends_84 : decode b_Mo_ends 84 = .ok (.iload 5, 2) := by decide +kernel
theorem d_Mo_ends_86 : decode b_Mo_ends 86 = .ok (.iload_n 2, 1) := by decide +kernel
theorem d_Mo_ends_87 : decode b_Mo_ends 87 = .ok (.if_icmp .ge (59), 3) := by decide +kernel
theorem d_Mo_ends_90 : decode b_Mo_ends 90 = .ok (.aload_n 0, 1) := by decide +kernel
theorem d_Mo_ends_91 : decode b_Mo_ends 91 = .ok (.getfield 58, 3) := by decide +kernel
theorem d_Mo_ends_94 : decode b_Mo_ends 94 = .ok (.iload 5, 2) := by decide +kernel
theorem d_Mo_ends_96 : decode b_Mo_ends 96 = .ok (.iconst (0), 1) := by decide +kernel
theorem d_Mo_ends_97 : decode b_Mo_ends 97 = .ok (.iastore, 1) := by decide +kernel
theorem d_Mo_ends_98 : decode b_Mo_ends 98 = .ok (.iconst (0), 1) := by decide +kernel
theorem d_Mo_ends_99 : decode b_Mo_ends 99 = .ok (.istore 6, 2) := by decide +kernel
theorem d_Mo_ends_101 : decode b_Mo_ends 101 = .ok (.iload 6, 2) := by decide +kernel
theorem d_Mo_ends_103 : decode b_Mo_ends 103 = .ok (.iconst (4), 1) := by decide +kernel
theorem d_Mo_ends_104 : decode b_Mo_ends 104 = .ok (.if_icmp .ge (36), 3) := by decide +kernel
theorem d_Mo_ends_107 : decode b_Mo_ends 107 = .ok (.aload_n 0, 1) := by decide +kernel
theorem d_Mo_ends_108 : decode b_Mo_ends 108 = .ok (.getfield 58, 3) := by decide +kernel
theorem d_Mo_ends_111 : decode b_Mo_ends 111 = .ok (.iload 5, 2) := by decide +kernel
theorem d_Mo_ends_113 : decode b_Mo_ends 113 = .ok (.dup2, 1) := by decide +kernel
theorem d_Mo_ends_114 : decode b_Mo_ends 114 = .ok (.iaload, 1) := by decide +kernel
theorem d_Mo_ends_115 : decode b_Mo_ends 115 = .ok (.aload_n 0, 1) := by decide +kernel
theorem d_Mo_ends_116 : decode b_Mo_ends 116 = .ok (.getfield 55, 3) := by decide +kernel
theorem d_Mo_ends_119 : decode b_Mo_ends 119 = .ok (.aload_n 0, 1) := by decide +kernel
theorem d_Mo_ends_120 : decode b_Mo_ends 120 = .ok (.getfield 49, 3) := by decide +kernel
theorem d_Mo_ends_123 : decode b_Mo_ends 123 = .ok (.iconst (4), 1) := by decide +kernel
theorem d_Mo_ends_124 : decode b_Mo_ends 124 = .ok (.iload 5, 2) := by decide +kernel
theorem d_Mo_ends_126 : decode b_Mo_ends 126 = .ok (.imul, 1) := by decide +kernel
theorem d_Mo_ends_127 : decode b_Mo_ends 127 = .ok (.iload 6, 2) := by decide +kernel
theorem d_Mo_ends_129 : decode b_Mo_ends 129 = .ok (.iadd, 1) := by decide +kernel
theorem d_Mo_ends_130 : decode b_Mo_ends 130 = .ok (.iaload, 1) := by decide +kernel
theorem d_Mo_ends_131 : decode b_Mo_ends 131 = .ok (.iaload, 1) := by decide +kernel
theorem d_Mo_ends_132 : decode b_Mo_ends 132 = .ok (.ior, 1) := by decide +kernel
theorem d_Mo_ends_133 : decode b_Mo_ends 133 = .ok (.iastore, 1) := by decide +kernel
theorem d_Mo_ends_134 : decode b_Mo_ends 134 = .ok (.iinc 6 (1), 3) := by decide +kernel
theorem d_Mo_ends_137 : decode b_Mo_ends 137 = .ok (.goto (-36), 3) := by decide +kernel
theorem d_Mo_ends_140 : decode b_Mo_ends 140 = .ok (.iinc 5 (1), 3) := by decide +kernel
theorem d_Mo_ends_143 : decode b_Mo_ends 143 = .ok (.goto (-59), 3) := by decide +kernel
theorem d_Mo_ends_146 : decode b_Mo_ends 146 = .ok (.iconst (0), 1) := by decide +kernel
theorem d_Mo_ends_147 : decode b_Mo_ends 147 = .ok (.istore 5, 2) := by decide +kernel
theorem d_Mo_ends_149 : decode b_Mo_ends 149 = .ok (.iload 5, 2) := by decide +kernel
theorem d_Mo_ends_151 : decode b_Mo_ends 151 = .ok (.iload_n 2, 1) := by decide +kernel
theorem d_Mo_ends_152 : decode b_Mo_ends 152 = .ok (.if_icmp .ge (23), 3) := by decide +kernel
theorem d_Mo_ends_155 : decode b_Mo_ends 155 = .ok (.aload_n 0, 1) := by decide +kernel
theorem d_Mo_ends_156 : decode b_Mo_ends 156 = .ok (.getfield 55, 3) := by decide +kernel
theorem d_Mo_ends_159 : decode b_Mo_ends 159 = .ok (.iload 5, 2) := by decide +kernel
theorem d_Mo_ends_161 : decode b_Mo_ends 161 = .ok (.aload_n 0, 1) := by decide +kernel
theorem d_Mo_ends_162 : decode b_Mo_ends 162 = .ok (.getfield 58, 3) := by decide +kernel
theorem d_Mo_ends_165 : decode b_Mo_ends 165 = .ok (.iload 5, 2) := by decide +kernel
theorem d_Mo_ends_167 : decode b_Mo_ends 167 = .ok (.iaload, 1) := by decide +kernel
theorem d_Mo_ends_168 : decode b_Mo_ends 168 = .ok (.iastore, 1) := by decide +kernel
theorem d_Mo_ends_169 : decode b_Mo_ends 169 = .ok (.iinc 5 (1), 3) := by decide +kernel
theorem d_Mo_ends_172 : decode b_Mo_ends 172 = .ok (.goto (-23), 3) := by decide +kernel
theorem d_Mo_ends_175 : decode b_Mo_ends 175 = .ok (.iload_n 3, 1) := by decide +kernel
theorem d_Mo_ends_176 : decode b_Mo_ends 176 = .ok (.ifCond .eq (22), 3) := by decide +kernel
theorem d_Mo_ends_179 : decode b_Mo_ends 179 = .ok (.iload 4, 2) := by decide +kernel
theorem d_Mo_ends_181 : decode b_Mo_ends 181 = .ok (.iload_n 2, 1) := by decide +kernel
theorem d_Mo_ends_182 : decode b_Mo_ends 182 = .ok (.if_icmp .lt (12), 3) := by decide +kernel
theorem d_Mo_ends_185 : decode b_Mo_ends 185 = .ok (.aload_n 0, 1) := by decide +kernel
theorem d_Mo_ends_186 : decode b_Mo_ends 186 = .ok (.getfield 55, 3) := by decide +kernel
theorem d_Mo_ends_189 : decode b_Mo_ends 189 = .ok (.iconst (0), 1) := by decide +kernel
theorem d_Mo_ends_190 : decode b_Mo_ends 190 = .ok (.iaload, 1) := by decide +kernel
theorem d_Mo_ends_191 : decode b_Mo_ends 191 = .ok (.ifCond .ne (7), 3) := by decide +kernel
theorem d_Mo_ends_194 : decode b_Mo_ends 194 = .ok (.iconst (1), 1) := by decide +kernel
theorem d_Mo_ends_195 : decode b_Mo_ends 195 = .ok (.goto (4), 3) := by decide +kernel
theorem d_Mo_ends_198 : decode b_Mo_ends 198 = .ok (.iconst (0), 1) := by decide +kernel
theorem d_Mo_ends_199 : decode b_Mo_ends 199 = .ok (.istore_n 3, 1) := by decide +kernel
theorem d_Mo_ends_200 : decode b_Mo_ends 200 = .ok (.iinc 4 (1), 3) := by decide +kernel
theorem d_Mo_ends_203 : decode b_Mo_ends 203 = .ok (.goto (-130), 3) := by decide +kernel
theorem d_Mo_ends_206 : decode b_Mo_ends 206 = .ok (.iload_n 3, 1) := by decide +kernel
theorem d_Mo_ends_207 : decode b_Mo_ends 207 = .ok (.ifCond .eq (7), 3) := by decide +kernel
theorem d_Mo_ends_210 : decode b_Mo_ends 210 = .ok (.iconst (1), 1) := by decide +kernel
theorem d_Mo_ends_211 : decode b_Mo_ends 211 = .ok (.goto (4), 3) := by decide +kernel
theorem d_Mo_ends_214 : decode b_Mo_ends 214 = .ok (.iconst (0), 1) := by decide +kernel
theorem d_Mo_ends_215 : decode b_Mo_ends 215 = .ok (.ireturn, 1) := by decide +kernel
section
variable {p : Program} {l : Launch} {e : Env} {R : Room} {s : State} {m : MethodId} {args : Array Value} {below : List Frame} {meth : Method} {c : Code} {D : va_G} {base : Nat} {g : Nat → ClassId} {az : Nat → Nat} {kz : Nat × Nat}
set_option maxRecDepth 100000 in
set_option maxHeartbeats 4000000 in
theorem t_Mo_ends_206  (B : xB p R s m args meth c b_Mo_ends 7 R_Mo (Cond.code y_Mo_ends b_Mo_ends 7 (some .int) :: x_T) (some .int) 7 174 D x_cl (xty g) base)  (l3 : Int32) (M : MS)  : Sn p l e R s m args below meth c 7 D x_cl base (xwd g) cM x_g0 az kz (xfc cM) (xZ below args s D x_cl (xty g) base (xwd g) cM x_g0 az kz ovI) 206 [] [(3, .int l3)] M (m_Mo_ends_206 l3 M) := by
  unfold m_Mo_ends_206
  refine s_iload_n B d_Mo_ends_206 rfl ?_
  refine s_if_eq B d_Mo_ends_207 rfl (fun _ => ?_) (fun _ => ?_)
  · refine s_iconst (v := (0:Int32)) B d_Mo_ends_214 (by decide) ?_
    exact s_iret B d_Mo_ends_215
  · refine s_iconst (v := (1:Int32)) B d_Mo_ends_210 (by decide) ?_
    refine s_goto B d_Mo_ends_211 rfl ?_
    exact s_iret B d_Mo_ends_215
set_option maxRecDepth 100000 in
set_option maxHeartbeats 4000000 in
theorem t_Mo_ends_175 {k73 : Int32 × Int32 × Int32 × MS → Option (MS × Int32)} (B : xB p R s m args meth c b_Mo_ends 7 R_Mo (Cond.code y_Mo_ends b_Mo_ends 7 (some .int) :: x_T) (some .int) 7 174 D x_cl (xty g) base) (hk73 : ∀ (l2 : Int32) (l3 : Int32) (l4 : Int32) (M : MS) , Sn p l e R s m args below meth c 7 D x_cl base (xwd g) cM x_g0 az kz (xfc cM) (xZ below args s D x_cl (xty g) base (xwd g) cM x_g0 az kz ovI) 73 [] [(0, .ref 97), (2, .int l2), (3, .int l3), (4, .int l4)] M (k73 (l2, l3, l4, M))) (l2 : Int32) (l3 : Int32) (l4 : Int32) (M : MS)  : Sn p l e R s m args below meth c 7 D x_cl base (xwd g) cM x_g0 az kz (xfc cM) (xZ below args s D x_cl (xty g) base (xwd g) cM x_g0 az kz ovI) 175 [] [(0, .ref 97), (2, .int l2), (3, .int l3), (4, .int l4)] M (m_Mo_ends_175 k73 l2 l3 l4 M) := by
  unfold m_Mo_ends_175
  refine s_iload_n B d_Mo_ends_175 rfl ?_
  refine s_if_eq B d_Mo_ends_176 rfl (fun _ => ?_) (fun _ => ?_)
  · refine s_iconst (v := (0:Int32)) B d_Mo_ends_198 (by decide) ?_
    refine s_istore_n B d_Mo_ends_199 (by decide) ?_
    refine s_iinc (w := (1:Int32)) B d_Mo_ends_200 rfl (by decide) (by decide) ?_
    refine s_goto B d_Mo_ends_203 rfl ?_
    refine s_pick (lv1 := [(0, .ref 97), (2, .int l2), (3, .int (0:Int32)), (4, .int (l4 + (1:Int32)))]) [0, 2, 3, 4] rfl ?_
    exact hk73 l2 (0:Int32) (l4 + (1:Int32)) M
  · refine s_iload B d_Mo_ends_179 rfl ?_
    refine s_iload_n B d_Mo_ends_181 rfl ?_
    refine s_icmp_lt B d_Mo_ends_182 rfl (fun _ => ?_) (fun _ => ?_)
    · refine s_iconst (v := (1:Int32)) B d_Mo_ends_194 (by decide) ?_
      refine s_goto B d_Mo_ends_195 rfl ?_
      refine s_istore_n B d_Mo_ends_199 (by decide) ?_
      refine s_iinc (w := (1:Int32)) B d_Mo_ends_200 rfl (by decide) (by decide) ?_
      refine s_goto B d_Mo_ends_203 rfl ?_
      refine s_pick (lv1 := [(0, .ref 97), (2, .int l2), (3, .int (1:Int32)), (4, .int (l4 + (1:Int32)))]) [0, 2, 3, 4] rfl ?_
      exact hk73 l2 (1:Int32) (l4 + (1:Int32)) M
    · refine s_aload_n B d_Mo_ends_185 rfl ?_
      refine s_getS (k := 18) (n := 112) B xc_Mo kd_97 (by decide) rfl rfl fl_Mo_55 sr_97_18 d_Mo_ends_186 ?_
      refine s_iconst (v := (0:Int32)) B d_Mo_ends_189 (by decide) ?_
      refine s_iald B (Or.inl kd_112) d_Mo_ends_190 (fun v1 _ => ?_)
      refine s_if_ne B d_Mo_ends_191 rfl (fun _ => ?_) (fun _ => ?_)
      · refine s_iconst (v := (0:Int32)) B d_Mo_ends_198 (by decide) ?_
        refine s_istore_n B d_Mo_ends_199 (by decide) ?_
        refine s_iinc (w := (1:Int32)) B d_Mo_ends_200 rfl (by decide) (by decide) ?_
        refine s_goto B d_Mo_ends_203 rfl ?_
        refine s_pick (lv1 := [(0, .ref 97), (2, .int l2), (3, .int (0:Int32)), (4, .int (l4 + (1:Int32)))]) [0, 2, 3, 4] rfl ?_
        exact hk73 l2 (0:Int32) (l4 + (1:Int32)) M
      · refine s_iconst (v := (1:Int32)) B d_Mo_ends_194 (by decide) ?_
        refine s_goto B d_Mo_ends_195 rfl ?_
        refine s_istore_n B d_Mo_ends_199 (by decide) ?_
        refine s_iinc (w := (1:Int32)) B d_Mo_ends_200 rfl (by decide) (by decide) ?_
        refine s_goto B d_Mo_ends_203 rfl ?_
        refine s_pick (lv1 := [(0, .ref 97), (2, .int l2), (3, .int (1:Int32)), (4, .int (l4 + (1:Int32)))]) [0, 2, 3, 4] rfl ?_
        exact hk73 l2 (1:Int32) (l4 + (1:Int32)) M
set_option maxRecDepth 100000 in
set_option maxHeartbeats 4000000 in
theorem t_Mo_ends_149b {k73 : Int32 × Int32 × Int32 × MS → Option (MS × Int32)} {k149 : Int32 × Int32 × Int32 × Int32 × MS → Option (MS × Int32)} (B : xB p R s m args meth c b_Mo_ends 7 R_Mo (Cond.code y_Mo_ends b_Mo_ends 7 (some .int) :: x_T) (some .int) 7 174 D x_cl (xty g) base) (hk73 : ∀ (l2 : Int32) (l3 : Int32) (l4 : Int32) (M : MS) , Sn p l e R s m args below meth c 7 D x_cl base (xwd g) cM x_g0 az kz (xfc cM) (xZ below args s D x_cl (xty g) base (xwd g) cM x_g0 az kz ovI) 73 [] [(0, .ref 97), (2, .int l2), (3, .int l3), (4, .int l4)] M (k73 (l2, l3, l4, M))) (hk149 : ∀ (l2 : Int32) (l3 : Int32) (l4 : Int32) (l5 : Int32) (M : MS) , Sn p l e R s m args below meth c 7 D x_cl base (xwd g) cM x_g0 az kz (xfc cM) (xZ below args s D x_cl (xty g) base (xwd g) cM x_g0 az kz ovI) 149 [] [(0, .ref 97), (2, .int l2), (3, .int l3), (4, .int l4), (5, .int l5)] M (k149 (l2, l3, l4, l5, M))) (l2 : Int32) (l3 : Int32) (l4 : Int32) (l5 : Int32) (M : MS)  : Sn p l e R s m args below meth c 7 D x_cl base (xwd g) cM x_g0 az kz (xfc cM) (xZ below args s D x_cl (xty g) base (xwd g) cM x_g0 az kz ovI) 149 [] [(0, .ref 97), (2, .int l2), (3, .int l3), (4, .int l4), (5, .int l5)] M (m_Mo_ends_149b k73 k149 l2 l3 l4 l5 M) := by
  unfold m_Mo_ends_149b
  refine s_iload B d_Mo_ends_149 rfl ?_
  refine s_iload_n B d_Mo_ends_151 rfl ?_
  refine s_icmp_ge B d_Mo_ends_152 rfl (fun _ => ?_) (fun _ => ?_)
  · refine s_pick (lv1 := [(0, .ref 97), (2, .int l2), (3, .int l3), (4, .int l4)]) [0, 2, 3, 4] rfl ?_
    exact t_Mo_ends_175 B hk73 l2 l3 l4 M
  · refine s_aload_n B d_Mo_ends_155 rfl ?_
    refine s_getS (k := 18) (n := 112) B xc_Mo kd_97 (by decide) rfl rfl fl_Mo_55 sr_97_18 d_Mo_ends_156 ?_
    refine s_iload B d_Mo_ends_159 rfl ?_
    refine s_aload_n B d_Mo_ends_161 rfl ?_
    refine s_getS (k := 19) (n := 113) B xc_Mo kd_97 (by decide) rfl rfl fl_Mo_58 sr_97_19 d_Mo_ends_162 ?_
    refine s_iload B d_Mo_ends_165 rfl ?_
    refine s_iald B (Or.inl kd_113) d_Mo_ends_167 (fun v1 _ => ?_)
    refine s_iast B (Or.inl kd_112) d_Mo_ends_168 (fun M2 _ => ?_)
    refine s_iinc (w := (1:Int32)) B d_Mo_ends_169 rfl (by decide) (by decide) ?_
    refine s_goto B d_Mo_ends_172 rfl ?_
    refine s_pick (lv1 := [(0, .ref 97), (2, .int l2), (3, .int l3), (4, .int l4), (5, .int (l5 + (1:Int32)))]) [0, 2, 3, 4, 5] rfl ?_
    exact hk149 l2 l3 l4 (l5 + (1:Int32)) M2
set_option maxRecDepth 100000 in
set_option maxHeartbeats 4000000 in
theorem t_Mo_ends_149 {k73 : Int32 × Int32 × Int32 × MS → Option (MS × Int32)} (B : xB p R s m args meth c b_Mo_ends 7 R_Mo (Cond.code y_Mo_ends b_Mo_ends 7 (some .int) :: x_T) (some .int) 7 174 D x_cl (xty g) base) (hk73 : ∀ (l2 : Int32) (l3 : Int32) (l4 : Int32) (M : MS) , Sn p l e R s m args below meth c 7 D x_cl base (xwd g) cM x_g0 az kz (xfc cM) (xZ below args s D x_cl (xty g) base (xwd g) cM x_g0 az kz ovI) 73 [] [(0, .ref 97), (2, .int l2), (3, .int l3), (4, .int l4)] M (k73 (l2, l3, l4, M))) (l2 : Int32) (l3 : Int32) (l4 : Int32) (l5 : Int32) (M : MS)  : Sn p l e R s m args below meth c 7 D x_cl base (xwd g) cM x_g0 az kz (xfc cM) (xZ below args s D x_cl (xty g) base (xwd g) cM x_g0 az kz ovI) 149 [] [(0, .ref 97), (2, .int l2), (3, .int l3), (4, .int l4), (5, .int l5)] M (m_Mo_ends_149 k73 (l2, l3, l4, l5, M)) := by
  have q : ∀ (F : Nat) (i : Int32 × Int32 × Int32 × Int32 × MS), Sn p l e R s m args below meth c 7 D x_cl base (xwd g) cM x_g0 az kz (xfc cM) (xZ below args s D x_cl (xty g) base (xwd g) cM x_g0 az kz ovI) 149 [] [(0, .ref 97), (2, .int i.1), (3, .int i.2.1), (4, .int i.2.2.1), (5, .int i.2.2.2.1)] i.2.2.2.2 (fx (fun (k : Int32 × Int32 × Int32 × Int32 × MS → Option (MS × Int32)) (i : Int32 × Int32 × Int32 × Int32 × MS) => m_Mo_ends_149b k73 k i.1 i.2.1 i.2.2.1 i.2.2.2.1 i.2.2.2.2) F i) := by
    intro F
    induction F with
    | zero => intro i ; exact s_none
    | succ F ih => intro i ; exact t_Mo_ends_149b B hk73 (fun l2 l3 l4 l5 M  => ih (l2, l3, l4, l5, M) ) i.1 i.2.1 i.2.2.1 i.2.2.2.1 i.2.2.2.2 
  exact q FU (l2, l3, l4, l5, M) 
set_option maxRecDepth 100000 in
set_option maxHeartbeats 4000000 in
theorem t_Mo_ends_101b {k73 : Int32 × Int32 × Int32 × MS → Option (MS × Int32)} {k84 : Int32 × Int32 × Int32 × Int32 × MS → Option (MS × Int32)} {k101 : Int32 × Int32 × Int32 × Int32 × Int32 × MS → Option (MS × Int32)} (B : xB p R s m args meth c b_Mo_ends 7 R_Mo (Cond.code y_Mo_ends b_Mo_ends 7 (some .int) :: x_T) (some .int) 7 174 D x_cl (xty g) base) (hk73 : ∀ (l2 : Int32) (l3 : Int32) (l4 : Int32) (M : MS) , Sn p l e R s m args below meth c 7 D x_cl base (xwd g) cM x_g0 az kz (xfc cM) (xZ below args s D x_cl (xty g) base (xwd g) cM x_g0 az kz ovI) 73 [] [(0, .ref 97), (2, .int l2), (3, .int l3), (4, .int l4)] M (k73 (l2, l3, l4, M))) (hk84 : ∀ (l2 : Int32) (l3 : Int32) (l4 : Int32) (l5 : Int32) (M : MS) , Sn p l e R s m args below meth c 7 D x_cl base (xwd g) cM x_g0 az kz (xfc cM) (xZ below args s D x_cl (xty g) base (xwd g) cM x_g0 az kz ovI) 84 [] [(0, .ref 97), (2, .int l2), (3, .int l3), (4, .int l4), (5, .int l5)] M (k84 (l2, l3, l4, l5, M))) (hk101 : ∀ (l2 : Int32) (l3 : Int32) (l4 : Int32) (l5 : Int32) (l6 : Int32) (M : MS) , Sn p l e R s m args below meth c 7 D x_cl base (xwd g) cM x_g0 az kz (xfc cM) (xZ below args s D x_cl (xty g) base (xwd g) cM x_g0 az kz ovI) 101 [] [(0, .ref 97), (2, .int l2), (3, .int l3), (4, .int l4), (5, .int l5), (6, .int l6)] M (k101 (l2, l3, l4, l5, l6, M))) (l2 : Int32) (l3 : Int32) (l4 : Int32) (l5 : Int32) (l6 : Int32) (M : MS)  : Sn p l e R s m args below meth c 7 D x_cl base (xwd g) cM x_g0 az kz (xfc cM) (xZ below args s D x_cl (xty g) base (xwd g) cM x_g0 az kz ovI) 101 [] [(0, .ref 97), (2, .int l2), (3, .int l3), (4, .int l4), (5, .int l5), (6, .int l6)] M (m_Mo_ends_101b k73 k84 k101 l2 l3 l4 l5 l6 M) := by
  unfold m_Mo_ends_101b
  refine s_iload B d_Mo_ends_101 rfl ?_
  refine s_iconst (v := (4:Int32)) B d_Mo_ends_103 (by decide) ?_
  refine s_icmp_ge B d_Mo_ends_104 rfl (fun _ => ?_) (fun _ => ?_)
  · refine s_iinc (w := (1:Int32)) B d_Mo_ends_140 rfl (by decide) (by decide) ?_
    refine s_goto B d_Mo_ends_143 rfl ?_
    refine s_pick (lv1 := [(0, .ref 97), (2, .int l2), (3, .int l3), (4, .int l4), (5, .int (l5 + (1:Int32)))]) [0, 2, 3, 4, 5] rfl ?_
    exact hk84 l2 l3 l4 (l5 + (1:Int32)) M
  · refine s_aload_n B d_Mo_ends_107 rfl ?_
    refine s_getS (k := 19) (n := 113) B xc_Mo kd_97 (by decide) rfl rfl fl_Mo_58 sr_97_19 d_Mo_ends_108 ?_
    refine s_iload B d_Mo_ends_111 rfl ?_
    refine s_dup2_11 B d_Mo_ends_113 rfl rfl ?_
    refine s_iald B (Or.inl kd_113) d_Mo_ends_114 (fun v1 _ => ?_)
    refine s_aload_n B d_Mo_ends_115 rfl ?_
    refine s_getS (k := 18) (n := 112) B xc_Mo kd_97 (by decide) rfl rfl fl_Mo_55 sr_97_18 d_Mo_ends_116 ?_
    refine s_aload_n B d_Mo_ends_119 rfl ?_
    refine s_getS (k := 16) (n := 110) B xc_Mo kd_97 (by decide) rfl rfl fl_Mo_49 sr_97_16 d_Mo_ends_120 ?_
    refine s_iconst (v := (4:Int32)) B d_Mo_ends_123 (by decide) ?_
    refine s_iload B d_Mo_ends_124 rfl ?_
    refine s_imul B d_Mo_ends_126 ?_
    refine s_iload B d_Mo_ends_127 rfl ?_
    refine s_iadd B d_Mo_ends_129 ?_
    refine s_iald B (Or.inl kd_110) d_Mo_ends_130 (fun v2 _ => ?_)
    refine s_iald B (Or.inl kd_112) d_Mo_ends_131 (fun v3 _ => ?_)
    refine s_ior B d_Mo_ends_132 ?_
    refine s_iast B (Or.inl kd_113) d_Mo_ends_133 (fun M4 _ => ?_)
    refine s_iinc (w := (1:Int32)) B d_Mo_ends_134 rfl (by decide) (by decide) ?_
    refine s_goto B d_Mo_ends_137 rfl ?_
    refine s_pick (lv1 := [(0, .ref 97), (2, .int l2), (3, .int l3), (4, .int l4), (5, .int l5), (6, .int (l6 + (1:Int32)))]) [0, 2, 3, 4, 5, 6] rfl ?_
    exact hk101 l2 l3 l4 l5 (l6 + (1:Int32)) M4
set_option maxRecDepth 100000 in
set_option maxHeartbeats 4000000 in
theorem t_Mo_ends_101 {k73 : Int32 × Int32 × Int32 × MS → Option (MS × Int32)} {k84 : Int32 × Int32 × Int32 × Int32 × MS → Option (MS × Int32)} (B : xB p R s m args meth c b_Mo_ends 7 R_Mo (Cond.code y_Mo_ends b_Mo_ends 7 (some .int) :: x_T) (some .int) 7 174 D x_cl (xty g) base) (hk73 : ∀ (l2 : Int32) (l3 : Int32) (l4 : Int32) (M : MS) , Sn p l e R s m args below meth c 7 D x_cl base (xwd g) cM x_g0 az kz (xfc cM) (xZ below args s D x_cl (xty g) base (xwd g) cM x_g0 az kz ovI) 73 [] [(0, .ref 97), (2, .int l2), (3, .int l3), (4, .int l4)] M (k73 (l2, l3, l4, M))) (hk84 : ∀ (l2 : Int32) (l3 : Int32) (l4 : Int32) (l5 : Int32) (M : MS) , Sn p l e R s m args below meth c 7 D x_cl base (xwd g) cM x_g0 az kz (xfc cM) (xZ below args s D x_cl (xty g) base (xwd g) cM x_g0 az kz ovI) 84 [] [(0, .ref 97), (2, .int l2), (3, .int l3), (4, .int l4), (5, .int l5)] M (k84 (l2, l3, l4, l5, M))) (l2 : Int32) (l3 : Int32) (l4 : Int32) (l5 : Int32) (l6 : Int32) (M : MS)  : Sn p l e R s m args below meth c 7 D x_cl base (xwd g) cM x_g0 az kz (xfc cM) (xZ below args s D x_cl (xty g) base (xwd g) cM x_g0 az kz ovI) 101 [] [(0, .ref 97), (2, .int l2), (3, .int l3), (4, .int l4), (5, .int l5), (6, .int l6)] M (m_Mo_ends_101 k73 k84 (l2, l3, l4, l5, l6, M)) := by
  have q : ∀ (F : Nat) (i : Int32 × Int32 × Int32 × Int32 × Int32 × MS), Sn p l e R s m args below meth c 7 D x_cl base (xwd g) cM x_g0 az kz (xfc cM) (xZ below args s D x_cl (xty g) base (xwd g) cM x_g0 az kz ovI) 101 [] [(0, .ref 97), (2, .int i.1), (3, .int i.2.1), (4, .int i.2.2.1), (5, .int i.2.2.2.1), (6, .int i.2.2.2.2.1)] i.2.2.2.2.2 (fx (fun (k : Int32 × Int32 × Int32 × Int32 × Int32 × MS → Option (MS × Int32)) (i : Int32 × Int32 × Int32 × Int32 × Int32 × MS) => m_Mo_ends_101b k73 k84 k i.1 i.2.1 i.2.2.1 i.2.2.2.1 i.2.2.2.2.1 i.2.2.2.2.2) F i) := by
    intro F
    induction F with
    | zero => intro i ; exact s_none
    | succ F ih => intro i ; exact t_Mo_ends_101b B hk73 hk84 (fun l2 l3 l4 l5 l6 M  => ih (l2, l3, l4, l5, l6, M) ) i.1 i.2.1 i.2.2.1 i.2.2.2.1 i.2.2.2.2.1 i.2.2.2.2.2 
  exact q FU (l2, l3, l4, l5, l6, M) 
set_option maxRecDepth 100000 in
set_option maxHeartbeats 4000000 in
theorem t_Mo_ends_84b {k73 : Int32 × Int32 × Int32 × MS → Option (MS × Int32)} {k84 : Int32 × Int32 × Int32 × Int32 × MS → Option (MS × Int32)} (B : xB p R s m args meth c b_Mo_ends 7 R_Mo (Cond.code y_Mo_ends b_Mo_ends 7 (some .int) :: x_T) (some .int) 7 174 D x_cl (xty g) base) (hk73 : ∀ (l2 : Int32) (l3 : Int32) (l4 : Int32) (M : MS) , Sn p l e R s m args below meth c 7 D x_cl base (xwd g) cM x_g0 az kz (xfc cM) (xZ below args s D x_cl (xty g) base (xwd g) cM x_g0 az kz ovI) 73 [] [(0, .ref 97), (2, .int l2), (3, .int l3), (4, .int l4)] M (k73 (l2, l3, l4, M))) (hk84 : ∀ (l2 : Int32) (l3 : Int32) (l4 : Int32) (l5 : Int32) (M : MS) , Sn p l e R s m args below meth c 7 D x_cl base (xwd g) cM x_g0 az kz (xfc cM) (xZ below args s D x_cl (xty g) base (xwd g) cM x_g0 az kz ovI) 84 [] [(0, .ref 97), (2, .int l2), (3, .int l3), (4, .int l4), (5, .int l5)] M (k84 (l2, l3, l4, l5, M))) (l2 : Int32) (l3 : Int32) (l4 : Int32) (l5 : Int32) (M : MS)  : Sn p l e R s m args below meth c 7 D x_cl base (xwd g) cM x_g0 az kz (xfc cM) (xZ below args s D x_cl (xty g) base (xwd g) cM x_g0 az kz ovI) 84 [] [(0, .ref 97), (2, .int l2), (3, .int l3), (4, .int l4), (5, .int l5)] M (m_Mo_ends_84b k73 k84 l2 l3 l4 l5 M) := by
  unfold m_Mo_ends_84b
  refine s_iload B d_Mo_ends_84 rfl ?_
  refine s_iload_n B d_Mo_ends_86 rfl ?_
  refine s_icmp_ge B d_Mo_ends_87 rfl (fun _ => ?_) (fun _ => ?_)
  · refine s_iconst (v := (0:Int32)) B d_Mo_ends_146 (by decide) ?_
    refine s_istore B d_Mo_ends_147 (by decide) ?_
    refine s_pick (lv1 := [(0, .ref 97), (2, .int l2), (3, .int l3), (4, .int l4), (5, .int (0:Int32))]) [0, 2, 3, 4, 5] rfl ?_
    exact t_Mo_ends_149 B hk73 l2 l3 l4 (0:Int32) M
  · refine s_aload_n B d_Mo_ends_90 rfl ?_
    refine s_getS (k := 19) (n := 113) B xc_Mo kd_97 (by decide) rfl rfl fl_Mo_58 sr_97_19 d_Mo_ends_91 ?_
    refine s_iload B d_Mo_ends_94 rfl ?_
    refine s_iconst (v := (0:Int32)) B d_Mo_ends_96 (by decide) ?_
    refine s_iast B (Or.inl kd_113) d_Mo_ends_97 (fun M1 _ => ?_)
    refine s_iconst (v := (0:Int32)) B d_Mo_ends_98 (by decide) ?_
    refine s_istore B d_Mo_ends_99 (by decide) ?_
    refine s_pick (lv1 := [(0, .ref 97), (2, .int l2), (3, .int l3), (4, .int l4), (5, .int l5), (6, .int (0:Int32))]) [0, 2, 3, 4, 5, 6] rfl ?_
    exact t_Mo_ends_101 B hk73 hk84 l2 l3 l4 l5 (0:Int32) M1
set_option maxRecDepth 100000 in
set_option maxHeartbeats 4000000 in
theorem t_Mo_ends_84 {k73 : Int32 × Int32 × Int32 × MS → Option (MS × Int32)} (B : xB p R s m args meth c b_Mo_ends 7 R_Mo (Cond.code y_Mo_ends b_Mo_ends 7 (some .int) :: x_T) (some .int) 7 174 D x_cl (xty g) base) (hk73 : ∀ (l2 : Int32) (l3 : Int32) (l4 : Int32) (M : MS) , Sn p l e R s m args below meth c 7 D x_cl base (xwd g) cM x_g0 az kz (xfc cM) (xZ below args s D x_cl (xty g) base (xwd g) cM x_g0 az kz ovI) 73 [] [(0, .ref 97), (2, .int l2), (3, .int l3), (4, .int l4)] M (k73 (l2, l3, l4, M))) (l2 : Int32) (l3 : Int32) (l4 : Int32) (l5 : Int32) (M : MS)  : Sn p l e R s m args below meth c 7 D x_cl base (xwd g) cM x_g0 az kz (xfc cM) (xZ below args s D x_cl (xty g) base (xwd g) cM x_g0 az kz ovI) 84 [] [(0, .ref 97), (2, .int l2), (3, .int l3), (4, .int l4), (5, .int l5)] M (m_Mo_ends_84 k73 (l2, l3, l4, l5, M)) := by
  have q : ∀ (F : Nat) (i : Int32 × Int32 × Int32 × Int32 × MS), Sn p l e R s m args below meth c 7 D x_cl base (xwd g) cM x_g0 az kz (xfc cM) (xZ below args s D x_cl (xty g) base (xwd g) cM x_g0 az kz ovI) 84 [] [(0, .ref 97), (2, .int i.1), (3, .int i.2.1), (4, .int i.2.2.1), (5, .int i.2.2.2.1)] i.2.2.2.2 (fx (fun (k : Int32 × Int32 × Int32 × Int32 × MS → Option (MS × Int32)) (i : Int32 × Int32 × Int32 × Int32 × MS) => m_Mo_ends_84b k73 k i.1 i.2.1 i.2.2.1 i.2.2.2.1 i.2.2.2.2) F i) := by
    intro F
    induction F with
    | zero => intro i ; exact s_none
    | succ F ih => intro i ; exact t_Mo_ends_84b B hk73 (fun l2 l3 l4 l5 M  => ih (l2, l3, l4, l5, M) ) i.1 i.2.1 i.2.2.1 i.2.2.2.1 i.2.2.2.2 
  exact q FU (l2, l3, l4, l5, M) 
set_option maxRecDepth 100000 in
set_option maxHeartbeats 4000000 in
theorem t_Mo_ends_73b {k73 : Int32 × Int32 × Int32 × MS → Option (MS × Int32)} (B : xB p R s m args meth c b_Mo_ends 7 R_Mo (Cond.code y_Mo_ends b_Mo_ends 7 (some .int) :: x_T) (some .int) 7 174 D x_cl (xty g) base) (hk73 : ∀ (l2 : Int32) (l3 : Int32) (l4 : Int32) (M : MS) , Sn p l e R s m args below meth c 7 D x_cl base (xwd g) cM x_g0 az kz (xfc cM) (xZ below args s D x_cl (xty g) base (xwd g) cM x_g0 az kz ovI) 73 [] [(0, .ref 97), (2, .int l2), (3, .int l3), (4, .int l4)] M (k73 (l2, l3, l4, M))) (l2 : Int32) (l3 : Int32) (l4 : Int32) (M : MS)  : Sn p l e R s m args below meth c 7 D x_cl base (xwd g) cM x_g0 az kz (xfc cM) (xZ below args s D x_cl (xty g) base (xwd g) cM x_g0 az kz ovI) 73 [] [(0, .ref 97), (2, .int l2), (3, .int l3), (4, .int l4)] M (m_Mo_ends_73b k73 l2 l3 l4 M) := by
  unfold m_Mo_ends_73b
  refine s_iload B d_Mo_ends_73 rfl ?_
  refine s_iconst (v := (2:Int32)) B d_Mo_ends_75 (by decide) ?_
  refine s_iload_n B d_Mo_ends_76 rfl ?_
  refine s_imul B d_Mo_ends_77 ?_
  refine s_icmp_ge B d_Mo_ends_78 rfl (fun _ => ?_) (fun _ => ?_)
  · refine s_pick (lv1 := [(3, .int l3)]) [3] rfl ?_
    exact t_Mo_ends_206 B l3 M
  · refine s_iconst (v := (0:Int32)) B d_Mo_ends_81 (by decide) ?_
    refine s_istore B d_Mo_ends_82 (by decide) ?_
    refine s_pick (lv1 := [(0, .ref 97), (2, .int l2), (3, .int l3), (4, .int l4), (5, .int (0:Int32))]) [0, 2, 3, 4, 5] rfl ?_
    exact t_Mo_ends_84 B hk73 l2 l3 l4 (0:Int32) M
set_option maxRecDepth 100000 in
set_option maxHeartbeats 4000000 in
theorem t_Mo_ends_73  (B : xB p R s m args meth c b_Mo_ends 7 R_Mo (Cond.code y_Mo_ends b_Mo_ends 7 (some .int) :: x_T) (some .int) 7 174 D x_cl (xty g) base)  (l2 : Int32) (l3 : Int32) (l4 : Int32) (M : MS)  : Sn p l e R s m args below meth c 7 D x_cl base (xwd g) cM x_g0 az kz (xfc cM) (xZ below args s D x_cl (xty g) base (xwd g) cM x_g0 az kz ovI) 73 [] [(0, .ref 97), (2, .int l2), (3, .int l3), (4, .int l4)] M (m_Mo_ends_73 (l2, l3, l4, M)) := by
  have q : ∀ (F : Nat) (i : Int32 × Int32 × Int32 × MS), Sn p l e R s m args below meth c 7 D x_cl base (xwd g) cM x_g0 az kz (xfc cM) (xZ below args s D x_cl (xty g) base (xwd g) cM x_g0 az kz ovI) 73 [] [(0, .ref 97), (2, .int i.1), (3, .int i.2.1), (4, .int i.2.2.1)] i.2.2.2 (fx (fun (k : Int32 × Int32 × Int32 × MS → Option (MS × Int32)) (i : Int32 × Int32 × Int32 × MS) => m_Mo_ends_73b k i.1 i.2.1 i.2.2.1 i.2.2.2) F i) := by
    intro F
    induction F with
    | zero => intro i ; exact s_none
    | succ F ih => intro i ; exact t_Mo_ends_73b B  (fun l2 l3 l4 M  => ih (l2, l3, l4, M) ) i.1 i.2.1 i.2.2.1 i.2.2.2 
  exact q FU (l2, l3, l4, M) 
set_option maxRecDepth 100000 in
set_option maxHeartbeats 4000000 in
theorem t_Mo_ends_61 {k37 : Int32 × Int32 × MS → Option (MS × Int32)} (B : xB p R s m args meth c b_Mo_ends 7 R_Mo (Cond.code y_Mo_ends b_Mo_ends 7 (some .int) :: x_T) (some .int) 7 174 D x_cl (xty g) base) (hk37 : ∀ (l2 : Int32) (l3 : Int32) (M : MS) , Sn p l e R s m args below meth c 7 D x_cl base (xwd g) cM x_g0 az kz (xfc cM) (xZ below args s D x_cl (xty g) base (xwd g) cM x_g0 az kz ovI) 37 [] [(0, .ref 97), (2, .int l2), (3, .int l3)] M (k37 (l2, l3, M))) (l2 : Int32) (l3 : Int32) (s1 : Int32) (s2 : Int32) (M : MS)  : Sn p l e R s m args below meth c 7 D x_cl base (xwd g) cM x_g0 az kz (xfc cM) (xZ below args s D x_cl (xty g) base (xwd g) cM x_g0 az kz ovI) 61 [.int s2, .int s1, .ref 112] [(0, .ref 97), (2, .int l2), (3, .int l3)] M (m_Mo_ends_61 k37 l2 l3 s1 s2 M) := by
  unfold m_Mo_ends_61
  refine s_iast B (Or.inl kd_112) d_Mo_ends_61 (fun M1 _ => ?_)
  refine s_iinc (w := (1:Int32)) B d_Mo_ends_62 rfl (by decide) (by decide) ?_
  refine s_goto B d_Mo_ends_65 rfl ?_
  refine s_pick (lv1 := [(0, .ref 97), (2, .int l2), (3, .int (l3 + (1:Int32)))]) [0, 2, 3] rfl ?_
  exact hk37 l2 (l3 + (1:Int32)) M1
set_option maxRecDepth 100000 in
set_option maxHeartbeats 4000000 in
theorem t_Mo_ends_37b {k37 : Int32 × Int32 × MS → Option (MS × Int32)} (B : xB p R s m args meth c b_Mo_ends 7 R_Mo (Cond.code y_Mo_ends b_Mo_ends 7 (some .int) :: x_T) (some .int) 7 174 D x_cl (xty g) base) (hk37 : ∀ (l2 : Int32) (l3 : Int32) (M : MS) , Sn p l e R s m args below meth c 7 D x_cl base (xwd g) cM x_g0 az kz (xfc cM) (xZ below args s D x_cl (xty g) base (xwd g) cM x_g0 az kz ovI) 37 [] [(0, .ref 97), (2, .int l2), (3, .int l3)] M (k37 (l2, l3, M))) (l2 : Int32) (l3 : Int32) (M : MS)  : Sn p l e R s m args below meth c 7 D x_cl base (xwd g) cM x_g0 az kz (xfc cM) (xZ below args s D x_cl (xty g) base (xwd g) cM x_g0 az kz ovI) 37 [] [(0, .ref 97), (2, .int l2), (3, .int l3)] M (m_Mo_ends_37b k37 l2 l3 M) := by
  unfold m_Mo_ends_37b
  refine s_iload_n B d_Mo_ends_37 rfl ?_
  refine s_iload_n B d_Mo_ends_38 rfl ?_
  refine s_icmp_ge B d_Mo_ends_39 rfl (fun _ => ?_) (fun _ => ?_)
  · refine s_iconst (v := (1:Int32)) B d_Mo_ends_68 (by decide) ?_
    refine s_istore_n B d_Mo_ends_69 (by decide) ?_
    refine s_iconst (v := (1:Int32)) B d_Mo_ends_70 (by decide) ?_
    refine s_istore B d_Mo_ends_71 (by decide) ?_
    refine s_pick (lv1 := [(0, .ref 97), (2, .int l2), (3, .int (1:Int32)), (4, .int (1:Int32))]) [0, 2, 3, 4] rfl ?_
    exact t_Mo_ends_73 B l2 (1:Int32) (1:Int32) M
  · refine s_aload_n B d_Mo_ends_42 rfl ?_
    refine s_getS (k := 18) (n := 112) B xc_Mo kd_97 (by decide) rfl rfl fl_Mo_55 sr_97_18 d_Mo_ends_43 ?_
    refine s_iload_n B d_Mo_ends_46 rfl ?_
    refine s_aload_n B d_Mo_ends_47 rfl ?_
    refine s_getS (k := 20) (n := 114) B xc_Mo kd_97 (by decide) rfl rfl fl_Mo_61 sr_97_20 d_Mo_ends_48 ?_
    refine s_iload_n B d_Mo_ends_51 rfl ?_
    refine s_zald B kd_114 d_Mo_ends_52 (fun v1 _ => ?_)
    refine s_if_eq B d_Mo_ends_53 rfl (fun _ => ?_) (fun _ => ?_)
    · refine s_iconst (v := (0:Int32)) B d_Mo_ends_60 (by decide) ?_
      refine s_pick (lv1 := [(0, .ref 97), (2, .int l2), (3, .int l3)]) [0, 2, 3] rfl ?_
      exact t_Mo_ends_61 B hk37 l2 l3 l3 (0:Int32) M
    · refine s_iconst (v := (1:Int32)) B d_Mo_ends_56 (by decide) ?_
      refine s_goto B d_Mo_ends_57 rfl ?_
      refine s_pick (lv1 := [(0, .ref 97), (2, .int l2), (3, .int l3)]) [0, 2, 3] rfl ?_
      exact t_Mo_ends_61 B hk37 l2 l3 l3 (1:Int32) M
set_option maxRecDepth 100000 in
set_option maxHeartbeats 4000000 in
theorem t_Mo_ends_37  (B : xB p R s m args meth c b_Mo_ends 7 R_Mo (Cond.code y_Mo_ends b_Mo_ends 7 (some .int) :: x_T) (some .int) 7 174 D x_cl (xty g) base)  (l2 : Int32) (l3 : Int32) (M : MS)  : Sn p l e R s m args below meth c 7 D x_cl base (xwd g) cM x_g0 az kz (xfc cM) (xZ below args s D x_cl (xty g) base (xwd g) cM x_g0 az kz ovI) 37 [] [(0, .ref 97), (2, .int l2), (3, .int l3)] M (m_Mo_ends_37 (l2, l3, M)) := by
  have q : ∀ (F : Nat) (i : Int32 × Int32 × MS), Sn p l e R s m args below meth c 7 D x_cl base (xwd g) cM x_g0 az kz (xfc cM) (xZ below args s D x_cl (xty g) base (xwd g) cM x_g0 az kz ovI) 37 [] [(0, .ref 97), (2, .int i.1), (3, .int i.2.1)] i.2.2 (fx (fun (k : Int32 × Int32 × MS → Option (MS × Int32)) (i : Int32 × Int32 × MS) => m_Mo_ends_37b k i.1 i.2.1 i.2.2) F i) := by
    intro F
    induction F with
    | zero => intro i ; exact s_none
    | succ F ih => intro i ; exact t_Mo_ends_37b B  (fun l2 l3 M  => ih (l2, l3, M) ) i.1 i.2.1 i.2.2 
  exact q FU (l2, l3, M) 
set_option maxRecDepth 100000 in
set_option maxHeartbeats 4000000 in
theorem t_Mo_ends_13  (B : xB p R s m args meth c b_Mo_ends 7 R_Mo (Cond.code y_Mo_ends b_Mo_ends 7 (some .int) :: x_T) (some .int) 7 174 D x_cl (xty g) base)  (l1 : Int32) (s1 : Int32) (M : MS)  : Sn p l e R s m args below meth c 7 D x_cl base (xwd g) cM x_g0 az kz (xfc cM) (xZ below args s D x_cl (xty g) base (xwd g) cM x_g0 az kz ovI) 13 [.int s1, .ref 97] [(0, .ref 97), (1, .int l1)] M (m_Mo_ends_13 l1 s1 M) := by
  unfold m_Mo_ends_13
  refine s_iconst (v := (0:Int32)) B d_Mo_ends_13 (by decide) ?_
  refine s_pick (lv1 := [(0, .ref 97), (1, .int l1)]) [0, 1] rfl ?_
  refine s_callI (av := [.ref 97, .int s1, .int (0:Int32)]) (rest := []) B (lk_V B d_Mo_ends_14 (gl_Mo_161 _) rfl hv_Mo_fails (by decide) (by decide)) rfl (x_rcV B xc_Mo kd_97) (fun _ _ => rfl) rfl rfl (by simp [Value.category]) rfl (fun r1 e9 => ct_Mo_fails _ _ _ r1 e9) (fun r1 _ => ?_)
  refine s_if_eq B d_Mo_ends_17 rfl (fun _ => ?_) (fun _ => ?_)
  · refine s_aload_n B d_Mo_ends_22 rfl ?_
    refine s_iload_n B d_Mo_ends_23 rfl ?_
    refine s_pick (lv1 := [(0, .ref 97)]) [0] rfl ?_
    refine s_callI (av := [.ref 97, .int l1]) (rest := []) B (lk_V B d_Mo_ends_24 (gl_Mo_183 _) rfl hv_Mo_explore (by decide) (by decide)) rfl (x_rcV B xc_Mo kd_97) (fun _ _ => rfl) rfl rfl (by simp [Value.category]) rfl (fun r2 e9 => ct_Mo_explore _ _ r2 e9) (fun r2 _ => ?_)
    refine s_istore_n B d_Mo_ends_27 (by decide) ?_
    refine s_iload_n B d_Mo_ends_28 rfl ?_
    refine s_iconst (v := (-1:Int32)) B d_Mo_ends_29 (by decide) ?_
    refine s_icmp_ne B d_Mo_ends_30 rfl (fun _ => ?_) (fun _ => ?_)
    · refine s_iconst (v := (0:Int32)) B d_Mo_ends_35 (by decide) ?_
      refine s_istore_n B d_Mo_ends_36 (by decide) ?_
      refine s_pick (lv1 := [(0, .ref 97), (2, .int r2.2), (3, .int (0:Int32))]) [0, 2, 3] rfl ?_
      exact t_Mo_ends_37 B r2.2 (0:Int32) r2.1
    · refine s_iconst (v := (-1:Int32)) B d_Mo_ends_33 (by decide) ?_
      exact s_iret B d_Mo_ends_34
  · refine s_iconst (v := (0:Int32)) B d_Mo_ends_20 (by decide) ?_
    exact s_iret B d_Mo_ends_21
set_option maxRecDepth 100000 in
set_option maxHeartbeats 4000000 in
theorem t_Mo_ends (B : xB p R s m args meth c b_Mo_ends 7 R_Mo (Cond.code y_Mo_ends b_Mo_ends 7 (some .int) :: x_T) (some .int) 7 174 D x_cl (xty g) base) (a1 : Int32) (M : MS) : Sn p l e R s m args below meth c 7 D x_cl base (xwd g) cM x_g0 az kz (xfc cM) (xZ below args s D x_cl (xty g) base (xwd g) cM x_g0 az kz ovI) 0 [] [(0, .ref 97), (1, .int a1)] M (m_Mo_ends a1 M) := by
  unfold m_Mo_ends
  refine s_aload_n B d_Mo_ends_0 rfl ?_
  refine s_iload_n B d_Mo_ends_1 rfl ?_
  refine s_pick (lv1 := [(0, .ref 97), (1, .int a1)]) [0, 1] rfl ?_
  refine s_callI (av := [.int a1]) (rest := [.ref 97]) B (lk_S B d_Mo_ends_2 (gl_Mo_158 _) (List.mem_cons_of_mem _ st_Mo_isSlot) (List.mem_cons_of_mem _ in_Mo) (List.mem_cons_of_mem _ ml_Mo_158) rfl hs_Mo_isSlot (by decide) (by decide)) rfl x_rcS (fun _ _ => rfl) rfl rfl (by simp [Value.category]) rfl (fun r1 e9 => ct_Mo_isSlot _ _ r1 e9) (fun r1 _ => ?_)
  refine s_if_ne B d_Mo_ends_5 rfl (fun _ => ?_) (fun _ => ?_)
  · refine s_iconst (v := (0:Int32)) B d_Mo_ends_12 (by decide) ?_
    refine s_pick (lv1 := [(0, .ref 97), (1, .int a1)]) [0, 1] rfl ?_
    exact t_Mo_ends_13 B a1 (0:Int32) r1.1
  · refine s_iconst (v := (1:Int32)) B d_Mo_ends_8 (by decide) ?_
    refine s_goto B d_Mo_ends_9 rfl ?_
    refine s_pick (lv1 := [(0, .ref 97), (1, .int a1)]) [0, 1] rfl ?_
    exact t_Mo_ends_13 B a1 (1:Int32) r1.1
set_option maxRecDepth 100000 in
set_option maxHeartbeats 4000000 in
theorem ct_Mo_ends {l : Launch} {D : va_G} {base : Nat} {g : Nat → ClassId} (a1 : Int32) (M : MS) (r : MS × Int32) (hr : m_Mo_ends a1 M = some r) : Ct l y_Mo_ends (Cond.code y_Mo_ends b_Mo_ends 7 (some .int) :: x_T) 7 174 D x_cl (xty g) base (xwd g) cM x_g0 [.ref 97, .int a1] M r.1 (ovI r.2) :=
  x_met (ov := ovI) (by decide) (Nat.le_of_ble_eq_true rfl) (fun p e R s m args below meth c az B => t_Mo_ends B a1 M) r hr
end
theorem d_Mo_find_0 : decode b_Mo_find 0 = .ok (.aload_n 0, 1) := by decide +kernel
theorem d_Mo_find_1 : decode b_Mo_find 1 = .ok (.iload_n 1, 1) := by decide +kernel
theorem d_Mo_find_2 : decode b_Mo_find 2 = .ok (.invokestatic 158, 3) := by decide +kernel
theorem d_Mo_find_5 : decode b_Mo_find 5 = .ok (.ifCond .ne (7), 3) := by decide +kernel
theorem d_Mo_find_8 : decode b_Mo_find 8 = .ok (.iconst (1), 1) := by decide +kernel
theorem d_Mo_find_9 : decode b_Mo_find 9 = .ok (.goto (4), 3) := by decide +kernel
theorem d_Mo_find_12 : decode b_Mo_find 12 = .ok (.iconst (0), 1) := by decide +kernel
theorem d_Mo_find_13 : decode b_Mo_find 13 = .ok (.iconst (0), 1) := by decide +kernel
theorem d_Mo_find_14 : decode b_Mo_find 14 = .ok (.invokevirtual 161, 3) := by decide +kernel
theorem d_Mo_find_17 : decode b_Mo_find 17 = .ok (.ifCond .eq (5), 3) := by decide +kernel
theorem d_Mo_find_20 : decode b_Mo_find 20 = .ok (.lconst 0, 1) := by decide +kernel
theorem d_Mo_find_21 : decode b_Mo_find 21 = .ok (.lreturn, 1) := by decide +kernel
theorem d_Mo_find_22 : decode b_Mo_find 22 = .ok (.aload_n 0, 1) := by decide +kernel
theorem d_Mo_find_23 : decode b_Mo_find 23 = .ok (.iload_n 1, 1) := by decide +kernel
theorem d_Mo_find_24 : decode b_Mo_find 24 = .ok (.invokevirtual 183, 3) := by decide +kernel
theorem d_Mo_find_27 : decode b_Mo_find 27 = .ok (.istore 4, 2) := by decide +kernel
theorem d_Mo_find_29 : decode b_Mo_find 29 = .ok (.iload 4, 2) := by decide +kernel
theorem d_Mo_find_31 : decode b_Mo_find 31 = .ok (.iconst (-1), 1) := by decide +kernel
theorem d_Mo_find_32 : decode b_Mo_find 32 = .ok (.if_icmp .eq (9), 3) := by decide +kernel
theorem d_Mo_find_35 : decode b_Mo_find 35 = .ok (.lload_n 2, 1) := by decide +kernel
theorem d_Mo_find_36 : decode b_Mo_find 36 = .ok (.lconst 0, 1) := by decide +kernel
theorem d_Mo_find_37 : decode b_Mo_find 37 = .ok (.lcmp, 1) := by decide +kernel
theorem d_Mo_find_38 : decode b_Mo_find 38 = .ok (.ifCond .ge (7), 3) := by decide +kernel
theorem d_Mo_find_41 : decode b_Mo_find 41 = .ok (.ldc2_w 194, 3) := by decide +kernel
theorem d_Mo_find_44 : decode b_Mo_find 44 = .ok (.lreturn, 1) := by decide +kernel
theorem d_Mo_find_45 : decode b_Mo_find 45 = .ok (.aload_n 0, 1) := by decide +kernel
theorem d_Mo_find_46 : decode b_Mo_find 46 = .ok (.iload 4, 2) := by decide +kernel
theorem d_Mo_find_48 : decode b_Mo_find 48 = .ok (.invokevirtual 196, 3) := by decide +kernel
theorem d_Mo_find_51 : decode b_Mo_find 51 = .ok (.lload_n 2, 1) := by decide +kernel
theorem d_Mo_find_52 : decode b_Mo_find 52 = .ok (.lstore 5, 2) := by decide +kernel
theorem d_Mo_find_54 : decode b_Mo_find 54 = .ok (.iconst (0), 1) := by decide +kernel
theorem d_Mo_find_55 : decode b_Mo_find 55 = .ok (.istore 7, 2) := by decide +kernel
theorem d_Mo_find_57 : decode b_Mo_find 57 = .ok (.iload 7, 2) := by decide +kernel
theorem d_Mo_find_59 : decode b_Mo_find 59 = .ok (.bipush (16), 2) := by decide +kernel
theorem d_Mo_find_61 : decode b_Mo_find 61 = .ok (.if_icmp .gt (42), 3) := by decide +kernel
theorem d_Mo_find_64 : decode b_Mo_find 64 = .ok (.lload 5, 2) := by decide +kernel
theorem d_Mo_find_66 : decode b_Mo_find 66 = .ok (.aload_n 0, 1) := by decide +kernel
theorem d_Mo_find_67 : decode b_Mo_find 67 = .ok (.getfield 67, 3) := by decide +kernel
theorem d_Mo_find_70 : decode b_Mo_find 70 = .ok (.sipush (150), 3) := by decide +kernel
theorem d_Mo_find_73 : decode b_Mo_find 73 = .ok (.iload 7, 2) := by decide +kernel
theorem d_Mo_find_75 : decode b_Mo_find 75 = .ok (.imul, 1) := by decide +kernel
theorem d_Mo_find_76 : decode b_Mo_find 76 = .ok (.laload, 1) := by decide +kernel
theorem d_Mo_find_77 : decode b_Mo_find 77 = .ok (.lcmp, 1) := by decide +kernel
theorem d_Mo_find_78 : decode b_Mo_find 78 = .ok (.ifCond .lt (25), 3) := by decide +kernel
theorem d_Mo_find_81 : decode b_Mo_find 81 = .ok (.lload 5, 2) := by decide +kernel
theorem d_Mo_find_83 : decode b_Mo_find 83 = .ok (.aload_n 0, 1) := by decide +kernel
theorem d_Mo_find_84 : decode b_Mo_find 84 = .ok (.getfield 67, 3) := by decide +kernel
theorem d_Mo_find_87 : decode b_Mo_find 87 = .ok (.sipush (150), 3) := by decide +kernel
theorem d_Mo_find_90 : decode b_Mo_find 90 = .ok (.iload 7, 2) := by decide +kernel
theorem d_Mo_find_92 : decode b_Mo_find 92 = .ok (.imul, 1) := by decide +kernel
theorem d_Mo_find_93 : decode b_Mo_find 93 = .ok (.laload, 1) := by decide +kernel
theorem d_Mo_find_94 : decode b_Mo_find 94 = .ok (.lsub, 1) := by decide +kernel
theorem d_Mo_find_95 : decode b_Mo_find 95 = .ok (.lstore 5, 2) := by decide +kernel
theorem d_Mo_find_97 : decode b_Mo_find 97 = .ok (.iinc 7 (1), 3) := by decide +kernel
theorem d_Mo_find_100 : decode b_Mo_find 100 = .ok (.goto (-43), 3) := by decide +kernel
theorem d_Mo_find_103 : decode b_Mo_find 103 = .ok (.iload 7, 2) := by decide +kernel
theorem d_Mo_find_105 : decode b_Mo_find 105 = .ok (.bipush (16), 2) := by decide +kernel
theorem d_Mo_find_107 : decode b_Mo_find 107 = .ok (.if_icmp .le (7), 3) := by decide +kernel
theorem d_Mo_find_110 : decode b_Mo_find 110 = .ok (.ldc2_w 194, 3) := by decide +kernel
theorem d_Mo_find_113 : decode b_Mo_find 113 = .ok (.lreturn, 1) := by decide +kernel
theorem d_Mo_find_114 : decode b_Mo_find 114 = .ok (.lconst 0, 1) := by decide +kernel
theorem d_Mo_find_115 : decode b_Mo_find 115 = .ok (.lstore 8, 2) := by decide +kernel
theorem d_Mo_find_117 : decode b_Mo_find 117 = .ok (.iconst (0), 1) := by decide +kernel
theorem d_Mo_find_118 : decode b_Mo_find 118 = .ok (.istore 10, 2) := by decide +kernel
theorem d_Mo_find_120 : decode b_Mo_find 120 = .ok (.iload 7, 2) := by decide +kernel
theorem d_Mo_find_122 : decode b_Mo_find 122 = .ok (.iconst (1), 1) := by decide +kernel
theorem d_Mo_find_123 : decode b_Mo_find 123 = .ok (.isub, 1) := by decide +kernel
theorem d_Mo_find_124 : decode b_Mo_find 124 = .ok (.istore 11, 2) := by decide +kernel
theorem d_Mo_find_126 : decode b_Mo_find 126 = .ok (.iload 11, 2) := by decide +kernel
theorem d_Mo_find_128 : decode b_Mo_find 128 = .ok (.ifCond .lt (103), 3) := by decide +kernel
theorem d_Mo_find_131 : decode b_Mo_find 131 = .ok (.iconst (0), 1) := by decide +kernel
theorem d_Mo_find_132 : decode b_Mo_find 132 = .ok (.istore 12, 2) := by decide +kernel
theorem d_Mo_find_134 : decode b_Mo_find 134 = .ok (.lload 5, 2) := by decide +kernel
theorem d_Mo_find_136 : decode b_Mo_find 136 = .ok (.aload_n 0, 1) := by decide +kernel
theorem d_Mo_find_137 : decode b_Mo_find 137 = .ok (.getfield 67, 3) := by decide +kernel
theorem d_Mo_find_140 : decode b_Mo_find 140 = .ok (.sipush (150), 3) := by decide +kernel
theorem d_Mo_find_143 : decode b_Mo_find 143 = .ok (.iload 11, 2) := by decide +kernel
theorem d_Mo_find_145 : decode b_Mo_find 145 = .ok (.imul, 1) := by decide +kernel
theorem d_Mo_find_146 : decode b_Mo_find 146 = .ok (.aload_n 0, 1) := by decide +kernel
theorem d_Mo_find_147 : decode b_Mo_find 147 = .ok (.getfield 49, 3) := by decide +kernel
theorem d_Mo_find_150 : decode b_Mo_find 150 = .ok (.iconst (4), 1) := by decide +kernel
theorem d_Mo_find_151 : decode b_Mo_find 151 = .ok (.iload 10, 2) := by decide +kernel
theorem d_Mo_find_153 : decode b_Mo_find 153 = .ok (.imul, 1) := by decide +kernel
theorem d_Mo_find_154 : decode b_Mo_find 154 = .ok (.iload 12, 2) := by decide +kernel
theorem d_Mo_find_156 : decode b_Mo_find 156 = .ok (.iadd, 1) := by decide +kernel
theorem d_Mo_find_157 : decode b_Mo_find 157 = .ok (.iaload, 1) := by decide +kernel
theorem d_Mo_find_158 : decode b_Mo_find 158 = .ok (.iadd, 1) := by decide +kernel
theorem d_Mo_find_159 : decode b_Mo_find 159 = .ok (.laload, 1) := by decide +kernel
theorem d_Mo_find_160 : decode b_Mo_find 160 = .ok (.lcmp, 1) := by decide +kernel
theorem d_Mo_find_161 : decode b_Mo_find 161 = .ok (.ifCond .lt (38), 3) := by decide +kernel
theorem d_Mo_find_164 : decode b_Mo_find 164 = .ok (.lload 5, 2) := by decide +kernel
theorem d_Mo_find_166 : decode b_Mo_find 166 = .ok (.aload_n 0, 1) := by decide +kernel
theorem d_Mo_find_167 : decode b_Mo_find 167 = .ok (.getfield 67, 3) := by decide +kernel
theorem d_Mo_find_170 : decode b_Mo_find 170 = .ok (.sipush (150), 3) := by decide +kernel
theorem d_Mo_find_173 : decode b_Mo_find 173 = .ok (.iload 11, 2) := by decide +kernel
theorem d_Mo_find_175 : decode b_Mo_find 175 = .ok (.imul, 1) := by decide +kernel
theorem d_Mo_find_176 : decode b_Mo_find 176 = .ok (.aload_n 0, 1) := by decide +kernel
theorem d_Mo_find_177 : decode b_Mo_find 177 = .ok (.getfield 49, 3) := by decide +kernel
theorem d_Mo_find_180 : decode b_Mo_find 180 = .ok (.iconst (4), 1) := by decide +kernel
theorem d_Mo_find_181 : decode b_Mo_find 181 = .ok (.iload 10, 2) := by decide +kernel
theorem d_Mo_find_183 : decode b_Mo_find 183 = .ok (.imul, 1) := by decide +kernel
theorem d_Mo_find_184 : decode b_Mo_find 184 = .ok (.iload 12, 2) := by decide +kernel
theorem d_Mo_find_186 : decode b_Mo_find 186 = .ok (.iadd, 1) := by decide +kernel
theorem d_Mo_find_187 : decode b_Mo_find 187 = .ok (.iaload, 1) := by decide +kernel
theorem d_Mo_find_188 : decode b_Mo_find 188 = .ok (.iadd, 1) := by decide +kernel
theorem d_Mo_find_189 : decode b_Mo_find 189 = .ok (.laload, 1) := by decide +kernel
theorem d_Mo_find_190 : decode b_Mo_find 190 = .ok (.lsub, 1) := by decide +kernel
theorem d_Mo_find_191 : decode b_Mo_find 191 = .ok (.lstore 5, 2) := by decide +kernel
theorem d_Mo_find_193 : decode b_Mo_find 193 = .ok (.iinc 12 (1), 3) := by decide +kernel
theorem d_Mo_find_196 : decode b_Mo_find 196 = .ok (.goto (-62), 3) := by decide +kernel
theorem d_Mo_find_199 : decode b_Mo_find 199 = .ok (.ldc2_w 199, 3) := by decide +kernel
theorem d_Mo_find_202 : decode b_Mo_find 202 = .ok (.lload 8, 2) := by decide +kernel
theorem d_Mo_find_204 : decode b_Mo_find 204 = .ok (.lmul, 1) := by decide +kernel
theorem d_Mo_find_205 : decode b_Mo_find 205 = .ok (.iload 12, 2) := by decide +kernel
theorem d_Mo_find_207 : decode b_Mo_find 207 = .ok (.i2l, 1) := by decide +kernel
theorem d_Mo_find_208 : decode b_Mo_find 208 = .ok (.ladd, 1) := by decide +kernel
theorem d_Mo_find_209 : decode b_Mo_find 209 = .ok (.lstore 8, 2) := by decide +kernel
theorem d_Mo_find_211 : decode b_Mo_find 211 = .ok (.aload_n 0, 1) := by decide +kernel
theorem d_Mo_find_212 : decode b_Mo_find 212 = .ok (.getfield 49, 3) := by decide +kernel
theorem d_Mo_find_215 : decode b_Mo_find 215 = .ok (.iconst (4), 1) := by decide +kernel
theorem d_Mo_find_216 : decode b_Mo_find 216 = .ok (.iload 10, 2) := by decide +kernel
theorem d_Mo_find_218 : decode b_Mo_find 218 = .ok (.imul, 1) := by decide +kernel
theorem d_Mo_find_219 : decode b_Mo_find 219 = .ok (.iload 12, 2) := by decide +kernel
theorem d_Mo_find_221 : decode b_Mo_find 221 = .ok (.iadd, 1) := by decide +kernel
theorem d_Mo_find_222 : decode b_Mo_find 222 = .ok (.iaload, 1) := by decide +kernel
theorem d_Mo_find_223 : decode b_Mo_find 223 = .ok (.istore 10, 2) := by decide +kernel
theorem d_Mo_find_225 : decode b_Mo_find 225 = .ok (.iinc 11 (-1), 3) := by decide +kernel
theorem d_Mo_find_228 : decode b_Mo_find 228 = .ok (.goto (-102), 3) := by decide +kernel
theorem d_Mo_find_231 : decode b_Mo_find 231 = .ok (.lload 8, 2) := by decide +kernel
theorem d_Mo_find_233 : decode b_Mo_find 233 = .ok (.iload 7, 2) := by decide +kernel
theorem d_Mo_find_235 : decode b_Mo_find 235 = .ok (.i2l, 1) := by decide +kernel
theorem d_Mo_find_236 : decode b_Mo_find 236 = .ok (.bipush (36), 2) := by decide +kernel
theorem d_Mo_find_238 : decode b_Mo_find 238 = .ok (.lshl, 1) := by decide +kernel
theorem d_Mo_find_239 : decode b_Mo_find 239 = .ok (.lor, 1) := by decide +kernel
theorem d_Mo_find_240 : decode b_Mo_find 240 = .ok (.lreturn, 1) := by decide +kernel
section
variable {p : Program} {l : Launch} {e : Env} {R : Room} {s : State} {m : MethodId} {args : Array Value} {below : List Frame} {meth : Method} {c : Code} {D : va_G} {base : Nat} {g : Nat → ClassId} {az : Nat → Nat} {kz : Nat × Nat}
set_option maxRecDepth 100000 in
set_option maxHeartbeats 4000000 in
theorem t_Mo_find_231  (B : xB p R s m args meth c b_Mo_find 13 R_Mo (Cond.code y_Mo_find b_Mo_find 13 (some .long) :: x_T) (some .long) 7 174 D x_cl (xty g) base)  (l7 : Int32) (l8 : Int64) (M : MS)  : Sn p l e R s m args below meth c 13 D x_cl base (xwd g) cM x_g0 az kz (xfc cM) (xZ below args s D x_cl (xty g) base (xwd g) cM x_g0 az kz ovL) 231 [] [(7, .int l7), (8, .long l8)] M (m_Mo_find_231 l7 l8 M) := by
  unfold m_Mo_find_231
  refine s_lload B d_Mo_find_231 rfl ?_
  refine s_iload B d_Mo_find_233 rfl ?_
  refine s_i2l B d_Mo_find_235 ?_
  refine s_bipush (v := (36:Int32)) B d_Mo_find_236 (by decide) ?_
  refine s_lshl B d_Mo_find_238 ?_
  refine s_lor B d_Mo_find_239 ?_
  exact s_lret B d_Mo_find_240
set_option maxRecDepth 100000 in
set_option maxHeartbeats 4000000 in
theorem t_Mo_find_199 {k126 : Int64 × Int32 × Int64 × Int32 × Int32 × MS → Option (MS × Int64)} (B : xB p R s m args meth c b_Mo_find 13 R_Mo (Cond.code y_Mo_find b_Mo_find 13 (some .long) :: x_T) (some .long) 7 174 D x_cl (xty g) base) (hk126 : ∀ (l5 : Int64) (l7 : Int32) (l8 : Int64) (l10 : Int32) (l11 : Int32) (M : MS) , Sn p l e R s m args below meth c 13 D x_cl base (xwd g) cM x_g0 az kz (xfc cM) (xZ below args s D x_cl (xty g) base (xwd g) cM x_g0 az kz ovL) 126 [] [(0, .ref 97), (5, .long l5), (7, .int l7), (8, .long l8), (10, .int l10), (11, .int l11)] M (k126 (l5, l7, l8, l10, l11, M))) (l5 : Int64) (l7 : Int32) (l8 : Int64) (l10 : Int32) (l11 : Int32) (l12 : Int32) (M : MS)  : Sn p l e R s m args below meth c 13 D x_cl base (xwd g) cM x_g0 az kz (xfc cM) (xZ below args s D x_cl (xty g) base (xwd g) cM x_g0 az kz ovL) 199 [] [(0, .ref 97), (5, .long l5), (7, .int l7), (8, .long l8), (10, .int l10), (11, .int l11), (12, .int l12)] M (m_Mo_find_199 k126 l5 l7 l8 l10 l11 l12 M) := by
  unfold m_Mo_find_199
  refine s_ldc2 (v := (4:Int64)) B d_Mo_find_199 (List.mem_cons_of_mem _ cs_Mo_199) ?_
  refine s_lload B d_Mo_find_202 rfl ?_
  refine s_lmul B d_Mo_find_204 ?_
  refine s_iload B d_Mo_find_205 rfl ?_
  refine s_i2l B d_Mo_find_207 ?_
  refine s_ladd B d_Mo_find_208 ?_
  refine s_lstore B d_Mo_find_209 (by decide) ?_
  refine s_aload_n B d_Mo_find_211 rfl ?_
  refine s_getS (k := 16) (n := 110) B xc_Mo kd_97 (by decide) rfl rfl fl_Mo_49 sr_97_16 d_Mo_find_212 ?_
  refine s_iconst (v := (4:Int32)) B d_Mo_find_215 (by decide) ?_
  refine s_iload B d_Mo_find_216 rfl ?_
  refine s_imul B d_Mo_find_218 ?_
  refine s_iload B d_Mo_find_219 rfl ?_
  refine s_iadd B d_Mo_find_221 ?_
  refine s_iald B (Or.inl kd_110) d_Mo_find_222 (fun v1 _ => ?_)
  refine s_istore B d_Mo_find_223 (by decide) ?_
  refine s_iinc (w := (-1:Int32)) B d_Mo_find_225 rfl (by decide) (by decide) ?_
  refine s_goto B d_Mo_find_228 rfl ?_
  refine s_pick (lv1 := [(0, .ref 97), (5, .long l5), (7, .int l7), (8, .long (((4:Int64) * l8) + l12.toInt64)), (10, .int v1), (11, .int (l11 + (-1:Int32)))]) [0, 5, 7, 8, 10, 11] rfl ?_
  exact hk126 l5 l7 (((4:Int64) * l8) + l12.toInt64) v1 (l11 + (-1:Int32)) M
set_option maxRecDepth 100000 in
set_option maxHeartbeats 4000000 in
theorem t_Mo_find_134b {k126 : Int64 × Int32 × Int64 × Int32 × Int32 × MS → Option (MS × Int64)} {k134 : Int64 × Int32 × Int64 × Int32 × Int32 × Int32 × MS → Option (MS × Int64)} (B : xB p R s m args meth c b_Mo_find 13 R_Mo (Cond.code y_Mo_find b_Mo_find 13 (some .long) :: x_T) (some .long) 7 174 D x_cl (xty g) base) (hk126 : ∀ (l5 : Int64) (l7 : Int32) (l8 : Int64) (l10 : Int32) (l11 : Int32) (M : MS) , Sn p l e R s m args below meth c 13 D x_cl base (xwd g) cM x_g0 az kz (xfc cM) (xZ below args s D x_cl (xty g) base (xwd g) cM x_g0 az kz ovL) 126 [] [(0, .ref 97), (5, .long l5), (7, .int l7), (8, .long l8), (10, .int l10), (11, .int l11)] M (k126 (l5, l7, l8, l10, l11, M))) (hk134 : ∀ (l5 : Int64) (l7 : Int32) (l8 : Int64) (l10 : Int32) (l11 : Int32) (l12 : Int32) (M : MS) , Sn p l e R s m args below meth c 13 D x_cl base (xwd g) cM x_g0 az kz (xfc cM) (xZ below args s D x_cl (xty g) base (xwd g) cM x_g0 az kz ovL) 134 [] [(0, .ref 97), (5, .long l5), (7, .int l7), (8, .long l8), (10, .int l10), (11, .int l11), (12, .int l12)] M (k134 (l5, l7, l8, l10, l11, l12, M))) (l5 : Int64) (l7 : Int32) (l8 : Int64) (l10 : Int32) (l11 : Int32) (l12 : Int32) (M : MS)  : Sn p l e R s m args below meth c 13 D x_cl base (xwd g) cM x_g0 az kz (xfc cM) (xZ below args s D x_cl (xty g) base (xwd g) cM x_g0 az kz ovL) 134 [] [(0, .ref 97), (5, .long l5), (7, .int l7), (8, .long l8), (10, .int l10), (11, .int l11), (12, .int l12)] M (m_Mo_find_134b k126 k134 l5 l7 l8 l10 l11 l12 M) := by
  unfold m_Mo_find_134b
  refine s_lload B d_Mo_find_134 rfl ?_
  refine s_aload_n B d_Mo_find_136 rfl ?_
  refine s_getS (k := 22) (n := 116) B xc_Mo kd_97 (by decide) rfl rfl fl_Mo_67 sr_97_22 d_Mo_find_137 ?_
  refine s_sipush (v := (150:Int32)) B d_Mo_find_140 (by decide) ?_
  refine s_iload B d_Mo_find_143 rfl ?_
  refine s_imul B d_Mo_find_145 ?_
  refine s_aload_n B d_Mo_find_146 rfl ?_
  refine s_getS (k := 16) (n := 110) B xc_Mo kd_97 (by decide) rfl rfl fl_Mo_49 sr_97_16 d_Mo_find_147 ?_
  refine s_iconst (v := (4:Int32)) B d_Mo_find_150 (by decide) ?_
  refine s_iload B d_Mo_find_151 rfl ?_
  refine s_imul B d_Mo_find_153 ?_
  refine s_iload B d_Mo_find_154 rfl ?_
  refine s_iadd B d_Mo_find_156 ?_
  refine s_iald B (Or.inl kd_110) d_Mo_find_157 (fun v1 _ => ?_)
  refine s_iadd B d_Mo_find_158 ?_
  refine s_lald B kd_116 d_Mo_find_159 (fun v2 _ => ?_)
  refine s_lcmp B d_Mo_find_160 ?_
  refine s_if_lt B d_Mo_find_161 rfl (fun _ => ?_) (fun _ => ?_)
  · refine s_pick (lv1 := [(0, .ref 97), (5, .long l5), (7, .int l7), (8, .long l8), (10, .int l10), (11, .int l11), (12, .int l12)]) [0, 5, 7, 8, 10, 11, 12] rfl ?_
    exact t_Mo_find_199 B hk126 l5 l7 l8 l10 l11 l12 M
  · refine s_lload B d_Mo_find_164 rfl ?_
    refine s_aload_n B d_Mo_find_166 rfl ?_
    refine s_getS (k := 22) (n := 116) B xc_Mo kd_97 (by decide) rfl rfl fl_Mo_67 sr_97_22 d_Mo_find_167 ?_
    refine s_sipush (v := (150:Int32)) B d_Mo_find_170 (by decide) ?_
    refine s_iload B d_Mo_find_173 rfl ?_
    refine s_imul B d_Mo_find_175 ?_
    refine s_aload_n B d_Mo_find_176 rfl ?_
    refine s_getS (k := 16) (n := 110) B xc_Mo kd_97 (by decide) rfl rfl fl_Mo_49 sr_97_16 d_Mo_find_177 ?_
    refine s_iconst (v := (4:Int32)) B d_Mo_find_180 (by decide) ?_
    refine s_iload B d_Mo_find_181 rfl ?_
    refine s_imul B d_Mo_find_183 ?_
    refine s_iload B d_Mo_find_184 rfl ?_
    refine s_iadd B d_Mo_find_186 ?_
    refine s_iald B (Or.inl kd_110) d_Mo_find_187 (fun v3 _ => ?_)
    refine s_iadd B d_Mo_find_188 ?_
    refine s_lald B kd_116 d_Mo_find_189 (fun v4 _ => ?_)
    refine s_lsub B d_Mo_find_190 ?_
    refine s_lstore B d_Mo_find_191 (by decide) ?_
    refine s_iinc (w := (1:Int32)) B d_Mo_find_193 rfl (by decide) (by decide) ?_
    refine s_goto B d_Mo_find_196 rfl ?_
    refine s_pick (lv1 := [(0, .ref 97), (5, .long (l5 - v4)), (7, .int l7), (8, .long l8), (10, .int l10), (11, .int l11), (12, .int (l12 + (1:Int32)))]) [0, 5, 7, 8, 10, 11, 12] rfl ?_
    exact hk134 (l5 - v4) l7 l8 l10 l11 (l12 + (1:Int32)) M
set_option maxRecDepth 100000 in
set_option maxHeartbeats 4000000 in
theorem t_Mo_find_134 {k126 : Int64 × Int32 × Int64 × Int32 × Int32 × MS → Option (MS × Int64)} (B : xB p R s m args meth c b_Mo_find 13 R_Mo (Cond.code y_Mo_find b_Mo_find 13 (some .long) :: x_T) (some .long) 7 174 D x_cl (xty g) base) (hk126 : ∀ (l5 : Int64) (l7 : Int32) (l8 : Int64) (l10 : Int32) (l11 : Int32) (M : MS) , Sn p l e R s m args below meth c 13 D x_cl base (xwd g) cM x_g0 az kz (xfc cM) (xZ below args s D x_cl (xty g) base (xwd g) cM x_g0 az kz ovL) 126 [] [(0, .ref 97), (5, .long l5), (7, .int l7), (8, .long l8), (10, .int l10), (11, .int l11)] M (k126 (l5, l7, l8, l10, l11, M))) (l5 : Int64) (l7 : Int32) (l8 : Int64) (l10 : Int32) (l11 : Int32) (l12 : Int32) (M : MS)  : Sn p l e R s m args below meth c 13 D x_cl base (xwd g) cM x_g0 az kz (xfc cM) (xZ below args s D x_cl (xty g) base (xwd g) cM x_g0 az kz ovL) 134 [] [(0, .ref 97), (5, .long l5), (7, .int l7), (8, .long l8), (10, .int l10), (11, .int l11), (12, .int l12)] M (m_Mo_find_134 k126 (l5, l7, l8, l10, l11, l12, M)) := by
  have q : ∀ (F : Nat) (i : Int64 × Int32 × Int64 × Int32 × Int32 × Int32 × MS), Sn p l e R s m args below meth c 13 D x_cl base (xwd g) cM x_g0 az kz (xfc cM) (xZ below args s D x_cl (xty g) base (xwd g) cM x_g0 az kz ovL) 134 [] [(0, .ref 97), (5, .long i.1), (7, .int i.2.1), (8, .long i.2.2.1), (10, .int i.2.2.2.1), (11, .int i.2.2.2.2.1), (12, .int i.2.2.2.2.2.1)] i.2.2.2.2.2.2 (fx (fun (k : Int64 × Int32 × Int64 × Int32 × Int32 × Int32 × MS → Option (MS × Int64)) (i : Int64 × Int32 × Int64 × Int32 × Int32 × Int32 × MS) => m_Mo_find_134b k126 k i.1 i.2.1 i.2.2.1 i.2.2.2.1 i.2.2.2.2.1 i.2.2.2.2.2.1 i.2.2.2.2.2.2) F i) := by
    intro F
    induction F with
    | zero => intro i ; exact s_none
    | succ F ih => intro i ; exact t_Mo_find_134b B hk126 (fun l5 l7 l8 l10 l11 l12 M  => ih (l5, l7, l8, l10, l11, l12, M) ) i.1 i.2.1 i.2.2.1 i.2.2.2.1 i.2.2.2.2.1 i.2.2.2.2.2.1 i.2.2.2.2.2.2 
  exact q FU (l5, l7, l8, l10, l11, l12, M) 
set_option maxRecDepth 100000 in
set_option maxHeartbeats 4000000 in
theorem t_Mo_find_126b {k126 : Int64 × Int32 × Int64 × Int32 × Int32 × MS → Option (MS × Int64)} (B : xB p R s m args meth c b_Mo_find 13 R_Mo (Cond.code y_Mo_find b_Mo_find 13 (some .long) :: x_T) (some .long) 7 174 D x_cl (xty g) base) (hk126 : ∀ (l5 : Int64) (l7 : Int32) (l8 : Int64) (l10 : Int32) (l11 : Int32) (M : MS) , Sn p l e R s m args below meth c 13 D x_cl base (xwd g) cM x_g0 az kz (xfc cM) (xZ below args s D x_cl (xty g) base (xwd g) cM x_g0 az kz ovL) 126 [] [(0, .ref 97), (5, .long l5), (7, .int l7), (8, .long l8), (10, .int l10), (11, .int l11)] M (k126 (l5, l7, l8, l10, l11, M))) (l5 : Int64) (l7 : Int32) (l8 : Int64) (l10 : Int32) (l11 : Int32) (M : MS)  : Sn p l e R s m args below meth c 13 D x_cl base (xwd g) cM x_g0 az kz (xfc cM) (xZ below args s D x_cl (xty g) base (xwd g) cM x_g0 az kz ovL) 126 [] [(0, .ref 97), (5, .long l5), (7, .int l7), (8, .long l8), (10, .int l10), (11, .int l11)] M (m_Mo_find_126b k126 l5 l7 l8 l10 l11 M) := by
  unfold m_Mo_find_126b
  refine s_iload B d_Mo_find_126 rfl ?_
  refine s_if_lt B d_Mo_find_128 rfl (fun _ => ?_) (fun _ => ?_)
  · refine s_pick (lv1 := [(7, .int l7), (8, .long l8)]) [7, 8] rfl ?_
    exact t_Mo_find_231 B l7 l8 M
  · refine s_iconst (v := (0:Int32)) B d_Mo_find_131 (by decide) ?_
    refine s_istore B d_Mo_find_132 (by decide) ?_
    refine s_pick (lv1 := [(0, .ref 97), (5, .long l5), (7, .int l7), (8, .long l8), (10, .int l10), (11, .int l11), (12, .int (0:Int32))]) [0, 5, 7, 8, 10, 11, 12] rfl ?_
    exact t_Mo_find_134 B hk126 l5 l7 l8 l10 l11 (0:Int32) M
set_option maxRecDepth 100000 in
set_option maxHeartbeats 4000000 in
theorem t_Mo_find_126  (B : xB p R s m args meth c b_Mo_find 13 R_Mo (Cond.code y_Mo_find b_Mo_find 13 (some .long) :: x_T) (some .long) 7 174 D x_cl (xty g) base)  (l5 : Int64) (l7 : Int32) (l8 : Int64) (l10 : Int32) (l11 : Int32) (M : MS)  : Sn p l e R s m args below meth c 13 D x_cl base (xwd g) cM x_g0 az kz (xfc cM) (xZ below args s D x_cl (xty g) base (xwd g) cM x_g0 az kz ovL) 126 [] [(0, .ref 97), (5, .long l5), (7, .int l7), (8, .long l8), (10, .int l10), (11, .int l11)] M (m_Mo_find_126 (l5, l7, l8, l10, l11, M)) := by
  have q : ∀ (F : Nat) (i : Int64 × Int32 × Int64 × Int32 × Int32 × MS), Sn p l e R s m args below meth c 13 D x_cl base (xwd g) cM x_g0 az kz (xfc cM) (xZ below args s D x_cl (xty g) base (xwd g) cM x_g0 az kz ovL) 126 [] [(0, .ref 97), (5, .long i.1), (7, .int i.2.1), (8, .long i.2.2.1), (10, .int i.2.2.2.1), (11, .int i.2.2.2.2.1)] i.2.2.2.2.2 (fx (fun (k : Int64 × Int32 × Int64 × Int32 × Int32 × MS → Option (MS × Int64)) (i : Int64 × Int32 × Int64 × Int32 × Int32 × MS) => m_Mo_find_126b k i.1 i.2.1 i.2.2.1 i.2.2.2.1 i.2.2.2.2.1 i.2.2.2.2.2) F i) := by
    intro F
    induction F with
    | zero => intro i ; exact s_none
    | succ F ih => intro i ; exact t_Mo_find_126b B  (fun l5 l7 l8 l10 l11 M  => ih (l5, l7, l8, l10, l11, M) ) i.1 i.2.1 i.2.2.1 i.2.2.2.1 i.2.2.2.2.1 i.2.2.2.2.2 
  exact q FU (l5, l7, l8, l10, l11, M) 
set_option maxRecDepth 100000 in
set_option maxHeartbeats 4000000 in
theorem t_Mo_find_103  (B : xB p R s m args meth c b_Mo_find 13 R_Mo (Cond.code y_Mo_find b_Mo_find 13 (some .long) :: x_T) (some .long) 7 174 D x_cl (xty g) base)  (l5 : Int64) (l7 : Int32) (M : MS)  : Sn p l e R s m args below meth c 13 D x_cl base (xwd g) cM x_g0 az kz (xfc cM) (xZ below args s D x_cl (xty g) base (xwd g) cM x_g0 az kz ovL) 103 [] [(0, .ref 97), (5, .long l5), (7, .int l7)] M (m_Mo_find_103 l5 l7 M) := by
  unfold m_Mo_find_103
  refine s_iload B d_Mo_find_103 rfl ?_
  refine s_bipush (v := (16:Int32)) B d_Mo_find_105 (by decide) ?_
  refine s_icmp_le B d_Mo_find_107 rfl (fun _ => ?_) (fun _ => ?_)
  · refine s_lconst (v := (0:Int64)) B d_Mo_find_114 (by decide) ?_
    refine s_lstore B d_Mo_find_115 (by decide) ?_
    refine s_iconst (v := (0:Int32)) B d_Mo_find_117 (by decide) ?_
    refine s_istore B d_Mo_find_118 (by decide) ?_
    refine s_iload B d_Mo_find_120 rfl ?_
    refine s_iconst (v := (1:Int32)) B d_Mo_find_122 (by decide) ?_
    refine s_isub B d_Mo_find_123 ?_
    refine s_istore B d_Mo_find_124 (by decide) ?_
    refine s_pick (lv1 := [(0, .ref 97), (5, .long l5), (7, .int l7), (8, .long (0:Int64)), (10, .int (0:Int32)), (11, .int (l7 - (1:Int32)))]) [0, 5, 7, 8, 10, 11] rfl ?_
    exact t_Mo_find_126 B l5 l7 (0:Int64) (0:Int32) (l7 - (1:Int32)) M
  · refine s_ldc2 (v := (-1:Int64)) B d_Mo_find_110 (List.mem_cons_of_mem _ cs_Mo_194) ?_
    exact s_lret B d_Mo_find_113
set_option maxRecDepth 100000 in
set_option maxHeartbeats 4000000 in
theorem t_Mo_find_57b {k57 : Int64 × Int32 × MS → Option (MS × Int64)} (B : xB p R s m args meth c b_Mo_find 13 R_Mo (Cond.code y_Mo_find b_Mo_find 13 (some .long) :: x_T) (some .long) 7 174 D x_cl (xty g) base) (hk57 : ∀ (l5 : Int64) (l7 : Int32) (M : MS) , Sn p l e R s m args below meth c 13 D x_cl base (xwd g) cM x_g0 az kz (xfc cM) (xZ below args s D x_cl (xty g) base (xwd g) cM x_g0 az kz ovL) 57 [] [(0, .ref 97), (5, .long l5), (7, .int l7)] M (k57 (l5, l7, M))) (l5 : Int64) (l7 : Int32) (M : MS)  : Sn p l e R s m args below meth c 13 D x_cl base (xwd g) cM x_g0 az kz (xfc cM) (xZ below args s D x_cl (xty g) base (xwd g) cM x_g0 az kz ovL) 57 [] [(0, .ref 97), (5, .long l5), (7, .int l7)] M (m_Mo_find_57b k57 l5 l7 M) := by
  unfold m_Mo_find_57b
  refine s_iload B d_Mo_find_57 rfl ?_
  refine s_bipush (v := (16:Int32)) B d_Mo_find_59 (by decide) ?_
  refine s_icmp_gt B d_Mo_find_61 rfl (fun _ => ?_) (fun _ => ?_)
  · refine s_pick (lv1 := [(0, .ref 97), (5, .long l5), (7, .int l7)]) [0, 5, 7] rfl ?_
    exact t_Mo_find_103 B l5 l7 M
  · refine s_lload B d_Mo_find_64 rfl ?_
    refine s_aload_n B d_Mo_find_66 rfl ?_
    refine s_getS (k := 22) (n := 116) B xc_Mo kd_97 (by decide) rfl rfl fl_Mo_67 sr_97_22 d_Mo_find_67 ?_
    refine s_sipush (v := (150:Int32)) B d_Mo_find_70 (by decide) ?_
    refine s_iload B d_Mo_find_73 rfl ?_
    refine s_imul B d_Mo_find_75 ?_
    refine s_lald B kd_116 d_Mo_find_76 (fun v1 _ => ?_)
    refine s_lcmp B d_Mo_find_77 ?_
    refine s_if_lt B d_Mo_find_78 rfl (fun _ => ?_) (fun _ => ?_)
    · refine s_pick (lv1 := [(0, .ref 97), (5, .long l5), (7, .int l7)]) [0, 5, 7] rfl ?_
      exact t_Mo_find_103 B l5 l7 M
    · refine s_lload B d_Mo_find_81 rfl ?_
      refine s_aload_n B d_Mo_find_83 rfl ?_
      refine s_getS (k := 22) (n := 116) B xc_Mo kd_97 (by decide) rfl rfl fl_Mo_67 sr_97_22 d_Mo_find_84 ?_
      refine s_sipush (v := (150:Int32)) B d_Mo_find_87 (by decide) ?_
      refine s_iload B d_Mo_find_90 rfl ?_
      refine s_imul B d_Mo_find_92 ?_
      refine s_lald B kd_116 d_Mo_find_93 (fun v2 _ => ?_)
      refine s_lsub B d_Mo_find_94 ?_
      refine s_lstore B d_Mo_find_95 (by decide) ?_
      refine s_iinc (w := (1:Int32)) B d_Mo_find_97 rfl (by decide) (by decide) ?_
      refine s_goto B d_Mo_find_100 rfl ?_
      refine s_pick (lv1 := [(0, .ref 97), (5, .long (l5 - v2)), (7, .int (l7 + (1:Int32)))]) [0, 5, 7] rfl ?_
      exact hk57 (l5 - v2) (l7 + (1:Int32)) M
set_option maxRecDepth 100000 in
set_option maxHeartbeats 4000000 in
theorem t_Mo_find_57  (B : xB p R s m args meth c b_Mo_find 13 R_Mo (Cond.code y_Mo_find b_Mo_find 13 (some .long) :: x_T) (some .long) 7 174 D x_cl (xty g) base)  (l5 : Int64) (l7 : Int32) (M : MS)  : Sn p l e R s m args below meth c 13 D x_cl base (xwd g) cM x_g0 az kz (xfc cM) (xZ below args s D x_cl (xty g) base (xwd g) cM x_g0 az kz ovL) 57 [] [(0, .ref 97), (5, .long l5), (7, .int l7)] M (m_Mo_find_57 (l5, l7, M)) := by
  have q : ∀ (F : Nat) (i : Int64 × Int32 × MS), Sn p l e R s m args below meth c 13 D x_cl base (xwd g) cM x_g0 az kz (xfc cM) (xZ below args s D x_cl (xty g) base (xwd g) cM x_g0 az kz ovL) 57 [] [(0, .ref 97), (5, .long i.1), (7, .int i.2.1)] i.2.2 (fx (fun (k : Int64 × Int32 × MS → Option (MS × Int64)) (i : Int64 × Int32 × MS) => m_Mo_find_57b k i.1 i.2.1 i.2.2) F i) := by
    intro F
    induction F with
    | zero => intro i ; exact s_none
    | succ F ih => intro i ; exact t_Mo_find_57b B  (fun l5 l7 M  => ih (l5, l7, M) ) i.1 i.2.1 i.2.2 
  exact q FU (l5, l7, M) 
set_option maxRecDepth 100000 in
set_option maxHeartbeats 4000000 in
theorem t_Mo_find_13  (B : xB p R s m args meth c b_Mo_find 13 R_Mo (Cond.code y_Mo_find b_Mo_find 13 (some .long) :: x_T) (some .long) 7 174 D x_cl (xty g) base)  (l1 : Int32) (l2 : Int64) (s1 : Int32) (M : MS)  : Sn p l e R s m args below meth c 13 D x_cl base (xwd g) cM x_g0 az kz (xfc cM) (xZ below args s D x_cl (xty g) base (xwd g) cM x_g0 az kz ovL) 13 [.int s1, .ref 97] [(0, .ref 97), (1, .int l1), (2, .long l2)] M (m_Mo_find_13 l1 l2 s1 M) := by
  unfold m_Mo_find_13
  refine s_iconst (v := (0:Int32)) B d_Mo_find_13 (by decide) ?_
  refine s_pick (lv1 := [(0, .ref 97), (1, .int l1), (2, .long l2)]) [0, 1, 2] rfl ?_
  refine s_callI (av := [.ref 97, .int s1, .int (0:Int32)]) (rest := []) B (lk_V B d_Mo_find_14 (gl_Mo_161 _) rfl hv_Mo_fails (by decide) (by decide)) rfl (x_rcV B xc_Mo kd_97) (fun _ _ => rfl) rfl rfl (by simp [Value.category]) rfl (fun r1 e9 => ct_Mo_fails _ _ _ r1 e9) (fun r1 _ => ?_)
  refine s_if_eq B d_Mo_find_17 rfl (fun _ => ?_) (fun _ => ?_)
  · refine s_aload_n B d_Mo_find_22 rfl ?_
    refine s_iload_n B d_Mo_find_23 rfl ?_
    refine s_pick (lv1 := [(0, .ref 97), (2, .long l2)]) [0, 2] rfl ?_
    refine s_callI (av := [.ref 97, .int l1]) (rest := []) B (lk_V B d_Mo_find_24 (gl_Mo_183 _) rfl hv_Mo_explore (by decide) (by decide)) rfl (x_rcV B xc_Mo kd_97) (fun _ _ => rfl) rfl rfl (by simp [Value.category]) rfl (fun r2 e9 => ct_Mo_explore _ _ r2 e9) (fun r2 _ => ?_)
    refine s_istore B d_Mo_find_27 (by decide) ?_
    refine s_iload B d_Mo_find_29 rfl ?_
    refine s_iconst (v := (-1:Int32)) B d_Mo_find_31 (by decide) ?_
    refine s_icmp_eq B d_Mo_find_32 rfl (fun _ => ?_) (fun _ => ?_)
    · refine s_ldc2 (v := (-1:Int64)) B d_Mo_find_41 (List.mem_cons_of_mem _ cs_Mo_194) ?_
      exact s_lret B d_Mo_find_44
    · refine s_lload_n B d_Mo_find_35 rfl ?_
      refine s_lconst (v := (0:Int64)) B d_Mo_find_36 (by decide) ?_
      refine s_lcmp B d_Mo_find_37 ?_
      refine s_if_ge B d_Mo_find_38 rfl (fun _ => ?_) (fun _ => ?_)
      · refine s_aload_n B d_Mo_find_45 rfl ?_
        refine s_iload B d_Mo_find_46 rfl ?_
        refine s_pick (lv1 := [(0, .ref 97), (2, .long l2)]) [0, 2] rfl ?_
        refine s_callU (av := [.ref 97, .int r2.2]) (rest := []) B (lk_V B d_Mo_find_48 (gl_Mo_196 _) rfl hv_Mo_count (by decide) (by decide)) rfl (x_rcV B xc_Mo kd_97) (fun _ _ => rfl) rfl rfl (by simp [Value.category]) rfl (fun r3 e9 => ct_Mo_count _ _ r3 e9) (fun r3 _ => ?_)
        refine s_lload_n B d_Mo_find_51 rfl ?_
        refine s_lstore B d_Mo_find_52 (by decide) ?_
        refine s_iconst (v := (0:Int32)) B d_Mo_find_54 (by decide) ?_
        refine s_istore B d_Mo_find_55 (by decide) ?_
        refine s_pick (lv1 := [(0, .ref 97), (5, .long l2), (7, .int (0:Int32))]) [0, 5, 7] rfl ?_
        exact t_Mo_find_57 B l2 (0:Int32) r3.1
      · refine s_ldc2 (v := (-1:Int64)) B d_Mo_find_41 (List.mem_cons_of_mem _ cs_Mo_194) ?_
        exact s_lret B d_Mo_find_44
  · refine s_lconst (v := (0:Int64)) B d_Mo_find_20 (by decide) ?_
    exact s_lret B d_Mo_find_21
set_option maxRecDepth 100000 in
set_option maxHeartbeats 4000000 in
theorem t_Mo_find (B : xB p R s m args meth c b_Mo_find 13 R_Mo (Cond.code y_Mo_find b_Mo_find 13 (some .long) :: x_T) (some .long) 7 174 D x_cl (xty g) base) (a1 : Int32) (a2 : Int64) (M : MS) : Sn p l e R s m args below meth c 13 D x_cl base (xwd g) cM x_g0 az kz (xfc cM) (xZ below args s D x_cl (xty g) base (xwd g) cM x_g0 az kz ovL) 0 [] [(0, .ref 97), (1, .int a1), (2, .long a2)] M (m_Mo_find a1 a2 M) := by
  unfold m_Mo_find
  refine s_aload_n B d_Mo_find_0 rfl ?_
  refine s_iload_n B d_Mo_find_1 rfl ?_
  refine s_pick (lv1 := [(0, .ref 97), (1, .int a1), (2, .long a2)]) [0, 1, 2] rfl ?_
  refine s_callI (av := [.int a1]) (rest := [.ref 97]) B (lk_S B d_Mo_find_2 (gl_Mo_158 _) (List.mem_cons_of_mem _ st_Mo_isSlot) (List.mem_cons_of_mem _ in_Mo) (List.mem_cons_of_mem _ ml_Mo_158) rfl hs_Mo_isSlot (by decide) (by decide)) rfl x_rcS (fun _ _ => rfl) rfl rfl (by simp [Value.category]) rfl (fun r1 e9 => ct_Mo_isSlot _ _ r1 e9) (fun r1 _ => ?_)
  refine s_if_ne B d_Mo_find_5 rfl (fun _ => ?_) (fun _ => ?_)
  · refine s_iconst (v := (0:Int32)) B d_Mo_find_12 (by decide) ?_
    refine s_pick (lv1 := [(0, .ref 97), (1, .int a1), (2, .long a2)]) [0, 1, 2] rfl ?_
    exact t_Mo_find_13 B a1 a2 (0:Int32) r1.1
  · refine s_iconst (v := (1:Int32)) B d_Mo_find_8 (by decide) ?_
    refine s_goto B d_Mo_find_9 rfl ?_
    refine s_pick (lv1 := [(0, .ref 97), (1, .int a1), (2, .long a2)]) [0, 1, 2] rfl ?_
    exact t_Mo_find_13 B a1 a2 (1:Int32) r1.1
set_option maxRecDepth 100000 in
set_option maxHeartbeats 4000000 in
theorem ct_Mo_find {l : Launch} {D : va_G} {base : Nat} {g : Nat → ClassId} (a1 : Int32) (a2 : Int64) (M : MS) (r : MS × Int64) (hr : m_Mo_find a1 a2 M = some r) : Ct l y_Mo_find (Cond.code y_Mo_find b_Mo_find 13 (some .long) :: x_T) 7 174 D x_cl (xty g) base (xwd g) cM x_g0 [.ref 97, .int a1, .long a2] M r.1 (ovL r.2) :=
  x_met (ov := ovL) (by decide) (Nat.le_of_ble_eq_true rfl) (fun p e R s m args below meth c az B => t_Mo_find B a1 a2 M) r hr
end
theorem d_Mo_look_0 : decode b_Mo_look 0 = .ok (.aload_n 0, 1) := by decide +kernel
theorem d_Mo_look_1 : decode b_Mo_look 1 = .ok (.iload_n 1, 1) := by decide +kernel
theorem d_Mo_look_2 : decode b_Mo_look 2 = .ok (.invokestatic 158, 3) := by decide +kernel
theorem d_Mo_look_5 : decode b_Mo_look 5 = .ok (.ifCond .ne (7), 3) := by decide +kernel
theorem d_Mo_look_8 : decode b_Mo_look 8 = .ok (.iconst (1), 1) := by decide +kernel
theorem d_Mo_look_9 : decode b_Mo_look 9 = .ok (.goto (4), 3) := by decide +kernel
theorem d_Mo_look_12 : decode b_Mo_look 12 = .ok (.iconst (0), 1) := by decide +kernel
theorem d_Mo_look_13 : decode b_Mo_look 13 = .ok (.iconst (0), 1) := by decide +kernel
theorem d_Mo_look_14 : decode b_Mo_look 14 = .ok (.invokevirtual 161, 3) := by decide +kernel
theorem d_Mo_look_17 : decode b_Mo_look 17 = .ok (.ifCond .eq (5), 3) := by decide +kernel
theorem d_Mo_look_20 : decode b_Mo_look 20 = .ok (.iconst (0), 1) := by decide +kernel
theorem d_Mo_look_21 : decode b_Mo_look 21 = .ok (.ireturn, 1) := by decide +kernel
theorem d_Mo_look_22 : decode b_Mo_look 22 = .ok (.aload_n 0, 1) := by decide +kernel
theorem d_Mo_look_23 : decode b_Mo_look 23 = .ok (.getfield 7, 3) := by decide +kernel
theorem d_Mo_look_26 : decode b_Mo_look 26 = .ok (.bipush (100), 2) := by decide +kernel
theorem d_Mo_look_28 : decode b_Mo_look 28 = .ok (.iload_n 1, 1) := by decide +kernel
theorem d_Mo_look_29 : decode b_Mo_look 29 = .ok (.imul, 1) := by decide +kernel
theorem d_Mo_look_30 : decode b_Mo_look 30 = .ok (.iaload, 1) := by decide +kernel
theorem d_Mo_look_31 : decode b_Mo_look 31 = .ok (.istore_n 3, 1) := by decide +kernel
theorem d_Mo_look_32 : decode b_Mo_look 32 = .ok (.iload_n 2, 1) := by decide +kernel
theorem d_Mo_look_33 : decode b_Mo_look 33 = .ok (.tableswitch (103) (0) (4) #[35, 40, 47, 82, 87], 35) := by decide +kernel
theorem d_Mo_look_68 : decode b_Mo_look 68 = .ok (.iload_n 3, 1) := by decide +kernel
theorem d_Mo_look_69 : decode b_Mo_look 69 = .ok (.invokestatic 96, 3) := by decide +kernel
theorem d_Mo_look_72 : decode b_Mo_look 72 = .ok (.ireturn, 1) := by decide +kernel
theorem d_Mo_look_73 : decode b_Mo_look 73 = .ok (.aload_n 0, 1) := by decide +kernel
theorem d_Mo_look_74 : decode b_Mo_look 74 = .ok (.getfield 13, 3) := by decide +kernel
theorem d_Mo_look_77 : decode b_Mo_look 77 = .ok (.iload_n 1, 1) := by decide +kernel
theorem d_Mo_look_78 : decode b_Mo_look 78 = .ok (.iaload, 1) := by decide +kernel
theorem d_Mo_look_79 : decode b_Mo_look 79 = .ok (.ireturn, 1) := by decide +kernel
theorem d_Mo_look_80 : decode b_Mo_look 80 = .ok (.aload_n 0, 1) := by decide +kernel
theorem d_Mo_look_81 : decode b_Mo_look 81 = .ok (.aload_n 0, 1) := by decide +kernel
theorem d_Mo_look_82 : decode b_Mo_look 82 = .ok (.getfield 7, 3) := by decide +kernel
theorem d_Mo_look_85 : decode b_Mo_look 85 = .ok (.bipush (100), 2) := by decide +kernel
theorem d_Mo_look_87 : decode b_Mo_look 87 = .ok (.iload_n 1, 1) := by decide +kernel
theorem d_Mo_look_88 : decode b_Mo_look 88 = .ok (.imul, 1) := by decide +kernel
theorem d_Mo_look_89 : decode b_Mo_look 89 = .ok (.aload_n 0, 1) := by decide +kernel
theorem d_Mo_look_90 : decode b_Mo_look 90 = .ok (.getfield 13, 3) := by decide +kernel
theorem d_Mo_look_93 : decode b_Mo_look 93 = .ok (.iload_n 1, 1) := by decide +kernel
theorem d_Mo_look_94 : decode b_Mo_look 94 = .ok (.iaload, 1) := by decide +kernel
theorem d_Mo_look_95 : decode b_Mo_look 95 = .ok (.iconst (0), 1) := by decide +kernel
theorem d_Mo_look_96 : decode b_Mo_look 96 = .ok (.invokevirtual 168, 3) := by decide +kernel
theorem d_Mo_look_99 : decode b_Mo_look 99 = .ok (.pop, 1) := by decide +kernel
theorem d_Mo_look_100 : decode b_Mo_look 100 = .ok (.aload_n 0, 1) := by decide +kernel
theorem d_Mo_look_101 : decode b_Mo_look 101 = .ok (.getfield 32, 3) := by decide +kernel
theorem d_Mo_look_104 : decode b_Mo_look 104 = .ok (.iconst (0), 1) := by decide +kernel
theorem d_Mo_look_105 : decode b_Mo_look 105 = .ok (.baload, 1) := by decide +kernel
theorem d_Mo_look_106 : decode b_Mo_look 106 = .ok (.ifCond .eq (7), 3) := by decide +kernel
theorem d_Mo_look_109 : decode b_Mo_look 109 = .ok (.iconst (1), 1) := by decide +kernel
theorem d_Mo_look_110 : decode b_Mo_look 110 = .ok (.goto (4), 3) := by decide +kernel
theorem d_Mo_look_113 : decode b_Mo_look 113 = .ok (.iconst (0), 1) := by decide +kernel
theorem d_Mo_look_114 : decode b_Mo_look 114 = .ok (.ireturn, 1) := by decide +kernel
theorem d_Mo_look_115 : decode b_Mo_look 115 = .ok (.iload_n 3, 1) := by decide +kernel
theorem d_Mo_look_116 : decode b_Mo_look 116 = .ok (.invokestatic 100, 3) := by decide +kernel
theorem d_Mo_look_119 : decode b_Mo_look 119 = .ok (.ireturn, 1) := by decide +kernel
theorem d_Mo_look_120 : decode b_Mo_look 120 = .ok (.iload_n 3, 1) := by decide +kernel
theorem d_Mo_look_121 : decode b_Mo_look 121 = .ok (.invokestatic 96, 3) := by decide +kernel
theorem d_Mo_look_124 : decode b_Mo_look 124 = .ok (.iconst (2), 1) := by decide +kernel
theorem d_Mo_look_125 : decode b_Mo_look 125 = .ok (.if_icmp .ne (9), 3) := by decide +kernel
theorem d_Mo_look_128 : decode b_Mo_look 128 = .ok (.iload_n 3, 1) := by decide +kernel
theorem d_Mo_look_129 : decode b_Mo_look 129 = .ok (.iconst (3), 1) := by decide +kernel
theorem d_Mo_look_130 : decode b_Mo_look 130 = .ok (.ishr, 1) := by decide +kernel
theorem d_Mo_look_131 : decode b_Mo_look 131 = .ok (.goto (4), 3) := by decide +kernel
theorem d_Mo_look_134 : decode b_Mo_look 134 = .ok (.iconst (0), 1) := by decide +kernel
theorem d_Mo_look_135 : decode b_Mo_look 135 = .ok (.ireturn, 1) := by decide +kernel
theorem d_Mo_look_136 : decode b_Mo_look 136 = .ok (.iconst (-1), 1) := by decide +kernel
theorem d_Mo_look_137 : decode b_Mo_look 137 = .ok (.ireturn, 1) := by decide +kernel
section
variable {p : Program} {l : Launch} {e : Env} {R : Room} {s : State} {m : MethodId} {args : Array Value} {below : List Frame} {meth : Method} {c : Code} {D : va_G} {base : Nat} {g : Nat → ClassId} {az : Nat → Nat} {kz : Nat × Nat}
set_option maxRecDepth 100000 in
set_option maxHeartbeats 4000000 in
theorem t_Mo_look_13  (B : xB p R s m args meth c b_Mo_look 4 R_Mo (Cond.code y_Mo_look b_Mo_look 4 (some .int) :: x_T) (some .int) 6 147 D x_cl (xty g) base)  (l1 : Int32) (l2 : Int32) (s1 : Int32) (M : MS)  : Sn p l e R s m args below meth c 4 D x_cl base (xwd g) cM x_g0 az kz (xfc cM) (xZ below args s D x_cl (xty g) base (xwd g) cM x_g0 az kz ovI) 13 [.int s1, .ref 97] [(0, .ref 97), (1, .int l1), (2, .int l2)] M (m_Mo_look_13 l1 l2 s1 M) := by
  unfold m_Mo_look_13
  refine s_iconst (v := (0:Int32)) B d_Mo_look_13 (by decide) ?_
  refine s_pick (lv1 := [(0, .ref 97), (1, .int l1), (2, .int l2)]) [0, 1, 2] rfl ?_
  refine s_callI (av := [.ref 97, .int s1, .int (0:Int32)]) (rest := []) B (lk_V B d_Mo_look_14 (gl_Mo_161 _) rfl hv_Mo_fails (by decide) (by decide)) rfl (x_rcV B xc_Mo kd_97) (fun _ _ => rfl) rfl rfl (by simp [Value.category]) rfl (fun r1 e9 => ct_Mo_fails _ _ _ r1 e9) (fun r1 _ => ?_)
  refine s_if_eq B d_Mo_look_17 rfl (fun _ => ?_) (fun _ => ?_)
  · refine s_aload_n B d_Mo_look_22 rfl ?_
    refine s_getS (k := 1) (n := 98) B xc_Mo kd_97 (by decide) rfl rfl fl_Mo_7 sr_97_1 d_Mo_look_23 ?_
    refine s_bipush (v := (100:Int32)) B d_Mo_look_26 (by decide) ?_
    refine s_iload_n B d_Mo_look_28 rfl ?_
    refine s_imul B d_Mo_look_29 ?_
    refine s_iald B (Or.inl kd_98) d_Mo_look_30 (fun v2 _ => ?_)
    refine s_istore_n B d_Mo_look_31 (by decide) ?_
    refine s_iload_n B d_Mo_look_32 rfl ?_
    refine s_if (fun h0_ => ?_) (fun h0_ => ?_)
    · refine s_tabIn B d_Mo_look_33 (by rw [h0_]; decide) (by rw [h0_]; decide) (by rw [h0_]; rfl) rfl ?_
      refine s_iload_n B d_Mo_look_68 rfl ?_
      refine s_pick (lv1 := []) [] rfl ?_
      refine s_callI (av := [.int v2]) (rest := []) B (lk_S B d_Mo_look_69 (gl_Mo_96 _) (List.mem_cons_of_mem _ st_Mo_sort) (List.mem_cons_of_mem _ in_Mo) (List.mem_cons_of_mem _ ml_Mo_96) rfl hs_Mo_sort (by decide) (by decide)) rfl x_rcS (fun _ _ => rfl) rfl rfl (by simp [Value.category]) rfl (fun r3 e9 => ct_Mo_sort _ _ r3 e9) (fun r3 _ => ?_)
      exact s_iret B d_Mo_look_72
    · refine s_if (fun h1_ => ?_) (fun h1_ => ?_)
      · refine s_tabIn B d_Mo_look_33 (by rw [h1_]; decide) (by rw [h1_]; decide) (by rw [h1_]; rfl) rfl ?_
        refine s_aload_n B d_Mo_look_73 rfl ?_
        refine s_getS (k := 2) (n := 99) B xc_Mo kd_97 (by decide) rfl rfl fl_Mo_13 sr_97_2 d_Mo_look_74 ?_
        refine s_iload_n B d_Mo_look_77 rfl ?_
        refine s_iald B (Or.inl kd_99) d_Mo_look_78 (fun v4 _ => ?_)
        exact s_iret B d_Mo_look_79
      · refine s_if (fun h2_ => ?_) (fun h2_ => ?_)
        · refine s_tabIn B d_Mo_look_33 (by rw [h2_]; decide) (by rw [h2_]; decide) (by rw [h2_]; rfl) rfl ?_
          refine s_aload_n B d_Mo_look_80 rfl ?_
          refine s_aload_n B d_Mo_look_81 rfl ?_
          refine s_getS (k := 1) (n := 98) B xc_Mo kd_97 (by decide) rfl rfl fl_Mo_7 sr_97_1 d_Mo_look_82 ?_
          refine s_bipush (v := (100:Int32)) B d_Mo_look_85 (by decide) ?_
          refine s_iload_n B d_Mo_look_87 rfl ?_
          refine s_imul B d_Mo_look_88 ?_
          refine s_aload_n B d_Mo_look_89 rfl ?_
          refine s_getS (k := 2) (n := 99) B xc_Mo kd_97 (by decide) rfl rfl fl_Mo_13 sr_97_2 d_Mo_look_90 ?_
          refine s_iload_n B d_Mo_look_93 rfl ?_
          refine s_iald B (Or.inl kd_99) d_Mo_look_94 (fun v5 _ => ?_)
          refine s_iconst (v := (0:Int32)) B d_Mo_look_95 (by decide) ?_
          refine s_pick (lv1 := [(0, .ref 97)]) [0] rfl ?_
          refine s_callI (av := [.ref 97, .ref 98, .int ((100:Int32) * l1), .int v5, .int (0:Int32)]) (rest := []) B (lk_V B d_Mo_look_96 (gl_Mo_168 _) rfl hv_Mo_derived (by decide) (by decide)) rfl (x_rcV B xc_Mo kd_97) (fun _ _ => rfl) rfl rfl (by simp [Value.category]) rfl (fun r6 e9 => ct_Mo_derived _ _ _ _ _ r6 e9) (fun r6 _ => ?_)
          refine s_pop B d_Mo_look_99 rfl ?_
          refine s_aload_n B d_Mo_look_100 rfl ?_
          refine s_getS (k := 8) (n := 105) B xc_Mo kd_97 (by decide) rfl rfl fl_Mo_32 sr_97_8 d_Mo_look_101 ?_
          refine s_iconst (v := (0:Int32)) B d_Mo_look_104 (by decide) ?_
          refine s_zald B kd_105 d_Mo_look_105 (fun v7 _ => ?_)
          refine s_if_eq B d_Mo_look_106 rfl (fun _ => ?_) (fun _ => ?_)
          · refine s_iconst (v := (0:Int32)) B d_Mo_look_113 (by decide) ?_
            exact s_iret B d_Mo_look_114
          · refine s_iconst (v := (1:Int32)) B d_Mo_look_109 (by decide) ?_
            refine s_goto B d_Mo_look_110 rfl ?_
            exact s_iret B d_Mo_look_114
        · refine s_if (fun h3_ => ?_) (fun h3_ => ?_)
          · refine s_tabIn B d_Mo_look_33 (by rw [h3_]; decide) (by rw [h3_]; decide) (by rw [h3_]; rfl) rfl ?_
            refine s_iload_n B d_Mo_look_115 rfl ?_
            refine s_pick (lv1 := []) [] rfl ?_
            refine s_callI (av := [.int v2]) (rest := []) B (lk_S B d_Mo_look_116 (gl_Mo_100 _) (List.mem_cons_of_mem _ st_Mo_arity) (List.mem_cons_of_mem _ in_Mo) (List.mem_cons_of_mem _ ml_Mo_100) rfl hs_Mo_arity (by decide) (by decide)) rfl x_rcS (fun _ _ => rfl) rfl rfl (by simp [Value.category]) rfl (fun r8 e9 => ct_Mo_arity _ _ r8 e9) (fun r8 _ => ?_)
            exact s_iret B d_Mo_look_119
          · refine s_if (fun h4_ => ?_) (fun h4_ => ?_)
            · refine s_tabIn B d_Mo_look_33 (by rw [h4_]; decide) (by rw [h4_]; decide) (by rw [h4_]; rfl) rfl ?_
              refine s_iload_n B d_Mo_look_120 rfl ?_
              refine s_pick (lv1 := [(3, .int v2)]) [3] rfl ?_
              refine s_callI (av := [.int v2]) (rest := []) B (lk_S B d_Mo_look_121 (gl_Mo_96 _) (List.mem_cons_of_mem _ st_Mo_sort) (List.mem_cons_of_mem _ in_Mo) (List.mem_cons_of_mem _ ml_Mo_96) rfl hs_Mo_sort (by decide) (by decide)) rfl x_rcS (fun _ _ => rfl) rfl rfl (by simp [Value.category]) rfl (fun r9 e9 => ct_Mo_sort _ _ r9 e9) (fun r9 _ => ?_)
              refine s_iconst (v := (2:Int32)) B d_Mo_look_124 (by decide) ?_
              refine s_icmp_ne B d_Mo_look_125 rfl (fun _ => ?_) (fun _ => ?_)
              · refine s_iconst (v := (0:Int32)) B d_Mo_look_134 (by decide) ?_
                exact s_iret B d_Mo_look_135
              · refine s_iload_n B d_Mo_look_128 rfl ?_
                refine s_iconst (v := (3:Int32)) B d_Mo_look_129 (by decide) ?_
                refine s_ishr B d_Mo_look_130 ?_
                refine s_goto B d_Mo_look_131 rfl ?_
                exact s_iret B d_Mo_look_135
            · refine s_tabOut B d_Mo_look_33 (by have q0 := lv_neT h0_ (by decide : (0:Int32).toInt = 0); have q1 := lv_neT h1_ (by decide : (1:Int32).toInt = 1); have q2 := lv_neT h2_ (by decide : (2:Int32).toInt = 2); have q3 := lv_neT h3_ (by decide : (3:Int32).toInt = 3); have q4 := lv_neT h4_ (by decide : (4:Int32).toInt = 4); omega) rfl ?_
              refine s_iconst (v := (-1:Int32)) B d_Mo_look_136 (by decide) ?_
              exact s_iret B d_Mo_look_137
  · refine s_iconst (v := (0:Int32)) B d_Mo_look_20 (by decide) ?_
    exact s_iret B d_Mo_look_21
set_option maxRecDepth 100000 in
set_option maxHeartbeats 4000000 in
theorem t_Mo_look (B : xB p R s m args meth c b_Mo_look 4 R_Mo (Cond.code y_Mo_look b_Mo_look 4 (some .int) :: x_T) (some .int) 6 147 D x_cl (xty g) base) (a1 : Int32) (a2 : Int32) (M : MS) : Sn p l e R s m args below meth c 4 D x_cl base (xwd g) cM x_g0 az kz (xfc cM) (xZ below args s D x_cl (xty g) base (xwd g) cM x_g0 az kz ovI) 0 [] [(0, .ref 97), (1, .int a1), (2, .int a2)] M (m_Mo_look a1 a2 M) := by
  unfold m_Mo_look
  refine s_aload_n B d_Mo_look_0 rfl ?_
  refine s_iload_n B d_Mo_look_1 rfl ?_
  refine s_pick (lv1 := [(0, .ref 97), (1, .int a1), (2, .int a2)]) [0, 1, 2] rfl ?_
  refine s_callI (av := [.int a1]) (rest := [.ref 97]) B (lk_S B d_Mo_look_2 (gl_Mo_158 _) (List.mem_cons_of_mem _ st_Mo_isSlot) (List.mem_cons_of_mem _ in_Mo) (List.mem_cons_of_mem _ ml_Mo_158) rfl hs_Mo_isSlot (by decide) (by decide)) rfl x_rcS (fun _ _ => rfl) rfl rfl (by simp [Value.category]) rfl (fun r1 e9 => ct_Mo_isSlot _ _ r1 e9) (fun r1 _ => ?_)
  refine s_if_ne B d_Mo_look_5 rfl (fun _ => ?_) (fun _ => ?_)
  · refine s_iconst (v := (0:Int32)) B d_Mo_look_12 (by decide) ?_
    refine s_pick (lv1 := [(0, .ref 97), (1, .int a1), (2, .int a2)]) [0, 1, 2] rfl ?_
    exact t_Mo_look_13 B a1 a2 (0:Int32) r1.1
  · refine s_iconst (v := (1:Int32)) B d_Mo_look_8 (by decide) ?_
    refine s_goto B d_Mo_look_9 rfl ?_
    refine s_pick (lv1 := [(0, .ref 97), (1, .int a1), (2, .int a2)]) [0, 1, 2] rfl ?_
    exact t_Mo_look_13 B a1 a2 (1:Int32) r1.1
set_option maxRecDepth 100000 in
set_option maxHeartbeats 4000000 in
theorem ct_Mo_look {l : Launch} {D : va_G} {base : Nat} {g : Nat → ClassId} (a1 : Int32) (a2 : Int32) (M : MS) (r : MS × Int32) (hr : m_Mo_look a1 a2 M = some r) : Ct l y_Mo_look (Cond.code y_Mo_look b_Mo_look 4 (some .int) :: x_T) 6 147 D x_cl (xty g) base (xwd g) cM x_g0 [.ref 97, .int a1, .int a2] M r.1 (ovI r.2) :=
  x_met (ov := ovI) (by decide) (Nat.le_of_ble_eq_true rfl) (fun p e R s m args below meth c az B => t_Mo_look B a1 a2 M) r hr
end
