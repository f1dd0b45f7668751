theorem d_Splitter_entryFor_0 : decode b_Splitter_entryFor 0 = .ok (.aload_n 0, 1) := by decide +kernel
theorem d_Splitter_entryFor_1 : decode b_Splitter_entryFor 1 = .ok (.getfield 18, 3) := by decide +kernel
theorem d_Splitter_entryFor_4 : decode b_Splitter_entryFor 4 = .ok (.iload_n 1, 1) := by decide +kernel
theorem d_Splitter_entryFor_5 : decode b_Splitter_entryFor 5 = .ok (.iaload, 1) := by decide +kernel
theorem d_Splitter_entryFor_6 : decode b_Splitter_entryFor 6 = .ok (.istore 4, 2) := by decide +kernel
theorem d_Splitter_entryFor_8 : decode b_Splitter_entryFor 8 = .ok (.iconst (0), 1) := by decide +kernel
theorem d_Splitter_entryFor_9 : decode b_Splitter_entryFor 9 = .ok (.istore 5, 2) := by decide +kernel
theorem d_Splitter_entryFor_11 : decode b_Splitter_entryFor 11 = .ok (.iload 5, 2) := by decide +kernel
theorem d_Splitter_entryFor_13 : decode b_Splitter_entryFor 13 = .ok (.iload_n 3, 1) := by decide +kernel
theorem d_Splitter_entryFor_14 : decode b_Splitter_entryFor 14 = .ok (.if_icmp .ge (38), 3) := by decide +kernel
theorem d_Splitter_entryFor_17 : decode b_Splitter_entryFor 17 = .ok (.iload 4, 2) := by decide +kernel
theorem d_Splitter_entryFor_19 : decode b_Splitter_entryFor 19 = .ok (.iconst (-1), 1) := by decide +kernel
theorem d_Splitter_entryFor_20 : decode b_Splitter_entryFor 20 = .ok (.if_icmp .eq (32), 3) := by decide +kernel
theorem d_Splitter_entryFor_23 : decode b_Splitter_entryFor 23 = .ok (.aload_n 0, 1) := by decide +kernel
theorem d_Splitter_entryFor_24 : decode b_Splitter_entryFor 24 = .ok (.getfield 24, 3) := by decide +kernel
theorem d_Splitter_entryFor_27 : decode b_Splitter_entryFor 27 = .ok (.iload 4, 2) := by decide +kernel
theorem d_Splitter_entryFor_29 : decode b_Splitter_entryFor 29 = .ok (.iaload, 1) := by decide +kernel
theorem d_Splitter_entryFor_30 : decode b_Splitter_entryFor 30 = .ok (.iload_n 2, 1) := by decide +kernel
theorem d_Splitter_entryFor_31 : decode b_Splitter_entryFor 31 = .ok (.if_icmp .ne (6), 3) := by decide +kernel
theorem d_Splitter_entryFor_34 : decode b_Splitter_entryFor 34 = .ok (.iload 4, 2) := by decide +kernel
theorem d_Splitter_entryFor_36 : decode b_Splitter_entryFor 36 = .ok (.ireturn, 1) := by decide +kernel
theorem d_Splitter_entryFor_37 : decode b_Splitter_entryFor 37 = .ok (.aload_n 0, 1) := by decide +kernel
theorem d_Splitter_entryFor_38 : decode b_Splitter_entryFor 38 = .ok (.getfield 21, 3) := by decide +kernel
theorem d_Splitter_entryFor_41 : decode b_Splitter_entryFor 41 = .ok (.iload 4, 2) := by decide +kernel
theorem d_Splitter_entryFor_43 : decode b_Splitter_entryFor 43 = .ok (.iaload, 1) := by decide +kernel
theorem d_Splitter_entryFor_44 : decode b_Splitter_entryFor 44 = .ok (.istore 4, 2) := by decide +kernel
theorem d_Splitter_entryFor_46 : decode b_Splitter_entryFor 46 = .ok (.iinc 5 (1), 3) := by decide +kernel
theorem d_Splitter_entryFor_49 : decode b_Splitter_entryFor 49 = .ok (.goto (-38), 3) := by decide +kernel
theorem d_Splitter_entryFor_52 : decode b_Splitter_entryFor 52 = .ok (.iload_n 3, 1) := by decide +kernel
theorem d_Splitter_entryFor_53 : decode b_Splitter_entryFor 53 = .ok (.ireturn, 1) := by decide +kernel
section
variable {p : Program} {l : Launch} {e : Env} {R : Room} {s : State} {m : MethodId} {args : Array Value} {below : List Frame} {meth : Method} {c : Code} {D : va_G} {base : Nat} {g : Nat → ClassId} {az : Nat → Nat} {kz : Nat × Nat}
set_option maxRecDepth 100000 in
set_option maxHeartbeats 4000000 in
theorem t_Splitter_entryFor_11b {k11 : Int32 × Int32 × Int32 × Int32 × MS → Option (MS × Int32)} (B : xB p R s m args meth c b_Splitter_entryFor 6 R_Splitter (Cond.code y_Splitter_entryFor b_Splitter_entryFor 6 (some .int) :: x_T) (some .int) 0 0 D x_cl (xty g) base) (hk11 : ∀ (l2 : Int32) (l3 : Int32) (l4 : Int32) (l5 : Int32) (M : MS) , Sn p l e R s m args below meth c 6 D x_cl base (xwd g) cM x_g0 az kz (xfc cM) (xZ below args s D x_cl (xty g) base (xwd g) cM x_g0 az kz ovI) 11 [] [(0, .ref 80), (2, .int l2), (3, .int l3), (4, .int l4), (5, .int l5)] M (k11 (l2, l3, l4, l5, M))) (l2 : Int32) (l3 : Int32) (l4 : Int32) (l5 : Int32) (M : MS)  : Sn p l e R s m args below meth c 6 D x_cl base (xwd g) cM x_g0 az kz (xfc cM) (xZ below args s D x_cl (xty g) base (xwd g) cM x_g0 az kz ovI) 11 [] [(0, .ref 80), (2, .int l2), (3, .int l3), (4, .int l4), (5, .int l5)] M (m_Splitter_entryFor_11b k11 l2 l3 l4 l5 M) := by
  unfold m_Splitter_entryFor_11b
  refine s_iload B d_Splitter_entryFor_11 rfl ?_
  refine s_iload_n B d_Splitter_entryFor_13 rfl ?_
  refine s_icmp_ge B d_Splitter_entryFor_14 rfl (fun _ => ?_) (fun _ => ?_)
  · refine s_iload_n B d_Splitter_entryFor_52 rfl ?_
    exact s_iret B d_Splitter_entryFor_53
  · refine s_iload B d_Splitter_entryFor_17 rfl ?_
    refine s_iconst (v := (-1:Int32)) B d_Splitter_entryFor_19 (by decide) ?_
    refine s_icmp_eq B d_Splitter_entryFor_20 rfl (fun _ => ?_) (fun _ => ?_)
    · refine s_iload_n B d_Splitter_entryFor_52 rfl ?_
      exact s_iret B d_Splitter_entryFor_53
    · refine s_aload_n B d_Splitter_entryFor_23 rfl ?_
      refine s_getS (k := 4) (n := 85) B xc_Splitter kd_80 (by decide) rfl rfl fl_Splitter_24 sr_80_4 d_Splitter_entryFor_24 ?_
      refine s_iload B d_Splitter_entryFor_27 rfl ?_
      refine s_iald B (Or.inl kd_85) d_Splitter_entryFor_29 (fun v1 _ => ?_)
      refine s_iload_n B d_Splitter_entryFor_30 rfl ?_
      refine s_icmp_ne B d_Splitter_entryFor_31 rfl (fun _ => ?_) (fun _ => ?_)
      · refine s_aload_n B d_Splitter_entryFor_37 rfl ?_
        refine s_getS (k := 3) (n := 84) B xc_Splitter kd_80 (by decide) rfl rfl fl_Splitter_21 sr_80_3 d_Splitter_entryFor_38 ?_
        refine s_iload B d_Splitter_entryFor_41 rfl ?_
        refine s_iald B (Or.inl kd_84) d_Splitter_entryFor_43 (fun v2 _ => ?_)
        refine s_istore B d_Splitter_entryFor_44 (by decide) ?_
        refine s_iinc (w := (1:Int32)) B d_Splitter_entryFor_46 rfl (by decide) (by decide) ?_
        refine s_goto B d_Splitter_entryFor_49 rfl ?_
        refine s_pick (lv1 := [(0, .ref 80), (2, .int l2), (3, .int l3), (4, .int v2), (5, .int (l5 + (1:Int32)))]) [0, 2, 3, 4, 5] rfl ?_
        exact hk11 l2 l3 v2 (l5 + (1:Int32)) M
      · refine s_iload B d_Splitter_entryFor_34 rfl ?_
        exact s_iret B d_Splitter_entryFor_36
set_option maxRecDepth 100000 in
set_option maxHeartbeats 4000000 in
theorem t_Splitter_entryFor_11  (B : xB p R s m args meth c b_Splitter_entryFor 6 R_Splitter (Cond.code y_Splitter_entryFor b_Splitter_entryFor 6 (some .int) :: x_T) (some .int) 0 0 D x_cl (xty g) base)  (l2 : Int32) (l3 : Int32) (l4 : Int32) (l5 : Int32) (M : MS)  : Sn p l e R s m args below meth c 6 D x_cl base (xwd g) cM x_g0 az kz (xfc cM) (xZ below args s D x_cl (xty g) base (xwd g) cM x_g0 az kz ovI) 11 [] [(0, .ref 80), (2, .int l2), (3, .int l3), (4, .int l4), (5, .int l5)] M (m_Splitter_entryFor_11 (l2, l3, l4, l5, M)) := by
  have q : ∀ (F : Nat) (i : Int32 × Int32 × Int32 × Int32 × MS), Sn p l e R s m args below meth c 6 D x_cl base (xwd g) cM x_g0 az kz (xfc cM) (xZ below args s D x_cl (xty g) base (xwd g) cM x_g0 az kz ovI) 11 [] [(0, .ref 80), (2, .int i.1), (3, .int i.2.1), (4, .int i.2.2.1), (5, .int i.2.2.2.1)] i.2.2.2.2 (fx (fun (k : Int32 × Int32 × Int32 × Int32 × MS → Option (MS × Int32)) (i : Int32 × Int32 × Int32 × Int32 × MS) => m_Splitter_entryFor_11b k i.1 i.2.1 i.2.2.1 i.2.2.2.1 i.2.2.2.2) F i) := by
    intro F
    induction F with
    | zero => intro i ; exact s_none
    | succ F ih => intro i ; exact t_Splitter_entryFor_11b B  (fun l2 l3 l4 l5 M  => ih (l2, l3, l4, l5, M) ) i.1 i.2.1 i.2.2.1 i.2.2.2.1 i.2.2.2.2 
  exact q FU (l2, l3, l4, l5, M) 
set_option maxRecDepth 100000 in
set_option maxHeartbeats 4000000 in
theorem t_Splitter_entryFor (B : xB p R s m args meth c b_Splitter_entryFor 6 R_Splitter (Cond.code y_Splitter_entryFor b_Splitter_entryFor 6 (some .int) :: x_T) (some .int) 0 0 D x_cl (xty g) base) (a1 : Int32) (a2 : Int32) (a3 : Int32) (M : MS) : Sn p l e R s m args below meth c 6 D x_cl base (xwd g) cM x_g0 az kz (xfc cM) (xZ below args s D x_cl (xty g) base (xwd g) cM x_g0 az kz ovI) 0 [] [(0, .ref 80), (1, .int a1), (2, .int a2), (3, .int a3)] M (m_Splitter_entryFor a1 a2 a3 M) := by
  unfold m_Splitter_entryFor
  refine s_aload_n B d_Splitter_entryFor_0 rfl ?_
  refine s_getS (k := 2) (n := 83) B xc_Splitter kd_80 (by decide) rfl rfl fl_Splitter_18 sr_80_2 d_Splitter_entryFor_1 ?_
  refine s_iload_n B d_Splitter_entryFor_4 rfl ?_
  refine s_iald B (Or.inl kd_83) d_Splitter_entryFor_5 (fun v1 _ => ?_)
  refine s_istore B d_Splitter_entryFor_6 (by decide) ?_
  refine s_iconst (v := (0:Int32)) B d_Splitter_entryFor_8 (by decide) ?_
  refine s_istore B d_Splitter_entryFor_9 (by decide) ?_
  refine s_pick (lv1 := [(0, .ref 80), (2, .int a2), (3, .int a3), (4, .int v1), (5, .int (0:Int32))]) [0, 2, 3, 4, 5] rfl ?_
  exact t_Splitter_entryFor_11 B a2 a3 v1 (0:Int32) M
set_option maxRecDepth 100000 in
set_option maxHeartbeats 4000000 in
theorem ct_Splitter_entryFor {l : Launch} {D : va_G} {base : Nat} {g : Nat → ClassId} (a1 : Int32) (a2 : Int32) (a3 : Int32) (M : MS) (r : MS × Int32) (hr : m_Splitter_entryFor a1 a2 a3 M = some r) : Ct l y_Splitter_entryFor (Cond.code y_Splitter_entryFor b_Splitter_entryFor 6 (some .int) :: x_T) 0 0 D x_cl (xty g) base (xwd g) cM x_g0 [.ref 80, .int a1, .int a2, .int a3] M r.1 (ovI r.2) :=
  x_met (ov := ovI) (by decide) (Nat.le_of_ble_eq_true rfl) (fun p e R s m args below meth c az B => t_Splitter_entryFor B a1 a2 a3 M) r hr
end
theorem d_Splitter_splitByLetter_0 : decode b_Splitter_splitByLetter 0 = .ok (.iconst (0), 1) := by decide +kernel
theorem d_Splitter_splitByLetter_1 : decode b_Splitter_splitByLetter 1 = .ok (.istore 4, 2) := by decide +kernel
theorem d_Splitter_splitByLetter_3 : decode b_Splitter_splitByLetter 3 = .ok (.iload 4, 2) := by decide +kernel
theorem d_Splitter_splitByLetter_5 : decode b_Splitter_splitByLetter 5 = .ok (.iload_n 3, 1) := by decide +kernel
theorem d_Splitter_splitByLetter_6 : decode b_Splitter_splitByLetter 6 = .ok (.if_icmp .ge (17), 3) := by decide +kernel
theorem d_Splitter_splitByLetter_9 : decode b_Splitter_splitByLetter 9 = .ok (.aload_n 0, 1) := by decide +kernel
theorem d_Splitter_splitByLetter_10 : decode b_Splitter_splitByLetter 10 = .ok (.getfield 18, 3) := by decide +kernel
theorem d_Splitter_splitByLetter_13 : decode b_Splitter_splitByLetter 13 = .ok (.iload 4, 2) := by decide +kernel
theorem d_Splitter_splitByLetter_15 : decode b_Splitter_splitByLetter 15 = .ok (.iconst (-1), 1) := by decide +kernel
theorem d_Splitter_splitByLetter_16 : decode b_Splitter_splitByLetter 16 = .ok (.iastore, 1) := by decide +kernel
theorem d_Splitter_splitByLetter_17 : decode b_Splitter_splitByLetter 17 = .ok (.iinc 4 (1), 3) := by decide +kernel
theorem d_Splitter_splitByLetter_20 : decode b_Splitter_splitByLetter 20 = .ok (.goto (-17), 3) := by decide +kernel
theorem d_Splitter_splitByLetter_23 : decode b_Splitter_splitByLetter 23 = .ok (.iconst (0), 1) := by decide +kernel
theorem d_Splitter_splitByLetter_24 : decode b_Splitter_splitByLetter 24 = .ok (.istore 4, 2) := by decide +kernel
theorem d_Splitter_splitByLetter_26 : decode b_Splitter_splitByLetter 26 = .ok (.iconst (0), 1) := by decide +kernel
theorem d_Splitter_splitByLetter_27 : decode b_Splitter_splitByLetter 27 = .ok (.istore 5, 2) := by decide +kernel
theorem d_Splitter_splitByLetter_29 : decode b_Splitter_splitByLetter 29 = .ok (.iload 5, 2) := by decide +kernel
theorem d_Splitter_splitByLetter_31 : decode b_Splitter_splitByLetter 31 = .ok (.aload_n 1, 1) := by decide +kernel
theorem d_Splitter_splitByLetter_32 : decode b_Splitter_splitByLetter 32 = .ok (.invokevirtual 35, 3) := by decide +kernel
theorem d_Splitter_splitByLetter_35 : decode b_Splitter_splitByLetter 35 = .ok (.if_icmp .ge (101), 3) := by decide +kernel
theorem d_Splitter_splitByLetter_38 : decode b_Splitter_splitByLetter 38 = .ok (.aload_n 0, 1) := by decide +kernel
theorem d_Splitter_splitByLetter_39 : decode b_Splitter_splitByLetter 39 = .ok (.getfield 9, 3) := by decide +kernel
theorem d_Splitter_splitByLetter_42 : decode b_Splitter_splitByLetter 42 = .ok (.aload_n 1, 1) := by decide +kernel
theorem d_Splitter_splitByLetter_43 : decode b_Splitter_splitByLetter 43 = .ok (.iload 5, 2) := by decide +kernel
theorem d_Splitter_splitByLetter_45 : decode b_Splitter_splitByLetter 45 = .ok (.iload_n 2, 1) := by decide +kernel
theorem d_Splitter_splitByLetter_46 : decode b_Splitter_splitByLetter 46 = .ok (.invokevirtual 45, 3) := by decide +kernel
theorem d_Splitter_splitByLetter_49 : decode b_Splitter_splitByLetter 49 = .ok (.iaload, 1) := by decide +kernel
theorem d_Splitter_splitByLetter_50 : decode b_Splitter_splitByLetter 50 = .ok (.istore 6, 2) := by decide +kernel
theorem d_Splitter_splitByLetter_52 : decode b_Splitter_splitByLetter 52 = .ok (.aload_n 0, 1) := by decide +kernel
theorem d_Splitter_splitByLetter_53 : decode b_Splitter_splitByLetter 53 = .ok (.aload_n 0, 1) := by decide +kernel
theorem d_Splitter_splitByLetter_54 : decode b_Splitter_splitByLetter 54 = .ok (.getfield 9, 3) := by decide +kernel
theorem d_Splitter_splitByLetter_57 : decode b_Splitter_splitByLetter 57 = .ok (.iload 5, 2) := by decide +kernel
theorem d_Splitter_splitByLetter_59 : decode b_Splitter_splitByLetter 59 = .ok (.iaload, 1) := by decide +kernel
theorem d_Splitter_splitByLetter_60 : decode b_Splitter_splitByLetter 60 = .ok (.iload 6, 2) := by decide +kernel
theorem d_Splitter_splitByLetter_62 : decode b_Splitter_splitByLetter 62 = .ok (.iload 4, 2) := by decide +kernel
theorem d_Splitter_splitByLetter_64 : decode b_Splitter_splitByLetter 64 = .ok (.invokevirtual 49, 3) := by decide +kernel
theorem d_Splitter_splitByLetter_67 : decode b_Splitter_splitByLetter 67 = .ok (.istore 7, 2) := by decide +kernel
theorem d_Splitter_splitByLetter_69 : decode b_Splitter_splitByLetter 69 = .ok (.iload 7, 2) := by decide +kernel
theorem d_Splitter_splitByLetter_71 : decode b_Splitter_splitByLetter 71 = .ok (.iload 4, 2) := by decide +kernel
theorem d_Splitter_splitByLetter_73 : decode b_Splitter_splitByLetter 73 = .ok (.if_icmp .ne (48), 3) := by decide +kernel
theorem d_Splitter_splitByLetter_76 : decode b_Splitter_splitByLetter 76 = .ok (.aload_n 0, 1) := by decide +kernel
theorem d_Splitter_splitByLetter_77 : decode b_Splitter_splitByLetter 77 = .ok (.getfield 24, 3) := by decide +kernel
theorem d_Splitter_splitByLetter_80 : decode b_Splitter_splitByLetter 80 = .ok (.iload 4, 2) := by decide +kernel
theorem d_Splitter_splitByLetter_82 : decode b_Splitter_splitByLetter 82 = .ok (.iload 6, 2) := by decide +kernel
theorem d_Splitter_splitByLetter_84 : decode b_Splitter_splitByLetter 84 = .ok (.iastore, 1) := by decide +kernel
theorem d_Splitter_splitByLetter_85 : decode b_Splitter_splitByLetter 85 = .ok (.aload_n 0, 1) := by decide +kernel
theorem d_Splitter_splitByLetter_86 : decode b_Splitter_splitByLetter 86 = .ok (.getfield 21, 3) := by decide +kernel
theorem d_Splitter_splitByLetter_89 : decode b_Splitter_splitByLetter 89 = .ok (.iload 4, 2) := by decide +kernel
theorem d_Splitter_splitByLetter_91 : decode b_Splitter_splitByLetter 91 = .ok (.aload_n 0, 1) := by decide +kernel
theorem d_Splitter_splitByLetter_92 : decode b_Splitter_splitByLetter 92 = .ok (.getfield 18, 3) := by decide +kernel
theorem d_Splitter_splitByLetter_95 : decode b_Splitter_splitByLetter 95 = .ok (.aload_n 0, 1) := by decide +kernel
theorem d_Splitter_splitByLetter_96 : decode b_Splitter_splitByLetter 96 = .ok (.getfield 9, 3) := by decide +kernel
theorem d_Splitter_splitByLetter_99 : decode b_Splitter_splitByLetter 99 = .ok (.iload 5, 2) := by decide +kernel
theorem d_Splitter_splitByLetter_101 : decode b_Splitter_splitByLetter 101 = .ok (.iaload, 1) := by decide +kernel
theorem d_Splitter_splitByLetter_102 : decode b_Splitter_splitByLetter 102 = .ok (.iaload, 1) := by decide +kernel
theorem d_Splitter_splitByLetter_103 : decode b_Splitter_splitByLetter 103 = .ok (.iastore, 1) := by decide +kernel
theorem d_Splitter_splitByLetter_104 : decode b_Splitter_splitByLetter 104 = .ok (.aload_n 0, 1) := by decide +kernel
theorem d_Splitter_splitByLetter_105 : decode b_Splitter_splitByLetter 105 = .ok (.getfield 18, 3) := by decide +kernel
theorem d_Splitter_splitByLetter_108 : decode b_Splitter_splitByLetter 108 = .ok (.aload_n 0, 1) := by decide +kernel
theorem d_Splitter_splitByLetter_109 : decode b_Splitter_splitByLetter 109 = .ok (.getfield 9, 3) := by decide +kernel
theorem d_Splitter_splitByLetter_112 : decode b_Splitter_splitByLetter 112 = .ok (.iload 5, 2) := by decide +kernel
theorem d_Splitter_splitByLetter_114 : decode b_Splitter_splitByLetter 114 = .ok (.iaload, 1) := by decide +kernel
theorem d_Splitter_splitByLetter_115 : decode b_Splitter_splitByLetter 115 = .ok (.iload 4, 2) := by decide +kernel
theorem d_Splitter_splitByLetter_117 : decode b_Splitter_splitByLetter 117 = .ok (.iastore, 1) := by decide +kernel
theorem d_Splitter_splitByLetter_118 : decode b_Splitter_splitByLetter 118 = .ok (.iinc 4 (1), 3) := by decide +kernel
theorem d_Splitter_splitByLetter_121 : decode b_Splitter_splitByLetter 121 = .ok (.aload_n 0, 1) := by decide +kernel
theorem d_Splitter_splitByLetter_122 : decode b_Splitter_splitByLetter 122 = .ok (.getfield 15, 3) := by decide +kernel
theorem d_Splitter_splitByLetter_125 : decode b_Splitter_splitByLetter 125 = .ok (.iload 5, 2) := by decide +kernel
theorem d_Splitter_splitByLetter_127 : decode b_Splitter_splitByLetter 127 = .ok (.iload 7, 2) := by decide +kernel
theorem d_Splitter_splitByLetter_129 : decode b_Splitter_splitByLetter 129 = .ok (.iastore, 1) := by decide +kernel
theorem d_Splitter_splitByLetter_130 : decode b_Splitter_splitByLetter 130 = .ok (.iinc 5 (1), 3) := by decide +kernel
theorem d_Splitter_splitByLetter_133 : decode b_Splitter_splitByLetter 133 = .ok (.goto (-104), 3) := by decide +kernel
theorem d_Splitter_splitByLetter_136 : decode b_Splitter_splitByLetter 136 = .ok (.aload_n 0, 1) := by decide +kernel
theorem d_Splitter_splitByLetter_137 : decode b_Splitter_splitByLetter 137 = .ok (.getfield 15, 3) := by decide +kernel
theorem d_Splitter_splitByLetter_140 : decode b_Splitter_splitByLetter 140 = .ok (.iconst (0), 1) := by decide +kernel
theorem d_Splitter_splitByLetter_141 : decode b_Splitter_splitByLetter 141 = .ok (.aload_n 0, 1) := by decide +kernel
theorem d_Splitter_splitByLetter_142 : decode b_Splitter_splitByLetter 142 = .ok (.getfield 9, 3) := by decide +kernel
theorem d_Splitter_splitByLetter_145 : decode b_Splitter_splitByLetter 145 = .ok (.iconst (0), 1) := by decide +kernel
theorem d_Splitter_splitByLetter_146 : decode b_Splitter_splitByLetter 146 = .ok (.aload_n 1, 1) := by decide +kernel
theorem d_Splitter_splitByLetter_147 : decode b_Splitter_splitByLetter 147 = .ok (.invokevirtual 35, 3) := by decide +kernel
theorem d_Splitter_splitByLetter_150 : decode b_Splitter_splitByLetter 150 = .ok (.invokestatic 53, 3) := by decide +kernel
theorem d_Splitter_splitByLetter_153 : decode b_Splitter_splitByLetter 153 = .ok (.iload 4, 2) := by decide +kernel
theorem d_Splitter_splitByLetter_155 : decode b_Splitter_splitByLetter 155 = .ok (.ireturn, 1) := by decide +kernel
section
variable {p : Program} {l : Launch} {e : Env} {R : Room} {s : State} {m : MethodId} {args : Array Value} {below : List Frame} {meth : Method} {c : Code} {D : va_G} {base : Nat} {g : Nat → ClassId} {az : Nat → Nat} {kz : Nat × Nat}
set_option maxRecDepth 100000 in
set_option maxHeartbeats 4000000 in
theorem t_Splitter_splitByLetter_136  (B : xB p R s m args meth c b_Splitter_splitByLetter 8 R_Splitter (Cond.code y_Splitter_splitByLetter b_Splitter_splitByLetter 8 (some .int) :: x_T) (some .int) 1 40 D x_cl (xty g) base)  (l1 : Nat) (l4 : Int32) (M : MS) (hl1 : x_kd l1 = 4) : Sn p l e R s m args below meth c 8 D x_cl base (xwd g) cM x_g0 az kz (xfc cM) (xZ below args s D x_cl (xty g) base (xwd g) cM x_g0 az kz ovI) 136 [] [(0, .ref 80), (1, .ref l1), (4, .int l4)] M (m_Splitter_splitByLetter_136 l1 l4 M) := by
  unfold m_Splitter_splitByLetter_136
  refine s_aload_n B d_Splitter_splitByLetter_136 rfl ?_
  refine s_getS (k := 1) (n := 82) B xc_Splitter kd_80 (by decide) rfl rfl fl_Splitter_15 sr_80_1 d_Splitter_splitByLetter_137 ?_
  refine s_iconst (v := (0:Int32)) B d_Splitter_splitByLetter_140 (by decide) ?_
  refine s_aload_n B d_Splitter_splitByLetter_141 rfl ?_
  refine s_getS (k := 0) (n := 81) B xc_Splitter kd_80 (by decide) rfl rfl fl_Splitter_9 sr_80_0 d_Splitter_splitByLetter_142 ?_
  refine s_iconst (v := (0:Int32)) B d_Splitter_splitByLetter_145 (by decide) ?_
  refine s_aload_n B d_Splitter_splitByLetter_146 rfl ?_
  refine s_pick (lv1 := [(4, .int l4)]) [4] rfl ?_
  refine s_callI (av := [.ref l1]) (rest := [.int (0:Int32), .ref 81, .int (0:Int32), .ref 82]) B (lk_V B d_Splitter_splitByLetter_147 (gl_Splitter_35 _) rfl hv_Machine_count (by decide) (by decide)) rfl (x_rcV B xc_Machine hl1) (fun _ _ => rfl) rfl rfl (by simp [Value.category]) rfl (fun r1 e9 => ct_Machine_count _ _ r1 e9) (fun r1 _ => ?_)
  refine s_acopy B (List.mem_cons_of_mem _ ml_Splitter_53) (List.mem_cons_of_mem _ nt_acp) (List.mem_cons_of_mem _ st_acp) (List.mem_cons_of_mem _ in_sys) (Or.inl kd_82) (Or.inl kd_81) d_Splitter_splitByLetter_150 (by decide) (by simp only [List.map_nil, List.sum_nil]; decide) (fun M2 _ => ?_)
  refine s_iload B d_Splitter_splitByLetter_153 rfl ?_
  exact s_iret B d_Splitter_splitByLetter_155
set_option maxRecDepth 100000 in
set_option maxHeartbeats 4000000 in
theorem t_Splitter_splitByLetter_121 {k29 : Nat × Int32 × Int32 × Int32 × MS → Option (MS × Int32)} (B : xB p R s m args meth c b_Splitter_splitByLetter 8 R_Splitter (Cond.code y_Splitter_splitByLetter b_Splitter_splitByLetter 8 (some .int) :: x_T) (some .int) 1 40 D x_cl (xty g) base) (hk29 : ∀ (l1 : Nat) (l2 : Int32) (l4 : Int32) (l5 : Int32) (M : MS) (hl1 : x_kd l1 = 4), Sn p l e R s m args below meth c 8 D x_cl base (xwd g) cM x_g0 az kz (xfc cM) (xZ below args s D x_cl (xty g) base (xwd g) cM x_g0 az kz ovI) 29 [] [(0, .ref 80), (1, .ref l1), (2, .int l2), (4, .int l4), (5, .int l5)] M (k29 (l1, l2, l4, l5, M))) (l1 : Nat) (l2 : Int32) (l4 : Int32) (l5 : Int32) (l7 : Int32) (M : MS) (hl1 : x_kd l1 = 4) : Sn p l e R s m args below meth c 8 D x_cl base (xwd g) cM x_g0 az kz (xfc cM) (xZ below args s D x_cl (xty g) base (xwd g) cM x_g0 az kz ovI) 121 [] [(0, .ref 80), (1, .ref l1), (2, .int l2), (4, .int l4), (5, .int l5), (7, .int l7)] M (m_Splitter_splitByLetter_121 k29 l1 l2 l4 l5 l7 M) := by
  unfold m_Splitter_splitByLetter_121
  refine s_aload_n B d_Splitter_splitByLetter_121 rfl ?_
  refine s_getS (k := 1) (n := 82) B xc_Splitter kd_80 (by decide) rfl rfl fl_Splitter_15 sr_80_1 d_Splitter_splitByLetter_122 ?_
  refine s_iload B d_Splitter_splitByLetter_125 rfl ?_
  refine s_iload B d_Splitter_splitByLetter_127 rfl ?_
  refine s_iast B (Or.inl kd_82) d_Splitter_splitByLetter_129 (fun M1 _ => ?_)
  refine s_iinc (w := (1:Int32)) B d_Splitter_splitByLetter_130 rfl (by decide) (by decide) ?_
  refine s_goto B d_Splitter_splitByLetter_133 rfl ?_
  refine s_pick (lv1 := [(0, .ref 80), (1, .ref l1), (2, .int l2), (4, .int l4), (5, .int (l5 + (1:Int32)))]) [0, 1, 2, 4, 5] rfl ?_
  exact hk29 l1 l2 l4 (l5 + (1:Int32)) M1 hl1
set_option maxRecDepth 100000 in
set_option maxHeartbeats 4000000 in
theorem t_Splitter_splitByLetter_29b {k29 : Nat × Int32 × Int32 × Int32 × MS → Option (MS × Int32)} (B : xB p R s m args meth c b_Splitter_splitByLetter 8 R_Splitter (Cond.code y_Splitter_splitByLetter b_Splitter_splitByLetter 8 (some .int) :: x_T) (some .int) 1 40 D x_cl (xty g) base) (hk29 : ∀ (l1 : Nat) (l2 : Int32) (l4 : Int32) (l5 : Int32) (M : MS) (hl1 : x_kd l1 = 4), Sn p l e R s m args below meth c 8 D x_cl base (xwd g) cM x_g0 az kz (xfc cM) (xZ below args s D x_cl (xty g) base (xwd g) cM x_g0 az kz ovI) 29 [] [(0, .ref 80), (1, .ref l1), (2, .int l2), (4, .int l4), (5, .int l5)] M (k29 (l1, l2, l4, l5, M))) (l1 : Nat) (l2 : Int32) (l4 : Int32) (l5 : Int32) (M : MS) (hl1 : x_kd l1 = 4) : Sn p l e R s m args below meth c 8 D x_cl base (xwd g) cM x_g0 az kz (xfc cM) (xZ below args s D x_cl (xty g) base (xwd g) cM x_g0 az kz ovI) 29 [] [(0, .ref 80), (1, .ref l1), (2, .int l2), (4, .int l4), (5, .int l5)] M (m_Splitter_splitByLetter_29b k29 l1 l2 l4 l5 M) := by
  unfold m_Splitter_splitByLetter_29b
  refine s_iload B d_Splitter_splitByLetter_29 rfl ?_
  refine s_aload_n B d_Splitter_splitByLetter_31 rfl ?_
  refine s_pick (lv1 := [(0, .ref 80), (1, .ref l1), (2, .int l2), (4, .int l4), (5, .int l5)]) [0, 1, 2, 4, 5] rfl ?_
  refine s_callI (av := [.ref l1]) (rest := [.int l5]) B (lk_V B d_Splitter_splitByLetter_32 (gl_Splitter_35 _) rfl hv_Machine_count (by decide) (by decide)) rfl (x_rcV B xc_Machine hl1) (fun _ _ => rfl) rfl rfl (by simp [Value.category]) rfl (fun r1 e9 => ct_Machine_count _ _ r1 e9) (fun r1 _ => ?_)
  refine s_icmp_ge B d_Splitter_splitByLetter_35 rfl (fun _ => ?_) (fun _ => ?_)
  · refine s_pick (lv1 := [(0, .ref 80), (1, .ref l1), (4, .int l4)]) [0, 1, 4] rfl ?_
    exact t_Splitter_splitByLetter_136 B l1 l4 r1.1 hl1
  · refine s_aload_n B d_Splitter_splitByLetter_38 rfl ?_
    refine s_getS (k := 0) (n := 81) B xc_Splitter kd_80 (by decide) rfl rfl fl_Splitter_9 sr_80_0 d_Splitter_splitByLetter_39 ?_
    refine s_aload_n B d_Splitter_splitByLetter_42 rfl ?_
    refine s_iload B d_Splitter_splitByLetter_43 rfl ?_
    refine s_iload_n B d_Splitter_splitByLetter_45 rfl ?_
    refine s_pick (lv1 := [(0, .ref 80), (1, .ref l1), (2, .int l2), (4, .int l4), (5, .int l5)]) [0, 1, 2, 4, 5] rfl ?_
    refine s_callI (av := [.ref l1, .int l5, .int l2]) (rest := [.ref 81]) B (lk_V B d_Splitter_splitByLetter_46 (gl_Splitter_45 _) rfl hv_Machine_next (by decide) (by decide)) rfl (x_rcV B xc_Machine hl1) (fun _ _ => rfl) rfl rfl (by simp [Value.category]) rfl (fun r2 e9 => ct_Machine_next _ _ _ _ r2 e9) (fun r2 _ => ?_)
    refine s_iald B (Or.inl kd_81) d_Splitter_splitByLetter_49 (fun v3 _ => ?_)
    refine s_istore B d_Splitter_splitByLetter_50 (by decide) ?_
    refine s_aload_n B d_Splitter_splitByLetter_52 rfl ?_
    refine s_aload_n B d_Splitter_splitByLetter_53 rfl ?_
    refine s_getS (k := 0) (n := 81) B xc_Splitter kd_80 (by decide) rfl rfl fl_Splitter_9 sr_80_0 d_Splitter_splitByLetter_54 ?_
    refine s_iload B d_Splitter_splitByLetter_57 rfl ?_
    refine s_iald B (Or.inl kd_81) d_Splitter_splitByLetter_59 (fun v4 _ => ?_)
    refine s_iload B d_Splitter_splitByLetter_60 rfl ?_
    refine s_iload B d_Splitter_splitByLetter_62 rfl ?_
    refine s_pick (lv1 := [(0, .ref 80), (1, .ref l1), (2, .int l2), (4, .int l4), (5, .int l5), (6, .int v3)]) [0, 1, 2, 4, 5, 6] rfl ?_
    refine s_callI (av := [.ref 80, .int v4, .int v3, .int l4]) (rest := []) B (lk_V B d_Splitter_splitByLetter_64 (gl_Splitter_49 _) rfl hv_Splitter_entryFor (by decide) (by decide)) rfl (x_rcV B xc_Splitter kd_80) (fun _ _ => rfl) rfl rfl (by simp [Value.category]) rfl (fun r5 e9 => ct_Splitter_entryFor _ _ _ _ r5 e9) (fun r5 _ => ?_)
    refine s_istore B d_Splitter_splitByLetter_67 (by decide) ?_
    refine s_iload B d_Splitter_splitByLetter_69 rfl ?_
    refine s_iload B d_Splitter_splitByLetter_71 rfl ?_
    refine s_icmp_ne B d_Splitter_splitByLetter_73 rfl (fun _ => ?_) (fun _ => ?_)
    · refine s_pick (lv1 := [(0, .ref 80), (1, .ref l1), (2, .int l2), (4, .int l4), (5, .int l5), (7, .int r5.2)]) [0, 1, 2, 4, 5, 7] rfl ?_
      exact t_Splitter_splitByLetter_121 B hk29 l1 l2 l4 l5 r5.2 r5.1 hl1
    · refine s_aload_n B d_Splitter_splitByLetter_76 rfl ?_
      refine s_getS (k := 4) (n := 85) B xc_Splitter kd_80 (by decide) rfl rfl fl_Splitter_24 sr_80_4 d_Splitter_splitByLetter_77 ?_
      refine s_iload B d_Splitter_splitByLetter_80 rfl ?_
      refine s_iload B d_Splitter_splitByLetter_82 rfl ?_
      refine s_iast B (Or.inl kd_85) d_Splitter_splitByLetter_84 (fun M6 _ => ?_)
      refine s_aload_n B d_Splitter_splitByLetter_85 rfl ?_
      refine s_getS (k := 3) (n := 84) B xc_Splitter kd_80 (by decide) rfl rfl fl_Splitter_21 sr_80_3 d_Splitter_splitByLetter_86 ?_
      refine s_iload B d_Splitter_splitByLetter_89 rfl ?_
      refine s_aload_n B d_Splitter_splitByLetter_91 rfl ?_
      refine s_getS (k := 2) (n := 83) B xc_Splitter kd_80 (by decide) rfl rfl fl_Splitter_18 sr_80_2 d_Splitter_splitByLetter_92 ?_
      refine s_aload_n B d_Splitter_splitByLetter_95 rfl ?_
      refine s_getS (k := 0) (n := 81) B xc_Splitter kd_80 (by decide) rfl rfl fl_Splitter_9 sr_80_0 d_Splitter_splitByLetter_96 ?_
      refine s_iload B d_Splitter_splitByLetter_99 rfl ?_
      refine s_iald B (Or.inl kd_81) d_Splitter_splitByLetter_101 (fun v7 _ => ?_)
      refine s_iald B (Or.inl kd_83) d_Splitter_splitByLetter_102 (fun v8 _ => ?_)
      refine s_iast B (Or.inl kd_84) d_Splitter_splitByLetter_103 (fun M9 _ => ?_)
      refine s_aload_n B d_Splitter_splitByLetter_104 rfl ?_
      refine s_getS (k := 2) (n := 83) B xc_Splitter kd_80 (by decide) rfl rfl fl_Splitter_18 sr_80_2 d_Splitter_splitByLetter_105 ?_
      refine s_aload_n B d_Splitter_splitByLetter_108 rfl ?_
      refine s_getS (k := 0) (n := 81) B xc_Splitter kd_80 (by decide) rfl rfl fl_Splitter_9 sr_80_0 d_Splitter_splitByLetter_109 ?_
      refine s_iload B d_Splitter_splitByLetter_112 rfl ?_
      refine s_iald B (Or.inl kd_81) d_Splitter_splitByLetter_114 (fun v10 _ => ?_)
      refine s_iload B d_Splitter_splitByLetter_115 rfl ?_
      refine s_iast B (Or.inl kd_83) d_Splitter_splitByLetter_117 (fun M11 _ => ?_)
      refine s_iinc (w := (1:Int32)) B d_Splitter_splitByLetter_118 rfl (by decide) (by decide) ?_
      refine s_pick (lv1 := [(0, .ref 80), (1, .ref l1), (2, .int l2), (4, .int (l4 + (1:Int32))), (5, .int l5), (7, .int r5.2)]) [0, 1, 2, 4, 5, 7] rfl ?_
      exact t_Splitter_splitByLetter_121 B hk29 l1 l2 (l4 + (1:Int32)) l5 r5.2 M11 hl1
set_option maxRecDepth 100000 in
set_option maxHeartbeats 4000000 in
theorem t_Splitter_splitByLetter_29  (B : xB p R s m args meth c b_Splitter_splitByLetter 8 R_Splitter (Cond.code y_Splitter_splitByLetter b_Splitter_splitByLetter 8 (some .int) :: x_T) (some .int) 1 40 D x_cl (xty g) base)  (l1 : Nat) (l2 : Int32) (l4 : Int32) (l5 : Int32) (M : MS) (hl1 : x_kd l1 = 4) : Sn p l e R s m args below meth c 8 D x_cl base (xwd g) cM x_g0 az kz (xfc cM) (xZ below args s D x_cl (xty g) base (xwd g) cM x_g0 az kz ovI) 29 [] [(0, .ref 80), (1, .ref l1), (2, .int l2), (4, .int l4), (5, .int l5)] M (m_Splitter_splitByLetter_29 (l1, l2, l4, l5, M)) := by
  have q : ∀ (F : Nat) (i : Nat × Int32 × Int32 × Int32 × MS), x_kd i.1 = 4 → Sn p l e R s m args below meth c 8 D x_cl base (xwd g) cM x_g0 az kz (xfc cM) (xZ below args s D x_cl (xty g) base (xwd g) cM x_g0 az kz ovI) 29 [] [(0, .ref 80), (1, .ref i.1), (2, .int i.2.1), (4, .int i.2.2.1), (5, .int i.2.2.2.1)] i.2.2.2.2 (fx (fun (k : Nat × Int32 × Int32 × Int32 × MS → Option (MS × Int32)) (i : Nat × Int32 × Int32 × Int32 × MS) => m_Splitter_splitByLetter_29b k i.1 i.2.1 i.2.2.1 i.2.2.2.1 i.2.2.2.2) F i) := by
    intro F
    induction F with
    | zero => intro i h0; exact s_none
    | succ F ih => intro i h0; exact t_Splitter_splitByLetter_29b B  (fun l1 l2 l4 l5 M h0 => ih (l1, l2, l4, l5, M) h0) i.1 i.2.1 i.2.2.1 i.2.2.2.1 i.2.2.2.2 h0
  exact q FU (l1, l2, l4, l5, M) hl1
set_option maxRecDepth 100000 in
set_option maxHeartbeats 4000000 in
theorem t_Splitter_splitByLetter_3b {k3 : Nat × Int32 × Int32 × Int32 × MS → Option (MS × Int32)} (B : xB p R s m args meth c b_Splitter_splitByLetter 8 R_Splitter (Cond.code y_Splitter_splitByLetter b_Splitter_splitByLetter 8 (some .int) :: x_T) (some .int) 1 40 D x_cl (xty g) base) (hk3 : ∀ (l1 : Nat) (l2 : Int32) (l3 : Int32) (l4 : Int32) (M : MS) (hl1 : x_kd l1 = 4), Sn p l e R s m args below meth c 8 D x_cl base (xwd g) cM x_g0 az kz (xfc cM) (xZ below args s D x_cl (xty g) base (xwd g) cM x_g0 az kz ovI) 3 [] [(0, .ref 80), (1, .ref l1), (2, .int l2), (3, .int l3), (4, .int l4)] M (k3 (l1, l2, l3, l4, M))) (l1 : Nat) (l2 : Int32) (l3 : Int32) (l4 : Int32) (M : MS) (hl1 : x_kd l1 = 4) : Sn p l e R s m args below meth c 8 D x_cl base (xwd g) cM x_g0 az kz (xfc cM) (xZ below args s D x_cl (xty g) base (xwd g) cM x_g0 az kz ovI) 3 [] [(0, .ref 80), (1, .ref l1), (2, .int l2), (3, .int l3), (4, .int l4)] M (m_Splitter_splitByLetter_3b k3 l1 l2 l3 l4 M) := by
  unfold m_Splitter_splitByLetter_3b
  refine s_iload B d_Splitter_splitByLetter_3 rfl ?_
  refine s_iload_n B d_Splitter_splitByLetter_5 rfl ?_
  refine s_icmp_ge B d_Splitter_splitByLetter_6 rfl (fun _ => ?_) (fun _ => ?_)
  · refine s_iconst (v := (0:Int32)) B d_Splitter_splitByLetter_23 (by decide) ?_
    refine s_istore B d_Splitter_splitByLetter_24 (by decide) ?_
    refine s_iconst (v := (0:Int32)) B d_Splitter_splitByLetter_26 (by decide) ?_
    refine s_istore B d_Splitter_splitByLetter_27 (by decide) ?_
    refine s_pick (lv1 := [(0, .ref 80), (1, .ref l1), (2, .int l2), (4, .int (0:Int32)), (5, .int (0:Int32))]) [0, 1, 2, 4, 5] rfl ?_
    exact t_Splitter_splitByLetter_29 B l1 l2 (0:Int32) (0:Int32) M hl1
  · refine s_aload_n B d_Splitter_splitByLetter_9 rfl ?_
    refine s_getS (k := 2) (n := 83) B xc_Splitter kd_80 (by decide) rfl rfl fl_Splitter_18 sr_80_2 d_Splitter_splitByLetter_10 ?_
    refine s_iload B d_Splitter_splitByLetter_13 rfl ?_
    refine s_iconst (v := (-1:Int32)) B d_Splitter_splitByLetter_15 (by decide) ?_
    refine s_iast B (Or.inl kd_83) d_Splitter_splitByLetter_16 (fun M1 _ => ?_)
    refine s_iinc (w := (1:Int32)) B d_Splitter_splitByLetter_17 rfl (by decide) (by decide) ?_
    refine s_goto B d_Splitter_splitByLetter_20 rfl ?_
    refine s_pick (lv1 := [(0, .ref 80), (1, .ref l1), (2, .int l2), (3, .int l3), (4, .int (l4 + (1:Int32)))]) [0, 1, 2, 3, 4] rfl ?_
    exact hk3 l1 l2 l3 (l4 + (1:Int32)) M1 hl1
set_option maxRecDepth 100000 in
set_option maxHeartbeats 4000000 in
theorem t_Splitter_splitByLetter_3  (B : xB p R s m args meth c b_Splitter_splitByLetter 8 R_Splitter (Cond.code y_Splitter_splitByLetter b_Splitter_splitByLetter 8 (some .int) :: x_T) (some .int) 1 40 D x_cl (xty g) base)  (l1 : Nat) (l2 : Int32) (l3 : Int32) (l4 : Int32) (M : MS) (hl1 : x_kd l1 = 4) : Sn p l e R s m args below meth c 8 D x_cl base (xwd g) cM x_g0 az kz (xfc cM) (xZ below args s D x_cl (xty g) base (xwd g) cM x_g0 az kz ovI) 3 [] [(0, .ref 80), (1, .ref l1), (2, .int l2), (3, .int l3), (4, .int l4)] M (m_Splitter_splitByLetter_3 (l1, l2, l3, l4, M)) := by
  have q : ∀ (F : Nat) (i : Nat × Int32 × Int32 × Int32 × MS), x_kd i.1 = 4 → Sn p l e R s m args below meth c 8 D x_cl base (xwd g) cM x_g0 az kz (xfc cM) (xZ below args s D x_cl (xty g) base (xwd g) cM x_g0 az kz ovI) 3 [] [(0, .ref 80), (1, .ref i.1), (2, .int i.2.1), (3, .int i.2.2.1), (4, .int i.2.2.2.1)] i.2.2.2.2 (fx (fun (k : Nat × Int32 × Int32 × Int32 × MS → Option (MS × Int32)) (i : Nat × Int32 × Int32 × Int32 × MS) => m_Splitter_splitByLetter_3b k i.1 i.2.1 i.2.2.1 i.2.2.2.1 i.2.2.2.2) F i) := by
    intro F
    induction F with
    | zero => intro i h0; exact s_none
    | succ F ih => intro i h0; exact t_Splitter_splitByLetter_3b B  (fun l1 l2 l3 l4 M h0 => ih (l1, l2, l3, l4, M) h0) i.1 i.2.1 i.2.2.1 i.2.2.2.1 i.2.2.2.2 h0
  exact q FU (l1, l2, l3, l4, M) hl1
set_option maxRecDepth 100000 in
set_option maxHeartbeats 4000000 in
theorem t_Splitter_splitByLetter (B : xB p R s m args meth c b_Splitter_splitByLetter 8 R_Splitter (Cond.code y_Splitter_splitByLetter b_Splitter_splitByLetter 8 (some .int) :: x_T) (some .int) 1 40 D x_cl (xty g) base) (a1 : Nat) (a2 : Int32) (a3 : Int32) (M : MS) : Sn p l e R s m args below meth c 8 D x_cl base (xwd g) cM x_g0 az kz (xfc cM) (xZ below args s D x_cl (xty g) base (xwd g) cM x_g0 az kz ovI) 0 [] [(0, .ref 80), (1, .ref a1), (2, .int a2), (3, .int a3)] M (m_Splitter_splitByLetter a1 a2 a3 M) := by
  unfold m_Splitter_splitByLetter
  refine s_guard (fun ha1 => ?_)
  refine s_iconst (v := (0:Int32)) B d_Splitter_splitByLetter_0 (by decide) ?_
  refine s_istore B d_Splitter_splitByLetter_1 (by decide) ?_
  refine s_pick (lv1 := [(0, .ref 80), (1, .ref a1), (2, .int a2), (3, .int a3), (4, .int (0:Int32))]) [0, 1, 2, 3, 4] rfl ?_
  exact t_Splitter_splitByLetter_3 B a1 a2 a3 (0:Int32) M ha1
set_option maxRecDepth 100000 in
set_option maxHeartbeats 4000000 in
theorem ct_Splitter_splitByLetter {l : Launch} {D : va_G} {base : Nat} {g : Nat → ClassId} (a1 : Nat) (a2 : Int32) (a3 : Int32) (M : MS) (r : MS × Int32) (hr : m_Splitter_splitByLetter a1 a2 a3 M = some r) : Ct l y_Splitter_splitByLetter (Cond.code y_Splitter_splitByLetter b_Splitter_splitByLetter 8 (some .int) :: x_T) 1 40 D x_cl (xty g) base (xwd g) cM x_g0 [.ref 80, .ref a1, .int a2, .int a3] M r.1 (ovI r.2) :=
  x_met (ov := ovI) (by decide) (Nat.le_of_ble_eq_true rfl) (fun p e R s m args below meth c az B => t_Splitter_splitByLetter B a1 a2 a3 M) r hr
end
theorem d_Splitter_countParts_0 : decode b_Splitter_countParts 0 = .ok (.aload_n 0, 1) := by decide +kernel
theorem d_Splitter_countParts_1 : decode b_Splitter_countParts 1 = .ok (.aload_n 1, 1) := by decide +kernel
theorem d_Splitter_countParts_2 : decode b_Splitter_countParts 2 = .ok (.invokevirtual 27, 3) := by decide +kernel
theorem d_Splitter_countParts_5 : decode b_Splitter_countParts 5 = .ok (.istore_n 2, 1) := by decide +kernel
theorem d_Splitter_countParts_6 : decode b_Splitter_countParts 6 = .ok (.iconst (0), 1) := by decide +kernel
theorem d_Splitter_countParts_7 : decode b_Splitter_countParts 7 = .ok (.istore_n 3, 1) := by decide +kernel
theorem d_Splitter_countParts_8 : decode b_Splitter_countParts 8 = .ok (.iload_n 3, 1) := by decide +kernel
theorem d_Splitter_countParts_9 : decode b_Splitter_countParts 9 = .ok (.sipush (150), 3) := by decide +kernel
theorem d_Splitter_countParts_12 : decode b_Splitter_countParts 12 = .ok (.if_icmp .ge (45), 3) := by decide +kernel
theorem d_Splitter_countParts_15 : decode b_Splitter_countParts 15 = .ok (.iload_n 2, 1) := by decide +kernel
theorem d_Splitter_countParts_16 : decode b_Splitter_countParts 16 = .ok (.istore 4, 2) := by decide +kernel
theorem d_Splitter_countParts_18 : decode b_Splitter_countParts 18 = .ok (.iconst (0), 1) := by decide +kernel
theorem d_Splitter_countParts_19 : decode b_Splitter_countParts 19 = .ok (.istore 5, 2) := by decide +kernel
theorem d_Splitter_countParts_21 : decode b_Splitter_countParts 21 = .ok (.iload 5, 2) := by decide +kernel
theorem d_Splitter_countParts_23 : decode b_Splitter_countParts 23 = .ok (.iconst (4), 1) := by decide +kernel
theorem d_Splitter_countParts_24 : decode b_Splitter_countParts 24 = .ok (.if_icmp .ge (18), 3) := by decide +kernel
theorem d_Splitter_countParts_27 : decode b_Splitter_countParts 27 = .ok (.aload_n 0, 1) := by decide +kernel
theorem d_Splitter_countParts_28 : decode b_Splitter_countParts 28 = .ok (.aload_n 1, 1) := by decide +kernel
theorem d_Splitter_countParts_29 : decode b_Splitter_countParts 29 = .ok (.iload 5, 2) := by decide +kernel
theorem d_Splitter_countParts_31 : decode b_Splitter_countParts 31 = .ok (.iload_n 2, 1) := by decide +kernel
theorem d_Splitter_countParts_32 : decode b_Splitter_countParts 32 = .ok (.invokevirtual 31, 3) := by decide +kernel
theorem d_Splitter_countParts_35 : decode b_Splitter_countParts 35 = .ok (.istore_n 2, 1) := by decide +kernel
theorem d_Splitter_countParts_36 : decode b_Splitter_countParts 36 = .ok (.iinc 5 (1), 3) := by decide +kernel
theorem d_Splitter_countParts_39 : decode b_Splitter_countParts 39 = .ok (.goto (-18), 3) := by decide +kernel
theorem d_Splitter_countParts_42 : decode b_Splitter_countParts 42 = .ok (.iload_n 2, 1) := by decide +kernel
theorem d_Splitter_countParts_43 : decode b_Splitter_countParts 43 = .ok (.iload 4, 2) := by decide +kernel
theorem d_Splitter_countParts_45 : decode b_Splitter_countParts 45 = .ok (.if_icmp .ne (6), 3) := by decide +kernel
theorem d_Splitter_countParts_48 : decode b_Splitter_countParts 48 = .ok (.goto (9), 3) := by decide +kernel
theorem d_Splitter_countParts_51 : decode b_Splitter_countParts 51 = .ok (.iinc 3 (1), 3) := by decide +kernel
theorem d_Splitter_countParts_54 : decode b_Splitter_countParts 54 = .ok (.goto (-46), 3) := by decide +kernel
theorem d_Splitter_countParts_57 : decode b_Splitter_countParts 57 = .ok (.iload_n 2, 1) := by decide +kernel
theorem d_Splitter_countParts_58 : decode b_Splitter_countParts 58 = .ok (.ireturn, 1) := by decide +kernel
section
variable {p : Program} {l : Launch} {e : Env} {R : Room} {s : State} {m : MethodId} {args : Array Value} {below : List Frame} {meth : Method} {c : Code} {D : va_G} {base : Nat} {g : Nat → ClassId} {az : Nat → Nat} {kz : Nat × Nat}
set_option maxRecDepth 100000 in
set_option maxHeartbeats 4000000 in
theorem t_Splitter_countParts_42 {k8 : Nat × Int32 × Int32 × MS → Option (MS × Int32)} (B : xB p R s m args meth c b_Splitter_countParts 6 R_Splitter (Cond.code y_Splitter_countParts b_Splitter_countParts 6 (some .int) :: x_T) (some .int) 2 67 D x_cl (xty g) base) (hk8 : ∀ (l1 : Nat) (l2 : Int32) (l3 : Int32) (M : MS) (hl1 : x_kd l1 = 4), Sn p l e R s m args below meth c 6 D x_cl base (xwd g) cM x_g0 az kz (xfc cM) (xZ below args s D x_cl (xty g) base (xwd g) cM x_g0 az kz ovI) 8 [] [(0, .ref 80), (1, .ref l1), (2, .int l2), (3, .int l3)] M (k8 (l1, l2, l3, M))) (l1 : Nat) (l2 : Int32) (l3 : Int32) (l4 : Int32) (M : MS) (hl1 : x_kd l1 = 4) : Sn p l e R s m args below meth c 6 D x_cl base (xwd g) cM x_g0 az kz (xfc cM) (xZ below args s D x_cl (xty g) base (xwd g) cM x_g0 az kz ovI) 42 [] [(0, .ref 80), (1, .ref l1), (2, .int l2), (3, .int l3), (4, .int l4)] M (m_Splitter_countParts_42 k8 l1 l2 l3 l4 M) := by
  unfold m_Splitter_countParts_42
  refine s_iload_n B d_Splitter_countParts_42 rfl ?_
  refine s_iload B d_Splitter_countParts_43 rfl ?_
  refine s_icmp_ne B d_Splitter_countParts_45 rfl (fun _ => ?_) (fun _ => ?_)
  · refine s_iinc (w := (1:Int32)) B d_Splitter_countParts_51 rfl (by decide) (by decide) ?_
    refine s_goto B d_Splitter_countParts_54 rfl ?_
    refine s_pick (lv1 := [(0, .ref 80), (1, .ref l1), (2, .int l2), (3, .int (l3 + (1:Int32)))]) [0, 1, 2, 3] rfl ?_
    exact hk8 l1 l2 (l3 + (1:Int32)) M hl1
  · refine s_goto B d_Splitter_countParts_48 rfl ?_
    refine s_iload_n B d_Splitter_countParts_57 rfl ?_
    exact s_iret B d_Splitter_countParts_58
set_option maxRecDepth 100000 in
set_option maxHeartbeats 4000000 in
theorem t_Splitter_countParts_21b {k8 : Nat × Int32 × Int32 × MS → Option (MS × Int32)} {k21 : Nat × Int32 × Int32 × Int32 × Int32 × MS → Option (MS × Int32)} (B : xB p R s m args meth c b_Splitter_countParts 6 R_Splitter (Cond.code y_Splitter_countParts b_Splitter_countParts 6 (some .int) :: x_T) (some .int) 2 67 D x_cl (xty g) base) (hk8 : ∀ (l1 : Nat) (l2 : Int32) (l3 : Int32) (M : MS) (hl1 : x_kd l1 = 4), Sn p l e R s m args below meth c 6 D x_cl base (xwd g) cM x_g0 az kz (xfc cM) (xZ below args s D x_cl (xty g) base (xwd g) cM x_g0 az kz ovI) 8 [] [(0, .ref 80), (1, .ref l1), (2, .int l2), (3, .int l3)] M (k8 (l1, l2, l3, M))) (hk21 : ∀ (l1 : Nat) (l2 : Int32) (l3 : Int32) (l4 : Int32) (l5 : Int32) (M : MS) (hl1 : x_kd l1 = 4), Sn p l e R s m args below meth c 6 D x_cl base (xwd g) cM x_g0 az kz (xfc cM) (xZ below args s D x_cl (xty g) base (xwd g) cM x_g0 az kz ovI) 21 [] [(0, .ref 80), (1, .ref l1), (2, .int l2), (3, .int l3), (4, .int l4), (5, .int l5)] M (k21 (l1, l2, l3, l4, l5, M))) (l1 : Nat) (l2 : Int32) (l3 : Int32) (l4 : Int32) (l5 : Int32) (M : MS) (hl1 : x_kd l1 = 4) : Sn p l e R s m args below meth c 6 D x_cl base (xwd g) cM x_g0 az kz (xfc cM) (xZ below args s D x_cl (xty g) base (xwd g) cM x_g0 az kz ovI) 21 [] [(0, .ref 80), (1, .ref l1), (2, .int l2), (3, .int l3), (4, .int l4), (5, .int l5)] M (m_Splitter_countParts_21b k8 k21 l1 l2 l3 l4 l5 M) := by
  unfold m_Splitter_countParts_21b
  refine s_iload B d_Splitter_countParts_21 rfl ?_
  refine s_iconst (v := (4:Int32)) B d_Splitter_countParts_23 (by decide) ?_
  refine s_icmp_ge B d_Splitter_countParts_24 rfl (fun _ => ?_) (fun _ => ?_)
  · refine s_pick (lv1 := [(0, .ref 80), (1, .ref l1), (2, .int l2), (3, .int l3), (4, .int l4)]) [0, 1, 2, 3, 4] rfl ?_
    exact t_Splitter_countParts_42 B hk8 l1 l2 l3 l4 M hl1
  · refine s_aload_n B d_Splitter_countParts_27 rfl ?_
    refine s_aload_n B d_Splitter_countParts_28 rfl ?_
    refine s_iload B d_Splitter_countParts_29 rfl ?_
    refine s_iload_n B d_Splitter_countParts_31 rfl ?_
    refine s_pick (lv1 := [(0, .ref 80), (1, .ref l1), (3, .int l3), (4, .int l4), (5, .int l5)]) [0, 1, 3, 4, 5] rfl ?_
    refine s_callI (av := [.ref 80, .ref l1, .int l5, .int l2]) (rest := []) B (lk_V B d_Splitter_countParts_32 (gl_Splitter_31 _) rfl hv_Splitter_splitByLetter (by decide) (by decide)) rfl (x_rcV B xc_Splitter kd_80) (fun _ _ => rfl) rfl rfl (by simp [Value.category]) rfl (fun r1 e9 => ct_Splitter_splitByLetter _ _ _ _ r1 e9) (fun r1 _ => ?_)
    refine s_istore_n B d_Splitter_countParts_35 (by decide) ?_
    refine s_iinc (w := (1:Int32)) B d_Splitter_countParts_36 rfl (by decide) (by decide) ?_
    refine s_goto B d_Splitter_countParts_39 rfl ?_
    refine s_pick (lv1 := [(0, .ref 80), (1, .ref l1), (2, .int r1.2), (3, .int l3), (4, .int l4), (5, .int (l5 + (1:Int32)))]) [0, 1, 2, 3, 4, 5] rfl ?_
    exact hk21 l1 r1.2 l3 l4 (l5 + (1:Int32)) r1.1 hl1
set_option maxRecDepth 100000 in
set_option maxHeartbeats 4000000 in
theorem t_Splitter_countParts_21 {k8 : Nat × Int32 × Int32 × MS → Option (MS × Int32)} (B : xB p R s m args meth c b_Splitter_countParts 6 R_Splitter (Cond.code y_Splitter_countParts b_Splitter_countParts 6 (some .int) :: x_T) (some .int) 2 67 D x_cl (xty g) base) (hk8 : ∀ (l1 : Nat) (l2 : Int32) (l3 : Int32) (M : MS) (hl1 : x_kd l1 = 4), Sn p l e R s m args below meth c 6 D x_cl base (xwd g) cM x_g0 az kz (xfc cM) (xZ below args s D x_cl (xty g) base (xwd g) cM x_g0 az kz ovI) 8 [] [(0, .ref 80), (1, .ref l1), (2, .int l2), (3, .int l3)] M (k8 (l1, l2, l3, M))) (l1 : Nat) (l2 : Int32) (l3 : Int32) (l4 : Int32) (l5 : Int32) (M : MS) (hl1 : x_kd l1 = 4) : Sn p l e R s m args below meth c 6 D x_cl base (xwd g) cM x_g0 az kz (xfc cM) (xZ below args s D x_cl (xty g) base (xwd g) cM x_g0 az kz ovI) 21 [] [(0, .ref 80), (1, .ref l1), (2, .int l2), (3, .int l3), (4, .int l4), (5, .int l5)] M (m_Splitter_countParts_21 k8 (l1, l2, l3, l4, l5, M)) := by
  have q : ∀ (F : Nat) (i : Nat × Int32 × Int32 × Int32 × Int32 × MS), x_kd i.1 = 4 → Sn p l e R s m args below meth c 6 D x_cl base (xwd g) cM x_g0 az kz (xfc cM) (xZ below args s D x_cl (xty g) base (xwd g) cM x_g0 az kz ovI) 21 [] [(0, .ref 80), (1, .ref i.1), (2, .int i.2.1), (3, .int i.2.2.1), (4, .int i.2.2.2.1), (5, .int i.2.2.2.2.1)] i.2.2.2.2.2 (fx (fun (k : Nat × Int32 × Int32 × Int32 × Int32 × MS → Option (MS × Int32)) (i : Nat × Int32 × Int32 × Int32 × Int32 × MS) => m_Splitter_countParts_21b k8 k i.1 i.2.1 i.2.2.1 i.2.2.2.1 i.2.2.2.2.1 i.2.2.2.2.2) F i) := by
    intro F
    induction F with
    | zero => intro i h0; exact s_none
    | succ F ih => intro i h0; exact t_Splitter_countParts_21b B hk8 (fun l1 l2 l3 l4 l5 M h0 => ih (l1, l2, l3, l4, l5, M) h0) i.1 i.2.1 i.2.2.1 i.2.2.2.1 i.2.2.2.2.1 i.2.2.2.2.2 h0
  exact q FU (l1, l2, l3, l4, l5, M) hl1
set_option maxRecDepth 100000 in
set_option maxHeartbeats 4000000 in
theorem t_Splitter_countParts_8b {k8 : Nat × Int32 × Int32 × MS → Option (MS × Int32)} (B : xB p R s m args meth c b_Splitter_countParts 6 R_Splitter (Cond.code y_Splitter_countParts b_Splitter_countParts 6 (some .int) :: x_T) (some .int) 2 67 D x_cl (xty g) base) (hk8 : ∀ (l1 : Nat) (l2 : Int32) (l3 : Int32) (M : MS) (hl1 : x_kd l1 = 4), Sn p l e R s m args below meth c 6 D x_cl base (xwd g) cM x_g0 az kz (xfc cM) (xZ below args s D x_cl (xty g) base (xwd g) cM x_g0 az kz ovI) 8 [] [(0, .ref 80), (1, .ref l1), (2, .int l2), (3, .int l3)] M (k8 (l1, l2, l3, M))) (l1 : Nat) (l2 : Int32) (l3 : Int32) (M : MS) (hl1 : x_kd l1 = 4) : Sn p l e R s m args below meth c 6 D x_cl base (xwd g) cM x_g0 az kz (xfc cM) (xZ below args s D x_cl (xty g) base (xwd g) cM x_g0 az kz ovI) 8 [] [(0, .ref 80), (1, .ref l1), (2, .int l2), (3, .int l3)] M (m_Splitter_countParts_8b k8 l1 l2 l3 M) := by
  unfold m_Splitter_countParts_8b
  refine s_iload_n B d_Splitter_countParts_8 rfl ?_
  refine s_sipush (v := (150:Int32)) B d_Splitter_countParts_9 (by decide) ?_
  refine s_icmp_ge B d_Splitter_countParts_12 rfl (fun _ => ?_) (fun _ => ?_)
  · refine s_iload_n B d_Splitter_countParts_57 rfl ?_
    exact s_iret B d_Splitter_countParts_58
  · refine s_iload_n B d_Splitter_countParts_15 rfl ?_
    refine s_istore B d_Splitter_countParts_16 (by decide) ?_
    refine s_iconst (v := (0:Int32)) B d_Splitter_countParts_18 (by decide) ?_
    refine s_istore B d_Splitter_countParts_19 (by decide) ?_
    refine s_pick (lv1 := [(0, .ref 80), (1, .ref l1), (2, .int l2), (3, .int l3), (4, .int l2), (5, .int (0:Int32))]) [0, 1, 2, 3, 4, 5] rfl ?_
    exact t_Splitter_countParts_21 B hk8 l1 l2 l3 l2 (0:Int32) M hl1
set_option maxRecDepth 100000 in
set_option maxHeartbeats 4000000 in
theorem t_Splitter_countParts_8  (B : xB p R s m args meth c b_Splitter_countParts 6 R_Splitter (Cond.code y_Splitter_countParts b_Splitter_countParts 6 (some .int) :: x_T) (some .int) 2 67 D x_cl (xty g) base)  (l1 : Nat) (l2 : Int32) (l3 : Int32) (M : MS) (hl1 : x_kd l1 = 4) : Sn p l e R s m args below meth c 6 D x_cl base (xwd g) cM x_g0 az kz (xfc cM) (xZ below args s D x_cl (xty g) base (xwd g) cM x_g0 az kz ovI) 8 [] [(0, .ref 80), (1, .ref l1), (2, .int l2), (3, .int l3)] M (m_Splitter_countParts_8 (l1, l2, l3, M)) := by
  have q : ∀ (F : Nat) (i : Nat × Int32 × Int32 × MS), x_kd i.1 = 4 → Sn p l e R s m args below meth c 6 D x_cl base (xwd g) cM x_g0 az kz (xfc cM) (xZ below args s D x_cl (xty g) base (xwd g) cM x_g0 az kz ovI) 8 [] [(0, .ref 80), (1, .ref i.1), (2, .int i.2.1), (3, .int i.2.2.1)] i.2.2.2 (fx (fun (k : Nat × Int32 × Int32 × MS → Option (MS × Int32)) (i : Nat × Int32 × Int32 × MS) => m_Splitter_countParts_8b k i.1 i.2.1 i.2.2.1 i.2.2.2) F i) := by
    intro F
    induction F with
    | zero => intro i h0; exact s_none
    | succ F ih => intro i h0; exact t_Splitter_countParts_8b B  (fun l1 l2 l3 M h0 => ih (l1, l2, l3, M) h0) i.1 i.2.1 i.2.2.1 i.2.2.2 h0
  exact q FU (l1, l2, l3, M) hl1
set_option maxRecDepth 100000 in
set_option maxHeartbeats 4000000 in
theorem t_Splitter_countParts (B : xB p R s m args meth c b_Splitter_countParts 6 R_Splitter (Cond.code y_Splitter_countParts b_Splitter_countParts 6 (some .int) :: x_T) (some .int) 2 67 D x_cl (xty g) base) (a1 : Nat) (M : MS) : Sn p l e R s m args below meth c 6 D x_cl base (xwd g) cM x_g0 az kz (xfc cM) (xZ below args s D x_cl (xty g) base (xwd g) cM x_g0 az kz ovI) 0 [] [(0, .ref 80), (1, .ref a1)] M (m_Splitter_countParts a1 M) := by
  unfold m_Splitter_countParts
  refine s_guard (fun ha1 => ?_)
  refine s_aload_n B d_Splitter_countParts_0 rfl ?_
  refine s_aload_n B d_Splitter_countParts_1 rfl ?_
  refine s_pick (lv1 := [(0, .ref 80), (1, .ref a1)]) [0, 1] rfl ?_
  refine s_callI (av := [.ref 80, .ref a1]) (rest := []) B (lk_V B d_Splitter_countParts_2 (gl_Splitter_27 _) rfl hv_Splitter_splitByEmptyWord (by decide) (by decide)) rfl (x_rcV B xc_Splitter kd_80) (fun _ _ => rfl) rfl rfl (by simp [Value.category]) rfl (fun r1 e9 => ct_Splitter_splitByEmptyWord _ _ r1 e9) (fun r1 _ => ?_)
  refine s_istore_n B d_Splitter_countParts_5 (by decide) ?_
  refine s_iconst (v := (0:Int32)) B d_Splitter_countParts_6 (by decide) ?_
  refine s_istore_n B d_Splitter_countParts_7 (by decide) ?_
  refine s_pick (lv1 := [(0, .ref 80), (1, .ref a1), (2, .int r1.2), (3, .int (0:Int32))]) [0, 1, 2, 3] rfl ?_
  exact t_Splitter_countParts_8 B a1 r1.2 (0:Int32) r1.1 ha1
set_option maxRecDepth 100000 in
set_option maxHeartbeats 4000000 in
theorem ct_Splitter_countParts {l : Launch} {D : va_G} {base : Nat} {g : Nat → ClassId} (a1 : Nat) (M : MS) (r : MS × Int32) (hr : m_Splitter_countParts a1 M = some r) : Ct l y_Splitter_countParts (Cond.code y_Splitter_countParts b_Splitter_countParts 6 (some .int) :: x_T) 2 67 D x_cl (xty g) base (xwd g) cM x_g0 [.ref 80, .ref a1] M r.1 (ovI r.2) :=
  x_met (ov := ovI) (by decide) (Nat.le_of_ble_eq_true rfl) (fun p e R s m args below meth c az B => t_Splitter_countParts B a1 M) r hr
end
theorem d_D_languages_0 : decode b_D_languages 0 = .ok (.iload_n 1, 1) := by decide +kernel
theorem d_D_languages_1 : decode b_D_languages 1 = .ok (.invokestatic 61, 3) := by decide +kernel
theorem d_D_languages_4 : decode b_D_languages 4 = .ok (.aload_n 0, 1) := by decide +kernel
theorem d_D_languages_5 : decode b_D_languages 5 = .ok (.getfield 23, 3) := by decide +kernel
theorem d_D_languages_8 : decode b_D_languages 8 = .ok (.iload_n 1, 1) := by decide +kernel
theorem d_D_languages_9 : decode b_D_languages 9 = .ok (.aload_n 0, 1) := by decide +kernel
theorem d_D_languages_10 : decode b_D_languages 10 = .ok (.getfield 16, 3) := by decide +kernel
theorem d_D_languages_13 : decode b_D_languages 13 = .ok (.aload_n 0, 1) := by decide +kernel
theorem d_D_languages_14 : decode b_D_languages 14 = .ok (.getfield 9, 3) := by decide +kernel
theorem d_D_languages_17 : decode b_D_languages 17 = .ok (.invokevirtual 98, 3) := by decide +kernel
theorem d_D_languages_20 : decode b_D_languages 20 = .ok (.astore_n 2, 1) := by decide +kernel
theorem d_D_languages_21 : decode b_D_languages 21 = .ok (.aload_n 2, 1) := by decide +kernel
theorem d_D_languages_22 : decode b_D_languages 22 = .ok (.invokevirtual 108, 3) := by decide +kernel
theorem d_D_languages_25 : decode b_D_languages 25 = .ok (.ifCond .eq (7), 3) := by decide +kernel
theorem d_D_languages_28 : decode b_D_languages 28 = .ok (.iconst (-1), 1) := by decide +kernel
theorem d_D_languages_29 : decode b_D_languages 29 = .ok (.goto (11), 3) := by decide +kernel
theorem d_D_languages_32 : decode b_D_languages 32 = .ok (.aload_n 0, 1) := by decide +kernel
theorem d_D_languages_33 : decode b_D_languages 33 = .ok (.getfield 37, 3) := by decide +kernel
theorem d_D_languages_36 : decode b_D_languages 36 = .ok (.aload_n 2, 1) := by decide +kernel
theorem d_D_languages_37 : decode b_D_languages 37 = .ok (.invokevirtual 112, 3) := by decide +kernel
theorem d_D_languages_40 : decode b_D_languages 40 = .ok (.ireturn, 1) := by decide +kernel
section
variable {p : Program} {l : Launch} {e : Env} {R : Room} {s : State} {m : MethodId} {args : Array Value} {below : List Frame} {meth : Method} {c : Code} {D : va_G} {base : Nat} {g : Nat → ClassId} {az : Nat → Nat} {kz : Nat × Nat}
set_option maxRecDepth 100000 in
set_option maxHeartbeats 4000000 in
theorem t_D_languages (B : xB p R s m args meth c b_D_languages 3 R_D (Cond.code y_D_languages b_D_languages 3 (some .int) :: x_T) (some .int) 10 240 D x_cl (xty g) base) (a1 : Int32) (M : MS) : Sn p l e R s m args below meth c 3 D x_cl base (xwd g) cM x_gr az kz (xfc cM) (xZ below args s D x_cl (xty g) base (xwd g) cM x_gr az kz ovI) 0 [] [(0, .ref 0), (1, .int a1)] M (m_D_languages a1 M) := by
  unfold m_D_languages
  refine s_iload_n B d_D_languages_0 rfl ?_
  refine s_pick (lv1 := [(0, .ref 0), (1, .int a1)]) [0, 1] rfl ?_
  refine s_callU (av := [.int a1]) (rest := []) B (lk_S B d_D_languages_1 (gl_D_61 _) (List.mem_cons_of_mem _ st_D_checkSlot) (List.mem_cons_of_mem _ in_D) (List.mem_cons_of_mem _ ml_D_61) rfl hs_D_checkSlot (by decide) (by decide)) rfl x_rcS (fun _ _ => rfl) rfl rfl (by simp [Value.category]) rfl (fun r1 e9 => ct_D_checkSlot _ _ r1 e9) (fun r1 _ => ?_)
  refine s_aload_n B d_D_languages_4 rfl ?_
  refine s_getS (k := 2) (n := 24) B xc_D kd_0 (by decide) rfl rfl fl_D_23 sr_0_2 d_D_languages_5 ?_
  refine s_iload_n B d_D_languages_8 rfl ?_
  refine s_aload_n B d_D_languages_9 rfl ?_
  refine s_getS (k := 1) (n := 2) B xc_D kd_0 (by decide) rfl rfl fl_D_16 sr_0_1 d_D_languages_10 ?_
  refine s_aload_n B d_D_languages_13 rfl ?_
  refine s_getS (k := 0) (n := 1) B xc_D kd_0 (by decide) rfl rfl fl_D_9 sr_0_0 d_D_languages_14 ?_
  refine s_pick (lv1 := [(0, .ref 0)]) [0] rfl ?_
  refine s_callR (av := [.ref 24, .int a1, .ref 2, .ref 1]) (rest := []) B (lk_V B d_D_languages_17 (gl_D_98 _) rfl hv_Explorer_machineOf (by decide) (by decide)) rfl (x_rcV B xc_Explorer kd_24) (fun _ h => h) rfl (by simp [xng, x_gr, kd_0]) (by simp [Value.category]) rfl (fun r2 e9 => ct_Explorer_machineOf _ _ r2 e9) (fun r2 _ => ?_)
  refine s_guard (fun h3 => ?_)
  refine s_astore_n B d_D_languages_20 (by decide) ?_
  refine s_aload_n B d_D_languages_21 rfl ?_
  refine s_pick (lv1 := [(0, .ref 0), (2, .ref r2.2)]) [0, 2] rfl ?_
  refine s_callI (av := [.ref r2.2]) (rest := []) B (lk_V B d_D_languages_22 (gl_D_108 _) rfl hv_Machine_isTooLarge (by decide) (by decide)) rfl (x_rcV B xc_Machine h3) (fun _ _ => rfl) rfl rfl (by simp [Value.category]) rfl (fun r4 e9 => ct_Machine_isTooLarge _ _ r4 e9) (fun r4 _ => ?_)
  refine s_if_eq B d_D_languages_25 rfl (fun _ => ?_) (fun _ => ?_)
  · refine s_aload_n B d_D_languages_32 rfl ?_
    refine s_getS (k := 4) (n := 80) B xc_D kd_0 (by decide) rfl rfl fl_D_37 sr_0_4 d_D_languages_33 ?_
    refine s_aload_n B d_D_languages_36 rfl ?_
    refine s_pick (lv1 := []) [] rfl ?_
    refine s_callI (av := [.ref 80, .ref r2.2]) (rest := []) B (lk_V B d_D_languages_37 (gl_D_112 _) rfl hv_Splitter_countParts (by decide) (by decide)) rfl (x_rcV B xc_Splitter kd_80) (fun _ _ => rfl) rfl rfl (by simp [Value.category]) rfl (fun r5 e9 => ct_Splitter_countParts _ _ r5 e9) (fun r5 _ => ?_)
    exact s_iret B d_D_languages_40
  · refine s_iconst (v := (-1:Int32)) B d_D_languages_28 (by decide) ?_
    refine s_goto B d_D_languages_29 rfl ?_
    exact s_iret B d_D_languages_40
set_option maxRecDepth 100000 in
set_option maxHeartbeats 4000000 in
theorem ct_D_languages {l : Launch} {D : va_G} {base : Nat} {g : Nat → ClassId} (a1 : Int32) (M : MS) (r : MS × Int32) (hr : m_D_languages a1 M = some r) : Ct l y_D_languages (Cond.code y_D_languages b_D_languages 3 (some .int) :: x_T) 10 240 D x_cl (xty g) base (xwd g) cM x_gr [.ref 0, .int a1] M r.1 (ovI r.2) :=
  x_met (ov := ovI) (by decide) (Nat.le_of_ble_eq_true rfl) (fun p e R s m args below meth c az B => t_D_languages B a1 M) r hr
end
theorem d_Comparison_forget_0 : decode b_Comparison_forget 0 = .ok (.aload_n 0, 1) := by decide +kernel
theorem d_Comparison_forget_1 : decode b_Comparison_forget 1 = .ok (.iconst (-1), 1) := by decide +kernel
theorem d_Comparison_forget_2 : decode b_Comparison_forget 2 = .ok (.putfield 34, 3) := by decide +kernel
theorem d_Comparison_forget_5 : decode b_Comparison_forget 5 = .ok (.return_, 1) := by decide +kernel
section
variable {p : Program} {l : Launch} {e : Env} {R : Room} {s : State} {m : MethodId} {args : Array Value} {below : List Frame} {meth : Method} {c : Code} {D : va_G} {base : Nat} {g : Nat → ClassId} {az : Nat → Nat} {kz : Nat × Nat}
set_option maxRecDepth 100000 in
set_option maxHeartbeats 4000000 in
theorem t_Comparison_forget (B : xB p R s m args meth c b_Comparison_forget 1 R_Comparison (Cond.code y_Comparison_forget b_Comparison_forget 1 none :: x_T) none 0 0 D x_cl (xty g) base)  (M : MS) : Sn p l e R s m args below meth c 1 D x_cl base (xwd g) cM x_g0 az kz (xfc cM) (xZ below args s D x_cl (xty g) base (xwd g) cM x_g0 az kz ovU) 0 [] [(0, .ref 86)] M (m_Comparison_forget M) := by
  unfold m_Comparison_forget
  refine s_aload_n B d_Comparison_forget_0 rfl ?_
  refine s_iconst (v := (-1:Int32)) B d_Comparison_forget_1 (by decide) ?_
  refine s_putI (k := 7) (ty := .int) B xc_Comparison kd_86 (by decide) rfl rfl fl_Comparison_34 rfl rfl rfl rfl d_Comparison_forget_2 (fun M1 _ => ?_)
  exact s_vret B d_Comparison_forget_5
set_option maxRecDepth 100000 in
set_option maxHeartbeats 4000000 in
theorem ct_Comparison_forget {l : Launch} {D : va_G} {base : Nat} {g : Nat → ClassId}  (M : MS) (r : MS × Unit) (hr : m_Comparison_forget M = some r) : Ct l y_Comparison_forget (Cond.code y_Comparison_forget b_Comparison_forget 1 none :: x_T) 0 0 D x_cl (xty g) base (xwd g) cM x_g0 [.ref 86] M r.1 (ovU r.2) :=
  x_met (ov := ovU) (by decide) (Nat.le_of_ble_eq_true rfl) (fun p e R s m args below meth c az B => t_Comparison_forget B  M) r hr
end
theorem d_Comparison_begin_0 : decode b_Comparison_begin 0 = .ok (.aload_n 0, 1) := by decide +kernel
theorem d_Comparison_begin_1 : decode b_Comparison_begin 1 = .ok (.iconst (0), 1) := by decide +kernel
theorem d_Comparison_begin_2 : decode b_Comparison_begin 2 = .ok (.putfield 30, 3) := by decide +kernel
theorem d_Comparison_begin_5 : decode b_Comparison_begin 5 = .ok (.iconst (0), 1) := by decide +kernel
theorem d_Comparison_begin_6 : decode b_Comparison_begin 6 = .ok (.istore_n 2, 1) := by decide +kernel
theorem d_Comparison_begin_7 : decode b_Comparison_begin 7 = .ok (.iload_n 2, 1) := by decide +kernel
theorem d_Comparison_begin_8 : decode b_Comparison_begin 8 = .ok (.iload_n 1, 1) := by decide +kernel
theorem d_Comparison_begin_9 : decode b_Comparison_begin 9 = .ok (.if_icmp .ge (16), 3) := by decide +kernel
theorem d_Comparison_begin_12 : decode b_Comparison_begin 12 = .ok (.aload_n 0, 1) := by decide +kernel
theorem d_Comparison_begin_13 : decode b_Comparison_begin 13 = .ok (.getfield 11, 3) := by decide +kernel
theorem d_Comparison_begin_16 : decode b_Comparison_begin 16 = .ok (.iload_n 2, 1) := by decide +kernel
theorem d_Comparison_begin_17 : decode b_Comparison_begin 17 = .ok (.iload_n 2, 1) := by decide +kernel
theorem d_Comparison_begin_18 : decode b_Comparison_begin 18 = .ok (.iastore, 1) := by decide +kernel
theorem d_Comparison_begin_19 : decode b_Comparison_begin 19 = .ok (.iinc 2 (1), 3) := by decide +kernel
theorem d_Comparison_begin_22 : decode b_Comparison_begin 22 = .ok (.goto (-15), 3) := by decide +kernel
theorem d_Comparison_begin_25 : decode b_Comparison_begin 25 = .ok (.return_, 1) := by decide +kernel
section
variable {p : Program} {l : Launch} {e : Env} {R : Room} {s : State} {m : MethodId} {args : Array Value} {below : List Frame} {meth : Method} {c : Code} {D : va_G} {base : Nat} {g : Nat → ClassId} {az : Nat → Nat} {kz : Nat × Nat}
set_option maxRecDepth 100000 in
set_option maxHeartbeats 4000000 in
theorem t_Comparison_begin_7b {k7 : Int32 × Int32 × MS → Option (MS × Unit)} (B : xB p R s m args meth c b_Comparison_begin 3 R_Comparison (Cond.code y_Comparison_begin b_Comparison_begin 3 none :: x_T) none 0 0 D x_cl (xty g) base) (hk7 : ∀ (l1 : Int32) (l2 : Int32) (M : MS) , Sn p l e R s m args below meth c 3 D x_cl base (xwd g) cM x_g0 az kz (xfc cM) (xZ below args s D x_cl (xty g) base (xwd g) cM x_g0 az kz ovU) 7 [] [(0, .ref 86), (1, .int l1), (2, .int l2)] M (k7 (l1, l2, M))) (l1 : Int32) (l2 : Int32) (M : MS)  : Sn p l e R s m args below meth c 3 D x_cl base (xwd g) cM x_g0 az kz (xfc cM) (xZ below args s D x_cl (xty g) base (xwd g) cM x_g0 az kz ovU) 7 [] [(0, .ref 86), (1, .int l1), (2, .int l2)] M (m_Comparison_begin_7b k7 l1 l2 M) := by
  unfold m_Comparison_begin_7b
  refine s_iload_n B d_Comparison_begin_7 rfl ?_
  refine s_iload_n B d_Comparison_begin_8 rfl ?_
  refine s_icmp_ge B d_Comparison_begin_9 rfl (fun _ => ?_) (fun _ => ?_)
  · exact s_vret B d_Comparison_begin_25
  · refine s_aload_n B d_Comparison_begin_12 rfl ?_
    refine s_getS (k := 0) (n := 87) B xc_Comparison kd_86 (by decide) rfl rfl fl_Comparison_11 sr_86_0 d_Comparison_begin_13 ?_
    refine s_iload_n B d_Comparison_begin_16 rfl ?_
    refine s_iload_n B d_Comparison_begin_17 rfl ?_
    refine s_iast B (Or.inl kd_87) d_Comparison_begin_18 (fun M1 _ => ?_)
    refine s_iinc (w := (1:Int32)) B d_Comparison_begin_19 rfl (by decide) (by decide) ?_
    refine s_goto B d_Comparison_begin_22 rfl ?_
    refine s_pick (lv1 := [(0, .ref 86), (1, .int l1), (2, .int (l2 + (1:Int32)))]) [0, 1, 2] rfl ?_
    exact hk7 l1 (l2 + (1:Int32)) M1
set_option maxRecDepth 100000 in
set_option maxHeartbeats 4000000 in
theorem t_Comparison_begin_7  (B : xB p R s m args meth c b_Comparison_begin 3 R_Comparison (Cond.code y_Comparison_begin b_Comparison_begin 3 none :: x_T) none 0 0 D x_cl (xty g) base)  (l1 : Int32) (l2 : Int32) (M : MS)  : Sn p l e R s m args below meth c 3 D x_cl base (xwd g) cM x_g0 az kz (xfc cM) (xZ below args s D x_cl (xty g) base (xwd g) cM x_g0 az kz ovU) 7 [] [(0, .ref 86), (1, .int l1), (2, .int l2)] M (m_Comparison_begin_7 (l1, l2, M)) := by
  have q : ∀ (F : Nat) (i : Int32 × Int32 × MS), Sn p l e R s m args below meth c 3 D x_cl base (xwd g) cM x_g0 az kz (xfc cM) (xZ below args s D x_cl (xty g) base (xwd g) cM x_g0 az kz ovU) 7 [] [(0, .ref 86), (1, .int i.1), (2, .int i.2.1)] i.2.2 (fx (fun (k : Int32 × Int32 × MS → Option (MS × Unit)) (i : Int32 × Int32 × MS) => m_Comparison_begin_7b k i.1 i.2.1 i.2.2) F i) := by
    intro F
    induction F with
    | zero => intro i ; exact s_none
    | succ F ih => intro i ; exact t_Comparison_begin_7b B  (fun l1 l2 M  => ih (l1, l2, M) ) i.1 i.2.1 i.2.2 
  exact q FU (l1, l2, M) 
set_option maxRecDepth 100000 in
set_option maxHeartbeats 4000000 in
theorem t_Comparison_begin (B : xB p R s m args meth c b_Comparison_begin 3 R_Comparison (Cond.code y_Comparison_begin b_Comparison_begin 3 none :: x_T) none 0 0 D x_cl (xty g) base) (a1 : Int32) (M : MS) : Sn p l e R s m args below meth c 3 D x_cl base (xwd g) cM x_g0 az kz (xfc cM) (xZ below args s D x_cl (xty g) base (xwd g) cM x_g0 az kz ovU) 0 [] [(0, .ref 86), (1, .int a1)] M (m_Comparison_begin a1 M) := by
  unfold m_Comparison_begin
  refine s_aload_n B d_Comparison_begin_0 rfl ?_
  refine s_iconst (v := (0:Int32)) B d_Comparison_begin_1 (by decide) ?_
  refine s_putI (k := 6) (ty := .int) B xc_Comparison kd_86 (by decide) rfl rfl fl_Comparison_30 rfl rfl rfl rfl d_Comparison_begin_2 (fun M1 _ => ?_)
  refine s_iconst (v := (0:Int32)) B d_Comparison_begin_5 (by decide) ?_
  refine s_istore_n B d_Comparison_begin_6 (by decide) ?_
  refine s_pick (lv1 := [(0, .ref 86), (1, .int a1), (2, .int (0:Int32))]) [0, 1, 2] rfl ?_
  exact t_Comparison_begin_7 B a1 (0:Int32) M1
set_option maxRecDepth 100000 in
set_option maxHeartbeats 4000000 in
theorem ct_Comparison_begin {l : Launch} {D : va_G} {base : Nat} {g : Nat → ClassId} (a1 : Int32) (M : MS) (r : MS × Unit) (hr : m_Comparison_begin a1 M = some r) : Ct l y_Comparison_begin (Cond.code y_Comparison_begin b_Comparison_begin 3 none :: x_T) 0 0 D x_cl (xty g) base (xwd g) cM x_g0 [.ref 86, .int a1] M r.1 (ovU r.2) :=
  x_met (ov := ovU) (by decide) (Nat.le_of_ble_eq_true rfl) (fun p e R s m args below meth c az B => t_Comparison_begin B a1 M) r hr
end
theorem d_Comparison_leaderOf_0 : decode b_Comparison_leaderOf 0 = .ok (.iload_n 1, 1) := by decide +kernel
theorem d_Comparison_leaderOf_1 : decode b_Comparison_leaderOf 1 = .ok (.istore_n 2, 1) := by decide +kernel
theorem d_Comparison_leaderOf_2 : decode b_Comparison_leaderOf 2 = .ok (.iconst (0), 1) := by decide +kernel
theorem d_Comparison_leaderOf_3 : decode b_Comparison_leaderOf 3 = .ok (.istore_n 3, 1) := by decide +kernel
theorem d_Comparison_leaderOf_4 : decode b_Comparison_leaderOf 4 = .ok (.iload_n 3, 1) := by decide +kernel
theorem d_Comparison_leaderOf_5 : decode b_Comparison_leaderOf 5 = .ok (.sipush (300), 3) := by decide +kernel
theorem d_Comparison_leaderOf_8 : decode b_Comparison_leaderOf 8 = .ok (.if_icmp .ge (43), 3) := by decide +kernel
theorem d_Comparison_leaderOf_11 : decode b_Comparison_leaderOf 11 = .ok (.aload_n 0, 1) := by decide +kernel
theorem d_Comparison_leaderOf_12 : decode b_Comparison_leaderOf 12 = .ok (.getfield 11, 3) := by decide +kernel
theorem d_Comparison_leaderOf_15 : decode b_Comparison_leaderOf 15 = .ok (.iload_n 2, 1) := by decide +kernel
theorem d_Comparison_leaderOf_16 : decode b_Comparison_leaderOf 16 = .ok (.iaload, 1) := by decide +kernel
theorem d_Comparison_leaderOf_17 : decode b_Comparison_leaderOf 17 = .ok (.iload_n 2, 1) := by decide +kernel
theorem d_Comparison_leaderOf_18 : decode b_Comparison_leaderOf 18 = .ok (.if_icmp .eq (33), 3) := by decide +kernel
theorem d_Comparison_leaderOf_21 : decode b_Comparison_leaderOf 21 = .ok (.aload_n 0, 1) := by decide +kernel
theorem d_Comparison_leaderOf_22 : decode b_Comparison_leaderOf 22 = .ok (.getfield 11, 3) := by decide +kernel
theorem d_Comparison_leaderOf_25 : decode b_Comparison_leaderOf 25 = .ok (.iload_n 2, 1) := by decide +kernel
theorem d_Comparison_leaderOf_26 : decode b_Comparison_leaderOf 26 = .ok (.aload_n 0, 1) := by decide +kernel
theorem d_Comparison_leaderOf_27 : decode b_Comparison_leaderOf 27 = .ok (.getfield 11, 3) := by decide +kernel
theorem d_Comparison_leaderOf_30 : decode b_Comparison_leaderOf 30 = .ok (.aload_n 0, 1) := by decide +kernel
theorem d_Comparison_leaderOf_31 : decode b_Comparison_leaderOf 31 = .ok (.getfield 11, 3) := by decide +kernel
theorem d_Comparison_leaderOf_34 : decode b_Comparison_leaderOf 34 = .ok (.iload_n 2, 1) := by decide +kernel
theorem d_Comparison_leaderOf_35 : decode b_Comparison_leaderOf 35 = .ok (.iaload, 1) := by decide +kernel
theorem d_Comparison_leaderOf_36 : decode b_Comparison_leaderOf 36 = .ok (.iaload, 1) := by decide +kernel
theorem d_Comparison_leaderOf_37 : decode b_Comparison_leaderOf 37 = .ok (.iastore, 1) := by decide +kernel
theorem d_Comparison_leaderOf_38 : decode b_Comparison_leaderOf 38 = .ok (.aload_n 0, 1) := by decide +kernel
theorem d_Comparison_leaderOf_39 : decode b_Comparison_leaderOf 39 = .ok (.getfield 11, 3) := by decide +kernel
theorem d_Comparison_leaderOf_42 : decode b_Comparison_leaderOf 42 = .ok (.iload_n 2, 1) := by decide +kernel
theorem d_Comparison_leaderOf_43 : decode b_Comparison_leaderOf 43 = .ok (.iaload, 1) := by decide +kernel
theorem d_Comparison_leaderOf_44 : decode b_Comparison_leaderOf 44 = .ok (.istore_n 2, 1) := by decide +kernel
theorem d_Comparison_leaderOf_45 : decode b_Comparison_leaderOf 45 = .ok (.iinc 3 (1), 3) := by decide +kernel
theorem d_Comparison_leaderOf_48 : decode b_Comparison_leaderOf 48 = .ok (.goto (-44), 3) := by decide +kernel
theorem d_Comparison_leaderOf_51 : decode b_Comparison_leaderOf 51 = .ok (.iload_n 2, 1) := by decide +kernel
theorem d_Comparison_leaderOf_52 : decode b_Comparison_leaderOf 52 = .ok (.ireturn, 1) := by decide +kernel
section
variable {p : Program} {l : Launch} {e : Env} {R : Room} {s : State} {m : MethodId} {args : Array Value} {below : List Frame} {meth : Method} {c : Code} {D : va_G} {base : Nat} {g : Nat → ClassId} {az : Nat → Nat} {kz : Nat × Nat}
set_option maxRecDepth 100000 in
set_option maxHeartbeats 4000000 in
theorem t_Comparison_leaderOf_4b {k4 : Int32 × Int32 × MS → Option (MS × Int32)} (B : xB p R s m args meth c b_Comparison_leaderOf 4 R_Comparison (Cond.code y_Comparison_leaderOf b_Comparison_leaderOf 4 (some .int) :: x_T) (some .int) 0 0 D x_cl (xty g) base) (hk4 : ∀ (l2 : Int32) (l3 : Int32) (M : MS) , Sn p l e R s m args below meth c 4 D x_cl base (xwd g) cM x_g0 az kz (xfc cM) (xZ below args s D x_cl (xty g) base (xwd g) cM x_g0 az kz ovI) 4 [] [(0, .ref 86), (2, .int l2), (3, .int l3)] M (k4 (l2, l3, M))) (l2 : Int32) (l3 : Int32) (M : MS)  : Sn p l e R s m args below meth c 4 D x_cl base (xwd g) cM x_g0 az kz (xfc cM) (xZ below args s D x_cl (xty g) base (xwd g) cM x_g0 az kz ovI) 4 [] [(0, .ref 86), (2, .int l2), (3, .int l3)] M (m_Comparison_leaderOf_4b k4 l2 l3 M) := by
  unfold m_Comparison_leaderOf_4b
  refine s_iload_n B d_Comparison_leaderOf_4 rfl ?_
  refine s_sipush (v := (300:Int32)) B d_Comparison_leaderOf_5 (by decide) ?_
  refine s_icmp_ge B d_Comparison_leaderOf_8 rfl (fun _ => ?_) (fun _ => ?_)
  · refine s_iload_n B d_Comparison_leaderOf_51 rfl ?_
    exact s_iret B d_Comparison_leaderOf_52
  · refine s_aload_n B d_Comparison_leaderOf_11 rfl ?_
    refine s_getS (k := 0) (n := 87) B xc_Comparison kd_86 (by decide) rfl rfl fl_Comparison_11 sr_86_0 d_Comparison_leaderOf_12 ?_
    refine s_iload_n B d_Comparison_leaderOf_15 rfl ?_
    refine s_iald B (Or.inl kd_87) d_Comparison_leaderOf_16 (fun v1 _ => ?_)
    refine s_iload_n B d_Comparison_leaderOf_17 rfl ?_
    refine s_icmp_eq B d_Comparison_leaderOf_18 rfl (fun _ => ?_) (fun _ => ?_)
    · refine s_iload_n B d_Comparison_leaderOf_51 rfl ?_
      exact s_iret B d_Comparison_leaderOf_52
    · refine s_aload_n B d_Comparison_leaderOf_21 rfl ?_
      refine s_getS (k := 0) (n := 87) B xc_Comparison kd_86 (by decide) rfl rfl fl_Comparison_11 sr_86_0 d_Comparison_leaderOf_22 ?_
      refine s_iload_n B d_Comparison_leaderOf_25 rfl ?_
      refine s_aload_n B d_Comparison_leaderOf_26 rfl ?_
      refine s_getS (k := 0) (n := 87) B xc_Comparison kd_86 (by decide) rfl rfl fl_Comparison_11 sr_86_0 d_Comparison_leaderOf_27 ?_
      refine s_aload_n B d_Comparison_leaderOf_30 rfl ?_
      refine s_getS (k := 0) (n := 87) B xc_Comparison kd_86 (by decide) rfl rfl fl_Comparison_11 sr_86_0 d_Comparison_leaderOf_31 ?_
      refine s_iload_n B d_Comparison_leaderOf_34 rfl ?_
      refine s_iald B (Or.inl kd_87) d_Comparison_leaderOf_35 (fun v2 _ => ?_)
      refine s_iald B (Or.inl kd_87) d_Comparison_leaderOf_36 (fun v3 _ => ?_)
      refine s_iast B (Or.inl kd_87) d_Comparison_leaderOf_37 (fun M4 _ => ?_)
      refine s_aload_n B d_Comparison_leaderOf_38 rfl ?_
      refine s_getS (k := 0) (n := 87) B xc_Comparison kd_86 (by decide) rfl rfl fl_Comparison_11 sr_86_0 d_Comparison_leaderOf_39 ?_
      refine s_iload_n B d_Comparison_leaderOf_42 rfl ?_
      refine s_iald B (Or.inl kd_87) d_Comparison_leaderOf_43 (fun v5 _ => ?_)
      refine s_istore_n B d_Comparison_leaderOf_44 (by decide) ?_
      refine s_iinc (w := (1:Int32)) B d_Comparison_leaderOf_45 rfl (by decide) (by decide) ?_
      refine s_goto B d_Comparison_leaderOf_48 rfl ?_
      refine s_pick (lv1 := [(0, .ref 86), (2, .int v5), (3, .int (l3 + (1:Int32)))]) [0, 2, 3] rfl ?_
      exact hk4 v5 (l3 + (1:Int32)) M4
set_option maxRecDepth 100000 in
set_option maxHeartbeats 4000000 in
theorem t_Comparison_leaderOf_4  (B : xB p R s m args meth c b_Comparison_leaderOf 4 R_Comparison (Cond.code y_Comparison_leaderOf b_Comparison_leaderOf 4 (some .int) :: x_T) (some .int) 0 0 D x_cl (xty g) base)  (l2 : Int32) (l3 : Int32) (M : MS)  : Sn p l e R s m args below meth c 4 D x_cl base (xwd g) cM x_g0 az kz (xfc cM) (xZ below args s D x_cl (xty g) base (xwd g) cM x_g0 az kz ovI) 4 [] [(0, .ref 86), (2, .int l2), (3, .int l3)] M (m_Comparison_leaderOf_4 (l2, l3, M)) := by
  have q : ∀ (F : Nat) (i : Int32 × Int32 × MS), Sn p l e R s m args below meth c 4 D x_cl base (xwd g) cM x_g0 az kz (xfc cM) (xZ below args s D x_cl (xty g) base (xwd g) cM x_g0 az kz ovI) 4 [] [(0, .ref 86), (2, .int i.1), (3, .int i.2.1)] i.2.2 (fx (fun (k : Int32 × Int32 × MS → Option (MS × Int32)) (i : Int32 × Int32 × MS) => m_Comparison_leaderOf_4b k i.1 i.2.1 i.2.2) F i) := by
    intro F
    induction F with
    | zero => intro i ; exact s_none
    | succ F ih => intro i ; exact t_Comparison_leaderOf_4b B  (fun l2 l3 M  => ih (l2, l3, M) ) i.1 i.2.1 i.2.2 
  exact q FU (l2, l3, M) 
set_option maxRecDepth 100000 in
set_option maxHeartbeats 4000000 in
theorem t_Comparison_leaderOf (B : xB p R s m args meth c b_Comparison_leaderOf 4 R_Comparison (Cond.code y_Comparison_leaderOf b_Comparison_leaderOf 4 (some .int) :: x_T) (some .int) 0 0 D x_cl (xty g) base) (a1 : Int32) (M : MS) : Sn p l e R s m args below meth c 4 D x_cl base (xwd g) cM x_g0 az kz (xfc cM) (xZ below args s D x_cl (xty g) base (xwd g) cM x_g0 az kz ovI) 0 [] [(0, .ref 86), (1, .int a1)] M (m_Comparison_leaderOf a1 M) := by
  unfold m_Comparison_leaderOf
  refine s_iload_n B d_Comparison_leaderOf_0 rfl ?_
  refine s_istore_n B d_Comparison_leaderOf_1 (by decide) ?_
  refine s_iconst (v := (0:Int32)) B d_Comparison_leaderOf_2 (by decide) ?_
  refine s_istore_n B d_Comparison_leaderOf_3 (by decide) ?_
  refine s_pick (lv1 := [(0, .ref 86), (2, .int a1), (3, .int (0:Int32))]) [0, 2, 3] rfl ?_
  exact t_Comparison_leaderOf_4 B a1 (0:Int32) M
set_option maxRecDepth 100000 in
set_option maxHeartbeats 4000000 in
theorem ct_Comparison_leaderOf {l : Launch} {D : va_G} {base : Nat} {g : Nat → ClassId} (a1 : Int32) (M : MS) (r : MS × Int32) (hr : m_Comparison_leaderOf a1 M = some r) : Ct l y_Comparison_leaderOf (Cond.code y_Comparison_leaderOf b_Comparison_leaderOf 4 (some .int) :: x_T) 0 0 D x_cl (xty g) base (xwd g) cM x_g0 [.ref 86, .int a1] M r.1 (ovI r.2) :=
  x_met (ov := ovI) (by decide) (Nat.le_of_ble_eq_true rfl) (fun p e R s m args below meth c az B => t_Comparison_leaderOf B a1 M) r hr
end
theorem d_Comparison_isNewPair_0 : decode b_Comparison_isNewPair 0 = .ok (.aload_n 0, 1) := by decide +kernel
theorem d_Comparison_isNewPair_1 : decode b_Comparison_isNewPair 1 = .ok (.iload_n 1, 1) := by decide +kernel
theorem d_Comparison_isNewPair_2 : decode b_Comparison_isNewPair 2 = .ok (.invokevirtual 59, 3) := by decide +kernel
theorem d_Comparison_isNewPair_5 : decode b_Comparison_isNewPair 5 = .ok (.istore 4, 2) := by decide +kernel
theorem d_Comparison_isNewPair_7 : decode b_Comparison_isNewPair 7 = .ok (.aload_n 0, 1) := by decide +kernel
theorem d_Comparison_isNewPair_8 : decode b_Comparison_isNewPair 8 = .ok (.iload_n 3, 1) := by decide +kernel
theorem d_Comparison_isNewPair_9 : decode b_Comparison_isNewPair 9 = .ok (.iload_n 2, 1) := by decide +kernel
theorem d_Comparison_isNewPair_10 : decode b_Comparison_isNewPair 10 = .ok (.iadd, 1) := by decide +kernel
theorem d_Comparison_isNewPair_11 : decode b_Comparison_isNewPair 11 = .ok (.invokevirtual 59, 3) := by decide +kernel
theorem d_Comparison_isNewPair_14 : decode b_Comparison_isNewPair 14 = .ok (.istore 5, 2) := by decide +kernel
theorem d_Comparison_isNewPair_16 : decode b_Comparison_isNewPair 16 = .ok (.iload 4, 2) := by decide +kernel
theorem d_Comparison_isNewPair_18 : decode b_Comparison_isNewPair 18 = .ok (.iload 5, 2) := by decide +kernel
theorem d_Comparison_isNewPair_20 : decode b_Comparison_isNewPair 20 = .ok (.if_icmp .eq (13), 3) := by decide +kernel
theorem d_Comparison_isNewPair_23 : decode b_Comparison_isNewPair 23 = .ok (.aload_n 0, 1) := by decide +kernel
theorem d_Comparison_isNewPair_24 : decode b_Comparison_isNewPair 24 = .ok (.getfield 30, 3) := by decide +kernel
theorem d_Comparison_isNewPair_27 : decode b_Comparison_isNewPair 27 = .ok (.sipush (300), 3) := by decide +kernel
theorem d_Comparison_isNewPair_30 : decode b_Comparison_isNewPair 30 = .ok (.if_icmp .ne (5), 3) := by decide +kernel
theorem d_Comparison_isNewPair_33 : decode b_Comparison_isNewPair 33 = .ok (.iconst (0), 1) := by decide +kernel
theorem d_Comparison_isNewPair_34 : decode b_Comparison_isNewPair 34 = .ok (.ireturn, 1) := by decide +kernel
theorem d_Comparison_isNewPair_35 : decode b_Comparison_isNewPair 35 = .ok (.aload_n 0, 1) := by decide +kernel
theorem d_Comparison_isNewPair_36 : decode b_Comparison_isNewPair 36 = .ok (.getfield 11, 3) := by decide +kernel
theorem d_Comparison_isNewPair_39 : decode b_Comparison_isNewPair 39 = .ok (.iload 4, 2) := by decide +kernel
theorem d_Comparison_isNewPair_41 : decode b_Comparison_isNewPair 41 = .ok (.iload 5, 2) := by decide +kernel
theorem d_Comparison_isNewPair_43 : decode b_Comparison_isNewPair 43 = .ok (.iastore, 1) := by decide +kernel
theorem d_Comparison_isNewPair_44 : decode b_Comparison_isNewPair 44 = .ok (.aload_n 0, 1) := by decide +kernel
theorem d_Comparison_isNewPair_45 : decode b_Comparison_isNewPair 45 = .ok (.getfield 15, 3) := by decide +kernel
theorem d_Comparison_isNewPair_48 : decode b_Comparison_isNewPair 48 = .ok (.aload_n 0, 1) := by decide +kernel
theorem d_Comparison_isNewPair_49 : decode b_Comparison_isNewPair 49 = .ok (.getfield 30, 3) := by decide +kernel
theorem d_Comparison_isNewPair_52 : decode b_Comparison_isNewPair 52 = .ok (.iload_n 1, 1) := by decide +kernel
theorem d_Comparison_isNewPair_53 : decode b_Comparison_isNewPair 53 = .ok (.iastore, 1) := by decide +kernel
theorem d_Comparison_isNewPair_54 : decode b_Comparison_isNewPair 54 = .ok (.aload_n 0, 1) := by decide +kernel
theorem d_Comparison_isNewPair_55 : decode b_Comparison_isNewPair 55 = .ok (.getfield 18, 3) := by decide +kernel
theorem d_Comparison_isNewPair_58 : decode b_Comparison_isNewPair 58 = .ok (.aload_n 0, 1) := by decide +kernel
theorem d_Comparison_isNewPair_59 : decode b_Comparison_isNewPair 59 = .ok (.getfield 30, 3) := by decide +kernel
theorem d_Comparison_isNewPair_62 : decode b_Comparison_isNewPair 62 = .ok (.iload_n 2, 1) := by decide +kernel
theorem d_Comparison_isNewPair_63 : decode b_Comparison_isNewPair 63 = .ok (.iastore, 1) := by decide +kernel
theorem d_Comparison_isNewPair_64 : decode b_Comparison_isNewPair 64 = .ok (.iconst (1), 1) := by decide +kernel
theorem d_Comparison_isNewPair_65 : decode b_Comparison_isNewPair 65 = .ok (.ireturn, 1) := by decide +kernel
section
variable {p : Program} {l : Launch} {e : Env} {R : Room} {s : State} {m : MethodId} {args : Array Value} {below : List Frame} {meth : Method} {c : Code} {D : va_G} {base : Nat} {g : Nat → ClassId} {az : Nat → Nat} {kz : Nat × Nat}
set_option maxRecDepth 100000 in
set_option maxHeartbeats 4000000 in
theorem t_Comparison_isNewPair (B : xB p R s m args meth c b_Comparison_isNewPair 6 R_Comparison (Cond.code y_Comparison_isNewPair b_Comparison_isNewPair 6 (some .boolean) :: x_T) (some .boolean) 1 23 D x_cl (xty g) base) (a1 : Int32) (a2 : Int32) (a3 : Int32) (M : MS) : Sn p l e R s m args below meth c 6 D x_cl base (xwd g) cM x_g0 az kz (xfc cM) (xZ below args s D x_cl (xty g) base (xwd g) cM x_g0 az kz ovI) 0 [] [(0, .ref 86), (1, .int a1), (2, .int a2), (3, .int a3)] M (m_Comparison_isNewPair a1 a2 a3 M) := by
  unfold m_Comparison_isNewPair
  refine s_aload_n B d_Comparison_isNewPair_0 rfl ?_
  refine s_iload_n B d_Comparison_isNewPair_1 rfl ?_
  refine s_pick (lv1 := [(0, .ref 86), (1, .int a1), (2, .int a2), (3, .int a3)]) [0, 1, 2, 3] rfl ?_
  refine s_callI (av := [.ref 86, .int a1]) (rest := []) B (lk_V B d_Comparison_isNewPair_2 (gl_Comparison_59 _) rfl hv_Comparison_leaderOf (by decide) (by decide)) rfl (x_rcV B xc_Comparison kd_86) (fun _ _ => rfl) rfl rfl (by simp [Value.category]) rfl (fun r1 e9 => ct_Comparison_leaderOf _ _ r1 e9) (fun r1 _ => ?_)
  refine s_istore B d_Comparison_isNewPair_5 (by decide) ?_
  refine s_aload_n B d_Comparison_isNewPair_7 rfl ?_
  refine s_iload_n B d_Comparison_isNewPair_8 rfl ?_
  refine s_iload_n B d_Comparison_isNewPair_9 rfl ?_
  refine s_iadd B d_Comparison_isNewPair_10 ?_
  refine s_pick (lv1 := [(0, .ref 86), (1, .int a1), (2, .int a2), (4, .int r1.2)]) [0, 1, 2, 4] rfl ?_
  refine s_callI (av := [.ref 86, .int (a3 + a2)]) (rest := []) B (lk_V B d_Comparison_isNewPair_11 (gl_Comparison_59 _) rfl hv_Comparison_leaderOf (by decide) (by decide)) rfl (x_rcV B xc_Comparison kd_86) (fun _ _ => rfl) rfl rfl (by simp [Value.category]) rfl (fun r2 e9 => ct_Comparison_leaderOf _ _ r2 e9) (fun r2 _ => ?_)
  refine s_istore B d_Comparison_isNewPair_14 (by decide) ?_
  refine s_iload B d_Comparison_isNewPair_16 rfl ?_
  refine s_iload B d_Comparison_isNewPair_18 rfl ?_
  refine s_icmp_eq B d_Comparison_isNewPair_20 rfl (fun _ => ?_) (fun _ => ?_)
  · refine s_iconst (v := (0:Int32)) B d_Comparison_isNewPair_33 (by decide) ?_
    exact s_zret0 rfl B d_Comparison_isNewPair_34
  · refine s_aload_n B d_Comparison_isNewPair_23 rfl ?_
    refine s_getI (k := 6) B xc_Comparison kd_86 (by decide) rfl rfl fl_Comparison_30 d_Comparison_isNewPair_24 ?_
    refine s_sipush (v := (300:Int32)) B d_Comparison_isNewPair_27 (by decide) ?_
    refine s_icmp_ne B d_Comparison_isNewPair_30 rfl (fun _ => ?_) (fun _ => ?_)
    · refine s_aload_n B d_Comparison_isNewPair_35 rfl ?_
      refine s_getS (k := 0) (n := 87) B xc_Comparison kd_86 (by decide) rfl rfl fl_Comparison_11 sr_86_0 d_Comparison_isNewPair_36 ?_
      refine s_iload B d_Comparison_isNewPair_39 rfl ?_
      refine s_iload B d_Comparison_isNewPair_41 rfl ?_
      refine s_iast B (Or.inl kd_87) d_Comparison_isNewPair_43 (fun M3 _ => ?_)
      refine s_aload_n B d_Comparison_isNewPair_44 rfl ?_
      refine s_getS (k := 1) (n := 88) B xc_Comparison kd_86 (by decide) rfl rfl fl_Comparison_15 sr_86_1 d_Comparison_isNewPair_45 ?_
      refine s_aload_n B d_Comparison_isNewPair_48 rfl ?_
      refine s_getI (k := 6) B xc_Comparison kd_86 (by decide) rfl rfl fl_Comparison_30 d_Comparison_isNewPair_49 ?_
      refine s_iload_n B d_Comparison_isNewPair_52 rfl ?_
      refine s_iast B (Or.inl kd_88) d_Comparison_isNewPair_53 (fun M4 _ => ?_)
      refine s_aload_n B d_Comparison_isNewPair_54 rfl ?_
      refine s_getS (k := 2) (n := 89) B xc_Comparison kd_86 (by decide) rfl rfl fl_Comparison_18 sr_86_2 d_Comparison_isNewPair_55 ?_
      refine s_aload_n B d_Comparison_isNewPair_58 rfl ?_
      refine s_getI (k := 6) B xc_Comparison kd_86 (by decide) rfl rfl fl_Comparison_30 d_Comparison_isNewPair_59 ?_
      refine s_iload_n B d_Comparison_isNewPair_62 rfl ?_
      refine s_iast B (Or.inl kd_89) d_Comparison_isNewPair_63 (fun M5 _ => ?_)
      refine s_iconst (v := (1:Int32)) B d_Comparison_isNewPair_64 (by decide) ?_
      exact s_zret0 rfl B d_Comparison_isNewPair_65
    · refine s_iconst (v := (0:Int32)) B d_Comparison_isNewPair_33 (by decide) ?_
      exact s_zret0 rfl B d_Comparison_isNewPair_34
set_option maxRecDepth 100000 in
set_option maxHeartbeats 4000000 in
theorem ct_Comparison_isNewPair {l : Launch} {D : va_G} {base : Nat} {g : Nat → ClassId} (a1 : Int32) (a2 : Int32) (a3 : Int32) (M : MS) (r : MS × Int32) (hr : m_Comparison_isNewPair a1 a2 a3 M = some r) : Ct l y_Comparison_isNewPair (Cond.code y_Comparison_isNewPair b_Comparison_isNewPair 6 (some .boolean) :: x_T) 1 23 D x_cl (xty g) base (xwd g) cM x_g0 [.ref 86, .int a1, .int a2, .int a3] M r.1 (ovI r.2) :=
  x_met (ov := ovI) (by decide) (Nat.le_of_ble_eq_true rfl) (fun p e R s m args below meth c az B => t_Comparison_isNewPair B a1 a2 a3 M) r hr
end
theorem d_Comparison_keepWordTo_0 : decode b_Comparison_keepWordTo 0 = .ok (.aload_n 0, 1) := by decide +kernel
theorem d_Comparison_keepWordTo_1 : decode b_Comparison_keepWordTo 1 = .ok (.iconst (0), 1) := by decide +kernel
theorem d_Comparison_keepWordTo_2 : decode b_Comparison_keepWordTo 2 = .ok (.putfield 34, 3) := by decide +kernel
theorem d_Comparison_keepWordTo_5 : decode b_Comparison_keepWordTo 5 = .ok (.iload_n 1, 1) := by decide +kernel
theorem d_Comparison_keepWordTo_6 : decode b_Comparison_keepWordTo 6 = .ok (.istore_n 2, 1) := by decide +kernel
theorem d_Comparison_keepWordTo_7 : decode b_Comparison_keepWordTo 7 = .ok (.aload_n 0, 1) := by decide +kernel
theorem d_Comparison_keepWordTo_8 : decode b_Comparison_keepWordTo 8 = .ok (.getfield 21, 3) := by decide +kernel
theorem d_Comparison_keepWordTo_11 : decode b_Comparison_keepWordTo 11 = .ok (.iload_n 2, 1) := by decide +kernel
theorem d_Comparison_keepWordTo_12 : decode b_Comparison_keepWordTo 12 = .ok (.iaload, 1) := by decide +kernel
theorem d_Comparison_keepWordTo_13 : decode b_Comparison_keepWordTo 13 = .ok (.iconst (-1), 1) := by decide +kernel
theorem d_Comparison_keepWordTo_14 : decode b_Comparison_keepWordTo 14 = .ok (.if_icmp .eq (33), 3) := by decide +kernel
theorem d_Comparison_keepWordTo_17 : decode b_Comparison_keepWordTo 17 = .ok (.aload_n 0, 1) := by decide +kernel
theorem d_Comparison_keepWordTo_18 : decode b_Comparison_keepWordTo 18 = .ok (.getfield 34, 3) := by decide +kernel
theorem d_Comparison_keepWordTo_21 : decode b_Comparison_keepWordTo 21 = .ok (.sipush (300), 3) := by decide +kernel
theorem d_Comparison_keepWordTo_24 : decode b_Comparison_keepWordTo 24 = .ok (.if_icmp .ge (23), 3) := by decide +kernel
theorem d_Comparison_keepWordTo_27 : decode b_Comparison_keepWordTo 27 = .ok (.aload_n 0, 1) := by decide +kernel
theorem d_Comparison_keepWordTo_28 : decode b_Comparison_keepWordTo 28 = .ok (.dup, 1) := by decide +kernel
theorem d_Comparison_keepWordTo_29 : decode b_Comparison_keepWordTo 29 = .ok (.getfield 34, 3) := by decide +kernel
theorem d_Comparison_keepWordTo_32 : decode b_Comparison_keepWordTo 32 = .ok (.iconst (1), 1) := by decide +kernel
theorem d_Comparison_keepWordTo_33 : decode b_Comparison_keepWordTo 33 = .ok (.iadd, 1) := by decide +kernel
theorem d_Comparison_keepWordTo_34 : decode b_Comparison_keepWordTo 34 = .ok (.putfield 34, 3) := by decide +kernel
theorem d_Comparison_keepWordTo_37 : decode b_Comparison_keepWordTo 37 = .ok (.aload_n 0, 1) := by decide +kernel
theorem d_Comparison_keepWordTo_38 : decode b_Comparison_keepWordTo 38 = .ok (.getfield 21, 3) := by decide +kernel
theorem d_Comparison_keepWordTo_41 : decode b_Comparison_keepWordTo 41 = .ok (.iload_n 2, 1) := by decide +kernel
theorem d_Comparison_keepWordTo_42 : decode b_Comparison_keepWordTo 42 = .ok (.iaload, 1) := by decide +kernel
theorem d_Comparison_keepWordTo_43 : decode b_Comparison_keepWordTo 43 = .ok (.istore_n 2, 1) := by decide +kernel
theorem d_Comparison_keepWordTo_44 : decode b_Comparison_keepWordTo 44 = .ok (.goto (-37), 3) := by decide +kernel
theorem d_Comparison_keepWordTo_47 : decode b_Comparison_keepWordTo 47 = .ok (.iload_n 1, 1) := by decide +kernel
theorem d_Comparison_keepWordTo_48 : decode b_Comparison_keepWordTo 48 = .ok (.istore_n 2, 1) := by decide +kernel
theorem d_Comparison_keepWordTo_49 : decode b_Comparison_keepWordTo 49 = .ok (.aload_n 0, 1) := by decide +kernel
theorem d_Comparison_keepWordTo_50 : decode b_Comparison_keepWordTo 50 = .ok (.getfield 34, 3) := by decide +kernel
theorem d_Comparison_keepWordTo_53 : decode b_Comparison_keepWordTo 53 = .ok (.iconst (1), 1) := by decide +kernel
theorem d_Comparison_keepWordTo_54 : decode b_Comparison_keepWordTo 54 = .ok (.isub, 1) := by decide +kernel
theorem d_Comparison_keepWordTo_55 : decode b_Comparison_keepWordTo 55 = .ok (.istore_n 3, 1) := by decide +kernel
theorem d_Comparison_keepWordTo_56 : decode b_Comparison_keepWordTo 56 = .ok (.iload_n 3, 1) := by decide +kernel
theorem d_Comparison_keepWordTo_57 : decode b_Comparison_keepWordTo 57 = .ok (.ifCond .lt (28), 3) := by decide +kernel
theorem d_Comparison_keepWordTo_60 : decode b_Comparison_keepWordTo 60 = .ok (.aload_n 0, 1) := by decide +kernel
theorem d_Comparison_keepWordTo_61 : decode b_Comparison_keepWordTo 61 = .ok (.getfield 27, 3) := by decide +kernel
theorem d_Comparison_keepWordTo_64 : decode b_Comparison_keepWordTo 64 = .ok (.iload_n 3, 1) := by decide +kernel
theorem d_Comparison_keepWordTo_65 : decode b_Comparison_keepWordTo 65 = .ok (.aload_n 0, 1) := by decide +kernel
theorem d_Comparison_keepWordTo_66 : decode b_Comparison_keepWordTo 66 = .ok (.getfield 24, 3) := by decide +kernel
theorem d_Comparison_keepWordTo_69 : decode b_Comparison_keepWordTo 69 = .ok (.iload_n 2, 1) := by decide +kernel
theorem d_Comparison_keepWordTo_70 : decode b_Comparison_keepWordTo 70 = .ok (.iaload, 1) := by decide +kernel
theorem d_Comparison_keepWordTo_71 : decode b_Comparison_keepWordTo 71 = .ok (.iastore, 1) := by decide +kernel
theorem d_Comparison_keepWordTo_72 : decode b_Comparison_keepWordTo 72 = .ok (.aload_n 0, 1) := by decide +kernel
theorem d_Comparison_keepWordTo_73 : decode b_Comparison_keepWordTo 73 = .ok (.getfield 21, 3) := by decide +kernel
theorem d_Comparison_keepWordTo_76 : decode b_Comparison_keepWordTo 76 = .ok (.iload_n 2, 1) := by decide +kernel
theorem d_Comparison_keepWordTo_77 : decode b_Comparison_keepWordTo 77 = .ok (.iaload, 1) := by decide +kernel
theorem d_Comparison_keepWordTo_78 : decode b_Comparison_keepWordTo 78 = .ok (.istore_n 2, 1) := by decide +kernel
theorem d_Comparison_keepWordTo_79 : decode b_Comparison_keepWordTo 79 = .ok (.iinc 3 (-1), 3) := by decide +kernel
theorem d_Comparison_keepWordTo_82 : decode b_Comparison_keepWordTo 82 = .ok (.goto (-26), 3) := by decide +kernel
theorem d_Comparison_keepWordTo_85 : decode b_Comparison_keepWordTo 85 = .ok (.return_, 1) := by decide +kernel
section
variable {p : Program} {l : Launch} {e : Env} {R : Room} {s : State} {m : MethodId} {args : Array Value} {below : List Frame} {meth : Method} {c : Code} {D : va_G} {base : Nat} {g : Nat → ClassId} {az : Nat → Nat} {kz : Nat × Nat}
set_option maxRecDepth 100000 in
set_option maxHeartbeats 4000000 in
theorem t_Comparison_keepWordTo_56b {k56 : Int32 × Int32 × MS → Option (MS × Unit)} (B : xB p R s m args meth c b_Comparison_keepWordTo 4 R_Comparison (Cond.code y_Comparison_keepWordTo b_Comparison_keepWordTo 4 none :: x_T) none 0 0 D x_cl (xty g) base) (hk56 : ∀ (l2 : Int32) (l3 : Int32) (M : MS) , Sn p l e R s m args below meth c 4 D x_cl base (xwd g) cM x_g0 az kz (xfc cM) (xZ below args s D x_cl (xty g) base (xwd g) cM x_g0 az kz ovU) 56 [] [(0, .ref 86), (2, .int l2), (3, .int l3)] M (k56 (l2, l3, M))) (l2 : Int32) (l3 : Int32) (M : MS)  : Sn p l e R s m args below meth c 4 D x_cl base (xwd g) cM x_g0 az kz (xfc cM) (xZ below args s D x_cl (xty g) base (xwd g) cM x_g0 az kz ovU) 56 [] [(0, .ref 86), (2, .int l2), (3, .int l3)] M (m_Comparison_keepWordTo_56b k56 l2 l3 M) := by
  unfold m_Comparison_keepWordTo_56b
  refine s_iload_n B d_Comparison_keepWordTo_56 rfl ?_
  refine s_if_lt B d_Comparison_keepWordTo_57 rfl (fun _ => ?_) (fun _ => ?_)
  · exact s_vret B d_Comparison_keepWordTo_85
  · refine s_aload_n B d_Comparison_keepWordTo_60 rfl ?_
    refine s_getS (k := 5) (n := 92) B xc_Comparison kd_86 (by decide) rfl rfl fl_Comparison_27 sr_86_5 d_Comparison_keepWordTo_61 ?_
    refine s_iload_n B d_Comparison_keepWordTo_64 rfl ?_
    refine s_aload_n B d_Comparison_keepWordTo_65 rfl ?_
    refine s_getS (k := 4) (n := 91) B xc_Comparison kd_86 (by decide) rfl rfl fl_Comparison_24 sr_86_4 d_Comparison_keepWordTo_66 ?_
    refine s_iload_n B d_Comparison_keepWordTo_69 rfl ?_
    refine s_iald B (Or.inl kd_91) d_Comparison_keepWordTo_70 (fun v1 _ => ?_)
    refine s_iast B (Or.inl kd_92) d_Comparison_keepWordTo_71 (fun M2 _ => ?_)
    refine s_aload_n B d_Comparison_keepWordTo_72 rfl ?_
    refine s_getS (k := 3) (n := 90) B xc_Comparison kd_86 (by decide) rfl rfl fl_Comparison_21 sr_86_3 d_Comparison_keepWordTo_73 ?_
    refine s_iload_n B d_Comparison_keepWordTo_76 rfl ?_
    refine s_iald B (Or.inl kd_90) d_Comparison_keepWordTo_77 (fun v3 _ => ?_)
    refine s_istore_n B d_Comparison_keepWordTo_78 (by decide) ?_
    refine s_iinc (w := (-1:Int32)) B d_Comparison_keepWordTo_79 rfl (by decide) (by decide) ?_
    refine s_goto B d_Comparison_keepWordTo_82 rfl ?_
    refine s_pick (lv1 := [(0, .ref 86), (2, .int v3), (3, .int (l3 + (-1:Int32)))]) [0, 2, 3] rfl ?_
    exact hk56 v3 (l3 + (-1:Int32)) M2
set_option maxRecDepth 100000 in
set_option maxHeartbeats 4000000 in
theorem t_Comparison_keepWordTo_56  (B : xB p R s m args meth c b_Comparison_keepWordTo 4 R_Comparison (Cond.code y_Comparison_keepWordTo b_Comparison_keepWordTo 4 none :: x_T) none 0 0 D x_cl (xty g) base)  (l2 : Int32) (l3 : Int32) (M : MS)  : Sn p l e R s m args below meth c 4 D x_cl base (xwd g) cM x_g0 az kz (xfc cM) (xZ below args s D x_cl (xty g) base (xwd g) cM x_g0 az kz ovU) 56 [] [(0, .ref 86), (2, .int l2), (3, .int l3)] M (m_Comparison_keepWordTo_56 (l2, l3, M)) := by
  have q : ∀ (F : Nat) (i : Int32 × Int32 × MS), Sn p l e R s m args below meth c 4 D x_cl base (xwd g) cM x_g0 az kz (xfc cM) (xZ below args s D x_cl (xty g) base (xwd g) cM x_g0 az kz ovU) 56 [] [(0, .ref 86), (2, .int i.1), (3, .int i.2.1)] i.2.2 (fx (fun (k : Int32 × Int32 × MS → Option (MS × Unit)) (i : Int32 × Int32 × MS) => m_Comparison_keepWordTo_56b k i.1 i.2.1 i.2.2) F i) := by
    intro F
    induction F with
    | zero => intro i ; exact s_none
    | succ F ih => intro i ; exact t_Comparison_keepWordTo_56b B  (fun l2 l3 M  => ih (l2, l3, M) ) i.1 i.2.1 i.2.2 
  exact q FU (l2, l3, M) 
set_option maxRecDepth 100000 in
set_option maxHeartbeats 4000000 in
theorem t_Comparison_keepWordTo_47  (B : xB p R s m args meth c b_Comparison_keepWordTo 4 R_Comparison (Cond.code y_Comparison_keepWordTo b_Comparison_keepWordTo 4 none :: x_T) none 0 0 D x_cl (xty g) base)  (l1 : Int32) (M : MS)  : Sn p l e R s m args below meth c 4 D x_cl base (xwd g) cM x_g0 az kz (xfc cM) (xZ below args s D x_cl (xty g) base (xwd g) cM x_g0 az kz ovU) 47 [] [(0, .ref 86), (1, .int l1)] M (m_Comparison_keepWordTo_47 l1 M) := by
  unfold m_Comparison_keepWordTo_47
  refine s_iload_n B d_Comparison_keepWordTo_47 rfl ?_
  refine s_istore_n B d_Comparison_keepWordTo_48 (by decide) ?_
  refine s_aload_n B d_Comparison_keepWordTo_49 rfl ?_
  refine s_getI (k := 7) B xc_Comparison kd_86 (by decide) rfl rfl fl_Comparison_34 d_Comparison_keepWordTo_50 ?_
  refine s_iconst (v := (1:Int32)) B d_Comparison_keepWordTo_53 (by decide) ?_
  refine s_isub B d_Comparison_keepWordTo_54 ?_
  refine s_istore_n B d_Comparison_keepWordTo_55 (by decide) ?_
  refine s_pick (lv1 := [(0, .ref 86), (2, .int l1), (3, .int ((gI M 86 7) - (1:Int32)))]) [0, 2, 3] rfl ?_
  exact t_Comparison_keepWordTo_56 B l1 ((gI M 86 7) - (1:Int32)) M
set_option maxRecDepth 100000 in
set_option maxHeartbeats 4000000 in
theorem t_Comparison_keepWordTo_7b {k7 : Int32 × Int32 × MS → Option (MS × Unit)} (B : xB p R s m args meth c b_Comparison_keepWordTo 4 R_Comparison (Cond.code y_Comparison_keepWordTo b_Comparison_keepWordTo 4 none :: x_T) none 0 0 D x_cl (xty g) base) (hk7 : ∀ (l1 : Int32) (l2 : Int32) (M : MS) , Sn p l e R s m args below meth c 4 D x_cl base (xwd g) cM x_g0 az kz (xfc cM) (xZ below args s D x_cl (xty g) base (xwd g) cM x_g0 az kz ovU) 7 [] [(0, .ref 86), (1, .int l1), (2, .int l2)] M (k7 (l1, l2, M))) (l1 : Int32) (l2 : Int32) (M : MS)  : Sn p l e R s m args below meth c 4 D x_cl base (xwd g) cM x_g0 az kz (xfc cM) (xZ below args s D x_cl (xty g) base (xwd g) cM x_g0 az kz ovU) 7 [] [(0, .ref 86), (1, .int l1), (2, .int l2)] M (m_Comparison_keepWordTo_7b k7 l1 l2 M) := by
  unfold m_Comparison_keepWordTo_7b
  refine s_aload_n B d_Comparison_keepWordTo_7 rfl ?_
  refine s_getS (k := 3) (n := 90) B xc_Comparison kd_86 (by decide) rfl rfl fl_Comparison_21 sr_86_3 d_Comparison_keepWordTo_8 ?_
  refine s_iload_n B d_Comparison_keepWordTo_11 rfl ?_
  refine s_iald B (Or.inl kd_90) d_Comparison_keepWordTo_12 (fun v1 _ => ?_)
  refine s_iconst (v := (-1:Int32)) B d_Comparison_keepWordTo_13 (by decide) ?_
  refine s_icmp_eq B d_Comparison_keepWordTo_14 rfl (fun _ => ?_) (fun _ => ?_)
  · refine s_pick (lv1 := [(0, .ref 86), (1, .int l1)]) [0, 1] rfl ?_
    exact t_Comparison_keepWordTo_47 B l1 M
  · refine s_aload_n B d_Comparison_keepWordTo_17 rfl ?_
    refine s_getI (k := 7) B xc_Comparison kd_86 (by decide) rfl rfl fl_Comparison_34 d_Comparison_keepWordTo_18 ?_
    refine s_sipush (v := (300:Int32)) B d_Comparison_keepWordTo_21 (by decide) ?_
    refine s_icmp_ge B d_Comparison_keepWordTo_24 rfl (fun _ => ?_) (fun _ => ?_)
    · refine s_pick (lv1 := [(0, .ref 86), (1, .int l1)]) [0, 1] rfl ?_
      exact t_Comparison_keepWordTo_47 B l1 M
    · refine s_aload_n B d_Comparison_keepWordTo_27 rfl ?_
      refine s_dup B d_Comparison_keepWordTo_28 rfl ?_
      refine s_getI (k := 7) B xc_Comparison kd_86 (by decide) rfl rfl fl_Comparison_34 d_Comparison_keepWordTo_29 ?_
      refine s_iconst (v := (1:Int32)) B d_Comparison_keepWordTo_32 (by decide) ?_
      refine s_iadd B d_Comparison_keepWordTo_33 ?_
      refine s_putI (k := 7) (ty := .int) B xc_Comparison kd_86 (by decide) rfl rfl fl_Comparison_34 rfl rfl rfl rfl d_Comparison_keepWordTo_34 (fun M2 _ => ?_)
      refine s_aload_n B d_Comparison_keepWordTo_37 rfl ?_
      refine s_getS (k := 3) (n := 90) B xc_Comparison kd_86 (by decide) rfl rfl fl_Comparison_21 sr_86_3 d_Comparison_keepWordTo_38 ?_
      refine s_iload_n B d_Comparison_keepWordTo_41 rfl ?_
      refine s_iald B (Or.inl kd_90) d_Comparison_keepWordTo_42 (fun v3 _ => ?_)
      refine s_istore_n B d_Comparison_keepWordTo_43 (by decide) ?_
      refine s_goto B d_Comparison_keepWordTo_44 rfl ?_
      refine s_pick (lv1 := [(0, .ref 86), (1, .int l1), (2, .int v3)]) [0, 1, 2] rfl ?_
      exact hk7 l1 v3 M2
set_option maxRecDepth 100000 in
set_option maxHeartbeats 4000000 in
theorem t_Comparison_keepWordTo_7  (B : xB p R s m args meth c b_Comparison_keepWordTo 4 R_Comparison (Cond.code y_Comparison_keepWordTo b_Comparison_keepWordTo 4 none :: x_T) none 0 0 D x_cl (xty g) base)  (l1 : Int32) (l2 : Int32) (M : MS)  : Sn p l e R s m args below meth c 4 D x_cl base (xwd g) cM x_g0 az kz (xfc cM) (xZ below args s D x_cl (xty g) base (xwd g) cM x_g0 az kz ovU) 7 [] [(0, .ref 86), (1, .int l1), (2, .int l2)] M (m_Comparison_keepWordTo_7 (l1, l2, M)) := by
  have q : ∀ (F : Nat) (i : Int32 × Int32 × MS), Sn p l e R s m args below meth c 4 D x_cl base (xwd g) cM x_g0 az kz (xfc cM) (xZ below args s D x_cl (xty g) base (xwd g) cM x_g0 az kz ovU) 7 [] [(0, .ref 86), (1, .int i.1), (2, .int i.2.1)] i.2.2 (fx (fun (k : Int32 × Int32 × MS → Option (MS × Unit)) (i : Int32 × Int32 × MS) => m_Comparison_keepWordTo_7b k i.1 i.2.1 i.2.2) F i) := by
    intro F
    induction F with
    | zero => intro i ; exact s_none
    | succ F ih => intro i ; exact t_Comparison_keepWordTo_7b B  (fun l1 l2 M  => ih (l1, l2, M) ) i.1 i.2.1 i.2.2 
  exact q FU (l1, l2, M) 
set_option maxRecDepth 100000 in
set_option maxHeartbeats 4000000 in
theorem t_Comparison_keepWordTo (B : xB p R s m args meth c b_Comparison_keepWordTo 4 R_Comparison (Cond.code y_Comparison_keepWordTo b_Comparison_keepWordTo 4 none :: x_T) none 0 0 D x_cl (xty g) base) (a1 : Int32) (M : MS) : Sn p l e R s m args below meth c 4 D x_cl base (xwd g) cM x_g0 az kz (xfc cM) (xZ below args s D x_cl (xty g) base (xwd g) cM x_g0 az kz ovU) 0 [] [(0, .ref 86), (1, .int a1)] M (m_Comparison_keepWordTo a1 M) := by
  unfold m_Comparison_keepWordTo
  refine s_aload_n B d_Comparison_keepWordTo_0 rfl ?_
  refine s_iconst (v := (0:Int32)) B d_Comparison_keepWordTo_1 (by decide) ?_
  refine s_putI (k := 7) (ty := .int) B xc_Comparison kd_86 (by decide) rfl rfl fl_Comparison_34 rfl rfl rfl rfl d_Comparison_keepWordTo_2 (fun M1 _ => ?_)
  refine s_iload_n B d_Comparison_keepWordTo_5 rfl ?_
  refine s_istore_n B d_Comparison_keepWordTo_6 (by decide) ?_
  refine s_pick (lv1 := [(0, .ref 86), (1, .int a1), (2, .int a1)]) [0, 1, 2] rfl ?_
  exact t_Comparison_keepWordTo_7 B a1 a1 M1
set_option maxRecDepth 100000 in
set_option maxHeartbeats 4000000 in
theorem ct_Comparison_keepWordTo {l : Launch} {D : va_G} {base : Nat} {g : Nat → ClassId} (a1 : Int32) (M : MS) (r : MS × Unit) (hr : m_Comparison_keepWordTo a1 M = some r) : Ct l y_Comparison_keepWordTo (Cond.code y_Comparison_keepWordTo b_Comparison_keepWordTo 4 none :: x_T) 0 0 D x_cl (xty g) base (xwd g) cM x_g0 [.ref 86, .int a1] M r.1 (ovU r.2) :=
  x_met (ov := ovU) (by decide) (Nat.le_of_ble_eq_true rfl) (fun p e R s m args below meth c az B => t_Comparison_keepWordTo B a1 M) r hr
end
theorem d_Comparison_isSplit_0 : decode b_Comparison_isSplit 0 = .ok (.aload_n 0, 1) := by decide +kernel
theorem d_Comparison_isSplit_1 : decode b_Comparison_isSplit 1 = .ok (.getfield 30, 3) := by decide +kernel
theorem d_Comparison_isSplit_4 : decode b_Comparison_isSplit 4 = .ok (.istore 5, 2) := by decide +kernel
theorem d_Comparison_isSplit_6 : decode b_Comparison_isSplit 6 = .ok (.aload_n 0, 1) := by decide +kernel
theorem d_Comparison_isSplit_7 : decode b_Comparison_isSplit 7 = .ok (.getfield 21, 3) := by decide +kernel
theorem d_Comparison_isSplit_10 : decode b_Comparison_isSplit 10 = .ok (.iload 5, 2) := by decide +kernel
theorem d_Comparison_isSplit_12 : decode b_Comparison_isSplit 12 = .ok (.iload_n 3, 1) := by decide +kernel
theorem d_Comparison_isSplit_13 : decode b_Comparison_isSplit 13 = .ok (.iastore, 1) := by decide +kernel
theorem d_Comparison_isSplit_14 : decode b_Comparison_isSplit 14 = .ok (.aload_n 0, 1) := by decide +kernel
theorem d_Comparison_isSplit_15 : decode b_Comparison_isSplit 15 = .ok (.getfield 24, 3) := by decide +kernel
theorem d_Comparison_isSplit_18 : decode b_Comparison_isSplit 18 = .ok (.iload 5, 2) := by decide +kernel
theorem d_Comparison_isSplit_20 : decode b_Comparison_isSplit 20 = .ok (.iload 4, 2) := by decide +kernel
theorem d_Comparison_isSplit_22 : decode b_Comparison_isSplit 22 = .ok (.iastore, 1) := by decide +kernel
theorem d_Comparison_isSplit_23 : decode b_Comparison_isSplit 23 = .ok (.aload_n 0, 1) := by decide +kernel
theorem d_Comparison_isSplit_24 : decode b_Comparison_isSplit 24 = .ok (.dup, 1) := by decide +kernel
theorem d_Comparison_isSplit_25 : decode b_Comparison_isSplit 25 = .ok (.getfield 30, 3) := by decide +kernel
theorem d_Comparison_isSplit_28 : decode b_Comparison_isSplit 28 = .ok (.iconst (1), 1) := by decide +kernel
theorem d_Comparison_isSplit_29 : decode b_Comparison_isSplit 29 = .ok (.iadd, 1) := by decide +kernel
theorem d_Comparison_isSplit_30 : decode b_Comparison_isSplit 30 = .ok (.putfield 30, 3) := by decide +kernel
theorem d_Comparison_isSplit_33 : decode b_Comparison_isSplit 33 = .ok (.aload_n 1, 1) := by decide +kernel
theorem d_Comparison_isSplit_34 : decode b_Comparison_isSplit 34 = .ok (.aload_n 0, 1) := by decide +kernel
theorem d_Comparison_isSplit_35 : decode b_Comparison_isSplit 35 = .ok (.getfield 15, 3) := by decide +kernel
theorem d_Comparison_isSplit_38 : decode b_Comparison_isSplit 38 = .ok (.iload 5, 2) := by decide +kernel
theorem d_Comparison_isSplit_40 : decode b_Comparison_isSplit 40 = .ok (.iaload, 1) := by decide +kernel
theorem d_Comparison_isSplit_41 : decode b_Comparison_isSplit 41 = .ok (.invokevirtual 63, 3) := by decide +kernel
theorem d_Comparison_isSplit_44 : decode b_Comparison_isSplit 44 = .ok (.aload_n 2, 1) := by decide +kernel
theorem d_Comparison_isSplit_45 : decode b_Comparison_isSplit 45 = .ok (.aload_n 0, 1) := by decide +kernel
theorem d_Comparison_isSplit_46 : decode b_Comparison_isSplit 46 = .ok (.getfield 18, 3) := by decide +kernel
theorem d_Comparison_isSplit_49 : decode b_Comparison_isSplit 49 = .ok (.iload 5, 2) := by decide +kernel
theorem d_Comparison_isSplit_51 : decode b_Comparison_isSplit 51 = .ok (.iaload, 1) := by decide +kernel
theorem d_Comparison_isSplit_52 : decode b_Comparison_isSplit 52 = .ok (.invokevirtual 63, 3) := by decide +kernel
theorem d_Comparison_isSplit_55 : decode b_Comparison_isSplit 55 = .ok (.if_icmp .ne (5), 3) := by decide +kernel
theorem d_Comparison_isSplit_58 : decode b_Comparison_isSplit 58 = .ok (.iconst (0), 1) := by decide +kernel
theorem d_Comparison_isSplit_59 : decode b_Comparison_isSplit 59 = .ok (.ireturn, 1) := by decide +kernel
theorem d_Comparison_isSplit_60 : decode b_Comparison_isSplit 60 = .ok (.aload_n 0, 1) := by decide +kernel
theorem d_Comparison_isSplit_61 : decode b_Comparison_isSplit 61 = .ok (.iload 5, 2) := by decide +kernel
theorem d_Comparison_isSplit_63 : decode b_Comparison_isSplit 63 = .ok (.invokevirtual 67, 3) := by decide +kernel
theorem d_Comparison_isSplit_66 : decode b_Comparison_isSplit 66 = .ok (.iconst (1), 1) := by decide +kernel
theorem d_Comparison_isSplit_67 : decode b_Comparison_isSplit 67 = .ok (.ireturn, 1) := by decide +kernel
section
variable {p : Program} {l : Launch} {e : Env} {R : Room} {s : State} {m : MethodId} {args : Array Value} {below : List Frame} {meth : Method} {c : Code} {D : va_G} {base : Nat} {g : Nat → ClassId} {az : Nat → Nat} {kz : Nat × Nat}
set_option maxRecDepth 100000 in
set_option maxHeartbeats 4000000 in
theorem t_Comparison_isSplit (B : xB p R s m args meth c b_Comparison_isSplit 6 R_Comparison (Cond.code y_Comparison_isSplit b_Comparison_isSplit 6 (some .boolean) :: x_T) (some .boolean) 1 23 D x_cl (xty g) base) (a1 : Nat) (a2 : Nat) (a3 : Int32) (a4 : Int32) (M : MS) : Sn p l e R s m args below meth c 6 D x_cl base (xwd g) cM x_g0 az kz (xfc cM) (xZ below args s D x_cl (xty g) base (xwd g) cM x_g0 az kz ovI) 0 [] [(0, .ref 86), (1, .ref a1), (2, .ref a2), (3, .int a3), (4, .int a4)] M (m_Comparison_isSplit a1 a2 a3 a4 M) := by
  unfold m_Comparison_isSplit
  refine s_guard (fun ha1 => ?_)
  refine s_guard (fun ha2 => ?_)
  refine s_aload_n B d_Comparison_isSplit_0 rfl ?_
  refine s_getI (k := 6) B xc_Comparison kd_86 (by decide) rfl rfl fl_Comparison_30 d_Comparison_isSplit_1 ?_
  refine s_istore B d_Comparison_isSplit_4 (by decide) ?_
  refine s_aload_n B d_Comparison_isSplit_6 rfl ?_
  refine s_getS (k := 3) (n := 90) B xc_Comparison kd_86 (by decide) rfl rfl fl_Comparison_21 sr_86_3 d_Comparison_isSplit_7 ?_
  refine s_iload B d_Comparison_isSplit_10 rfl ?_
  refine s_iload_n B d_Comparison_isSplit_12 rfl ?_
  refine s_iast B (Or.inl kd_90) d_Comparison_isSplit_13 (fun M1 _ => ?_)
  refine s_aload_n B d_Comparison_isSplit_14 rfl ?_
  refine s_getS (k := 4) (n := 91) B xc_Comparison kd_86 (by decide) rfl rfl fl_Comparison_24 sr_86_4 d_Comparison_isSplit_15 ?_
  refine s_iload B d_Comparison_isSplit_18 rfl ?_
  refine s_iload B d_Comparison_isSplit_20 rfl ?_
  refine s_iast B (Or.inl kd_91) d_Comparison_isSplit_22 (fun M2 _ => ?_)
  refine s_aload_n B d_Comparison_isSplit_23 rfl ?_
  refine s_dup B d_Comparison_isSplit_24 rfl ?_
  refine s_getI (k := 6) B xc_Comparison kd_86 (by decide) rfl rfl fl_Comparison_30 d_Comparison_isSplit_25 ?_
  refine s_iconst (v := (1:Int32)) B d_Comparison_isSplit_28 (by decide) ?_
  refine s_iadd B d_Comparison_isSplit_29 ?_
  refine s_putI (k := 6) (ty := .int) B xc_Comparison kd_86 (by decide) rfl rfl fl_Comparison_30 rfl rfl rfl rfl d_Comparison_isSplit_30 (fun M3 _ => ?_)
  refine s_aload_n B d_Comparison_isSplit_33 rfl ?_
  refine s_aload_n B d_Comparison_isSplit_34 rfl ?_
  refine s_getS (k := 1) (n := 88) B xc_Comparison kd_86 (by decide) rfl rfl fl_Comparison_15 sr_86_1 d_Comparison_isSplit_35 ?_
  refine s_iload B d_Comparison_isSplit_38 rfl ?_
  refine s_iald B (Or.inl kd_88) d_Comparison_isSplit_40 (fun v4 _ => ?_)
  refine s_pick (lv1 := [(0, .ref 86), (2, .ref a2), (5, .int (gI M 86 6))]) [0, 2, 5] rfl ?_
  refine s_callI (av := [.ref a1, .int v4]) (rest := []) B (lk_V B d_Comparison_isSplit_41 (gl_Comparison_63 _) rfl hv_Machine_isAccepting (by decide) (by decide)) rfl (x_rcV B xc_Machine ha1) (fun _ _ => rfl) rfl rfl (by simp [Value.category]) rfl (fun r5 e9 => ct_Machine_isAccepting _ _ _ r5 e9) (fun r5 _ => ?_)
  refine s_aload_n B d_Comparison_isSplit_44 rfl ?_
  refine s_aload_n B d_Comparison_isSplit_45 rfl ?_
  refine s_getS (k := 2) (n := 89) B xc_Comparison kd_86 (by decide) rfl rfl fl_Comparison_18 sr_86_2 d_Comparison_isSplit_46 ?_
  refine s_iload B d_Comparison_isSplit_49 rfl ?_
  refine s_iald B (Or.inl kd_89) d_Comparison_isSplit_51 (fun v6 _ => ?_)
  refine s_pick (lv1 := [(0, .ref 86), (5, .int (gI M 86 6))]) [0, 5] rfl ?_
  refine s_callI (av := [.ref a2, .int v6]) (rest := [.int r5.2]) B (lk_V B d_Comparison_isSplit_52 (gl_Comparison_63 _) rfl hv_Machine_isAccepting (by decide) (by decide)) rfl (x_rcV B xc_Machine ha2) (fun _ _ => rfl) rfl rfl (by simp [Value.category]) rfl (fun r7 e9 => ct_Machine_isAccepting _ _ _ r7 e9) (fun r7 _ => ?_)
  refine s_icmp_ne B d_Comparison_isSplit_55 rfl (fun _ => ?_) (fun _ => ?_)
  · refine s_aload_n B d_Comparison_isSplit_60 rfl ?_
    refine s_iload B d_Comparison_isSplit_61 rfl ?_
    refine s_pick (lv1 := []) [] rfl ?_
    refine s_callU (av := [.ref 86, .int (gI M 86 6)]) (rest := []) B (lk_V B d_Comparison_isSplit_63 (gl_Comparison_67 _) rfl hv_Comparison_keepWordTo (by decide) (by decide)) rfl (x_rcV B xc_Comparison kd_86) (fun _ _ => rfl) rfl rfl (by simp [Value.category]) rfl (fun r8 e9 => ct_Comparison_keepWordTo _ _ r8 e9) (fun r8 _ => ?_)
    refine s_iconst (v := (1:Int32)) B d_Comparison_isSplit_66 (by decide) ?_
    exact s_zret0 rfl B d_Comparison_isSplit_67
  · refine s_iconst (v := (0:Int32)) B d_Comparison_isSplit_58 (by decide) ?_
    exact s_zret0 rfl B d_Comparison_isSplit_59
set_option maxRecDepth 100000 in
set_option maxHeartbeats 4000000 in
theorem ct_Comparison_isSplit {l : Launch} {D : va_G} {base : Nat} {g : Nat → ClassId} (a1 : Nat) (a2 : Nat) (a3 : Int32) (a4 : Int32) (M : MS) (r : MS × Int32) (hr : m_Comparison_isSplit a1 a2 a3 a4 M = some r) : Ct l y_Comparison_isSplit (Cond.code y_Comparison_isSplit b_Comparison_isSplit 6 (some .boolean) :: x_T) 1 23 D x_cl (xty g) base (xwd g) cM x_g0 [.ref 86, .ref a1, .ref a2, .int a3, .int a4] M r.1 (ovI r.2) :=
  x_met (ov := ovI) (by decide) (Nat.le_of_ble_eq_true rfl) (fun p e R s m args below meth c az B => t_Comparison_isSplit B a1 a2 a3 a4 M) r hr
end
theorem d_Comparison_differ_0 : decode b_Comparison_differ 0 = .ok (.aload_n 0, 1) := by decide +kernel
theorem d_Comparison_differ_1 : decode b_Comparison_differ 1 = .ok (.aload_n 1, 1) := by decide +kernel
theorem d_Comparison_differ_2 : decode b_Comparison_differ 2 = .ok (.invokevirtual 37, 3) := by decide +kernel
theorem d_Comparison_differ_5 : decode b_Comparison_differ 5 = .ok (.aload_n 2, 1) := by decide +kernel
theorem d_Comparison_differ_6 : decode b_Comparison_differ 6 = .ok (.invokevirtual 37, 3) := by decide +kernel
theorem d_Comparison_differ_9 : decode b_Comparison_differ 9 = .ok (.iadd, 1) := by decide +kernel
theorem d_Comparison_differ_10 : decode b_Comparison_differ 10 = .ok (.invokevirtual 43, 3) := by decide +kernel
theorem d_Comparison_differ_13 : decode b_Comparison_differ 13 = .ok (.aload_n 0, 1) := by decide +kernel
theorem d_Comparison_differ_14 : decode b_Comparison_differ 14 = .ok (.iconst (0), 1) := by decide +kernel
theorem d_Comparison_differ_15 : decode b_Comparison_differ 15 = .ok (.iconst (0), 1) := by decide +kernel
theorem d_Comparison_differ_16 : decode b_Comparison_differ 16 = .ok (.aload_n 1, 1) := by decide +kernel
theorem d_Comparison_differ_17 : decode b_Comparison_differ 17 = .ok (.invokevirtual 37, 3) := by decide +kernel
theorem d_Comparison_differ_20 : decode b_Comparison_differ 20 = .ok (.invokevirtual 47, 3) := by decide +kernel
theorem d_Comparison_differ_23 : decode b_Comparison_differ 23 = .ok (.ifCond .eq (16), 3) := by decide +kernel
theorem d_Comparison_differ_26 : decode b_Comparison_differ 26 = .ok (.aload_n 0, 1) := by decide +kernel
theorem d_Comparison_differ_27 : decode b_Comparison_differ 27 = .ok (.aload_n 1, 1) := by decide +kernel
theorem d_Comparison_differ_28 : decode b_Comparison_differ 28 = .ok (.aload_n 2, 1) := by decide +kernel
theorem d_Comparison_differ_29 : decode b_Comparison_differ 29 = .ok (.iconst (-1), 1) := by decide +kernel
theorem d_Comparison_differ_30 : decode b_Comparison_differ 30 = .ok (.iconst (-1), 1) := by decide +kernel
theorem d_Comparison_differ_31 : decode b_Comparison_differ 31 = .ok (.invokevirtual 51, 3) := by decide +kernel
theorem d_Comparison_differ_34 : decode b_Comparison_differ 34 = .ok (.ifCond .eq (5), 3) := by decide +kernel
theorem d_Comparison_differ_37 : decode b_Comparison_differ 37 = .ok (.iconst (1), 1) := by decide +kernel
theorem d_Comparison_differ_38 : decode b_Comparison_differ 38 = .ok (.ireturn, 1) := by decide +kernel
theorem d_Comparison_differ_39 : decode b_Comparison_differ 39 = .ok (.iconst (0), 1) := by decide +kernel
theorem d_Comparison_differ_40 : decode b_Comparison_differ 40 = .ok (.istore_n 3, 1) := by decide +kernel
theorem d_Comparison_differ_41 : decode b_Comparison_differ 41 = .ok (.iload_n 3, 1) := by decide +kernel
theorem d_Comparison_differ_42 : decode b_Comparison_differ 42 = .ok (.aload_n 0, 1) := by decide +kernel
theorem d_Comparison_differ_43 : decode b_Comparison_differ 43 = .ok (.getfield 30, 3) := by decide +kernel
theorem d_Comparison_differ_46 : decode b_Comparison_differ 46 = .ok (.if_icmp .ge (88), 3) := by decide +kernel
theorem d_Comparison_differ_49 : decode b_Comparison_differ 49 = .ok (.iload_n 3, 1) := by decide +kernel
theorem d_Comparison_differ_50 : decode b_Comparison_differ 50 = .ok (.sipush (300), 3) := by decide +kernel
theorem d_Comparison_differ_53 : decode b_Comparison_differ 53 = .ok (.if_icmp .ge (81), 3) := by decide +kernel
theorem d_Comparison_differ_56 : decode b_Comparison_differ 56 = .ok (.iconst (0), 1) := by decide +kernel
theorem d_Comparison_differ_57 : decode b_Comparison_differ 57 = .ok (.istore 4, 2) := by decide +kernel
theorem d_Comparison_differ_59 : decode b_Comparison_differ 59 = .ok (.iload 4, 2) := by decide +kernel
theorem d_Comparison_differ_61 : decode b_Comparison_differ 61 = .ok (.iconst (4), 1) := by decide +kernel
theorem d_Comparison_differ_62 : decode b_Comparison_differ 62 = .ok (.if_icmp .ge (66), 3) := by decide +kernel
theorem d_Comparison_differ_65 : decode b_Comparison_differ 65 = .ok (.aload_n 1, 1) := by decide +kernel
theorem d_Comparison_differ_66 : decode b_Comparison_differ 66 = .ok (.aload_n 0, 1) := by decide +kernel
theorem d_Comparison_differ_67 : decode b_Comparison_differ 67 = .ok (.getfield 15, 3) := by decide +kernel
theorem d_Comparison_differ_70 : decode b_Comparison_differ 70 = .ok (.iload_n 3, 1) := by decide +kernel
theorem d_Comparison_differ_71 : decode b_Comparison_differ 71 = .ok (.iaload, 1) := by decide +kernel
theorem d_Comparison_differ_72 : decode b_Comparison_differ 72 = .ok (.iload 4, 2) := by decide +kernel
theorem d_Comparison_differ_74 : decode b_Comparison_differ 74 = .ok (.invokevirtual 55, 3) := by decide +kernel
theorem d_Comparison_differ_77 : decode b_Comparison_differ 77 = .ok (.istore 5, 2) := by decide +kernel
theorem d_Comparison_differ_79 : decode b_Comparison_differ 79 = .ok (.aload_n 2, 1) := by decide +kernel
theorem d_Comparison_differ_80 : decode b_Comparison_differ 80 = .ok (.aload_n 0, 1) := by decide +kernel
theorem d_Comparison_differ_81 : decode b_Comparison_differ 81 = .ok (.getfield 18, 3) := by decide +kernel
theorem d_Comparison_differ_84 : decode b_Comparison_differ 84 = .ok (.iload_n 3, 1) := by decide +kernel
theorem d_Comparison_differ_85 : decode b_Comparison_differ 85 = .ok (.iaload, 1) := by decide +kernel
theorem d_Comparison_differ_86 : decode b_Comparison_differ 86 = .ok (.iload 4, 2) := by decide +kernel
theorem d_Comparison_differ_88 : decode b_Comparison_differ 88 = .ok (.invokevirtual 55, 3) := by decide +kernel
theorem d_Comparison_differ_91 : decode b_Comparison_differ 91 = .ok (.istore 6, 2) := by decide +kernel
theorem d_Comparison_differ_93 : decode b_Comparison_differ 93 = .ok (.aload_n 0, 1) := by decide +kernel
theorem d_Comparison_differ_94 : decode b_Comparison_differ 94 = .ok (.iload 5, 2) := by decide +kernel
theorem d_Comparison_differ_96 : decode b_Comparison_differ 96 = .ok (.iload 6, 2) := by decide +kernel
theorem d_Comparison_differ_98 : decode b_Comparison_differ 98 = .ok (.aload_n 1, 1) := by decide +kernel
theorem d_Comparison_differ_99 : decode b_Comparison_differ 99 = .ok (.invokevirtual 37, 3) := by decide +kernel
theorem d_Comparison_differ_102 : decode b_Comparison_differ 102 = .ok (.invokevirtual 47, 3) := by decide +kernel
theorem d_Comparison_differ_105 : decode b_Comparison_differ 105 = .ok (.ifCond .eq (17), 3) := by decide +kernel
theorem d_Comparison_differ_108 : decode b_Comparison_differ 108 = .ok (.aload_n 0, 1) := by decide +kernel
theorem d_Comparison_differ_109 : decode b_Comparison_differ 109 = .ok (.aload_n 1, 1) := by decide +kernel
theorem d_Comparison_differ_110 : decode b_Comparison_differ 110 = .ok (.aload_n 2, 1) := by decide +kernel
theorem d_Comparison_differ_111 : decode b_Comparison_differ 111 = .ok (.iload_n 3, 1) := by decide +kernel
theorem d_Comparison_differ_112 : decode b_Comparison_differ 112 = .ok (.iload 4, 2) := by decide +kernel
theorem d_Comparison_differ_114 : decode b_Comparison_differ 114 = .ok (.invokevirtual 51, 3) := by decide +kernel
theorem d_Comparison_differ_117 : decode b_Comparison_differ 117 = .ok (.ifCond .eq (5), 3) := by decide +kernel
theorem d_Comparison_differ_120 : decode b_Comparison_differ 120 = .ok (.iconst (1), 1) := by decide +kernel
theorem d_Comparison_differ_121 : decode b_Comparison_differ 121 = .ok (.ireturn, 1) := by decide +kernel
theorem d_Comparison_differ_122 : decode b_Comparison_differ 122 = .ok (.iinc 4 (1), 3) := by decide +kernel
theorem d_Comparison_differ_125 : decode b_Comparison_differ 125 = .ok (.goto (-66), 3) := by decide +kernel
theorem d_Comparison_differ_128 : decode b_Comparison_differ 128 = .ok (.iinc 3 (1), 3) := by decide +kernel
theorem d_Comparison_differ_131 : decode b_Comparison_differ 131 = .ok (.goto (-90), 3) := by decide +kernel
theorem d_Comparison_differ_134 : decode b_Comparison_differ 134 = .ok (.iconst (0), 1) := by decide +kernel
theorem d_Comparison_differ_135 : decode b_Comparison_differ 135 = .ok (.ireturn, 1) := by decide +kernel
section
variable {p : Program} {l : Launch} {e : Env} {R : Room} {s : State} {m : MethodId} {args : Array Value} {below : List Frame} {meth : Method} {c : Code} {D : va_G} {base : Nat} {g : Nat → ClassId} {az : Nat → Nat} {kz : Nat × Nat}
set_option maxRecDepth 100000 in
set_option maxHeartbeats 4000000 in
theorem t_Comparison_differ_59b {k41 : Nat × Nat × Int32 × MS → Option (MS × Int32)} {k59 : Nat × Nat × Int32 × Int32 × MS → Option (MS × Int32)} (B : xB p R s m args meth c b_Comparison_differ 7 R_Comparison (Cond.code y_Comparison_differ b_Comparison_differ 7 (some .boolean) :: x_T) (some .boolean) 2 48 D x_cl (xty g) base) (hk41 : ∀ (l1 : Nat) (l2 : Nat) (l3 : Int32) (M : MS) (hl1 : x_kd l1 = 4) (hl2 : x_kd l2 = 4), Sn p l e R s m args below meth c 7 D x_cl base (xwd g) cM x_g0 az kz (xfc cM) (xZ below args s D x_cl (xty g) base (xwd g) cM x_g0 az kz ovI) 41 [] [(0, .ref 86), (1, .ref l1), (2, .ref l2), (3, .int l3)] M (k41 (l1, l2, l3, M))) (hk59 : ∀ (l1 : Nat) (l2 : Nat) (l3 : Int32) (l4 : Int32) (M : MS) (hl1 : x_kd l1 = 4) (hl2 : x_kd l2 = 4), Sn p l e R s m args below meth c 7 D x_cl base (xwd g) cM x_g0 az kz (xfc cM) (xZ below args s D x_cl (xty g) base (xwd g) cM x_g0 az kz ovI) 59 [] [(0, .ref 86), (1, .ref l1), (2, .ref l2), (3, .int l3), (4, .int l4)] M (k59 (l1, l2, l3, l4, M))) (l1 : Nat) (l2 : Nat) (l3 : Int32) (l4 : Int32) (M : MS) (hl1 : x_kd l1 = 4) (hl2 : x_kd l2 = 4) : Sn p l e R s m args below meth c 7 D x_cl base (xwd g) cM x_g0 az kz (xfc cM) (xZ below args s D x_cl (xty g) base (xwd g) cM x_g0 az kz ovI) 59 [] [(0, .ref 86), (1, .ref l1), (2, .ref l2), (3, .int l3), (4, .int l4)] M (m_Comparison_differ_59b k41 k59 l1 l2 l3 l4 M) := by
  unfold m_Comparison_differ_59b
  refine s_iload B d_Comparison_differ_59 rfl ?_
  refine s_iconst (v := (4:Int32)) B d_Comparison_differ_61 (by decide) ?_
  refine s_icmp_ge B d_Comparison_differ_62 rfl (fun _ => ?_) (fun _ => ?_)
  · refine s_iinc (w := (1:Int32)) B d_Comparison_differ_128 rfl (by decide) (by decide) ?_
    refine s_goto B d_Comparison_differ_131 rfl ?_
    refine s_pick (lv1 := [(0, .ref 86), (1, .ref l1), (2, .ref l2), (3, .int (l3 + (1:Int32)))]) [0, 1, 2, 3] rfl ?_
    exact hk41 l1 l2 (l3 + (1:Int32)) M hl1 hl2
  · refine s_aload_n B d_Comparison_differ_65 rfl ?_
    refine s_aload_n B d_Comparison_differ_66 rfl ?_
    refine s_getS (k := 1) (n := 88) B xc_Comparison kd_86 (by decide) rfl rfl fl_Comparison_15 sr_86_1 d_Comparison_differ_67 ?_
    refine s_iload_n B d_Comparison_differ_70 rfl ?_
    refine s_iald B (Or.inl kd_88) d_Comparison_differ_71 (fun v1 _ => ?_)
    refine s_iload B d_Comparison_differ_72 rfl ?_
    refine s_pick (lv1 := [(0, .ref 86), (1, .ref l1), (2, .ref l2), (3, .int l3), (4, .int l4)]) [0, 1, 2, 3, 4] rfl ?_
    refine s_callI (av := [.ref l1, .int v1, .int l4]) (rest := []) B (lk_V B d_Comparison_differ_74 (gl_Comparison_55 _) rfl hv_Machine_next (by decide) (by decide)) rfl (x_rcV B xc_Machine hl1) (fun _ _ => rfl) rfl rfl (by simp [Value.category]) rfl (fun r2 e9 => ct_Machine_next _ _ _ _ r2 e9) (fun r2 _ => ?_)
    refine s_istore B d_Comparison_differ_77 (by decide) ?_
    refine s_aload_n B d_Comparison_differ_79 rfl ?_
    refine s_aload_n B d_Comparison_differ_80 rfl ?_
    refine s_getS (k := 2) (n := 89) B xc_Comparison kd_86 (by decide) rfl rfl fl_Comparison_18 sr_86_2 d_Comparison_differ_81 ?_
    refine s_iload_n B d_Comparison_differ_84 rfl ?_
    refine s_iald B (Or.inl kd_89) d_Comparison_differ_85 (fun v3 _ => ?_)
    refine s_iload B d_Comparison_differ_86 rfl ?_
    refine s_pick (lv1 := [(0, .ref 86), (1, .ref l1), (2, .ref l2), (3, .int l3), (4, .int l4), (5, .int r2.2)]) [0, 1, 2, 3, 4, 5] rfl ?_
    refine s_callI (av := [.ref l2, .int v3, .int l4]) (rest := []) B (lk_V B d_Comparison_differ_88 (gl_Comparison_55 _) rfl hv_Machine_next (by decide) (by decide)) rfl (x_rcV B xc_Machine hl2) (fun _ _ => rfl) rfl rfl (by simp [Value.category]) rfl (fun r4 e9 => ct_Machine_next _ _ _ _ r4 e9) (fun r4 _ => ?_)
    refine s_istore B d_Comparison_differ_91 (by decide) ?_
    refine s_aload_n B d_Comparison_differ_93 rfl ?_
    refine s_iload B d_Comparison_differ_94 rfl ?_
    refine s_iload B d_Comparison_differ_96 rfl ?_
    refine s_aload_n B d_Comparison_differ_98 rfl ?_
    refine s_pick (lv1 := [(0, .ref 86), (1, .ref l1), (2, .ref l2), (3, .int l3), (4, .int l4)]) [0, 1, 2, 3, 4] rfl ?_
    refine s_callI (av := [.ref l1]) (rest := [.int r4.2, .int r2.2, .ref 86]) B (lk_V B d_Comparison_differ_99 (gl_Comparison_37 _) rfl hv_Machine_count (by decide) (by decide)) rfl (x_rcV B xc_Machine hl1) (fun _ _ => rfl) rfl rfl (by simp [Value.category]) rfl (fun r5 e9 => ct_Machine_count _ _ r5 e9) (fun r5 _ => ?_)
    refine s_pick (lv1 := [(0, .ref 86), (1, .ref l1), (2, .ref l2), (3, .int l3), (4, .int l4)]) [0, 1, 2, 3, 4] rfl ?_
    refine s_callI (av := [.ref 86, .int r2.2, .int r4.2, .int r5.2]) (rest := []) B (lk_V B d_Comparison_differ_102 (gl_Comparison_47 _) rfl hv_Comparison_isNewPair (by decide) (by decide)) rfl (x_rcV B xc_Comparison kd_86) (fun _ _ => rfl) rfl rfl (by simp [Value.category]) rfl (fun r6 e9 => ct_Comparison_isNewPair _ _ _ _ r6 e9) (fun r6 _ => ?_)
    refine s_if_eq B d_Comparison_differ_105 rfl (fun _ => ?_) (fun _ => ?_)
    · refine s_iinc (w := (1:Int32)) B d_Comparison_differ_122 rfl (by decide) (by decide) ?_
      refine s_goto B d_Comparison_differ_125 rfl ?_
      refine s_pick (lv1 := [(0, .ref 86), (1, .ref l1), (2, .ref l2), (3, .int l3), (4, .int (l4 + (1:Int32)))]) [0, 1, 2, 3, 4] rfl ?_
      exact hk59 l1 l2 l3 (l4 + (1:Int32)) r6.1 hl1 hl2
    · refine s_aload_n B d_Comparison_differ_108 rfl ?_
      refine s_aload_n B d_Comparison_differ_109 rfl ?_
      refine s_aload_n B d_Comparison_differ_110 rfl ?_
      refine s_iload_n B d_Comparison_differ_111 rfl ?_
      refine s_iload B d_Comparison_differ_112 rfl ?_
      refine s_pick (lv1 := [(0, .ref 86), (1, .ref l1), (2, .ref l2), (3, .int l3), (4, .int l4)]) [0, 1, 2, 3, 4] rfl ?_
      refine s_callI (av := [.ref 86, .ref l1, .ref l2, .int l3, .int l4]) (rest := []) B (lk_V B d_Comparison_differ_114 (gl_Comparison_51 _) rfl hv_Comparison_isSplit (by decide) (by decide)) rfl (x_rcV B xc_Comparison kd_86) (fun _ _ => rfl) rfl rfl (by simp [Value.category]) rfl (fun r7 e9 => ct_Comparison_isSplit _ _ _ _ _ r7 e9) (fun r7 _ => ?_)
      refine s_if_eq B d_Comparison_differ_117 rfl (fun _ => ?_) (fun _ => ?_)
      · refine s_iinc (w := (1:Int32)) B d_Comparison_differ_122 rfl (by decide) (by decide) ?_
        refine s_goto B d_Comparison_differ_125 rfl ?_
        refine s_pick (lv1 := [(0, .ref 86), (1, .ref l1), (2, .ref l2), (3, .int l3), (4, .int (l4 + (1:Int32)))]) [0, 1, 2, 3, 4] rfl ?_
        exact hk59 l1 l2 l3 (l4 + (1:Int32)) r7.1 hl1 hl2
      · refine s_iconst (v := (1:Int32)) B d_Comparison_differ_120 (by decide) ?_
        exact s_zret0 rfl B d_Comparison_differ_121
set_option maxRecDepth 100000 in
set_option maxHeartbeats 4000000 in
theorem t_Comparison_differ_59 {k41 : Nat × Nat × Int32 × MS → Option (MS × Int32)} (B : xB p R s m args meth c b_Comparison_differ 7 R_Comparison (Cond.code y_Comparison_differ b_Comparison_differ 7 (some .boolean) :: x_T) (some .boolean) 2 48 D x_cl (xty g) base) (hk41 : ∀ (l1 : Nat) (l2 : Nat) (l3 : Int32) (M : MS) (hl1 : x_kd l1 = 4) (hl2 : x_kd l2 = 4), Sn p l e R s m args below meth c 7 D x_cl base (xwd g) cM x_g0 az kz (xfc cM) (xZ below args s D x_cl (xty g) base (xwd g) cM x_g0 az kz ovI) 41 [] [(0, .ref 86), (1, .ref l1), (2, .ref l2), (3, .int l3)] M (k41 (l1, l2, l3, M))) (l1 : Nat) (l2 : Nat) (l3 : Int32) (l4 : Int32) (M : MS) (hl1 : x_kd l1 = 4) (hl2 : x_kd l2 = 4) : Sn p l e R s m args below meth c 7 D x_cl base (xwd g) cM x_g0 az kz (xfc cM) (xZ below args s D x_cl (xty g) base (xwd g) cM x_g0 az kz ovI) 59 [] [(0, .ref 86), (1, .ref l1), (2, .ref l2), (3, .int l3), (4, .int l4)] M (m_Comparison_differ_59 k41 (l1, l2, l3, l4, M)) := by
  have q : ∀ (F : Nat) (i : Nat × Nat × Int32 × Int32 × MS), x_kd i.1 = 4 → x_kd i.2.1 = 4 → Sn p l e R s m args below meth c 7 D x_cl base (xwd g) cM x_g0 az kz (xfc cM) (xZ below args s D x_cl (xty g) base (xwd g) cM x_g0 az kz ovI) 59 [] [(0, .ref 86), (1, .ref i.1), (2, .ref i.2.1), (3, .int i.2.2.1), (4, .int i.2.2.2.1)] i.2.2.2.2 (fx (fun (k : Nat × Nat × Int32 × Int32 × MS → Option (MS × Int32)) (i : Nat × Nat × Int32 × Int32 × MS) => m_Comparison_differ_59b k41 k i.1 i.2.1 i.2.2.1 i.2.2.2.1 i.2.2.2.2) F i) := by
    intro F
    induction F with
    | zero => intro i h0 h1; exact s_none
    | succ F ih => intro i h0 h1; exact t_Comparison_differ_59b B hk41 (fun l1 l2 l3 l4 M h0 h1 => ih (l1, l2, l3, l4, M) h0 h1) i.1 i.2.1 i.2.2.1 i.2.2.2.1 i.2.2.2.2 h0 h1
  exact q FU (l1, l2, l3, l4, M) hl1 hl2
set_option maxRecDepth 100000 in
set_option maxHeartbeats 4000000 in
theorem t_Comparison_differ_41b {k41 : Nat × Nat × Int32 × MS → Option (MS × Int32)} (B : xB p R s m args meth c b_Comparison_differ 7 R_Comparison (Cond.code y_Comparison_differ b_Comparison_differ 7 (some .boolean) :: x_T) (some .boolean) 2 48 D x_cl (xty g) base) (hk41 : ∀ (l1 : Nat) (l2 : Nat) (l3 : Int32) (M : MS) (hl1 : x_kd l1 = 4) (hl2 : x_kd l2 = 4), Sn p l e R s m args below meth c 7 D x_cl base (xwd g) cM x_g0 az kz (xfc cM) (xZ below args s D x_cl (xty g) base (xwd g) cM x_g0 az kz ovI) 41 [] [(0, .ref 86), (1, .ref l1), (2, .ref l2), (3, .int l3)] M (k41 (l1, l2, l3, M))) (l1 : Nat) (l2 : Nat) (l3 : Int32) (M : MS) (hl1 : x_kd l1 = 4) (hl2 : x_kd l2 = 4) : Sn p l e R s m args below meth c 7 D x_cl base (xwd g) cM x_g0 az kz (xfc cM) (xZ below args s D x_cl (xty g) base (xwd g) cM x_g0 az kz ovI) 41 [] [(0, .ref 86), (1, .ref l1), (2, .ref l2), (3, .int l3)] M (m_Comparison_differ_41b k41 l1 l2 l3 M) := by
  unfold m_Comparison_differ_41b
  refine s_iload_n B d_Comparison_differ_41 rfl ?_
  refine s_aload_n B d_Comparison_differ_42 rfl ?_
  refine s_getI (k := 6) B xc_Comparison kd_86 (by decide) rfl rfl fl_Comparison_30 d_Comparison_differ_43 ?_
  refine s_icmp_ge B d_Comparison_differ_46 rfl (fun _ => ?_) (fun _ => ?_)
  · refine s_iconst (v := (0:Int32)) B d_Comparison_differ_134 (by decide) ?_
    exact s_zret0 rfl B d_Comparison_differ_135
  · refine s_iload_n B d_Comparison_differ_49 rfl ?_
    refine s_sipush (v := (300:Int32)) B d_Comparison_differ_50 (by decide) ?_
    refine s_icmp_ge B d_Comparison_differ_53 rfl (fun _ => ?_) (fun _ => ?_)
    · refine s_iconst (v := (0:Int32)) B d_Comparison_differ_134 (by decide) ?_
      exact s_zret0 rfl B d_Comparison_differ_135
    · refine s_iconst (v := (0:Int32)) B d_Comparison_differ_56 (by decide) ?_
      refine s_istore B d_Comparison_differ_57 (by decide) ?_
      refine s_pick (lv1 := [(0, .ref 86), (1, .ref l1), (2, .ref l2), (3, .int l3), (4, .int (0:Int32))]) [0, 1, 2, 3, 4] rfl ?_
      exact t_Comparison_differ_59 B hk41 l1 l2 l3 (0:Int32) M hl1 hl2
set_option maxRecDepth 100000 in
set_option maxHeartbeats 4000000 in
theorem t_Comparison_differ_41  (B : xB p R s m args meth c b_Comparison_differ 7 R_Comparison (Cond.code y_Comparison_differ b_Comparison_differ 7 (some .boolean) :: x_T) (some .boolean) 2 48 D x_cl (xty g) base)  (l1 : Nat) (l2 : Nat) (l3 : Int32) (M : MS) (hl1 : x_kd l1 = 4) (hl2 : x_kd l2 = 4) : Sn p l e R s m args below meth c 7 D x_cl base (xwd g) cM x_g0 az kz (xfc cM) (xZ below args s D x_cl (xty g) base (xwd g) cM x_g0 az kz ovI) 41 [] [(0, .ref 86), (1, .ref l1), (2, .ref l2), (3, .int l3)] M (m_Comparison_differ_41 (l1, l2, l3, M)) := by
  have q : ∀ (F : Nat) (i : Nat × Nat × Int32 × MS), x_kd i.1 = 4 → x_kd i.2.1 = 4 → Sn p l e R s m args below meth c 7 D x_cl base (xwd g) cM x_g0 az kz (xfc cM) (xZ below args s D x_cl (xty g) base (xwd g) cM x_g0 az kz ovI) 41 [] [(0, .ref 86), (1, .ref i.1), (2, .ref i.2.1), (3, .int i.2.2.1)] i.2.2.2 (fx (fun (k : Nat × Nat × Int32 × MS → Option (MS × Int32)) (i : Nat × Nat × Int32 × MS) => m_Comparison_differ_41b k i.1 i.2.1 i.2.2.1 i.2.2.2) F i) := by
    intro F
    induction F with
    | zero => intro i h0 h1; exact s_none
    | succ F ih => intro i h0 h1; exact t_Comparison_differ_41b B  (fun l1 l2 l3 M h0 h1 => ih (l1, l2, l3, M) h0 h1) i.1 i.2.1 i.2.2.1 i.2.2.2 h0 h1
  exact q FU (l1, l2, l3, M) hl1 hl2
set_option maxRecDepth 100000 in
set_option maxHeartbeats 4000000 in
theorem t_Comparison_differ (B : xB p R s m args meth c b_Comparison_differ 7 R_Comparison (Cond.code y_Comparison_differ b_Comparison_differ 7 (some .boolean) :: x_T) (some .boolean) 2 48 D x_cl (xty g) base) (a1 : Nat) (a2 : Nat) (M : MS) : Sn p l e R s m args below meth c 7 D x_cl base (xwd g) cM x_g0 az kz (xfc cM) (xZ below args s D x_cl (xty g) base (xwd g) cM x_g0 az kz ovI) 0 [] [(0, .ref 86), (1, .ref a1), (2, .ref a2)] M (m_Comparison_differ a1 a2 M) := by
  unfold m_Comparison_differ
  refine s_guard (fun ha1 => ?_)
  refine s_guard (fun ha2 => ?_)
  refine s_aload_n B d_Comparison_differ_0 rfl ?_
  refine s_aload_n B d_Comparison_differ_1 rfl ?_
  refine s_pick (lv1 := [(0, .ref 86), (1, .ref a1), (2, .ref a2)]) [0, 1, 2] rfl ?_
  refine s_callI (av := [.ref a1]) (rest := [.ref 86]) B (lk_V B d_Comparison_differ_2 (gl_Comparison_37 _) rfl hv_Machine_count (by decide) (by decide)) rfl (x_rcV B xc_Machine ha1) (fun _ _ => rfl) rfl rfl (by simp [Value.category]) rfl (fun r1 e9 => ct_Machine_count _ _ r1 e9) (fun r1 _ => ?_)
  refine s_aload_n B d_Comparison_differ_5 rfl ?_
  refine s_pick (lv1 := [(0, .ref 86), (1, .ref a1), (2, .ref a2)]) [0, 1, 2] rfl ?_
  refine s_callI (av := [.ref a2]) (rest := [.int r1.2, .ref 86]) B (lk_V B d_Comparison_differ_6 (gl_Comparison_37 _) rfl hv_Machine_count (by decide) (by decide)) rfl (x_rcV B xc_Machine ha2) (fun _ _ => rfl) rfl rfl (by simp [Value.category]) rfl (fun r2 e9 => ct_Machine_count _ _ r2 e9) (fun r2 _ => ?_)
  refine s_iadd B d_Comparison_differ_9 ?_
  refine s_pick (lv1 := [(0, .ref 86), (1, .ref a1), (2, .ref a2)]) [0, 1, 2] rfl ?_
  refine s_callU (av := [.ref 86, .int (r1.2 + r2.2)]) (rest := []) B (lk_V B d_Comparison_differ_10 (gl_Comparison_43 _) rfl hv_Comparison_begin (by decide) (by decide)) rfl (x_rcV B xc_Comparison kd_86) (fun _ _ => rfl) rfl rfl (by simp [Value.category]) rfl (fun r3 e9 => ct_Comparison_begin _ _ r3 e9) (fun r3 _ => ?_)
  refine s_aload_n B d_Comparison_differ_13 rfl ?_
  refine s_iconst (v := (0:Int32)) B d_Comparison_differ_14 (by decide) ?_
  refine s_iconst (v := (0:Int32)) B d_Comparison_differ_15 (by decide) ?_
  refine s_aload_n B d_Comparison_differ_16 rfl ?_
  refine s_pick (lv1 := [(0, .ref 86), (1, .ref a1), (2, .ref a2)]) [0, 1, 2] rfl ?_
  refine s_callI (av := [.ref a1]) (rest := [.int (0:Int32), .int (0:Int32), .ref 86]) B (lk_V B d_Comparison_differ_17 (gl_Comparison_37 _) rfl hv_Machine_count (by decide) (by decide)) rfl (x_rcV B xc_Machine ha1) (fun _ _ => rfl) rfl rfl (by simp [Value.category]) rfl (fun r4 e9 => ct_Machine_count _ _ r4 e9) (fun r4 _ => ?_)
  refine s_pick (lv1 := [(0, .ref 86), (1, .ref a1), (2, .ref a2)]) [0, 1, 2] rfl ?_
  refine s_callI (av := [.ref 86, .int (0:Int32), .int (0:Int32), .int r4.2]) (rest := []) B (lk_V B d_Comparison_differ_20 (gl_Comparison_47 _) rfl hv_Comparison_isNewPair (by decide) (by decide)) rfl (x_rcV B xc_Comparison kd_86) (fun _ _ => rfl) rfl rfl (by simp [Value.category]) rfl (fun r5 e9 => ct_Comparison_isNewPair _ _ _ _ r5 e9) (fun r5 _ => ?_)
  refine s_if_eq B d_Comparison_differ_23 rfl (fun _ => ?_) (fun _ => ?_)
  · refine s_iconst (v := (0:Int32)) B d_Comparison_differ_39 (by decide) ?_
    refine s_istore_n B d_Comparison_differ_40 (by decide) ?_
    refine s_pick (lv1 := [(0, .ref 86), (1, .ref a1), (2, .ref a2), (3, .int (0:Int32))]) [0, 1, 2, 3] rfl ?_
    exact t_Comparison_differ_41 B a1 a2 (0:Int32) r5.1 ha1 ha2
  · refine s_aload_n B d_Comparison_differ_26 rfl ?_
    refine s_aload_n B d_Comparison_differ_27 rfl ?_
    refine s_aload_n B d_Comparison_differ_28 rfl ?_
    refine s_iconst (v := (-1:Int32)) B d_Comparison_differ_29 (by decide) ?_
    refine s_iconst (v := (-1:Int32)) B d_Comparison_differ_30 (by decide) ?_
    refine s_pick (lv1 := [(0, .ref 86), (1, .ref a1), (2, .ref a2)]) [0, 1, 2] rfl ?_
    refine s_callI (av := [.ref 86, .ref a1, .ref a2, .int (-1:Int32), .int (-1:Int32)]) (rest := []) B (lk_V B d_Comparison_differ_31 (gl_Comparison_51 _) rfl hv_Comparison_isSplit (by decide) (by decide)) rfl (x_rcV B xc_Comparison kd_86) (fun _ _ => rfl) rfl rfl (by simp [Value.category]) rfl (fun r6 e9 => ct_Comparison_isSplit _ _ _ _ _ r6 e9) (fun r6 _ => ?_)
    refine s_if_eq B d_Comparison_differ_34 rfl (fun _ => ?_) (fun _ => ?_)
    · refine s_iconst (v := (0:Int32)) B d_Comparison_differ_39 (by decide) ?_
      refine s_istore_n B d_Comparison_differ_40 (by decide) ?_
      refine s_pick (lv1 := [(0, .ref 86), (1, .ref a1), (2, .ref a2), (3, .int (0:Int32))]) [0, 1, 2, 3] rfl ?_
      exact t_Comparison_differ_41 B a1 a2 (0:Int32) r6.1 ha1 ha2
    · refine s_iconst (v := (1:Int32)) B d_Comparison_differ_37 (by decide) ?_
      exact s_zret0 rfl B d_Comparison_differ_38
set_option maxRecDepth 100000 in
set_option maxHeartbeats 4000000 in
theorem ct_Comparison_differ {l : Launch} {D : va_G} {base : Nat} {g : Nat → ClassId} (a1 : Nat) (a2 : Nat) (M : MS) (r : MS × Int32) (hr : m_Comparison_differ a1 a2 M = some r) : Ct l y_Comparison_differ (Cond.code y_Comparison_differ b_Comparison_differ 7 (some .boolean) :: x_T) 2 48 D x_cl (xty g) base (xwd g) cM x_g0 [.ref 86, .ref a1, .ref a2] M r.1 (ovI r.2) :=
  x_met (ov := ovI) (by decide) (Nat.le_of_ble_eq_true rfl) (fun p e R s m args below meth c az B => t_Comparison_differ B a1 a2 M) r hr
end
theorem d_D_equal_0 : decode b_D_equal 0 = .ok (.iload_n 1, 1) := by decide +kernel
theorem d_D_equal_1 : decode b_D_equal 1 = .ok (.invokestatic 61, 3) := by decide +kernel
theorem d_D_equal_4 : decode b_D_equal 4 = .ok (.iload_n 2, 1) := by decide +kernel
theorem d_D_equal_5 : decode b_D_equal 5 = .ok (.invokestatic 61, 3) := by decide +kernel
theorem d_D_equal_8 : decode b_D_equal 8 = .ok (.aload_n 0, 1) := by decide +kernel
theorem d_D_equal_9 : decode b_D_equal 9 = .ok (.getfield 44, 3) := by decide +kernel
theorem d_D_equal_12 : decode b_D_equal 12 = .ok (.invokevirtual 116, 3) := by decide +kernel
theorem d_D_equal_15 : decode b_D_equal 15 = .ok (.aload_n 0, 1) := by decide +kernel
theorem d_D_equal_16 : decode b_D_equal 16 = .ok (.getfield 23, 3) := by decide +kernel
theorem d_D_equal_19 : decode b_D_equal 19 = .ok (.iload_n 1, 1) := by decide +kernel
theorem d_D_equal_20 : decode b_D_equal 20 = .ok (.aload_n 0, 1) := by decide +kernel
theorem d_D_equal_21 : decode b_D_equal 21 = .ok (.getfield 16, 3) := by decide +kernel
theorem d_D_equal_24 : decode b_D_equal 24 = .ok (.aload_n 0, 1) := by decide +kernel
theorem d_D_equal_25 : decode b_D_equal 25 = .ok (.getfield 9, 3) := by decide +kernel
theorem d_D_equal_28 : decode b_D_equal 28 = .ok (.invokevirtual 98, 3) := by decide +kernel
theorem d_D_equal_31 : decode b_D_equal 31 = .ok (.astore_n 3, 1) := by decide +kernel
theorem d_D_equal_32 : decode b_D_equal 32 = .ok (.aload_n 0, 1) := by decide +kernel
theorem d_D_equal_33 : decode b_D_equal 33 = .ok (.getfield 23, 3) := by decide +kernel
theorem d_D_equal_36 : decode b_D_equal 36 = .ok (.iload_n 2, 1) := by decide +kernel
theorem d_D_equal_37 : decode b_D_equal 37 = .ok (.aload_n 0, 1) := by decide +kernel
theorem d_D_equal_38 : decode b_D_equal 38 = .ok (.getfield 16, 3) := by decide +kernel
theorem d_D_equal_41 : decode b_D_equal 41 = .ok (.aload_n 0, 1) := by decide +kernel
theorem d_D_equal_42 : decode b_D_equal 42 = .ok (.getfield 9, 3) := by decide +kernel
theorem d_D_equal_45 : decode b_D_equal 45 = .ok (.invokevirtual 98, 3) := by decide +kernel
theorem d_D_equal_48 : decode b_D_equal 48 = .ok (.astore 4, 2) := by decide +kernel
theorem d_D_equal_50 : decode b_D_equal 50 = .ok (.aload_n 3, 1) := by decide +kernel
theorem d_D_equal_51 : decode b_D_equal 51 = .ok (.invokevirtual 108, 3) := by decide +kernel
theorem d_D_equal_54 : decode b_D_equal 54 = .ok (.ifCond .ne (11), 3) := by decide +kernel
theorem d_D_equal_57 : decode b_D_equal 57 = .ok (.aload 4, 2) := by decide +kernel
theorem d_D_equal_59 : decode b_D_equal 59 = .ok (.invokevirtual 108, 3) := by decide +kernel
theorem d_D_equal_62 : decode b_D_equal 62 = .ok (.ifCond .eq (5), 3) := by decide +kernel
theorem d_D_equal_65 : decode b_D_equal 65 = .ok (.iconst (-1), 1) := by decide +kernel
theorem d_D_equal_66 : decode b_D_equal 66 = .ok (.ireturn, 1) := by decide +kernel
theorem d_D_equal_67 : decode b_D_equal 67 = .ok (.aload_n 0, 1) := by decide +kernel
theorem d_D_equal_68 : decode b_D_equal 68 = .ok (.getfield 44, 3) := by decide +kernel
theorem d_D_equal_71 : decode b_D_equal 71 = .ok (.aload_n 3, 1) := by decide +kernel
theorem d_D_equal_72 : decode b_D_equal 72 = .ok (.aload 4, 2) := by decide +kernel
theorem d_D_equal_74 : decode b_D_equal 74 = .ok (.invokevirtual 119, 3) := by decide +kernel
theorem d_D_equal_77 : decode b_D_equal 77 = .ok (.ifCond .eq (7), 3) := by decide +kernel
theorem d_D_equal_80 : decode b_D_equal 80 = .ok (.iconst (0), 1) := by decide +kernel
theorem d_D_equal_81 : decode b_D_equal 81 = .ok (.goto (4), 3) := by decide +kernel
theorem d_D_equal_84 : decode b_D_equal 84 = .ok (.iconst (1), 1) := by decide +kernel
theorem d_D_equal_85 : decode b_D_equal 85 = .ok (.ireturn, 1) := by decide +kernel
section
variable {p : Program} {l : Launch} {e : Env} {R : Room} {s : State} {m : MethodId} {args : Array Value} {below : List Frame} {meth : Method} {c : Code} {D : va_G} {base : Nat} {g : Nat → ClassId} {az : Nat → Nat} {kz : Nat × Nat}
set_option maxRecDepth 100000 in
set_option maxHeartbeats 4000000 in
theorem t_D_equal (B : xB p R s m args meth c b_D_equal 5 R_D (Cond.code y_D_equal b_D_equal 5 (some .int) :: x_T) (some .int) 10 240 D x_cl (xty g) base) (a1 : Int32) (a2 : Int32) (M : MS) : Sn p l e R s m args below meth c 5 D x_cl base (xwd g) cM x_gr az kz (xfc cM) (xZ below args s D x_cl (xty g) base (xwd g) cM x_gr az kz ovI) 0 [] [(0, .ref 0), (1, .int a1), (2, .int a2)] M (m_D_equal a1 a2 M) := by
  unfold m_D_equal
  refine s_iload_n B d_D_equal_0 rfl ?_
  refine s_pick (lv1 := [(0, .ref 0), (1, .int a1), (2, .int a2)]) [0, 1, 2] rfl ?_
  refine s_callU (av := [.int a1]) (rest := []) B (lk_S B d_D_equal_1 (gl_D_61 _) (List.mem_cons_of_mem _ st_D_checkSlot) (List.mem_cons_of_mem _ in_D) (List.mem_cons_of_mem _ ml_D_61) rfl hs_D_checkSlot (by decide) (by decide)) rfl x_rcS (fun _ _ => rfl) rfl rfl (by simp [Value.category]) rfl (fun r1 e9 => ct_D_checkSlot _ _ r1 e9) (fun r1 _ => ?_)
  refine s_iload_n B d_D_equal_4 rfl ?_
  refine s_pick (lv1 := [(0, .ref 0), (1, .int a1), (2, .int a2)]) [0, 1, 2] rfl ?_
  refine s_callU (av := [.int a2]) (rest := []) B (lk_S B d_D_equal_5 (gl_D_61 _) (List.mem_cons_of_mem _ st_D_checkSlot) (List.mem_cons_of_mem _ in_D) (List.mem_cons_of_mem _ ml_D_61) rfl hs_D_checkSlot (by decide) (by decide)) rfl x_rcS (fun _ _ => rfl) rfl rfl (by simp [Value.category]) rfl (fun r2 e9 => ct_D_checkSlot _ _ r2 e9) (fun r2 _ => ?_)
  refine s_aload_n B d_D_equal_8 rfl ?_
  refine s_getS (k := 5) (n := 86) B xc_D kd_0 (by decide) rfl rfl fl_D_44 sr_0_5 d_D_equal_9 ?_
  refine s_pick (lv1 := [(0, .ref 0), (1, .int a1), (2, .int a2)]) [0, 1, 2] rfl ?_
  refine s_callU (av := [.ref 86]) (rest := []) B (lk_V B d_D_equal_12 (gl_D_116 _) rfl hv_Comparison_forget (by decide) (by decide)) rfl (x_rcV B xc_Comparison kd_86) (fun _ _ => rfl) rfl rfl (by simp [Value.category]) rfl (fun r3 e9 => ct_Comparison_forget  _ r3 e9) (fun r3 _ => ?_)
  refine s_aload_n B d_D_equal_15 rfl ?_
  refine s_getS (k := 2) (n := 24) B xc_D kd_0 (by decide) rfl rfl fl_D_23 sr_0_2 d_D_equal_16 ?_
  refine s_iload_n B d_D_equal_19 rfl ?_
  refine s_aload_n B d_D_equal_20 rfl ?_
  refine s_getS (k := 1) (n := 2) B xc_D kd_0 (by decide) rfl rfl fl_D_16 sr_0_1 d_D_equal_21 ?_
  refine s_aload_n B d_D_equal_24 rfl ?_
  refine s_getS (k := 0) (n := 1) B xc_D kd_0 (by decide) rfl rfl fl_D_9 sr_0_0 d_D_equal_25 ?_
  refine s_pick (lv1 := [(0, .ref 0), (2, .int a2)]) [0, 2] rfl ?_
  refine s_callR (av := [.ref 24, .int a1, .ref 2, .ref 1]) (rest := []) B (lk_V B d_D_equal_28 (gl_D_98 _) rfl hv_Explorer_machineOf (by decide) (by decide)) rfl (x_rcV B xc_Explorer kd_24) (fun _ h => h) rfl (by simp [xng, x_gr, kd_0]) (by simp [Value.category]) rfl (fun r4 e9 => ct_Explorer_machineOf _ _ r4 e9) (fun r4 _ => ?_)
  refine s_guard (fun h5 => ?_)
  refine s_astore_n B d_D_equal_31 (by decide) ?_
  refine s_aload_n B d_D_equal_32 rfl ?_
  refine s_getS (k := 2) (n := 24) B xc_D kd_0 (by decide) rfl rfl fl_D_23 sr_0_2 d_D_equal_33 ?_
  refine s_iload_n B d_D_equal_36 rfl ?_
  refine s_aload_n B d_D_equal_37 rfl ?_
  refine s_getS (k := 1) (n := 2) B xc_D kd_0 (by decide) rfl rfl fl_D_16 sr_0_1 d_D_equal_38 ?_
  refine s_aload_n B d_D_equal_41 rfl ?_
  refine s_getS (k := 0) (n := 1) B xc_D kd_0 (by decide) rfl rfl fl_D_9 sr_0_0 d_D_equal_42 ?_
  refine s_pick (lv1 := [(0, .ref 0), (3, .ref r4.2)]) [0, 3] rfl ?_
  refine s_callR (av := [.ref 24, .int a2, .ref 2, .ref 1]) (rest := []) B (lk_V B d_D_equal_45 (gl_D_98 _) rfl hv_Explorer_machineOf (by decide) (by decide)) rfl (x_rcV B xc_Explorer kd_24) (fun _ h => h) rfl (by simp [xng, x_gr, h5, kd_0]) (by simp [Value.category]) rfl (fun r6 e9 => ct_Explorer_machineOf _ _ r6 e9) (fun r6 _ => ?_)
  refine s_guard (fun h7 => ?_)
  refine s_astore B d_D_equal_48 (by decide) ?_
  refine s_aload_n B d_D_equal_50 rfl ?_
  refine s_pick (lv1 := [(0, .ref 0), (3, .ref r4.2), (4, .ref r6.2)]) [0, 3, 4] rfl ?_
  refine s_callI (av := [.ref r4.2]) (rest := []) B (lk_V B d_D_equal_51 (gl_D_108 _) rfl hv_Machine_isTooLarge (by decide) (by decide)) rfl (x_rcV B xc_Machine h5) (fun _ _ => rfl) rfl rfl (by simp [Value.category]) rfl (fun r8 e9 => ct_Machine_isTooLarge _ _ r8 e9) (fun r8 _ => ?_)
  refine s_if_ne B d_D_equal_54 rfl (fun _ => ?_) (fun _ => ?_)
  · refine s_iconst (v := (-1:Int32)) B d_D_equal_65 (by decide) ?_
    exact s_iret B d_D_equal_66
  · refine s_aload B d_D_equal_57 rfl ?_
    refine s_pick (lv1 := [(0, .ref 0), (3, .ref r4.2), (4, .ref r6.2)]) [0, 3, 4] rfl ?_
    refine s_callI (av := [.ref r6.2]) (rest := []) B (lk_V B d_D_equal_59 (gl_D_108 _) rfl hv_Machine_isTooLarge (by decide) (by decide)) rfl (x_rcV B xc_Machine h7) (fun _ _ => rfl) rfl rfl (by simp [Value.category]) rfl (fun r9 e9 => ct_Machine_isTooLarge _ _ r9 e9) (fun r9 _ => ?_)
    refine s_if_eq B d_D_equal_62 rfl (fun _ => ?_) (fun _ => ?_)
    · refine s_aload_n B d_D_equal_67 rfl ?_
      refine s_getS (k := 5) (n := 86) B xc_D kd_0 (by decide) rfl rfl fl_D_44 sr_0_5 d_D_equal_68 ?_
      refine s_aload_n B d_D_equal_71 rfl ?_
      refine s_aload B d_D_equal_72 rfl ?_
      refine s_pick (lv1 := []) [] rfl ?_
      refine s_callI (av := [.ref 86, .ref r4.2, .ref r6.2]) (rest := []) B (lk_V B d_D_equal_74 (gl_D_119 _) rfl hv_Comparison_differ (by decide) (by decide)) rfl (x_rcV B xc_Comparison kd_86) (fun _ _ => rfl) rfl rfl (by simp [Value.category]) rfl (fun r10 e9 => ct_Comparison_differ _ _ _ r10 e9) (fun r10 _ => ?_)
      refine s_if_eq B d_D_equal_77 rfl (fun _ => ?_) (fun _ => ?_)
      · refine s_iconst (v := (1:Int32)) B d_D_equal_84 (by decide) ?_
        exact s_iret B d_D_equal_85
      · refine s_iconst (v := (0:Int32)) B d_D_equal_80 (by decide) ?_
        refine s_goto B d_D_equal_81 rfl ?_
        exact s_iret B d_D_equal_85
    · refine s_iconst (v := (-1:Int32)) B d_D_equal_65 (by decide) ?_
      exact s_iret B d_D_equal_66
set_option maxRecDepth 100000 in
set_option maxHeartbeats 4000000 in
theorem ct_D_equal {l : Launch} {D : va_G} {base : Nat} {g : Nat → ClassId} (a1 : Int32) (a2 : Int32) (M : MS) (r : MS × Int32) (hr : m_D_equal a1 a2 M = some r) : Ct l y_D_equal (Cond.code y_D_equal b_D_equal 5 (some .int) :: x_T) 10 240 D x_cl (xty g) base (xwd g) cM x_gr [.ref 0, .int a1, .int a2] M r.1 (ovI r.2) :=
  x_met (ov := ovI) (by decide) (Nat.le_of_ble_eq_true rfl) (fun p e R s m args below meth c az B => t_D_equal B a1 a2 M) r hr
end
theorem d_Comparison_length_0 : decode b_Comparison_length 0 = .ok (.aload_n 0, 1) := by decide +kernel
theorem d_Comparison_length_1 : decode b_Comparison_length 1 = .ok (.getfield 34, 3) := by decide +kernel
theorem d_Comparison_length_4 : decode b_Comparison_length 4 = .ok (.ireturn, 1) := by decide +kernel
section
variable {p : Program} {l : Launch} {e : Env} {R : Room} {s : State} {m : MethodId} {args : Array Value} {below : List Frame} {meth : Method} {c : Code} {D : va_G} {base : Nat} {g : Nat → ClassId} {az : Nat → Nat} {kz : Nat × Nat}
set_option maxRecDepth 100000 in
set_option maxHeartbeats 4000000 in
theorem t_Comparison_length (B : xB p R s m args meth c b_Comparison_length 1 R_Comparison (Cond.code y_Comparison_length b_Comparison_length 1 (some .int) :: x_T) (some .int) 0 0 D x_cl (xty g) base)  (M : MS) : Sn p l e R s m args below meth c 1 D x_cl base (xwd g) cM x_g0 az kz (xfc cM) (xZ below args s D x_cl (xty g) base (xwd g) cM x_g0 az kz ovI) 0 [] [(0, .ref 86)] M (m_Comparison_length M) := by
  unfold m_Comparison_length
  refine s_aload_n B d_Comparison_length_0 rfl ?_
  refine s_getI (k := 7) B xc_Comparison kd_86 (by decide) rfl rfl fl_Comparison_34 d_Comparison_length_1 ?_
  exact s_iret B d_Comparison_length_4
set_option maxRecDepth 100000 in
set_option maxHeartbeats 4000000 in
theorem ct_Comparison_length {l : Launch} {D : va_G} {base : Nat} {g : Nat → ClassId}  (M : MS) (r : MS × Int32) (hr : m_Comparison_length M = some r) : Ct l y_Comparison_length (Cond.code y_Comparison_length b_Comparison_length 1 (some .int) :: x_T) 0 0 D x_cl (xty g) base (xwd g) cM x_g0 [.ref 86] M r.1 (ovI r.2) :=
  x_met (ov := ovI) (by decide) (Nat.le_of_ble_eq_true rfl) (fun p e R s m args below meth c az B => t_Comparison_length B  M) r hr
end
theorem d_Comparison_letter_0 : decode b_Comparison_letter 0 = .ok (.iload_n 1, 1) := by decide +kernel
theorem d_Comparison_letter_1 : decode b_Comparison_letter 1 = .ok (.ifCond .lt (20), 3) := by decide +kernel
theorem d_Comparison_letter_4 : decode b_Comparison_letter 4 = .ok (.iload_n 1, 1) := by decide +kernel
theorem d_Comparison_letter_5 : decode b_Comparison_letter 5 = .ok (.aload_n 0, 1) := by decide +kernel
theorem d_Comparison_letter_6 : decode b_Comparison_letter 6 = .ok (.getfield 34, 3) := by decide +kernel
theorem d_Comparison_letter_9 : decode b_Comparison_letter 9 = .ok (.if_icmp .ge (12), 3) := by decide +kernel
theorem d_Comparison_letter_12 : decode b_Comparison_letter 12 = .ok (.aload_n 0, 1) := by decide +kernel
theorem d_Comparison_letter_13 : decode b_Comparison_letter 13 = .ok (.getfield 27, 3) := by decide +kernel
theorem d_Comparison_letter_16 : decode b_Comparison_letter 16 = .ok (.iload_n 1, 1) := by decide +kernel
theorem d_Comparison_letter_17 : decode b_Comparison_letter 17 = .ok (.iaload, 1) := by decide +kernel
theorem d_Comparison_letter_18 : decode b_Comparison_letter 18 = .ok (.goto (4), 3) := by decide +kernel
theorem d_Comparison_letter_21 : decode b_Comparison_letter 21 = .ok (.iconst (-1), 1) := by decide +kernel
theorem d_Comparison_letter_22 : decode b_Comparison_letter 22 = .ok (.ireturn, 1) := by decide +kernel
section
variable {p : Program} {l : Launch} {e : Env} {R : Room} {s : State} {m : MethodId} {args : Array Value} {below : List Frame} {meth : Method} {c : Code} {D : va_G} {base : Nat} {g : Nat → ClassId} {az : Nat → Nat} {kz : Nat × Nat}
set_option maxRecDepth 100000 in
set_option maxHeartbeats 4000000 in
theorem t_Comparison_letter (B : xB p R s m args meth c b_Comparison_letter 2 R_Comparison (Cond.code y_Comparison_letter b_Comparison_letter 2 (some .int) :: x_T) (some .int) 0 0 D x_cl (xty g) base) (a1 : Int32) (M : MS) : Sn p l e R s m args below meth c 2 D x_cl base (xwd g) cM x_g0 az kz (xfc cM) (xZ below args s D x_cl (xty g) base (xwd g) cM x_g0 az kz ovI) 0 [] [(0, .ref 86), (1, .int a1)] M (m_Comparison_letter a1 M) := by
  unfold m_Comparison_letter
  refine s_iload_n B d_Comparison_letter_0 rfl ?_
  refine s_if_lt B d_Comparison_letter_1 rfl (fun _ => ?_) (fun _ => ?_)
  · refine s_iconst (v := (-1:Int32)) B d_Comparison_letter_21 (by decide) ?_
    exact s_iret B d_Comparison_letter_22
  · refine s_iload_n B d_Comparison_letter_4 rfl ?_
    refine s_aload_n B d_Comparison_letter_5 rfl ?_
    refine s_getI (k := 7) B xc_Comparison kd_86 (by decide) rfl rfl fl_Comparison_34 d_Comparison_letter_6 ?_
    refine s_icmp_ge B d_Comparison_letter_9 rfl (fun _ => ?_) (fun _ => ?_)
    · refine s_iconst (v := (-1:Int32)) B d_Comparison_letter_21 (by decide) ?_
      exact s_iret B d_Comparison_letter_22
    · refine s_aload_n B d_Comparison_letter_12 rfl ?_
      refine s_getS (k := 5) (n := 92) B xc_Comparison kd_86 (by decide) rfl rfl fl_Comparison_27 sr_86_5 d_Comparison_letter_13 ?_
      refine s_iload_n B d_Comparison_letter_16 rfl ?_
      refine s_iald B (Or.inl kd_92) d_Comparison_letter_17 (fun v1 _ => ?_)
      refine s_goto B d_Comparison_letter_18 rfl ?_
      exact s_iret B d_Comparison_letter_22
set_option maxRecDepth 100000 in
set_option maxHeartbeats 4000000 in
theorem ct_Comparison_letter {l : Launch} {D : va_G} {base : Nat} {g : Nat → ClassId} (a1 : Int32) (M : MS) (r : MS × Int32) (hr : m_Comparison_letter a1 M = some r) : Ct l y_Comparison_letter (Cond.code y_Comparison_letter b_Comparison_letter 2 (some .int) :: x_T) 0 0 D x_cl (xty g) base (xwd g) cM x_g0 [.ref 86, .int a1] M r.1 (ovI r.2) :=
  x_met (ov := ovI) (by decide) (Nat.le_of_ble_eq_true rfl) (fun p e R s m args below meth c az B => t_Comparison_letter B a1 M) r hr
end
theorem d_D_witness_0 : decode b_D_witness 0 = .ok (.iload_n 1, 1) := by decide +kernel
theorem d_D_witness_1 : decode b_D_witness 1 = .ok (.iconst (-1), 1) := by decide +kernel
theorem d_D_witness_2 : decode b_D_witness 2 = .ok (.if_icmp .ne (13), 3) := by decide +kernel
theorem d_D_witness_5 : decode b_D_witness 5 = .ok (.aload_n 0, 1) := by decide +kernel
theorem d_D_witness_6 : decode b_D_witness 6 = .ok (.getfield 44, 3) := by decide +kernel
theorem d_D_witness_9 : decode b_D_witness 9 = .ok (.invokevirtual 123, 3) := by decide +kernel
theorem d_D_witness_12 : decode b_D_witness 12 = .ok (.goto (11), 3) := by decide +kernel
theorem d_D_witness_15 : decode b_D_witness 15 = .ok (.aload_n 0, 1) := by decide +kernel
theorem d_D_witness_16 : decode b_D_witness 16 = .ok (.getfield 44, 3) := by decide +kernel
theorem d_D_witness_19 : decode b_D_witness 19 = .ok (.iload_n 1, 1) := by decide +kernel
theorem d_D_witness_20 : decode b_D_witness 20 = .ok (.invokevirtual 126, 3) := by decide +kernel
theorem d_D_witness_23 : decode b_D_witness 23 = .ok (.ireturn, 1) := by decide +kernel
section
variable {p : Program} {l : Launch} {e : Env} {R : Room} {s : State} {m : MethodId} {args : Array Value} {below : List Frame} {meth : Method} {c : Code} {D : va_G} {base : Nat} {g : Nat → ClassId} {az : Nat → Nat} {kz : Nat × Nat}
set_option maxRecDepth 100000 in
set_option maxHeartbeats 4000000 in
theorem t_D_witness (B : xB p R s m args meth c b_D_witness 2 R_D (Cond.code y_D_witness b_D_witness 2 (some .int) :: x_T) (some .int) 1 21 D x_cl (xty g) base) (a1 : Int32) (M : MS) : Sn p l e R s m args below meth c 2 D x_cl base (xwd g) cM x_g0 az kz (xfc cM) (xZ below args s D x_cl (xty g) base (xwd g) cM x_g0 az kz ovI) 0 [] [(0, .ref 0), (1, .int a1)] M (m_D_witness a1 M) := by
  unfold m_D_witness
  refine s_iload_n B d_D_witness_0 rfl ?_
  refine s_iconst (v := (-1:Int32)) B d_D_witness_1 (by decide) ?_
  refine s_icmp_ne B d_D_witness_2 rfl (fun _ => ?_) (fun _ => ?_)
  · refine s_aload_n B d_D_witness_15 rfl ?_
    refine s_getS (k := 5) (n := 86) B xc_D kd_0 (by decide) rfl rfl fl_D_44 sr_0_5 d_D_witness_16 ?_
    refine s_iload_n B d_D_witness_19 rfl ?_
    refine s_pick (lv1 := []) [] rfl ?_
    refine s_callI (av := [.ref 86, .int a1]) (rest := []) B (lk_V B d_D_witness_20 (gl_D_126 _) rfl hv_Comparison_letter (by decide) (by decide)) rfl (x_rcV B xc_Comparison kd_86) (fun _ _ => rfl) rfl rfl (by simp [Value.category]) rfl (fun r1 e9 => ct_Comparison_letter _ _ r1 e9) (fun r1 _ => ?_)
    exact s_iret B d_D_witness_23
  · refine s_aload_n B d_D_witness_5 rfl ?_
    refine s_getS (k := 5) (n := 86) B xc_D kd_0 (by decide) rfl rfl fl_D_44 sr_0_5 d_D_witness_6 ?_
    refine s_pick (lv1 := []) [] rfl ?_
    refine s_callI (av := [.ref 86]) (rest := []) B (lk_V B d_D_witness_9 (gl_D_123 _) rfl hv_Comparison_length (by decide) (by decide)) rfl (x_rcV B xc_Comparison kd_86) (fun _ _ => rfl) rfl rfl (by simp [Value.category]) rfl (fun r2 e9 => ct_Comparison_length  _ r2 e9) (fun r2 _ => ?_)
    refine s_goto B d_D_witness_12 rfl ?_
    exact s_iret B d_D_witness_23
set_option maxRecDepth 100000 in
set_option maxHeartbeats 4000000 in
theorem ct_D_witness {l : Launch} {D : va_G} {base : Nat} {g : Nat → ClassId} (a1 : Int32) (M : MS) (r : MS × Int32) (hr : m_D_witness a1 M = some r) : Ct l y_D_witness (Cond.code y_D_witness b_D_witness 2 (some .int) :: x_T) 1 21 D x_cl (xty g) base (xwd g) cM x_g0 [.ref 0, .int a1] M r.1 (ovI r.2) :=
  x_met (ov := ovI) (by decide) (Nat.le_of_ble_eq_true rfl) (fun p e R s m args below meth c az B => t_D_witness B a1 M) r hr
end
theorem d_WordCounts_fill_0 : decode b_WordCounts_fill 0 = .ok (.iconst (0), 1) := by decide +kernel
theorem d_WordCounts_fill_1 : decode b_WordCounts_fill 1 = .ok (.istore_n 3, 1) := by decide +kernel
theorem d_WordCounts_fill_2 : decode b_WordCounts_fill 2 = .ok (.iload_n 3, 1) := by decide +kernel
theorem d_WordCounts_fill_3 : decode b_WordCounts_fill 3 = .ok (.aload_n 1, 1) := by decide +kernel
theorem d_WordCounts_fill_4 : decode b_WordCounts_fill 4 = .ok (.invokevirtual 26, 3) := by decide +kernel
theorem d_WordCounts_fill_7 : decode b_WordCounts_fill 7 = .ok (.if_icmp .ge (28), 3) := by decide +kernel
theorem d_WordCounts_fill_10 : decode b_WordCounts_fill 10 = .ok (.aload_n 0, 1) := by decide +kernel
theorem d_WordCounts_fill_11 : decode b_WordCounts_fill 11 = .ok (.getfield 9, 3) := by decide +kernel
theorem d_WordCounts_fill_14 : decode b_WordCounts_fill 14 = .ok (.iload_n 3, 1) := by decide +kernel
theorem d_WordCounts_fill_15 : decode b_WordCounts_fill 15 = .ok (.aload_n 1, 1) := by decide +kernel
theorem d_WordCounts_fill_16 : decode b_WordCounts_fill 16 = .ok (.iload_n 3, 1) := by decide +kernel
theorem d_WordCounts_fill_17 : decode b_WordCounts_fill 17 = .ok (.invokevirtual 32, 3) := by decide +kernel
theorem d_WordCounts_fill_20 : decode b_WordCounts_fill 20 = .ok (.ifCond .eq (7), 3) := by decide +kernel
theorem d_WordCounts_fill_23 : decode b_WordCounts_fill 23 = .ok (.lconst 1, 1) := by decide +kernel
theorem d_WordCounts_fill_24 : decode b_WordCounts_fill 24 = .ok (.goto (4), 3) := by decide +kernel
theorem d_WordCounts_fill_27 : decode b_WordCounts_fill 27 = .ok (.lconst 0, 1) := by decide +kernel
theorem d_WordCounts_fill_28 : decode b_WordCounts_fill 28 = .ok (.lastore, 1) := by decide +kernel
theorem d_WordCounts_fill_29 : decode b_WordCounts_fill 29 = .ok (.iinc 3 (1), 3) := by decide +kernel
theorem d_WordCounts_fill_32 : decode b_WordCounts_fill 32 = .ok (.goto (-30), 3) := by decide +kernel
theorem d_WordCounts_fill_35 : decode b_WordCounts_fill 35 = .ok (.iconst (1), 1) := by decide +kernel
theorem d_WordCounts_fill_36 : decode b_WordCounts_fill 36 = .ok (.istore_n 3, 1) := by decide +kernel
theorem d_WordCounts_fill_37 : decode b_WordCounts_fill 37 = .ok (.iload_n 3, 1) := by decide +kernel
theorem d_WordCounts_fill_38 : decode b_WordCounts_fill 38 = .ok (.iload_n 2, 1) := by decide +kernel
theorem d_WordCounts_fill_39 : decode b_WordCounts_fill 39 = .ok (.if_icmp .gt (86), 3) := by decide +kernel
theorem d_WordCounts_fill_42 : decode b_WordCounts_fill 42 = .ok (.iconst (0), 1) := by decide +kernel
theorem d_WordCounts_fill_43 : decode b_WordCounts_fill 43 = .ok (.istore 4, 2) := by decide +kernel
theorem d_WordCounts_fill_45 : decode b_WordCounts_fill 45 = .ok (.iload 4, 2) := by decide +kernel
theorem d_WordCounts_fill_47 : decode b_WordCounts_fill 47 = .ok (.aload_n 1, 1) := by decide +kernel
theorem d_WordCounts_fill_48 : decode b_WordCounts_fill 48 = .ok (.invokevirtual 26, 3) := by decide +kernel
theorem d_WordCounts_fill_51 : decode b_WordCounts_fill 51 = .ok (.if_icmp .ge (68), 3) := by decide +kernel
theorem d_WordCounts_fill_54 : decode b_WordCounts_fill 54 = .ok (.lconst 0, 1) := by decide +kernel
theorem d_WordCounts_fill_55 : decode b_WordCounts_fill 55 = .ok (.lstore 5, 2) := by decide +kernel
theorem d_WordCounts_fill_57 : decode b_WordCounts_fill 57 = .ok (.iconst (0), 1) := by decide +kernel
theorem d_WordCounts_fill_58 : decode b_WordCounts_fill 58 = .ok (.istore 7, 2) := by decide +kernel
theorem d_WordCounts_fill_60 : decode b_WordCounts_fill 60 = .ok (.iload 7, 2) := by decide +kernel
theorem d_WordCounts_fill_62 : decode b_WordCounts_fill 62 = .ok (.iconst (4), 1) := by decide +kernel
theorem d_WordCounts_fill_63 : decode b_WordCounts_fill 63 = .ok (.if_icmp .ge (35), 3) := by decide +kernel
theorem d_WordCounts_fill_66 : decode b_WordCounts_fill 66 = .ok (.lload 5, 2) := by decide +kernel
theorem d_WordCounts_fill_68 : decode b_WordCounts_fill 68 = .ok (.aload_n 0, 1) := by decide +kernel
theorem d_WordCounts_fill_69 : decode b_WordCounts_fill 69 = .ok (.getfield 9, 3) := by decide +kernel
theorem d_WordCounts_fill_72 : decode b_WordCounts_fill 72 = .ok (.iload_n 3, 1) := by decide +kernel
theorem d_WordCounts_fill_73 : decode b_WordCounts_fill 73 = .ok (.iconst (1), 1) := by decide +kernel
theorem d_WordCounts_fill_74 : decode b_WordCounts_fill 74 = .ok (.isub, 1) := by decide +kernel
theorem d_WordCounts_fill_75 : decode b_WordCounts_fill 75 = .ok (.sipush (150), 3) := by decide +kernel
theorem d_WordCounts_fill_78 : decode b_WordCounts_fill 78 = .ok (.imul, 1) := by decide +kernel
theorem d_WordCounts_fill_79 : decode b_WordCounts_fill 79 = .ok (.aload_n 1, 1) := by decide +kernel
theorem d_WordCounts_fill_80 : decode b_WordCounts_fill 80 = .ok (.iload 4, 2) := by decide +kernel
theorem d_WordCounts_fill_82 : decode b_WordCounts_fill 82 = .ok (.iload 7, 2) := by decide +kernel
theorem d_WordCounts_fill_84 : decode b_WordCounts_fill 84 = .ok (.invokevirtual 36, 3) := by decide +kernel
theorem d_WordCounts_fill_87 : decode b_WordCounts_fill 87 = .ok (.iadd, 1) := by decide +kernel
theorem d_WordCounts_fill_88 : decode b_WordCounts_fill 88 = .ok (.laload, 1) := by decide +kernel
theorem d_WordCounts_fill_89 : decode b_WordCounts_fill 89 = .ok (.ladd, 1) := by decide +kernel
theorem d_WordCounts_fill_90 : decode b_WordCounts_fill 90 = .ok (.lstore 5, 2) := by decide +kernel
theorem d_WordCounts_fill_92 : decode b_WordCounts_fill 92 = .ok (.iinc 7 (1), 3) := by decide +kernel
theorem d_WordCounts_fill_95 : decode b_WordCounts_fill 95 = .ok (.goto (-35), 3) := by decide +kernel
theorem d_WordCounts_fill_98 : decode b_WordCounts_fill 98 = .ok (.aload_n 0, 1) := by decide +kernel
theorem d_WordCounts_fill_99 : decode b_WordCounts_fill 99 = .ok (.getfield 9, 3) := by decide +kernel
theorem d_WordCounts_fill_102 : decode b_WordCounts_fill 102 = .ok (.iload_n 3, 1) := by decide +kernel
theorem d_WordCounts_fill_103 : decode b_WordCounts_fill 103 = .ok (.sipush (150), 3) := by decide +kernel
theorem d_WordCounts_fill_106 : decode b_WordCounts_fill 106 = .ok (.imul, 1) := by decide +kernel
theorem d_WordCounts_fill_107 : decode b_WordCounts_fill 107 = .ok (.iload 4, 2) := by decide +kernel
theorem d_WordCounts_fill_109 : decode b_WordCounts_fill 109 = .ok (.iadd, 1) := by decide +kernel
theorem d_WordCounts_fill_110 : decode b_WordCounts_fill 110 = .ok (.lload 5, 2) := by decide +kernel
theorem d_WordCounts_fill_112 : decode b_WordCounts_fill 112 = .ok (.lastore, 1) := by decide +kernel
theorem d_WordCounts_fill_113 : decode b_WordCounts_fill 113 = .ok (.iinc 4 (1), 3) := by decide +kernel
theorem d_WordCounts_fill_116 : decode b_WordCounts_fill 116 = .ok (.goto (-71), 3) := by decide +kernel
theorem d_WordCounts_fill_119 : decode b_WordCounts_fill 119 = .ok (.iinc 3 (1), 3) := by decide +kernel
theorem d_WordCounts_fill_122 : decode b_WordCounts_fill 122 = .ok (.goto (-85), 3) := by decide +kernel
theorem d_WordCounts_fill_125 : decode b_WordCounts_fill 125 = .ok (.return_, 1) := by decide +kernel
section
variable {p : Program} {l : Launch} {e : Env} {R : Room} {s : State} {m : MethodId} {args : Array Value} {below : List Frame} {meth : Method} {c : Code} {D : va_G} {base : Nat} {g : Nat → ClassId} {az : Nat → Nat} {kz : Nat × Nat}
set_option maxRecDepth 100000 in
set_option maxHeartbeats 4000000 in
theorem t_WordCounts_fill_98 {k37 : Nat × Int32 × Int32 × MS → Option (MS × Unit)} {k45 : Nat × Int32 × Int32 × Int32 × MS → Option (MS × Unit)} (B : xB p R s m args meth c b_WordCounts_fill 8 R_WordCounts (Cond.code y_WordCounts_fill b_WordCounts_fill 8 none :: x_T) none 1 22 D x_cl (xty g) base) (hk37 : ∀ (l1 : Nat) (l2 : Int32) (l3 : Int32) (M : MS) (hl1 : x_kd l1 = 4), Sn p l e R s m args below meth c 8 D x_cl base (xwd g) cM x_g0 az kz (xfc cM) (xZ below args s D x_cl (xty g) base (xwd g) cM x_g0 az kz ovU) 37 [] [(0, .ref 93), (1, .ref l1), (2, .int l2), (3, .int l3)] M (k37 (l1, l2, l3, M))) (hk45 : ∀ (l1 : Nat) (l2 : Int32) (l3 : Int32) (l4 : Int32) (M : MS) (hl1 : x_kd l1 = 4), Sn p l e R s m args below meth c 8 D x_cl base (xwd g) cM x_g0 az kz (xfc cM) (xZ below args s D x_cl (xty g) base (xwd g) cM x_g0 az kz ovU) 45 [] [(0, .ref 93), (1, .ref l1), (2, .int l2), (3, .int l3), (4, .int l4)] M (k45 (l1, l2, l3, l4, M))) (l1 : Nat) (l2 : Int32) (l3 : Int32) (l4 : Int32) (l5 : Int64) (M : MS) (hl1 : x_kd l1 = 4) : Sn p l e R s m args below meth c 8 D x_cl base (xwd g) cM x_g0 az kz (xfc cM) (xZ below args s D x_cl (xty g) base (xwd g) cM x_g0 az kz ovU) 98 [] [(0, .ref 93), (1, .ref l1), (2, .int l2), (3, .int l3), (4, .int l4), (5, .long l5)] M (m_WordCounts_fill_98 k37 k45 l1 l2 l3 l4 l5 M) := by
  unfold m_WordCounts_fill_98
  refine s_aload_n B d_WordCounts_fill_98 rfl ?_
  refine s_getS (k := 0) (n := 94) B xc_WordCounts kd_93 (by decide) rfl rfl fl_WordCounts_9 sr_93_0 d_WordCounts_fill_99 ?_
  refine s_iload_n B d_WordCounts_fill_102 rfl ?_
  refine s_sipush (v := (150:Int32)) B d_WordCounts_fill_103 (by decide) ?_
  refine s_imul B d_WordCounts_fill_106 ?_
  refine s_iload B d_WordCounts_fill_107 rfl ?_
  refine s_iadd B d_WordCounts_fill_109 ?_
  refine s_lload B d_WordCounts_fill_110 rfl ?_
  refine s_last B kd_94 d_WordCounts_fill_112 (fun M1 _ => ?_)
  refine s_iinc (w := (1:Int32)) B d_WordCounts_fill_113 rfl (by decide) (by decide) ?_
  refine s_goto B d_WordCounts_fill_116 rfl ?_
  refine s_pick (lv1 := [(0, .ref 93), (1, .ref l1), (2, .int l2), (3, .int l3), (4, .int (l4 + (1:Int32)))]) [0, 1, 2, 3, 4] rfl ?_
  exact hk45 l1 l2 l3 (l4 + (1:Int32)) M1 hl1
set_option maxRecDepth 100000 in
set_option maxHeartbeats 4000000 in
theorem t_WordCounts_fill_60b {k37 : Nat × Int32 × Int32 × MS → Option (MS × Unit)} {k45 : Nat × Int32 × Int32 × Int32 × MS → Option (MS × Unit)} {k60 : Nat × Int32 × Int32 × Int32 × Int64 × Int32 × MS → Option (MS × Unit)} (B : xB p R s m args meth c b_WordCounts_fill 8 R_WordCounts (Cond.code y_WordCounts_fill b_WordCounts_fill 8 none :: x_T) none 1 22 D x_cl (xty g) base) (hk37 : ∀ (l1 : Nat) (l2 : Int32) (l3 : Int32) (M : MS) (hl1 : x_kd l1 = 4), Sn p l e R s m args below meth c 8 D x_cl base (xwd g) cM x_g0 az kz (xfc cM) (xZ below args s D x_cl (xty g) base (xwd g) cM x_g0 az kz ovU) 37 [] [(0, .ref 93), (1, .ref l1), (2, .int l2), (3, .int l3)] M (k37 (l1, l2, l3, M))) (hk45 : ∀ (l1 : Nat) (l2 : Int32) (l3 : Int32) (l4 : Int32) (M : MS) (hl1 : x_kd l1 = 4), Sn p l e R s m args below meth c 8 D x_cl base (xwd g) cM x_g0 az kz (xfc cM) (xZ below args s D x_cl (xty g) base (xwd g) cM x_g0 az kz ovU) 45 [] [(0, .ref 93), (1, .ref l1), (2, .int l2), (3, .int l3), (4, .int l4)] M (k45 (l1, l2, l3, l4, M))) (hk60 : ∀ (l1 : Nat) (l2 : Int32) (l3 : Int32) (l4 : Int32) (l5 : Int64) (l7 : Int32) (M : MS) (hl1 : x_kd l1 = 4), Sn p l e R s m args below meth c 8 D x_cl base (xwd g) cM x_g0 az kz (xfc cM) (xZ below args s D x_cl (xty g) base (xwd g) cM x_g0 az kz ovU) 60 [] [(0, .ref 93), (1, .ref l1), (2, .int l2), (3, .int l3), (4, .int l4), (5, .long l5), (7, .int l7)] M (k60 (l1, l2, l3, l4, l5, l7, M))) (l1 : Nat) (l2 : Int32) (l3 : Int32) (l4 : Int32) (l5 : Int64) (l7 : Int32) (M : MS) (hl1 : x_kd l1 = 4) : Sn p l e R s m args below meth c 8 D x_cl base (xwd g) cM x_g0 az kz (xfc cM) (xZ below args s D x_cl (xty g) base (xwd g) cM x_g0 az kz ovU) 60 [] [(0, .ref 93), (1, .ref l1), (2, .int l2), (3, .int l3), (4, .int l4), (5, .long l5), (7, .int l7)] M (m_WordCounts_fill_60b k37 k45 k60 l1 l2 l3 l4 l5 l7 M) := by
  unfold m_WordCounts_fill_60b
  refine s_iload B d_WordCounts_fill_60 rfl ?_
  refine s_iconst (v := (4:Int32)) B d_WordCounts_fill_62 (by decide) ?_
  refine s_icmp_ge B d_WordCounts_fill_63 rfl (fun _ => ?_) (fun _ => ?_)
  · refine s_pick (lv1 := [(0, .ref 93), (1, .ref l1), (2, .int l2), (3, .int l3), (4, .int l4), (5, .long l5)]) [0, 1, 2, 3, 4, 5] rfl ?_
    exact t_WordCounts_fill_98 B hk37 hk45 l1 l2 l3 l4 l5 M hl1
  · refine s_lload B d_WordCounts_fill_66 rfl ?_
    refine s_aload_n B d_WordCounts_fill_68 rfl ?_
    refine s_getS (k := 0) (n := 94) B xc_WordCounts kd_93 (by decide) rfl rfl fl_WordCounts_9 sr_93_0 d_WordCounts_fill_69 ?_
    refine s_iload_n B d_WordCounts_fill_72 rfl ?_
    refine s_iconst (v := (1:Int32)) B d_WordCounts_fill_73 (by decide) ?_
    refine s_isub B d_WordCounts_fill_74 ?_
    refine s_sipush (v := (150:Int32)) B d_WordCounts_fill_75 (by decide) ?_
    refine s_imul B d_WordCounts_fill_78 ?_
    refine s_aload_n B d_WordCounts_fill_79 rfl ?_
    refine s_iload B d_WordCounts_fill_80 rfl ?_
    refine s_iload B d_WordCounts_fill_82 rfl ?_
    refine s_pick (lv1 := [(0, .ref 93), (1, .ref l1), (2, .int l2), (3, .int l3), (4, .int l4), (7, .int l7)]) [0, 1, 2, 3, 4, 7] rfl ?_
    refine s_callI (av := [.ref l1, .int l4, .int l7]) (rest := [.int ((l3 - (1:Int32)) * (150:Int32)), .ref 94, .long l5]) B (lk_V B d_WordCounts_fill_84 (gl_WordCounts_36 _) rfl hv_Machine_next (by decide) (by decide)) rfl (x_rcV B xc_Machine hl1) (fun _ _ => rfl) rfl rfl (by simp [Value.category]) rfl (fun r1 e9 => ct_Machine_next _ _ _ _ r1 e9) (fun r1 _ => ?_)
    refine s_iadd B d_WordCounts_fill_87 ?_
    refine s_lald B kd_94 d_WordCounts_fill_88 (fun v2 _ => ?_)
    refine s_ladd B d_WordCounts_fill_89 ?_
    refine s_lstore B d_WordCounts_fill_90 (by decide) ?_
    refine s_iinc (w := (1:Int32)) B d_WordCounts_fill_92 rfl (by decide) (by decide) ?_
    refine s_goto B d_WordCounts_fill_95 rfl ?_
    refine s_pick (lv1 := [(0, .ref 93), (1, .ref l1), (2, .int l2), (3, .int l3), (4, .int l4), (5, .long (l5 + v2)), (7, .int (l7 + (1:Int32)))]) [0, 1, 2, 3, 4, 5, 7] rfl ?_
    exact hk60 l1 l2 l3 l4 (l5 + v2) (l7 + (1:Int32)) r1.1 hl1
set_option maxRecDepth 100000 in
set_option maxHeartbeats 4000000 in
theorem t_WordCounts_fill_60 {k37 : Nat × Int32 × Int32 × MS → Option (MS × Unit)} {k45 : Nat × Int32 × Int32 × Int32 × MS → Option (MS × Unit)} (B : xB p R s m args meth c b_WordCounts_fill 8 R_WordCounts (Cond.code y_WordCounts_fill b_WordCounts_fill 8 none :: x_T) none 1 22 D x_cl (xty g) base) (hk37 : ∀ (l1 : Nat) (l2 : Int32) (l3 : Int32) (M : MS) (hl1 : x_kd l1 = 4), Sn p l e R s m args below meth c 8 D x_cl base (xwd g) cM x_g0 az kz (xfc cM) (xZ below args s D x_cl (xty g) base (xwd g) cM x_g0 az kz ovU) 37 [] [(0, .ref 93), (1, .ref l1), (2, .int l2), (3, .int l3)] M (k37 (l1, l2, l3, M))) (hk45 : ∀ (l1 : Nat) (l2 : Int32) (l3 : Int32) (l4 : Int32) (M : MS) (hl1 : x_kd l1 = 4), Sn p l e R s m args below meth c 8 D x_cl base (xwd g) cM x_g0 az kz (xfc cM) (xZ below args s D x_cl (xty g) base (xwd g) cM x_g0 az kz ovU) 45 [] [(0, .ref 93), (1, .ref l1), (2, .int l2), (3, .int l3), (4, .int l4)] M (k45 (l1, l2, l3, l4, M))) (l1 : Nat) (l2 : Int32) (l3 : Int32) (l4 : Int32) (l5 : Int64) (l7 : Int32) (M : MS) (hl1 : x_kd l1 = 4) : Sn p l e R s m args below meth c 8 D x_cl base (xwd g) cM x_g0 az kz (xfc cM) (xZ below args s D x_cl (xty g) base (xwd g) cM x_g0 az kz ovU) 60 [] [(0, .ref 93), (1, .ref l1), (2, .int l2), (3, .int l3), (4, .int l4), (5, .long l5), (7, .int l7)] M (m_WordCounts_fill_60 k37 k45 (l1, l2, l3, l4, l5, l7, M)) := by
  have q : ∀ (F : Nat) (i : Nat × Int32 × Int32 × Int32 × Int64 × Int32 × MS), x_kd i.1 = 4 → Sn p l e R s m args below meth c 8 D x_cl base (xwd g) cM x_g0 az kz (xfc cM) (xZ below args s D x_cl (xty g) base (xwd g) cM x_g0 az kz ovU) 60 [] [(0, .ref 93), (1, .ref i.1), (2, .int i.2.1), (3, .int i.2.2.1), (4, .int i.2.2.2.1), (5, .long i.2.2.2.2.1), (7, .int i.2.2.2.2.2.1)] i.2.2.2.2.2.2 (fx (fun (k : Nat × Int32 × Int32 × Int32 × Int64 × Int32 × MS → Option (MS × Unit)) (i : Nat × Int32 × Int32 × Int32 × Int64 × Int32 × MS) => m_WordCounts_fill_60b k37 k45 k i.1 i.2.1 i.2.2.1 i.2.2.2.1 i.2.2.2.2.1 i.2.2.2.2.2.1 i.2.2.2.2.2.2) F i) := by
    intro F
    induction F with
    | zero => intro i h0; exact s_none
    | succ F ih => intro i h0; exact t_WordCounts_fill_60b B hk37 hk45 (fun l1 l2 l3 l4 l5 l7 M h0 => ih (l1, l2, l3, l4, l5, l7, M) h0) i.1 i.2.1 i.2.2.1 i.2.2.2.1 i.2.2.2.2.1 i.2.2.2.2.2.1 i.2.2.2.2.2.2 h0
  exact q FU (l1, l2, l3, l4, l5, l7, M) hl1
set_option maxRecDepth 100000 in
set_option maxHeartbeats 4000000 in
theorem t_WordCounts_fill_45b {k37 : Nat × Int32 × Int32 × MS → Option (MS × Unit)} {k45 : Nat × Int32 × Int32 × Int32 × MS → Option (MS × Unit)} (B : xB p R s m args meth c b_WordCounts_fill 8 R_WordCounts (Cond.code y_WordCounts_fill b_WordCounts_fill 8 none :: x_T) none 1 22 D x_cl (xty g) base) (hk37 : ∀ (l1 : Nat) (l2 : Int32) (l3 : Int32) (M : MS) (hl1 : x_kd l1 = 4), Sn p l e R s m args below meth c 8 D x_cl base (xwd g) cM x_g0 az kz (xfc cM) (xZ below args s D x_cl (xty g) base (xwd g) cM x_g0 az kz ovU) 37 [] [(0, .ref 93), (1, .ref l1), (2, .int l2), (3, .int l3)] M (k37 (l1, l2, l3, M))) (hk45 : ∀ (l1 : Nat) (l2 : Int32) (l3 : Int32) (l4 : Int32) (M : MS) (hl1 : x_kd l1 = 4), Sn p l e R s m args below meth c 8 D x_cl base (xwd g) cM x_g0 az kz (xfc cM) (xZ below args s D x_cl (xty g) base (xwd g) cM x_g0 az kz ovU) 45 [] [(0, .ref 93), (1, .ref l1), (2, .int l2), (3, .int l3), (4, .int l4)] M (k45 (l1, l2, l3, l4, M))) (l1 : Nat) (l2 : Int32) (l3 : Int32) (l4 : Int32) (M : MS) (hl1 : x_kd l1 = 4) : Sn p l e R s m args below meth c 8 D x_cl base (xwd g) cM x_g0 az kz (xfc cM) (xZ below args s D x_cl (xty g) base (xwd g) cM x_g0 az kz ovU) 45 [] [(0, .ref 93), (1, .ref l1), (2, .int l2), (3, .int l3), (4, .int l4)] M (m_WordCounts_fill_45b k37 k45 l1 l2 l3 l4 M) := by
  unfold m_WordCounts_fill_45b
  refine s_iload B d_WordCounts_fill_45 rfl ?_
  refine s_aload_n B d_WordCounts_fill_47 rfl ?_
  refine s_pick (lv1 := [(0, .ref 93), (1, .ref l1), (2, .int l2), (3, .int l3), (4, .int l4)]) [0, 1, 2, 3, 4] rfl ?_
  refine s_callI (av := [.ref l1]) (rest := [.int l4]) B (lk_V B d_WordCounts_fill_48 (gl_WordCounts_26 _) rfl hv_Machine_count (by decide) (by decide)) rfl (x_rcV B xc_Machine hl1) (fun _ _ => rfl) rfl rfl (by simp [Value.category]) rfl (fun r1 e9 => ct_Machine_count _ _ r1 e9) (fun r1 _ => ?_)
  refine s_icmp_ge B d_WordCounts_fill_51 rfl (fun _ => ?_) (fun _ => ?_)
  · refine s_iinc (w := (1:Int32)) B d_WordCounts_fill_119 rfl (by decide) (by decide) ?_
    refine s_goto B d_WordCounts_fill_122 rfl ?_
    refine s_pick (lv1 := [(0, .ref 93), (1, .ref l1), (2, .int l2), (3, .int (l3 + (1:Int32)))]) [0, 1, 2, 3] rfl ?_
    exact hk37 l1 l2 (l3 + (1:Int32)) r1.1 hl1
  · refine s_lconst (v := (0:Int64)) B d_WordCounts_fill_54 (by decide) ?_
    refine s_lstore B d_WordCounts_fill_55 (by decide) ?_
    refine s_iconst (v := (0:Int32)) B d_WordCounts_fill_57 (by decide) ?_
    refine s_istore B d_WordCounts_fill_58 (by decide) ?_
    refine s_pick (lv1 := [(0, .ref 93), (1, .ref l1), (2, .int l2), (3, .int l3), (4, .int l4), (5, .long (0:Int64)), (7, .int (0:Int32))]) [0, 1, 2, 3, 4, 5, 7] rfl ?_
    exact t_WordCounts_fill_60 B hk37 hk45 l1 l2 l3 l4 (0:Int64) (0:Int32) r1.1 hl1
set_option maxRecDepth 100000 in
set_option maxHeartbeats 4000000 in
theorem t_WordCounts_fill_45 {k37 : Nat × Int32 × Int32 × MS → Option (MS × Unit)} (B : xB p R s m args meth c b_WordCounts_fill 8 R_WordCounts (Cond.code y_WordCounts_fill b_WordCounts_fill 8 none :: x_T) none 1 22 D x_cl (xty g) base) (hk37 : ∀ (l1 : Nat) (l2 : Int32) (l3 : Int32) (M : MS) (hl1 : x_kd l1 = 4), Sn p l e R s m args below meth c 8 D x_cl base (xwd g) cM x_g0 az kz (xfc cM) (xZ below args s D x_cl (xty g) base (xwd g) cM x_g0 az kz ovU) 37 [] [(0, .ref 93), (1, .ref l1), (2, .int l2), (3, .int l3)] M (k37 (l1, l2, l3, M))) (l1 : Nat) (l2 : Int32) (l3 : Int32) (l4 : Int32) (M : MS) (hl1 : x_kd l1 = 4) : Sn p l e R s m args below meth c 8 D x_cl base (xwd g) cM x_g0 az kz (xfc cM) (xZ below args s D x_cl (xty g) base (xwd g) cM x_g0 az kz ovU) 45 [] [(0, .ref 93), (1, .ref l1), (2, .int l2), (3, .int l3), (4, .int l4)] M (m_WordCounts_fill_45 k37 (l1, l2, l3, l4, M)) := by
  have q : ∀ (F : Nat) (i : Nat × Int32 × Int32 × Int32 × MS), x_kd i.1 = 4 → Sn p l e R s m args below meth c 8 D x_cl base (xwd g) cM x_g0 az kz (xfc cM) (xZ below args s D x_cl (xty g) base (xwd g) cM x_g0 az kz ovU) 45 [] [(0, .ref 93), (1, .ref i.1), (2, .int i.2.1), (3, .int i.2.2.1), (4, .int i.2.2.2.1)] i.2.2.2.2 (fx (fun (k : Nat × Int32 × Int32 × Int32 × MS → Option (MS × Unit)) (i : Nat × Int32 × Int32 × Int32 × MS) => m_WordCounts_fill_45b k37 k i.1 i.2.1 i.2.2.1 i.2.2.2.1 i.2.2.2.2) F i) := by
    intro F
    induction F with
    | zero => intro i h0; exact s_none
    | succ F ih => intro i h0; exact t_WordCounts_fill_45b B hk37 (fun l1 l2 l3 l4 M h0 => ih (l1, l2, l3, l4, M) h0) i.1 i.2.1 i.2.2.1 i.2.2.2.1 i.2.2.2.2 h0
  exact q FU (l1, l2, l3, l4, M) hl1
set_option maxRecDepth 100000 in
set_option maxHeartbeats 4000000 in
theorem t_WordCounts_fill_37b {k37 : Nat × Int32 × Int32 × MS → Option (MS × Unit)} (B : xB p R s m args meth c b_WordCounts_fill 8 R_WordCounts (Cond.code y_WordCounts_fill b_WordCounts_fill 8 none :: x_T) none 1 22 D x_cl (xty g) base) (hk37 : ∀ (l1 : Nat) (l2 : Int32) (l3 : Int32) (M : MS) (hl1 : x_kd l1 = 4), Sn p l e R s m args below meth c 8 D x_cl base (xwd g) cM x_g0 az kz (xfc cM) (xZ below args s D x_cl (xty g) base (xwd g) cM x_g0 az kz ovU) 37 [] [(0, .ref 93), (1, .ref l1), (2, .int l2), (3, .int l3)] M (k37 (l1, l2, l3, M))) (l1 : Nat) (l2 : Int32) (l3 : Int32) (M : MS) (hl1 : x_kd l1 = 4) : Sn p l e R s m args below meth c 8 D x_cl base (xwd g) cM x_g0 az kz (xfc cM) (xZ below args s D x_cl (xty g) base (xwd g) cM x_g0 az kz ovU) 37 [] [(0, .ref 93), (1, .ref l1), (2, .int l2), (3, .int l3)] M (m_WordCounts_fill_37b k37 l1 l2 l3 M) := by
  unfold m_WordCounts_fill_37b
  refine s_iload_n B d_WordCounts_fill_37 rfl ?_
  refine s_iload_n B d_WordCounts_fill_38 rfl ?_
  refine s_icmp_gt B d_WordCounts_fill_39 rfl (fun _ => ?_) (fun _ => ?_)
  · exact s_vret B d_WordCounts_fill_125
  · refine s_iconst (v := (0:Int32)) B d_WordCounts_fill_42 (by decide) ?_
    refine s_istore B d_WordCounts_fill_43 (by decide) ?_
    refine s_pick (lv1 := [(0, .ref 93), (1, .ref l1), (2, .int l2), (3, .int l3), (4, .int (0:Int32))]) [0, 1, 2, 3, 4] rfl ?_
    exact t_WordCounts_fill_45 B hk37 l1 l2 l3 (0:Int32) M hl1
set_option maxRecDepth 100000 in
set_option maxHeartbeats 4000000 in
theorem t_WordCounts_fill_37  (B : xB p R s m args meth c b_WordCounts_fill 8 R_WordCounts (Cond.code y_WordCounts_fill b_WordCounts_fill 8 none :: x_T) none 1 22 D x_cl (xty g) base)  (l1 : Nat) (l2 : Int32) (l3 : Int32) (M : MS) (hl1 : x_kd l1 = 4) : Sn p l e R s m args below meth c 8 D x_cl base (xwd g) cM x_g0 az kz (xfc cM) (xZ below args s D x_cl (xty g) base (xwd g) cM x_g0 az kz ovU) 37 [] [(0, .ref 93), (1, .ref l1), (2, .int l2), (3, .int l3)] M (m_WordCounts_fill_37 (l1, l2, l3, M)) := by
  have q : ∀ (F : Nat) (i : Nat × Int32 × Int32 × MS), x_kd i.1 = 4 → Sn p l e R s m args below meth c 8 D x_cl base (xwd g) cM x_g0 az kz (xfc cM) (xZ below args s D x_cl (xty g) base (xwd g) cM x_g0 az kz ovU) 37 [] [(0, .ref 93), (1, .ref i.1), (2, .int i.2.1), (3, .int i.2.2.1)] i.2.2.2 (fx (fun (k : Nat × Int32 × Int32 × MS → Option (MS × Unit)) (i : Nat × Int32 × Int32 × MS) => m_WordCounts_fill_37b k i.1 i.2.1 i.2.2.1 i.2.2.2) F i) := by
    intro F
    induction F with
    | zero => intro i h0; exact s_none
    | succ F ih => intro i h0; exact t_WordCounts_fill_37b B  (fun l1 l2 l3 M h0 => ih (l1, l2, l3, M) h0) i.1 i.2.1 i.2.2.1 i.2.2.2 h0
  exact q FU (l1, l2, l3, M) hl1
set_option maxRecDepth 100000 in
set_option maxHeartbeats 4000000 in
theorem t_WordCounts_fill_28 {k2 : Nat × Int32 × Int32 × MS → Option (MS × Unit)} (B : xB p R s m args meth c b_WordCounts_fill 8 R_WordCounts (Cond.code y_WordCounts_fill b_WordCounts_fill 8 none :: x_T) none 1 22 D x_cl (xty g) base) (hk2 : ∀ (l1 : Nat) (l2 : Int32) (l3 : Int32) (M : MS) (hl1 : x_kd l1 = 4), Sn p l e R s m args below meth c 8 D x_cl base (xwd g) cM x_g0 az kz (xfc cM) (xZ below args s D x_cl (xty g) base (xwd g) cM x_g0 az kz ovU) 2 [] [(0, .ref 93), (1, .ref l1), (2, .int l2), (3, .int l3)] M (k2 (l1, l2, l3, M))) (l1 : Nat) (l2 : Int32) (l3 : Int32) (s1 : Int32) (s2 : Int64) (M : MS) (hl1 : x_kd l1 = 4) : Sn p l e R s m args below meth c 8 D x_cl base (xwd g) cM x_g0 az kz (xfc cM) (xZ below args s D x_cl (xty g) base (xwd g) cM x_g0 az kz ovU) 28 [.long s2, .int s1, .ref 94] [(0, .ref 93), (1, .ref l1), (2, .int l2), (3, .int l3)] M (m_WordCounts_fill_28 k2 l1 l2 l3 s1 s2 M) := by
  unfold m_WordCounts_fill_28
  refine s_last B kd_94 d_WordCounts_fill_28 (fun M1 _ => ?_)
  refine s_iinc (w := (1:Int32)) B d_WordCounts_fill_29 rfl (by decide) (by decide) ?_
  refine s_goto B d_WordCounts_fill_32 rfl ?_
  refine s_pick (lv1 := [(0, .ref 93), (1, .ref l1), (2, .int l2), (3, .int (l3 + (1:Int32)))]) [0, 1, 2, 3] rfl ?_
  exact hk2 l1 l2 (l3 + (1:Int32)) M1 hl1
set_option maxRecDepth 100000 in
set_option maxHeartbeats 4000000 in
theorem t_WordCounts_fill_2b {k2 : Nat × Int32 × Int32 × MS → Option (MS × Unit)} (B : xB p R s m args meth c b_WordCounts_fill 8 R_WordCounts (Cond.code y_WordCounts_fill b_WordCounts_fill 8 none :: x_T) none 1 22 D x_cl (xty g) base) (hk2 : ∀ (l1 : Nat) (l2 : Int32) (l3 : Int32) (M : MS) (hl1 : x_kd l1 = 4), Sn p l e R s m args below meth c 8 D x_cl base (xwd g) cM x_g0 az kz (xfc cM) (xZ below args s D x_cl (xty g) base (xwd g) cM x_g0 az kz ovU) 2 [] [(0, .ref 93), (1, .ref l1), (2, .int l2), (3, .int l3)] M (k2 (l1, l2, l3, M))) (l1 : Nat) (l2 : Int32) (l3 : Int32) (M : MS) (hl1 : x_kd l1 = 4) : Sn p l e R s m args below meth c 8 D x_cl base (xwd g) cM x_g0 az kz (xfc cM) (xZ below args s D x_cl (xty g) base (xwd g) cM x_g0 az kz ovU) 2 [] [(0, .ref 93), (1, .ref l1), (2, .int l2), (3, .int l3)] M (m_WordCounts_fill_2b k2 l1 l2 l3 M) := by
  unfold m_WordCounts_fill_2b
  refine s_iload_n B d_WordCounts_fill_2 rfl ?_
  refine s_aload_n B d_WordCounts_fill_3 rfl ?_
  refine s_pick (lv1 := [(0, .ref 93), (1, .ref l1), (2, .int l2), (3, .int l3)]) [0, 1, 2, 3] rfl ?_
  refine s_callI (av := [.ref l1]) (rest := [.int l3]) B (lk_V B d_WordCounts_fill_4 (gl_WordCounts_26 _) rfl hv_Machine_count (by decide) (by decide)) rfl (x_rcV B xc_Machine hl1) (fun _ _ => rfl) rfl rfl (by simp [Value.category]) rfl (fun r1 e9 => ct_Machine_count _ _ r1 e9) (fun r1 _ => ?_)
  refine s_icmp_ge B d_WordCounts_fill_7 rfl (fun _ => ?_) (fun _ => ?_)
  · refine s_iconst (v := (1:Int32)) B d_WordCounts_fill_35 (by decide) ?_
    refine s_istore_n B d_WordCounts_fill_36 (by decide) ?_
    refine s_pick (lv1 := [(0, .ref 93), (1, .ref l1), (2, .int l2), (3, .int (1:Int32))]) [0, 1, 2, 3] rfl ?_
    exact t_WordCounts_fill_37 B l1 l2 (1:Int32) r1.1 hl1
  · refine s_aload_n B d_WordCounts_fill_10 rfl ?_
    refine s_getS (k := 0) (n := 94) B xc_WordCounts kd_93 (by decide) rfl rfl fl_WordCounts_9 sr_93_0 d_WordCounts_fill_11 ?_
    refine s_iload_n B d_WordCounts_fill_14 rfl ?_
    refine s_aload_n B d_WordCounts_fill_15 rfl ?_
    refine s_iload_n B d_WordCounts_fill_16 rfl ?_
    refine s_pick (lv1 := [(0, .ref 93), (1, .ref l1), (2, .int l2), (3, .int l3)]) [0, 1, 2, 3] rfl ?_
    refine s_callI (av := [.ref l1, .int l3]) (rest := [.int l3, .ref 94]) B (lk_V B d_WordCounts_fill_17 (gl_WordCounts_32 _) rfl hv_Machine_isAccepting (by decide) (by decide)) rfl (x_rcV B xc_Machine hl1) (fun _ _ => rfl) rfl rfl (by simp [Value.category]) rfl (fun r2 e9 => ct_Machine_isAccepting _ _ _ r2 e9) (fun r2 _ => ?_)
    refine s_if_eq B d_WordCounts_fill_20 rfl (fun _ => ?_) (fun _ => ?_)
    · refine s_lconst (v := (0:Int64)) B d_WordCounts_fill_27 (by decide) ?_
      refine s_pick (lv1 := [(0, .ref 93), (1, .ref l1), (2, .int l2), (3, .int l3)]) [0, 1, 2, 3] rfl ?_
      exact t_WordCounts_fill_28 B hk2 l1 l2 l3 l3 (0:Int64) r2.1 hl1
    · refine s_lconst (v := (1:Int64)) B d_WordCounts_fill_23 (by decide) ?_
      refine s_goto B d_WordCounts_fill_24 rfl ?_
      refine s_pick (lv1 := [(0, .ref 93), (1, .ref l1), (2, .int l2), (3, .int l3)]) [0, 1, 2, 3] rfl ?_
      exact t_WordCounts_fill_28 B hk2 l1 l2 l3 l3 (1:Int64) r2.1 hl1
set_option maxRecDepth 100000 in
set_option maxHeartbeats 4000000 in
theorem t_WordCounts_fill_2  (B : xB p R s m args meth c b_WordCounts_fill 8 R_WordCounts (Cond.code y_WordCounts_fill b_WordCounts_fill 8 none :: x_T) none 1 22 D x_cl (xty g) base)  (l1 : Nat) (l2 : Int32) (l3 : Int32) (M : MS) (hl1 : x_kd l1 = 4) : Sn p l e R s m args below meth c 8 D x_cl base (xwd g) cM x_g0 az kz (xfc cM) (xZ below args s D x_cl (xty g) base (xwd g) cM x_g0 az kz ovU) 2 [] [(0, .ref 93), (1, .ref l1), (2, .int l2), (3, .int l3)] M (m_WordCounts_fill_2 (l1, l2, l3, M)) := by
  have q : ∀ (F : Nat) (i : Nat × Int32 × Int32 × MS), x_kd i.1 = 4 → Sn p l e R s m args below meth c 8 D x_cl base (xwd g) cM x_g0 az kz (xfc cM) (xZ below args s D x_cl (xty g) base (xwd g) cM x_g0 az kz ovU) 2 [] [(0, .ref 93), (1, .ref i.1), (2, .int i.2.1), (3, .int i.2.2.1)] i.2.2.2 (fx (fun (k : Nat × Int32 × Int32 × MS → Option (MS × Unit)) (i : Nat × Int32 × Int32 × MS) => m_WordCounts_fill_2b k i.1 i.2.1 i.2.2.1 i.2.2.2) F i) := by
    intro F
    induction F with
    | zero => intro i h0; exact s_none
    | succ F ih => intro i h0; exact t_WordCounts_fill_2b B  (fun l1 l2 l3 M h0 => ih (l1, l2, l3, M) h0) i.1 i.2.1 i.2.2.1 i.2.2.2 h0
  exact q FU (l1, l2, l3, M) hl1
set_option maxRecDepth 100000 in
set_option maxHeartbeats 4000000 in
theorem t_WordCounts_fill (B : xB p R s m args meth c b_WordCounts_fill 8 R_WordCounts (Cond.code y_WordCounts_fill b_WordCounts_fill 8 none :: x_T) none 1 22 D x_cl (xty g) base) (a1 : Nat) (a2 : Int32) (M : MS) : Sn p l e R s m args below meth c 8 D x_cl base (xwd g) cM x_g0 az kz (xfc cM) (xZ below args s D x_cl (xty g) base (xwd g) cM x_g0 az kz ovU) 0 [] [(0, .ref 93), (1, .ref a1), (2, .int a2)] M (m_WordCounts_fill a1 a2 M) := by
  unfold m_WordCounts_fill
  refine s_guard (fun ha1 => ?_)
  refine s_iconst (v := (0:Int32)) B d_WordCounts_fill_0 (by decide) ?_
  refine s_istore_n B d_WordCounts_fill_1 (by decide) ?_
  refine s_pick (lv1 := [(0, .ref 93), (1, .ref a1), (2, .int a2), (3, .int (0:Int32))]) [0, 1, 2, 3] rfl ?_
  exact t_WordCounts_fill_2 B a1 a2 (0:Int32) M ha1
set_option maxRecDepth 100000 in
set_option maxHeartbeats 4000000 in
theorem ct_WordCounts_fill {l : Launch} {D : va_G} {base : Nat} {g : Nat → ClassId} (a1 : Nat) (a2 : Int32) (M : MS) (r : MS × Unit) (hr : m_WordCounts_fill a1 a2 M = some r) : Ct l y_WordCounts_fill (Cond.code y_WordCounts_fill b_WordCounts_fill 8 none :: x_T) 1 22 D x_cl (xty g) base (xwd g) cM x_g0 [.ref 93, .ref a1, .int a2] M r.1 (ovU r.2) :=
  x_met (ov := ovU) (by decide) (Nat.le_of_ble_eq_true rfl) (fun p e R s m args below meth c az B => t_WordCounts_fill B a1 a2 M) r hr
end
theorem d_WordCounts_ofLength_0 : decode b_WordCounts_ofLength 0 = .ok (.aload_n 0, 1) := by decide +kernel
theorem d_WordCounts_ofLength_1 : decode b_WordCounts_ofLength 1 = .ok (.aload_n 1, 1) := by decide +kernel
theorem d_WordCounts_ofLength_2 : decode b_WordCounts_ofLength 2 = .ok (.iload_n 2, 1) := by decide +kernel
theorem d_WordCounts_ofLength_3 : decode b_WordCounts_ofLength 3 = .ok (.invokevirtual 22, 3) := by decide +kernel
theorem d_WordCounts_ofLength_6 : decode b_WordCounts_ofLength 6 = .ok (.aload_n 0, 1) := by decide +kernel
theorem d_WordCounts_ofLength_7 : decode b_WordCounts_ofLength 7 = .ok (.getfield 9, 3) := by decide +kernel
theorem d_WordCounts_ofLength_10 : decode b_WordCounts_ofLength 10 = .ok (.iload_n 2, 1) := by decide +kernel
theorem d_WordCounts_ofLength_11 : decode b_WordCounts_ofLength 11 = .ok (.sipush (150), 3) := by decide +kernel
theorem d_WordCounts_ofLength_14 : decode b_WordCounts_ofLength 14 = .ok (.imul, 1) := by decide +kernel
theorem d_WordCounts_ofLength_15 : decode b_WordCounts_ofLength 15 = .ok (.laload, 1) := by decide +kernel
theorem d_WordCounts_ofLength_16 : decode b_WordCounts_ofLength 16 = .ok (.lreturn, 1) := by decide +kernel
section
variable {p : Program} {l : Launch} {e : Env} {R : Room} {s : State} {m : MethodId} {args : Array Value} {below : List Frame} {meth : Method} {c : Code} {D : va_G} {base : Nat} {g : Nat → ClassId} {az : Nat → Nat} {kz : Nat × Nat}
set_option maxRecDepth 100000 in
set_option maxHeartbeats 4000000 in
theorem t_WordCounts_ofLength (B : xB p R s m args meth c b_WordCounts_ofLength 3 R_WordCounts (Cond.code y_WordCounts_ofLength b_WordCounts_ofLength 3 (some .long) :: x_T) (some .long) 2 49 D x_cl (xty g) base) (a1 : Nat) (a2 : Int32) (M : MS) : Sn p l e R s m args below meth c 3 D x_cl base (xwd g) cM x_g0 az kz (xfc cM) (xZ below args s D x_cl (xty g) base (xwd g) cM x_g0 az kz ovL) 0 [] [(0, .ref 93), (1, .ref a1), (2, .int a2)] M (m_WordCounts_ofLength a1 a2 M) := by
  unfold m_WordCounts_ofLength
  refine s_guard (fun ha1 => ?_)
  refine s_aload_n B d_WordCounts_ofLength_0 rfl ?_
  refine s_aload_n B d_WordCounts_ofLength_1 rfl ?_
  refine s_iload_n B d_WordCounts_ofLength_2 rfl ?_
  refine s_pick (lv1 := [(0, .ref 93), (2, .int a2)]) [0, 2] rfl ?_
  refine s_callU (av := [.ref 93, .ref a1, .int a2]) (rest := []) B (lk_V B d_WordCounts_ofLength_3 (gl_WordCounts_22 _) rfl hv_WordCounts_fill (by decide) (by decide)) rfl (x_rcV B xc_WordCounts kd_93) (fun _ _ => rfl) rfl rfl (by simp [Value.category]) rfl (fun r1 e9 => ct_WordCounts_fill _ _ _ r1 e9) (fun r1 _ => ?_)
  refine s_aload_n B d_WordCounts_ofLength_6 rfl ?_
  refine s_getS (k := 0) (n := 94) B xc_WordCounts kd_93 (by decide) rfl rfl fl_WordCounts_9 sr_93_0 d_WordCounts_ofLength_7 ?_
  refine s_iload_n B d_WordCounts_ofLength_10 rfl ?_
  refine s_sipush (v := (150:Int32)) B d_WordCounts_ofLength_11 (by decide) ?_
  refine s_imul B d_WordCounts_ofLength_14 ?_
  refine s_lald B kd_94 d_WordCounts_ofLength_15 (fun v2 _ => ?_)
  exact s_lret B d_WordCounts_ofLength_16
set_option maxRecDepth 100000 in
set_option maxHeartbeats 4000000 in
theorem ct_WordCounts_ofLength {l : Launch} {D : va_G} {base : Nat} {g : Nat → ClassId} (a1 : Nat) (a2 : Int32) (M : MS) (r : MS × Int64) (hr : m_WordCounts_ofLength a1 a2 M = some r) : Ct l y_WordCounts_ofLength (Cond.code y_WordCounts_ofLength b_WordCounts_ofLength 3 (some .long) :: x_T) 2 49 D x_cl (xty g) base (xwd g) cM x_g0 [.ref 93, .ref a1, .int a2] M r.1 (ovL r.2) :=
  x_met (ov := ovL) (by decide) (Nat.le_of_ble_eq_true rfl) (fun p e R s m args below meth c az B => t_WordCounts_ofLength B a1 a2 M) r hr
end
theorem d_D_words_0 : decode b_D_words 0 = .ok (.iload_n 1, 1) := by decide +kernel
theorem d_D_words_1 : decode b_D_words 1 = .ok (.invokestatic 61, 3) := by decide +kernel
theorem d_D_words_4 : decode b_D_words 4 = .ok (.iload_n 2, 1) := by decide +kernel
theorem d_D_words_5 : decode b_D_words 5 = .ok (.bipush (16), 2) := by decide +kernel
theorem d_D_words_7 : decode b_D_words 7 = .ok (.invokestatic 65, 3) := by decide +kernel
theorem d_D_words_10 : decode b_D_words 10 = .ok (.aload_n 0, 1) := by decide +kernel
theorem d_D_words_11 : decode b_D_words 11 = .ok (.getfield 23, 3) := by decide +kernel
theorem d_D_words_14 : decode b_D_words 14 = .ok (.iload_n 1, 1) := by decide +kernel
theorem d_D_words_15 : decode b_D_words 15 = .ok (.aload_n 0, 1) := by decide +kernel
theorem d_D_words_16 : decode b_D_words 16 = .ok (.getfield 16, 3) := by decide +kernel
theorem d_D_words_19 : decode b_D_words 19 = .ok (.aload_n 0, 1) := by decide +kernel
theorem d_D_words_20 : decode b_D_words 20 = .ok (.getfield 9, 3) := by decide +kernel
theorem d_D_words_23 : decode b_D_words 23 = .ok (.invokevirtual 98, 3) := by decide +kernel
theorem d_D_words_26 : decode b_D_words 26 = .ok (.astore_n 3, 1) := by decide +kernel
theorem d_D_words_27 : decode b_D_words 27 = .ok (.aload_n 3, 1) := by decide +kernel
theorem d_D_words_28 : decode b_D_words 28 = .ok (.invokevirtual 108, 3) := by decide +kernel
theorem d_D_words_31 : decode b_D_words 31 = .ok (.ifCond .eq (9), 3) := by decide +kernel
theorem d_D_words_34 : decode b_D_words 34 = .ok (.ldc2_w 129, 3) := by decide +kernel
theorem d_D_words_37 : decode b_D_words 37 = .ok (.goto (12), 3) := by decide +kernel
theorem d_D_words_40 : decode b_D_words 40 = .ok (.aload_n 0, 1) := by decide +kernel
theorem d_D_words_41 : decode b_D_words 41 = .ok (.getfield 51, 3) := by decide +kernel
theorem d_D_words_44 : decode b_D_words 44 = .ok (.aload_n 3, 1) := by decide +kernel
theorem d_D_words_45 : decode b_D_words 45 = .ok (.iload_n 2, 1) := by decide +kernel
theorem d_D_words_46 : decode b_D_words 46 = .ok (.invokevirtual 131, 3) := by decide +kernel
theorem d_D_words_49 : decode b_D_words 49 = .ok (.lreturn, 1) := by decide +kernel
section
variable {p : Program} {l : Launch} {e : Env} {R : Room} {s : State} {m : MethodId} {args : Array Value} {below : List Frame} {meth : Method} {c : Code} {D : va_G} {base : Nat} {g : Nat → ClassId} {az : Nat → Nat} {kz : Nat × Nat}
set_option maxRecDepth 100000 in
set_option maxHeartbeats 4000000 in
theorem t_D_words (B : xB p R s m args meth c b_D_words 4 R_D (Cond.code y_D_words b_D_words 4 (some .long) :: x_T) (some .long) 10 240 D x_cl (xty g) base) (a1 : Int32) (a2 : Int32) (M : MS) : Sn p l e R s m args below meth c 4 D x_cl base (xwd g) cM x_gr az kz (xfc cM) (xZ below args s D x_cl (xty g) base (xwd g) cM x_gr az kz ovL) 0 [] [(0, .ref 0), (1, .int a1), (2, .int a2)] M (m_D_words a1 a2 M) := by
  unfold m_D_words
  refine s_iload_n B d_D_words_0 rfl ?_
  refine s_pick (lv1 := [(0, .ref 0), (1, .int a1), (2, .int a2)]) [0, 1, 2] rfl ?_
  refine s_callU (av := [.int a1]) (rest := []) B (lk_S B d_D_words_1 (gl_D_61 _) (List.mem_cons_of_mem _ st_D_checkSlot) (List.mem_cons_of_mem _ in_D) (List.mem_cons_of_mem _ ml_D_61) rfl hs_D_checkSlot (by decide) (by decide)) rfl x_rcS (fun _ _ => rfl) rfl rfl (by simp [Value.category]) rfl (fun r1 e9 => ct_D_checkSlot _ _ r1 e9) (fun r1 _ => ?_)
  refine s_iload_n B d_D_words_4 rfl ?_
  refine s_bipush (v := (16:Int32)) B d_D_words_5 (by decide) ?_
  refine s_pick (lv1 := [(0, .ref 0), (1, .int a1), (2, .int a2)]) [0, 1, 2] rfl ?_
  refine s_callU (av := [.int a2, .int (16:Int32)]) (rest := []) B (lk_S B d_D_words_7 (gl_D_65 _) (List.mem_cons_of_mem _ st_D_checkRange) (List.mem_cons_of_mem _ in_D) (List.mem_cons_of_mem _ ml_D_65) rfl hs_D_checkRange (by decide) (by decide)) rfl x_rcS (fun _ _ => rfl) rfl rfl (by simp [Value.category]) rfl (fun r2 e9 => ct_D_checkRange _ _ _ r2 e9) (fun r2 _ => ?_)
  refine s_aload_n B d_D_words_10 rfl ?_
  refine s_getS (k := 2) (n := 24) B xc_D kd_0 (by decide) rfl rfl fl_D_23 sr_0_2 d_D_words_11 ?_
  refine s_iload_n B d_D_words_14 rfl ?_
  refine s_aload_n B d_D_words_15 rfl ?_
  refine s_getS (k := 1) (n := 2) B xc_D kd_0 (by decide) rfl rfl fl_D_16 sr_0_1 d_D_words_16 ?_
  refine s_aload_n B d_D_words_19 rfl ?_
  refine s_getS (k := 0) (n := 1) B xc_D kd_0 (by decide) rfl rfl fl_D_9 sr_0_0 d_D_words_20 ?_
  refine s_pick (lv1 := [(0, .ref 0), (2, .int a2)]) [0, 2] rfl ?_
  refine s_callR (av := [.ref 24, .int a1, .ref 2, .ref 1]) (rest := []) B (lk_V B d_D_words_23 (gl_D_98 _) rfl hv_Explorer_machineOf (by decide) (by decide)) rfl (x_rcV B xc_Explorer kd_24) (fun _ h => h) rfl (by simp [xng, x_gr, kd_0]) (by simp [Value.category]) rfl (fun r3 e9 => ct_Explorer_machineOf _ _ r3 e9) (fun r3 _ => ?_)
  refine s_guard (fun h4 => ?_)
  refine s_astore_n B d_D_words_26 (by decide) ?_
  refine s_aload_n B d_D_words_27 rfl ?_
  refine s_pick (lv1 := [(0, .ref 0), (2, .int a2), (3, .ref r3.2)]) [0, 2, 3] rfl ?_
  refine s_callI (av := [.ref r3.2]) (rest := []) B (lk_V B d_D_words_28 (gl_D_108 _) rfl hv_Machine_isTooLarge (by decide) (by decide)) rfl (x_rcV B xc_Machine h4) (fun _ _ => rfl) rfl rfl (by simp [Value.category]) rfl (fun r5 e9 => ct_Machine_isTooLarge _ _ r5 e9) (fun r5 _ => ?_)
  refine s_if_eq B d_D_words_31 rfl (fun _ => ?_) (fun _ => ?_)
  · refine s_aload_n B d_D_words_40 rfl ?_
    refine s_getS (k := 6) (n := 93) B xc_D kd_0 (by decide) rfl rfl fl_D_51 sr_0_6 d_D_words_41 ?_
    refine s_aload_n B d_D_words_44 rfl ?_
    refine s_iload_n B d_D_words_45 rfl ?_
    refine s_pick (lv1 := []) [] rfl ?_
    refine s_callL (av := [.ref 93, .ref r3.2, .int a2]) (rest := []) B (lk_V B d_D_words_46 (gl_D_131 _) rfl hv_WordCounts_ofLength (by decide) (by decide)) rfl (x_rcV B xc_WordCounts kd_93) (fun _ _ => rfl) rfl rfl (by simp [Value.category]) rfl (fun r6 e9 => ct_WordCounts_ofLength _ _ _ r6 e9) (fun r6 _ => ?_)
    exact s_lret B d_D_words_49
  · refine s_ldc2 (v := (-1:Int64)) B d_D_words_34 (List.mem_cons_of_mem _ cs_D_129) ?_
    refine s_goto B d_D_words_37 rfl ?_
    exact s_lret B d_D_words_49
set_option maxRecDepth 100000 in
set_option maxHeartbeats 4000000 in
theorem ct_D_words {l : Launch} {D : va_G} {base : Nat} {g : Nat → ClassId} (a1 : Int32) (a2 : Int32) (M : MS) (r : MS × Int64) (hr : m_D_words a1 a2 M = some r) : Ct l y_D_words (Cond.code y_D_words b_D_words 4 (some .long) :: x_T) 10 240 D x_cl (xty g) base (xwd g) cM x_gr [.ref 0, .int a1, .int a2] M r.1 (ovL r.2) :=
  x_met (ov := ovL) (by decide) (Nat.le_of_ble_eq_true rfl) (fun p e R s m args below meth c az B => t_D_words B a1 a2 M) r hr
end
theorem d_WordCounts_stepBack_0 : decode b_WordCounts_stepBack 0 = .ok (.iconst (0), 1) := by decide +kernel
theorem d_WordCounts_stepBack_1 : decode b_WordCounts_stepBack 1 = .ok (.istore_n 2, 1) := by decide +kernel
theorem d_WordCounts_stepBack_2 : decode b_WordCounts_stepBack 2 = .ok (.iconst (0), 1) := by decide +kernel
theorem d_WordCounts_stepBack_3 : decode b_WordCounts_stepBack 3 = .ok (.istore_n 3, 1) := by decide +kernel
theorem d_WordCounts_stepBack_4 : decode b_WordCounts_stepBack 4 = .ok (.iload_n 3, 1) := by decide +kernel
theorem d_WordCounts_stepBack_5 : decode b_WordCounts_stepBack 5 = .ok (.aload_n 1, 1) := by decide +kernel
theorem d_WordCounts_stepBack_6 : decode b_WordCounts_stepBack 6 = .ok (.invokevirtual 26, 3) := by decide +kernel
theorem d_WordCounts_stepBack_9 : decode b_WordCounts_stepBack 9 = .ok (.if_icmp .ge (77), 3) := by decide +kernel
theorem d_WordCounts_stepBack_12 : decode b_WordCounts_stepBack 12 = .ok (.iconst (0), 1) := by decide +kernel
theorem d_WordCounts_stepBack_13 : decode b_WordCounts_stepBack 13 = .ok (.istore 4, 2) := by decide +kernel
theorem d_WordCounts_stepBack_15 : decode b_WordCounts_stepBack 15 = .ok (.iconst (0), 1) := by decide +kernel
theorem d_WordCounts_stepBack_16 : decode b_WordCounts_stepBack 16 = .ok (.istore 5, 2) := by decide +kernel
theorem d_WordCounts_stepBack_18 : decode b_WordCounts_stepBack 18 = .ok (.iload 5, 2) := by decide +kernel
theorem d_WordCounts_stepBack_20 : decode b_WordCounts_stepBack 20 = .ok (.iconst (4), 1) := by decide +kernel
theorem d_WordCounts_stepBack_21 : decode b_WordCounts_stepBack 21 = .ok (.if_icmp .ge (36), 3) := by decide +kernel
theorem d_WordCounts_stepBack_24 : decode b_WordCounts_stepBack 24 = .ok (.iload 4, 2) := by decide +kernel
theorem d_WordCounts_stepBack_26 : decode b_WordCounts_stepBack 26 = .ok (.ifCond .ne (18), 3) := by decide +kernel
theorem d_WordCounts_stepBack_29 : decode b_WordCounts_stepBack 29 = .ok (.aload_n 0, 1) := by decide +kernel
theorem d_WordCounts_stepBack_30 : decode b_WordCounts_stepBack 30 = .ok (.getfield 15, 3) := by decide +kernel
theorem d_WordCounts_stepBack_33 : decode b_WordCounts_stepBack 33 = .ok (.aload_n 1, 1) := by decide +kernel
theorem d_WordCounts_stepBack_34 : decode b_WordCounts_stepBack 34 = .ok (.iload_n 3, 1) := by decide +kernel
theorem d_WordCounts_stepBack_35 : decode b_WordCounts_stepBack 35 = .ok (.iload 5, 2) := by decide +kernel
theorem d_WordCounts_stepBack_37 : decode b_WordCounts_stepBack 37 = .ok (.invokevirtual 36, 3) := by decide +kernel
theorem d_WordCounts_stepBack_40 : decode b_WordCounts_stepBack 40 = .ok (.baload, 1) := by decide +kernel
theorem d_WordCounts_stepBack_41 : decode b_WordCounts_stepBack 41 = .ok (.ifCond .eq (7), 3) := by decide +kernel
theorem d_WordCounts_stepBack_44 : decode b_WordCounts_stepBack 44 = .ok (.iconst (1), 1) := by decide +kernel
theorem d_WordCounts_stepBack_45 : decode b_WordCounts_stepBack 45 = .ok (.goto (4), 3) := by decide +kernel
theorem d_WordCounts_stepBack_48 : decode b_WordCounts_stepBack 48 = .ok (.iconst (0), 1) := by decide +kernel
theorem d_WordCounts_stepBack_49 : decode b_WordCounts_stepBack 49 = .ok (.istore 4, 2) := by decide +kernel
theorem d_WordCounts_stepBack_51 : decode b_WordCounts_stepBack 51 = .ok (.iinc 5 (1), 3) := by decide +kernel
theorem d_WordCounts_stepBack_54 : decode b_WordCounts_stepBack 54 = .ok (.goto (-36), 3) := by decide +kernel
theorem d_WordCounts_stepBack_57 : decode b_WordCounts_stepBack 57 = .ok (.aload_n 0, 1) := by decide +kernel
theorem d_WordCounts_stepBack_58 : decode b_WordCounts_stepBack 58 = .ok (.getfield 19, 3) := by decide +kernel
theorem d_WordCounts_stepBack_61 : decode b_WordCounts_stepBack 61 = .ok (.iload_n 3, 1) := by decide +kernel
theorem d_WordCounts_stepBack_62 : decode b_WordCounts_stepBack 62 = .ok (.iload 4, 2) := by decide +kernel
theorem d_WordCounts_stepBack_64 : decode b_WordCounts_stepBack 64 = .ok (.bastore, 1) := by decide +kernel
theorem d_WordCounts_stepBack_65 : decode b_WordCounts_stepBack 65 = .ok (.iload_n 2, 1) := by decide +kernel
theorem d_WordCounts_stepBack_66 : decode b_WordCounts_stepBack 66 = .ok (.ifCond .ne (8), 3) := by decide +kernel
theorem d_WordCounts_stepBack_69 : decode b_WordCounts_stepBack 69 = .ok (.iload 4, 2) := by decide +kernel
theorem d_WordCounts_stepBack_71 : decode b_WordCounts_stepBack 71 = .ok (.ifCond .eq (7), 3) := by decide +kernel
theorem d_WordCounts_stepBack_74 : decode b_WordCounts_stepBack 74 = .ok (.iconst (1), 1) := by decide +kernel
theorem d_WordCounts_stepBack_75 : decode b_WordCounts_stepBack 75 = .ok (.goto (4), 3) := by decide +kernel
theorem d_WordCounts_stepBack_78 : decode b_WordCounts_stepBack 78 = .ok (.iconst (0), 1) := by decide +kernel
theorem d_WordCounts_stepBack_79 : decode b_WordCounts_stepBack 79 = .ok (.istore_n 2, 1) := by decide +kernel
theorem d_WordCounts_stepBack_80 : decode b_WordCounts_stepBack 80 = .ok (.iinc 3 (1), 3) := by decide +kernel
theorem d_WordCounts_stepBack_83 : decode b_WordCounts_stepBack 83 = .ok (.goto (-79), 3) := by decide +kernel
theorem d_WordCounts_stepBack_86 : decode b_WordCounts_stepBack 86 = .ok (.aload_n 0, 1) := by decide +kernel
theorem d_WordCounts_stepBack_87 : decode b_WordCounts_stepBack 87 = .ok (.getfield 15, 3) := by decide +kernel
theorem d_WordCounts_stepBack_90 : decode b_WordCounts_stepBack 90 = .ok (.astore_n 3, 1) := by decide +kernel
theorem d_WordCounts_stepBack_91 : decode b_WordCounts_stepBack 91 = .ok (.aload_n 0, 1) := by decide +kernel
theorem d_WordCounts_stepBack_92 : decode b_WordCounts_stepBack 92 = .ok (.aload_n 0, 1) := by decide +kernel
theorem d_WordCounts_stepBack_93 : decode b_WordCounts_stepBack 93 = .ok (.getfield 19, 3) := by decide +kernel
theorem d_WordCounts_stepBack_96 : decode b_WordCounts_stepBack 96 = .ok (.putfield 15, 3) := by decide +kernel
theorem d_WordCounts_stepBack_99 : decode b_WordCounts_stepBack 99 = .ok (.aload_n 0, 1) := by decide +kernel
theorem d_WordCounts_stepBack_100 : decode b_WordCounts_stepBack 100 = .ok (.aload_n 3, 1) := by decide +kernel
theorem d_WordCounts_stepBack_101 : decode b_WordCounts_stepBack 101 = .ok (.putfield 19, 3) := by decide +kernel
theorem d_WordCounts_stepBack_104 : decode b_WordCounts_stepBack 104 = .ok (.iload_n 2, 1) := by decide +kernel
theorem d_WordCounts_stepBack_105 : decode b_WordCounts_stepBack 105 = .ok (.ireturn, 1) := by decide +kernel
section
variable {p : Program} {l : Launch} {e : Env} {R : Room} {s : State} {m : MethodId} {args : Array Value} {below : List Frame} {meth : Method} {c : Code} {D : va_G} {base : Nat} {g : Nat → ClassId} {az : Nat → Nat} {kz : Nat × Nat}
set_option maxRecDepth 100000 in
set_option maxHeartbeats 4000000 in
theorem t_WordCounts_stepBack_86  (B : xB p R s m args meth c b_WordCounts_stepBack 6 R_WordCounts (Cond.code y_WordCounts_stepBack b_WordCounts_stepBack 6 (some .boolean) :: x_T) (some .boolean) 1 22 D x_cl (xty g) base)  (l2 : Int32) (M : MS)  : Sn p l e R s m args below meth c 6 D x_cl base (xwd g) cM x_g0 az kz (xfc cM) (xZ below args s D x_cl (xty g) base (xwd g) cM x_g0 az kz ovI) 86 [] [(0, .ref 93), (2, .int l2)] M (m_WordCounts_stepBack_86 l2 M) := by
  unfold m_WordCounts_stepBack_86
  refine s_aload_n B d_WordCounts_stepBack_86 rfl ?_
  refine s_getD (k := 1) B xc_WordCounts kd_93 (by decide) rfl rfl fl_WordCounts_15 d_WordCounts_stepBack_87 ?_
  refine s_guard (fun h1 => ?_)
  refine s_astore_n B d_WordCounts_stepBack_90 (by decide) ?_
  refine s_aload_n B d_WordCounts_stepBack_91 rfl ?_
  refine s_aload_n B d_WordCounts_stepBack_92 rfl ?_
  refine s_getD (k := 2) B xc_WordCounts kd_93 (by decide) rfl rfl fl_WordCounts_19 d_WordCounts_stepBack_93 ?_
  refine s_guard (fun h2 => ?_)
  refine s_putD (k := 1) (ty := .array .boolean) B xc_WordCounts kd_93 (by decide) rfl rfl fl_WordCounts_15 rfl rfl (fun _ => rfl) (fun _ => rfl) d_WordCounts_stepBack_96 (fun M3 _ => ?_)
  refine s_aload_n B d_WordCounts_stepBack_99 rfl ?_
  refine s_aload_n B d_WordCounts_stepBack_100 rfl ?_
  refine s_putD (k := 2) (ty := .array .boolean) B xc_WordCounts kd_93 (by decide) rfl rfl fl_WordCounts_19 rfl rfl (fun _ => rfl) (fun _ => rfl) d_WordCounts_stepBack_101 (fun M4 _ => ?_)
  refine s_iload_n B d_WordCounts_stepBack_104 rfl ?_
  exact s_zret B d_WordCounts_stepBack_105
set_option maxRecDepth 100000 in
set_option maxHeartbeats 4000000 in
theorem t_WordCounts_stepBack_57 {k4 : Nat × Int32 × Int32 × MS → Option (MS × Int32)} (B : xB p R s m args meth c b_WordCounts_stepBack 6 R_WordCounts (Cond.code y_WordCounts_stepBack b_WordCounts_stepBack 6 (some .boolean) :: x_T) (some .boolean) 1 22 D x_cl (xty g) base) (hk4 : ∀ (l1 : Nat) (l2 : Int32) (l3 : Int32) (M : MS) (hl1 : x_kd l1 = 4), Sn p l e R s m args below meth c 6 D x_cl base (xwd g) cM x_g0 az kz (xfc cM) (xZ below args s D x_cl (xty g) base (xwd g) cM x_g0 az kz ovI) 4 [] [(0, .ref 93), (1, .ref l1), (2, .int l2), (3, .int l3)] M (k4 (l1, l2, l3, M))) (l1 : Nat) (l2 : Int32) (l3 : Int32) (l4 : Int32) (M : MS) (hl1 : x_kd l1 = 4) : Sn p l e R s m args below meth c 6 D x_cl base (xwd g) cM x_g0 az kz (xfc cM) (xZ below args s D x_cl (xty g) base (xwd g) cM x_g0 az kz ovI) 57 [] [(0, .ref 93), (1, .ref l1), (2, .int l2), (3, .int l3), (4, .int l4)] M (m_WordCounts_stepBack_57 k4 l1 l2 l3 l4 M) := by
  unfold m_WordCounts_stepBack_57
  refine s_aload_n B d_WordCounts_stepBack_57 rfl ?_
  refine s_getD (k := 2) B xc_WordCounts kd_93 (by decide) rfl rfl fl_WordCounts_19 d_WordCounts_stepBack_58 ?_
  refine s_guard (fun h1 => ?_)
  refine s_iload_n B d_WordCounts_stepBack_61 rfl ?_
  refine s_iload B d_WordCounts_stepBack_62 rfl ?_
  refine s_zast B h1 d_WordCounts_stepBack_64 (fun M2 _ => ?_)
  refine s_iload_n B d_WordCounts_stepBack_65 rfl ?_
  refine s_if_ne B d_WordCounts_stepBack_66 rfl (fun _ => ?_) (fun _ => ?_)
  · refine s_iconst (v := (1:Int32)) B d_WordCounts_stepBack_74 (by decide) ?_
    refine s_goto B d_WordCounts_stepBack_75 rfl ?_
    refine s_istore_n B d_WordCounts_stepBack_79 (by decide) ?_
    refine s_iinc (w := (1:Int32)) B d_WordCounts_stepBack_80 rfl (by decide) (by decide) ?_
    refine s_goto B d_WordCounts_stepBack_83 rfl ?_
    refine s_pick (lv1 := [(0, .ref 93), (1, .ref l1), (2, .int (1:Int32)), (3, .int (l3 + (1:Int32)))]) [0, 1, 2, 3] rfl ?_
    exact hk4 l1 (1:Int32) (l3 + (1:Int32)) M2 hl1
  · refine s_iload B d_WordCounts_stepBack_69 rfl ?_
    refine s_if_eq B d_WordCounts_stepBack_71 rfl (fun _ => ?_) (fun _ => ?_)
    · refine s_iconst (v := (0:Int32)) B d_WordCounts_stepBack_78 (by decide) ?_
      refine s_istore_n B d_WordCounts_stepBack_79 (by decide) ?_
      refine s_iinc (w := (1:Int32)) B d_WordCounts_stepBack_80 rfl (by decide) (by decide) ?_
      refine s_goto B d_WordCounts_stepBack_83 rfl ?_
      refine s_pick (lv1 := [(0, .ref 93), (1, .ref l1), (2, .int (0:Int32)), (3, .int (l3 + (1:Int32)))]) [0, 1, 2, 3] rfl ?_
      exact hk4 l1 (0:Int32) (l3 + (1:Int32)) M2 hl1
    · refine s_iconst (v := (1:Int32)) B d_WordCounts_stepBack_74 (by decide) ?_
      refine s_goto B d_WordCounts_stepBack_75 rfl ?_
      refine s_istore_n B d_WordCounts_stepBack_79 (by decide) ?_
      refine s_iinc (w := (1:Int32)) B d_WordCounts_stepBack_80 rfl (by decide) (by decide) ?_
      refine s_goto B d_WordCounts_stepBack_83 rfl ?_
      refine s_pick (lv1 := [(0, .ref 93), (1, .ref l1), (2, .int (1:Int32)), (3, .int (l3 + (1:Int32)))]) [0, 1, 2, 3] rfl ?_
      exact hk4 l1 (1:Int32) (l3 + (1:Int32)) M2 hl1
set_option maxRecDepth 100000 in
set_option maxHeartbeats 4000000 in
theorem t_WordCounts_stepBack_18b {k4 : Nat × Int32 × Int32 × MS → Option (MS × Int32)} {k18 : Nat × Int32 × Int32 × Int32 × Int32 × MS → Option (MS × Int32)} (B : xB p R s m args meth c b_WordCounts_stepBack 6 R_WordCounts (Cond.code y_WordCounts_stepBack b_WordCounts_stepBack 6 (some .boolean) :: x_T) (some .boolean) 1 22 D x_cl (xty g) base) (hk4 : ∀ (l1 : Nat) (l2 : Int32) (l3 : Int32) (M : MS) (hl1 : x_kd l1 = 4), Sn p l e R s m args below meth c 6 D x_cl base (xwd g) cM x_g0 az kz (xfc cM) (xZ below args s D x_cl (xty g) base (xwd g) cM x_g0 az kz ovI) 4 [] [(0, .ref 93), (1, .ref l1), (2, .int l2), (3, .int l3)] M (k4 (l1, l2, l3, M))) (hk18 : ∀ (l1 : Nat) (l2 : Int32) (l3 : Int32) (l4 : Int32) (l5 : Int32) (M : MS) (hl1 : x_kd l1 = 4), Sn p l e R s m args below meth c 6 D x_cl base (xwd g) cM x_g0 az kz (xfc cM) (xZ below args s D x_cl (xty g) base (xwd g) cM x_g0 az kz ovI) 18 [] [(0, .ref 93), (1, .ref l1), (2, .int l2), (3, .int l3), (4, .int l4), (5, .int l5)] M (k18 (l1, l2, l3, l4, l5, M))) (l1 : Nat) (l2 : Int32) (l3 : Int32) (l4 : Int32) (l5 : Int32) (M : MS) (hl1 : x_kd l1 = 4) : Sn p l e R s m args below meth c 6 D x_cl base (xwd g) cM x_g0 az kz (xfc cM) (xZ below args s D x_cl (xty g) base (xwd g) cM x_g0 az kz ovI) 18 [] [(0, .ref 93), (1, .ref l1), (2, .int l2), (3, .int l3), (4, .int l4), (5, .int l5)] M (m_WordCounts_stepBack_18b k4 k18 l1 l2 l3 l4 l5 M) := by
  unfold m_WordCounts_stepBack_18b
  refine s_iload B d_WordCounts_stepBack_18 rfl ?_
  refine s_iconst (v := (4:Int32)) B d_WordCounts_stepBack_20 (by decide) ?_
  refine s_icmp_ge B d_WordCounts_stepBack_21 rfl (fun _ => ?_) (fun _ => ?_)
  · refine s_pick (lv1 := [(0, .ref 93), (1, .ref l1), (2, .int l2), (3, .int l3), (4, .int l4)]) [0, 1, 2, 3, 4] rfl ?_
    exact t_WordCounts_stepBack_57 B hk4 l1 l2 l3 l4 M hl1
  · refine s_iload B d_WordCounts_stepBack_24 rfl ?_
    refine s_if_ne B d_WordCounts_stepBack_26 rfl (fun _ => ?_) (fun _ => ?_)
    · refine s_iconst (v := (1:Int32)) B d_WordCounts_stepBack_44 (by decide) ?_
      refine s_goto B d_WordCounts_stepBack_45 rfl ?_
      refine s_istore B d_WordCounts_stepBack_49 (by decide) ?_
      refine s_iinc (w := (1:Int32)) B d_WordCounts_stepBack_51 rfl (by decide) (by decide) ?_
      refine s_goto B d_WordCounts_stepBack_54 rfl ?_
      refine s_pick (lv1 := [(0, .ref 93), (1, .ref l1), (2, .int l2), (3, .int l3), (4, .int (1:Int32)), (5, .int (l5 + (1:Int32)))]) [0, 1, 2, 3, 4, 5] rfl ?_
      exact hk18 l1 l2 l3 (1:Int32) (l5 + (1:Int32)) M hl1
    · refine s_aload_n B d_WordCounts_stepBack_29 rfl ?_
      refine s_getD (k := 1) B xc_WordCounts kd_93 (by decide) rfl rfl fl_WordCounts_15 d_WordCounts_stepBack_30 ?_
      refine s_guard (fun h1 => ?_)
      refine s_aload_n B d_WordCounts_stepBack_33 rfl ?_
      refine s_iload_n B d_WordCounts_stepBack_34 rfl ?_
      refine s_iload B d_WordCounts_stepBack_35 rfl ?_
      refine s_pick (lv1 := [(0, .ref 93), (1, .ref l1), (2, .int l2), (3, .int l3), (5, .int l5)]) [0, 1, 2, 3, 5] rfl ?_
      refine s_callI (av := [.ref l1, .int l3, .int l5]) (rest := [.ref (gD M 93 1)]) B (lk_V B d_WordCounts_stepBack_37 (gl_WordCounts_36 _) rfl hv_Machine_next (by decide) (by decide)) rfl (x_rcV B xc_Machine hl1) (fun _ _ => rfl) rfl rfl (by simp [Value.category]) rfl (fun r2 e9 => ct_Machine_next _ _ _ _ r2 e9) (fun r2 _ => ?_)
      refine s_zald B h1 d_WordCounts_stepBack_40 (fun v3 _ => ?_)
      refine s_if_eq B d_WordCounts_stepBack_41 rfl (fun _ => ?_) (fun _ => ?_)
      · refine s_iconst (v := (0:Int32)) B d_WordCounts_stepBack_48 (by decide) ?_
        refine s_istore B d_WordCounts_stepBack_49 (by decide) ?_
        refine s_iinc (w := (1:Int32)) B d_WordCounts_stepBack_51 rfl (by decide) (by decide) ?_
        refine s_goto B d_WordCounts_stepBack_54 rfl ?_
        refine s_pick (lv1 := [(0, .ref 93), (1, .ref l1), (2, .int l2), (3, .int l3), (4, .int (0:Int32)), (5, .int (l5 + (1:Int32)))]) [0, 1, 2, 3, 4, 5] rfl ?_
        exact hk18 l1 l2 l3 (0:Int32) (l5 + (1:Int32)) r2.1 hl1
      · refine s_iconst (v := (1:Int32)) B d_WordCounts_stepBack_44 (by decide) ?_
        refine s_goto B d_WordCounts_stepBack_45 rfl ?_
        refine s_istore B d_WordCounts_stepBack_49 (by decide) ?_
        refine s_iinc (w := (1:Int32)) B d_WordCounts_stepBack_51 rfl (by decide) (by decide) ?_
        refine s_goto B d_WordCounts_stepBack_54 rfl ?_
        refine s_pick (lv1 := [(0, .ref 93), (1, .ref l1), (2, .int l2), (3, .int l3), (4, .int (1:Int32)), (5, .int (l5 + (1:Int32)))]) [0, 1, 2, 3, 4, 5] rfl ?_
        exact hk18 l1 l2 l3 (1:Int32) (l5 + (1:Int32)) r2.1 hl1
set_option maxRecDepth 100000 in
set_option maxHeartbeats 4000000 in
theorem t_WordCounts_stepBack_18 {k4 : Nat × Int32 × Int32 × MS → Option (MS × Int32)} (B : xB p R s m args meth c b_WordCounts_stepBack 6 R_WordCounts (Cond.code y_WordCounts_stepBack b_WordCounts_stepBack 6 (some .boolean) :: x_T) (some .boolean) 1 22 D x_cl (xty g) base) (hk4 : ∀ (l1 : Nat) (l2 : Int32) (l3 : Int32) (M : MS) (hl1 : x_kd l1 = 4), Sn p l e R s m args below meth c 6 D x_cl base (xwd g) cM x_g0 az kz (xfc cM) (xZ below args s D x_cl (xty g) base (xwd g) cM x_g0 az kz ovI) 4 [] [(0, .ref 93), (1, .ref l1), (2, .int l2), (3, .int l3)] M (k4 (l1, l2, l3, M))) (l1 : Nat) (l2 : Int32) (l3 : Int32) (l4 : Int32) (l5 : Int32) (M : MS) (hl1 : x_kd l1 = 4) : Sn p l e R s m args below meth c 6 D x_cl base (xwd g) cM x_g0 az kz (xfc cM) (xZ below args s D x_cl (xty g) base (xwd g) cM x_g0 az kz ovI) 18 [] [(0, .ref 93), (1, .ref l1), (2, .int l2), (3, .int l3), (4, .int l4), (5, .int l5)] M (m_WordCounts_stepBack_18 k4 (l1, l2, l3, l4, l5, M)) := by
  have q : ∀ (F : Nat) (i : Nat × Int32 × Int32 × Int32 × Int32 × MS), x_kd i.1 = 4 → Sn p l e R s m args below meth c 6 D x_cl base (xwd g) cM x_g0 az kz (xfc cM) (xZ below args s D x_cl (xty g) base (xwd g) cM x_g0 az kz ovI) 18 [] [(0, .ref 93), (1, .ref i.1), (2, .int i.2.1), (3, .int i.2.2.1), (4, .int i.2.2.2.1), (5, .int i.2.2.2.2.1)] i.2.2.2.2.2 (fx (fun (k : Nat × Int32 × Int32 × Int32 × Int32 × MS → Option (MS × Int32)) (i : Nat × Int32 × Int32 × Int32 × Int32 × MS) => m_WordCounts_stepBack_18b k4 k i.1 i.2.1 i.2.2.1 i.2.2.2.1 i.2.2.2.2.1 i.2.2.2.2.2) F i) := by
    intro F
    induction F with
    | zero => intro i h0; exact s_none
    | succ F ih => intro i h0; exact t_WordCounts_stepBack_18b B hk4 (fun l1 l2 l3 l4 l5 M h0 => ih (l1, l2, l3, l4, l5, M) h0) i.1 i.2.1 i.2.2.1 i.2.2.2.1 i.2.2.2.2.1 i.2.2.2.2.2 h0
  exact q FU (l1, l2, l3, l4, l5, M) hl1
set_option maxRecDepth 100000 in
set_option maxHeartbeats 4000000 in
theorem t_WordCounts_stepBack_4b {k4 : Nat × Int32 × Int32 × MS → Option (MS × Int32)} (B : xB p R s m args meth c b_WordCounts_stepBack 6 R_WordCounts (Cond.code y_WordCounts_stepBack b_WordCounts_stepBack 6 (some .boolean) :: x_T) (some .boolean) 1 22 D x_cl (xty g) base) (hk4 : ∀ (l1 : Nat) (l2 : Int32) (l3 : Int32) (M : MS) (hl1 : x_kd l1 = 4), Sn p l e R s m args below meth c 6 D x_cl base (xwd g) cM x_g0 az kz (xfc cM) (xZ below args s D x_cl (xty g) base (xwd g) cM x_g0 az kz ovI) 4 [] [(0, .ref 93), (1, .ref l1), (2, .int l2), (3, .int l3)] M (k4 (l1, l2, l3, M))) (l1 : Nat) (l2 : Int32) (l3 : Int32) (M : MS) (hl1 : x_kd l1 = 4) : Sn p l e R s m args below meth c 6 D x_cl base (xwd g) cM x_g0 az kz (xfc cM) (xZ below args s D x_cl (xty g) base (xwd g) cM x_g0 az kz ovI) 4 [] [(0, .ref 93), (1, .ref l1), (2, .int l2), (3, .int l3)] M (m_WordCounts_stepBack_4b k4 l1 l2 l3 M) := by
  unfold m_WordCounts_stepBack_4b
  refine s_iload_n B d_WordCounts_stepBack_4 rfl ?_
  refine s_aload_n B d_WordCounts_stepBack_5 rfl ?_
  refine s_pick (lv1 := [(0, .ref 93), (1, .ref l1), (2, .int l2), (3, .int l3)]) [0, 1, 2, 3] rfl ?_
  refine s_callI (av := [.ref l1]) (rest := [.int l3]) B (lk_V B d_WordCounts_stepBack_6 (gl_WordCounts_26 _) rfl hv_Machine_count (by decide) (by decide)) rfl (x_rcV B xc_Machine hl1) (fun _ _ => rfl) rfl rfl (by simp [Value.category]) rfl (fun r1 e9 => ct_Machine_count _ _ r1 e9) (fun r1 _ => ?_)
  refine s_icmp_ge B d_WordCounts_stepBack_9 rfl (fun _ => ?_) (fun _ => ?_)
  · refine s_pick (lv1 := [(0, .ref 93), (2, .int l2)]) [0, 2] rfl ?_
    exact t_WordCounts_stepBack_86 B l2 r1.1
  · refine s_iconst (v := (0:Int32)) B d_WordCounts_stepBack_12 (by decide) ?_
    refine s_istore B d_WordCounts_stepBack_13 (by decide) ?_
    refine s_iconst (v := (0:Int32)) B d_WordCounts_stepBack_15 (by decide) ?_
    refine s_istore B d_WordCounts_stepBack_16 (by decide) ?_
    refine s_pick (lv1 := [(0, .ref 93), (1, .ref l1), (2, .int l2), (3, .int l3), (4, .int (0:Int32)), (5, .int (0:Int32))]) [0, 1, 2, 3, 4, 5] rfl ?_
    exact t_WordCounts_stepBack_18 B hk4 l1 l2 l3 (0:Int32) (0:Int32) r1.1 hl1
set_option maxRecDepth 100000 in
set_option maxHeartbeats 4000000 in
theorem t_WordCounts_stepBack_4  (B : xB p R s m args meth c b_WordCounts_stepBack 6 R_WordCounts (Cond.code y_WordCounts_stepBack b_WordCounts_stepBack 6 (some .boolean) :: x_T) (some .boolean) 1 22 D x_cl (xty g) base)  (l1 : Nat) (l2 : Int32) (l3 : Int32) (M : MS) (hl1 : x_kd l1 = 4) : Sn p l e R s m args below meth c 6 D x_cl base (xwd g) cM x_g0 az kz (xfc cM) (xZ below args s D x_cl (xty g) base (xwd g) cM x_g0 az kz ovI) 4 [] [(0, .ref 93), (1, .ref l1), (2, .int l2), (3, .int l3)] M (m_WordCounts_stepBack_4 (l1, l2, l3, M)) := by
  have q : ∀ (F : Nat) (i : Nat × Int32 × Int32 × MS), x_kd i.1 = 4 → Sn p l e R s m args below meth c 6 D x_cl base (xwd g) cM x_g0 az kz (xfc cM) (xZ below args s D x_cl (xty g) base (xwd g) cM x_g0 az kz ovI) 4 [] [(0, .ref 93), (1, .ref i.1), (2, .int i.2.1), (3, .int i.2.2.1)] i.2.2.2 (fx (fun (k : Nat × Int32 × Int32 × MS → Option (MS × Int32)) (i : Nat × Int32 × Int32 × MS) => m_WordCounts_stepBack_4b k i.1 i.2.1 i.2.2.1 i.2.2.2) F i) := by
    intro F
    induction F with
    | zero => intro i h0; exact s_none
    | succ F ih => intro i h0; exact t_WordCounts_stepBack_4b B  (fun l1 l2 l3 M h0 => ih (l1, l2, l3, M) h0) i.1 i.2.1 i.2.2.1 i.2.2.2 h0
  exact q FU (l1, l2, l3, M) hl1
set_option maxRecDepth 100000 in
set_option maxHeartbeats 4000000 in
theorem t_WordCounts_stepBack (B : xB p R s m args meth c b_WordCounts_stepBack 6 R_WordCounts (Cond.code y_WordCounts_stepBack b_WordCounts_stepBack 6 (some .boolean) :: x_T) (some .boolean) 1 22 D x_cl (xty g) base) (a1 : Nat) (M : MS) : Sn p l e R s m args below meth c 6 D x_cl base (xwd g) cM x_g0 az kz (xfc cM) (xZ below args s D x_cl (xty g) base (xwd g) cM x_g0 az kz ovI) 0 [] [(0, .ref 93), (1, .ref a1)] M (m_WordCounts_stepBack a1 M) := by
  unfold m_WordCounts_stepBack
  refine s_guard (fun ha1 => ?_)
  refine s_iconst (v := (0:Int32)) B d_WordCounts_stepBack_0 (by decide) ?_
  refine s_istore_n B d_WordCounts_stepBack_1 (by decide) ?_
  refine s_iconst (v := (0:Int32)) B d_WordCounts_stepBack_2 (by decide) ?_
  refine s_istore_n B d_WordCounts_stepBack_3 (by decide) ?_
  refine s_pick (lv1 := [(0, .ref 93), (1, .ref a1), (2, .int (0:Int32)), (3, .int (0:Int32))]) [0, 1, 2, 3] rfl ?_
  exact t_WordCounts_stepBack_4 B a1 (0:Int32) (0:Int32) M ha1
set_option maxRecDepth 100000 in
set_option maxHeartbeats 4000000 in
theorem ct_WordCounts_stepBack {l : Launch} {D : va_G} {base : Nat} {g : Nat → ClassId} (a1 : Nat) (M : MS) (r : MS × Int32) (hr : m_WordCounts_stepBack a1 M = some r) : Ct l y_WordCounts_stepBack (Cond.code y_WordCounts_stepBack b_WordCounts_stepBack 6 (some .boolean) :: x_T) 1 22 D x_cl (xty g) base (xwd g) cM x_g0 [.ref 93, .ref a1] M r.1 (ovI r.2) :=
  x_met (ov := ovI) (by decide) (Nat.le_of_ble_eq_true rfl) (fun p e R s m args below meth c az B => t_WordCounts_stepBack B a1 M) r hr
end
theorem d_WordCounts_isFinite_0 : decode b_WordCounts_isFinite 0 = .ok (.aload_n 1, 1) := by decide +kernel
theorem d_WordCounts_isFinite_1 : decode b_WordCounts_isFinite 1 = .ok (.invokevirtual 26, 3) := by decide +kernel
theorem d_WordCounts_isFinite_4 : decode b_WordCounts_isFinite 4 = .ok (.istore_n 2, 1) := by decide +kernel
theorem d_WordCounts_isFinite_5 : decode b_WordCounts_isFinite 5 = .ok (.iconst (0), 1) := by decide +kernel
theorem d_WordCounts_isFinite_6 : decode b_WordCounts_isFinite 6 = .ok (.istore_n 3, 1) := by decide +kernel
theorem d_WordCounts_isFinite_7 : decode b_WordCounts_isFinite 7 = .ok (.iconst (0), 1) := by decide +kernel
theorem d_WordCounts_isFinite_8 : decode b_WordCounts_isFinite 8 = .ok (.istore 4, 2) := by decide +kernel
theorem d_WordCounts_isFinite_10 : decode b_WordCounts_isFinite 10 = .ok (.iload 4, 2) := by decide +kernel
theorem d_WordCounts_isFinite_12 : decode b_WordCounts_isFinite 12 = .ok (.iload_n 2, 1) := by decide +kernel
theorem d_WordCounts_isFinite_13 : decode b_WordCounts_isFinite 13 = .ok (.if_icmp .ge (42), 3) := by decide +kernel
theorem d_WordCounts_isFinite_16 : decode b_WordCounts_isFinite 16 = .ok (.aload_n 0, 1) := by decide +kernel
theorem d_WordCounts_isFinite_17 : decode b_WordCounts_isFinite 17 = .ok (.getfield 15, 3) := by decide +kernel
theorem d_WordCounts_isFinite_20 : decode b_WordCounts_isFinite 20 = .ok (.iload 4, 2) := by decide +kernel
theorem d_WordCounts_isFinite_22 : decode b_WordCounts_isFinite 22 = .ok (.aload_n 1, 1) := by decide +kernel
theorem d_WordCounts_isFinite_23 : decode b_WordCounts_isFinite 23 = .ok (.iload 4, 2) := by decide +kernel
theorem d_WordCounts_isFinite_25 : decode b_WordCounts_isFinite 25 = .ok (.invokevirtual 32, 3) := by decide +kernel
theorem d_WordCounts_isFinite_28 : decode b_WordCounts_isFinite 28 = .ok (.bastore, 1) := by decide +kernel
theorem d_WordCounts_isFinite_29 : decode b_WordCounts_isFinite 29 = .ok (.iload_n 3, 1) := by decide +kernel
theorem d_WordCounts_isFinite_30 : decode b_WordCounts_isFinite 30 = .ok (.ifCond .ne (13), 3) := by decide +kernel
theorem d_WordCounts_isFinite_33 : decode b_WordCounts_isFinite 33 = .ok (.aload_n 0, 1) := by decide +kernel
theorem d_WordCounts_isFinite_34 : decode b_WordCounts_isFinite 34 = .ok (.getfield 15, 3) := by decide +kernel
theorem d_WordCounts_isFinite_37 : decode b_WordCounts_isFinite 37 = .ok (.iload 4, 2) := by decide +kernel
theorem d_WordCounts_isFinite_39 : decode b_WordCounts_isFinite 39 = .ok (.baload, 1) := by decide +kernel
theorem d_WordCounts_isFinite_40 : decode b_WordCounts_isFinite 40 = .ok (.ifCond .eq (7), 3) := by decide +kernel
theorem d_WordCounts_isFinite_43 : decode b_WordCounts_isFinite 43 = .ok (.iconst (1), 1) := by decide +kernel
theorem d_WordCounts_isFinite_44 : decode b_WordCounts_isFinite 44 = .ok (.goto (4), 3) := by decide +kernel
theorem d_WordCounts_isFinite_47 : decode b_WordCounts_isFinite 47 = .ok (.iconst (0), 1) := by decide +kernel
theorem d_WordCounts_isFinite_48 : decode b_WordCounts_isFinite 48 = .ok (.istore_n 3, 1) := by decide +kernel
theorem d_WordCounts_isFinite_49 : decode b_WordCounts_isFinite 49 = .ok (.iinc 4 (1), 3) := by decide +kernel
theorem d_WordCounts_isFinite_52 : decode b_WordCounts_isFinite 52 = .ok (.goto (-42), 3) := by decide +kernel
theorem d_WordCounts_isFinite_55 : decode b_WordCounts_isFinite 55 = .ok (.iconst (1), 1) := by decide +kernel
theorem d_WordCounts_isFinite_56 : decode b_WordCounts_isFinite 56 = .ok (.istore 4, 2) := by decide +kernel
theorem d_WordCounts_isFinite_58 : decode b_WordCounts_isFinite 58 = .ok (.iload_n 3, 1) := by decide +kernel
theorem d_WordCounts_isFinite_59 : decode b_WordCounts_isFinite 59 = .ok (.ifCond .eq (21), 3) := by decide +kernel
theorem d_WordCounts_isFinite_62 : decode b_WordCounts_isFinite 62 = .ok (.iload 4, 2) := by decide +kernel
theorem d_WordCounts_isFinite_64 : decode b_WordCounts_isFinite 64 = .ok (.iload_n 2, 1) := by decide +kernel
theorem d_WordCounts_isFinite_65 : decode b_WordCounts_isFinite 65 = .ok (.if_icmp .gt (15), 3) := by decide +kernel
theorem d_WordCounts_isFinite_68 : decode b_WordCounts_isFinite 68 = .ok (.aload_n 0, 1) := by decide +kernel
theorem d_WordCounts_isFinite_69 : decode b_WordCounts_isFinite 69 = .ok (.aload_n 1, 1) := by decide +kernel
theorem d_WordCounts_isFinite_70 : decode b_WordCounts_isFinite 70 = .ok (.invokevirtual 48, 3) := by decide +kernel
theorem d_WordCounts_isFinite_73 : decode b_WordCounts_isFinite 73 = .ok (.istore_n 3, 1) := by decide +kernel
theorem d_WordCounts_isFinite_74 : decode b_WordCounts_isFinite 74 = .ok (.iinc 4 (1), 3) := by decide +kernel
theorem d_WordCounts_isFinite_77 : decode b_WordCounts_isFinite 77 = .ok (.goto (-19), 3) := by decide +kernel
theorem d_WordCounts_isFinite_80 : decode b_WordCounts_isFinite 80 = .ok (.iload_n 3, 1) := by decide +kernel
theorem d_WordCounts_isFinite_81 : decode b_WordCounts_isFinite 81 = .ok (.ifCond .ne (7), 3) := by decide +kernel
theorem d_WordCounts_isFinite_84 : decode b_WordCounts_isFinite 84 = .ok (.iconst (1), 1) := by decide +kernel
theorem d_WordCounts_isFinite_85 : decode b_WordCounts_isFinite 85 = .ok (.goto (4), 3) := by decide +kernel
theorem d_WordCounts_isFinite_88 : decode b_WordCounts_isFinite 88 = .ok (.iconst (0), 1) := by decide +kernel
theorem d_WordCounts_isFinite_89 : decode b_WordCounts_isFinite 89 = .ok (.ireturn, 1) := by decide +kernel
section
variable {p : Program} {l : Launch} {e : Env} {R : Room} {s : State} {m : MethodId} {args : Array Value} {below : List Frame} {meth : Method} {c : Code} {D : va_G} {base : Nat} {g : Nat → ClassId} {az : Nat → Nat} {kz : Nat × Nat}
set_option maxRecDepth 100000 in
set_option maxHeartbeats 4000000 in
theorem t_WordCounts_isFinite_80  (B : xB p R s m args meth c b_WordCounts_isFinite 5 R_WordCounts (Cond.code y_WordCounts_isFinite b_WordCounts_isFinite 5 (some .boolean) :: x_T) (some .boolean) 2 47 D x_cl (xty g) base)  (l3 : Int32) (M : MS)  : Sn p l e R s m args below meth c 5 D x_cl base (xwd g) cM x_g0 az kz (xfc cM) (xZ below args s D x_cl (xty g) base (xwd g) cM x_g0 az kz ovI) 80 [] [(3, .int l3)] M (m_WordCounts_isFinite_80 l3 M) := by
  unfold m_WordCounts_isFinite_80
  refine s_iload_n B d_WordCounts_isFinite_80 rfl ?_
  refine s_if_ne B d_WordCounts_isFinite_81 rfl (fun _ => ?_) (fun _ => ?_)
  · refine s_iconst (v := (0:Int32)) B d_WordCounts_isFinite_88 (by decide) ?_
    exact s_zret0 rfl B d_WordCounts_isFinite_89
  · refine s_iconst (v := (1:Int32)) B d_WordCounts_isFinite_84 (by decide) ?_
    refine s_goto B d_WordCounts_isFinite_85 rfl ?_
    exact s_zret0 rfl B d_WordCounts_isFinite_89
set_option maxRecDepth 100000 in
set_option maxHeartbeats 4000000 in
theorem t_WordCounts_isFinite_58b {k58 : Nat × Int32 × Int32 × Int32 × MS → Option (MS × Int32)} (B : xB p R s m args meth c b_WordCounts_isFinite 5 R_WordCounts (Cond.code y_WordCounts_isFinite b_WordCounts_isFinite 5 (some .boolean) :: x_T) (some .boolean) 2 47 D x_cl (xty g) base) (hk58 : ∀ (l1 : Nat) (l2 : Int32) (l3 : Int32) (l4 : Int32) (M : MS) (hl1 : x_kd l1 = 4), Sn p l e R s m args below meth c 5 D x_cl base (xwd g) cM x_g0 az kz (xfc cM) (xZ below args s D x_cl (xty g) base (xwd g) cM x_g0 az kz ovI) 58 [] [(0, .ref 93), (1, .ref l1), (2, .int l2), (3, .int l3), (4, .int l4)] M (k58 (l1, l2, l3, l4, M))) (l1 : Nat) (l2 : Int32) (l3 : Int32) (l4 : Int32) (M : MS) (hl1 : x_kd l1 = 4) : Sn p l e R s m args below meth c 5 D x_cl base (xwd g) cM x_g0 az kz (xfc cM) (xZ below args s D x_cl (xty g) base (xwd g) cM x_g0 az kz ovI) 58 [] [(0, .ref 93), (1, .ref l1), (2, .int l2), (3, .int l3), (4, .int l4)] M (m_WordCounts_isFinite_58b k58 l1 l2 l3 l4 M) := by
  unfold m_WordCounts_isFinite_58b
  refine s_iload_n B d_WordCounts_isFinite_58 rfl ?_
  refine s_if_eq B d_WordCounts_isFinite_59 rfl (fun _ => ?_) (fun _ => ?_)
  · refine s_pick (lv1 := [(3, .int l3)]) [3] rfl ?_
    exact t_WordCounts_isFinite_80 B l3 M
  · refine s_iload B d_WordCounts_isFinite_62 rfl ?_
    refine s_iload_n B d_WordCounts_isFinite_64 rfl ?_
    refine s_icmp_gt B d_WordCounts_isFinite_65 rfl (fun _ => ?_) (fun _ => ?_)
    · refine s_pick (lv1 := [(3, .int l3)]) [3] rfl ?_
      exact t_WordCounts_isFinite_80 B l3 M
    · refine s_aload_n B d_WordCounts_isFinite_68 rfl ?_
      refine s_aload_n B d_WordCounts_isFinite_69 rfl ?_
      refine s_pick (lv1 := [(0, .ref 93), (1, .ref l1), (2, .int l2), (4, .int l4)]) [0, 1, 2, 4] rfl ?_
      refine s_callI (av := [.ref 93, .ref l1]) (rest := []) B (lk_V B d_WordCounts_isFinite_70 (gl_WordCounts_48 _) rfl hv_WordCounts_stepBack (by decide) (by decide)) rfl (x_rcV B xc_WordCounts kd_93) (fun _ _ => rfl) rfl rfl (by simp [Value.category]) rfl (fun r1 e9 => ct_WordCounts_stepBack _ _ r1 e9) (fun r1 _ => ?_)
      refine s_istore_n B d_WordCounts_isFinite_73 (by decide) ?_
      refine s_iinc (w := (1:Int32)) B d_WordCounts_isFinite_74 rfl (by decide) (by decide) ?_
      refine s_goto B d_WordCounts_isFinite_77 rfl ?_
      refine s_pick (lv1 := [(0, .ref 93), (1, .ref l1), (2, .int l2), (3, .int r1.2), (4, .int (l4 + (1:Int32)))]) [0, 1, 2, 3, 4] rfl ?_
      exact hk58 l1 l2 r1.2 (l4 + (1:Int32)) r1.1 hl1
set_option maxRecDepth 100000 in
set_option maxHeartbeats 4000000 in
theorem t_WordCounts_isFinite_58  (B : xB p R s m args meth c b_WordCounts_isFinite 5 R_WordCounts (Cond.code y_WordCounts_isFinite b_WordCounts_isFinite 5 (some .boolean) :: x_T) (some .boolean) 2 47 D x_cl (xty g) base)  (l1 : Nat) (l2 : Int32) (l3 : Int32) (l4 : Int32) (M : MS) (hl1 : x_kd l1 = 4) : Sn p l e R s m args below meth c 5 D x_cl base (xwd g) cM x_g0 az kz (xfc cM) (xZ below args s D x_cl (xty g) base (xwd g) cM x_g0 az kz ovI) 58 [] [(0, .ref 93), (1, .ref l1), (2, .int l2), (3, .int l3), (4, .int l4)] M (m_WordCounts_isFinite_58 (l1, l2, l3, l4, M)) := by
  have q : ∀ (F : Nat) (i : Nat × Int32 × Int32 × Int32 × MS), x_kd i.1 = 4 → Sn p l e R s m args below meth c 5 D x_cl base (xwd g) cM x_g0 az kz (xfc cM) (xZ below args s D x_cl (xty g) base (xwd g) cM x_g0 az kz ovI) 58 [] [(0, .ref 93), (1, .ref i.1), (2, .int i.2.1), (3, .int i.2.2.1), (4, .int i.2.2.2.1)] i.2.2.2.2 (fx (fun (k : Nat × Int32 × Int32 × Int32 × MS → Option (MS × Int32)) (i : Nat × Int32 × Int32 × Int32 × MS) => m_WordCounts_isFinite_58b k i.1 i.2.1 i.2.2.1 i.2.2.2.1 i.2.2.2.2) F i) := by
    intro F
    induction F with
    | zero => intro i h0; exact s_none
    | succ F ih => intro i h0; exact t_WordCounts_isFinite_58b B  (fun l1 l2 l3 l4 M h0 => ih (l1, l2, l3, l4, M) h0) i.1 i.2.1 i.2.2.1 i.2.2.2.1 i.2.2.2.2 h0
  exact q FU (l1, l2, l3, l4, M) hl1
set_option maxRecDepth 100000 in
set_option maxHeartbeats 4000000 in
theorem t_WordCounts_isFinite_10b {k10 : Nat × Int32 × Int32 × Int32 × MS → Option (MS × Int32)} (B : xB p R s m args meth c b_WordCounts_isFinite 5 R_WordCounts (Cond.code y_WordCounts_isFinite b_WordCounts_isFinite 5 (some .boolean) :: x_T) (some .boolean) 2 47 D x_cl (xty g) base) (hk10 : ∀ (l1 : Nat) (l2 : Int32) (l3 : Int32) (l4 : Int32) (M : MS) (hl1 : x_kd l1 = 4), Sn p l e R s m args below meth c 5 D x_cl base (xwd g) cM x_g0 az kz (xfc cM) (xZ below args s D x_cl (xty g) base (xwd g) cM x_g0 az kz ovI) 10 [] [(0, .ref 93), (1, .ref l1), (2, .int l2), (3, .int l3), (4, .int l4)] M (k10 (l1, l2, l3, l4, M))) (l1 : Nat) (l2 : Int32) (l3 : Int32) (l4 : Int32) (M : MS) (hl1 : x_kd l1 = 4) : Sn p l e R s m args below meth c 5 D x_cl base (xwd g) cM x_g0 az kz (xfc cM) (xZ below args s D x_cl (xty g) base (xwd g) cM x_g0 az kz ovI) 10 [] [(0, .ref 93), (1, .ref l1), (2, .int l2), (3, .int l3), (4, .int l4)] M (m_WordCounts_isFinite_10b k10 l1 l2 l3 l4 M) := by
  unfold m_WordCounts_isFinite_10b
  refine s_iload B d_WordCounts_isFinite_10 rfl ?_
  refine s_iload_n B d_WordCounts_isFinite_12 rfl ?_
  refine s_icmp_ge B d_WordCounts_isFinite_13 rfl (fun _ => ?_) (fun _ => ?_)
  · refine s_iconst (v := (1:Int32)) B d_WordCounts_isFinite_55 (by decide) ?_
    refine s_istore B d_WordCounts_isFinite_56 (by decide) ?_
    refine s_pick (lv1 := [(0, .ref 93), (1, .ref l1), (2, .int l2), (3, .int l3), (4, .int (1:Int32))]) [0, 1, 2, 3, 4] rfl ?_
    exact t_WordCounts_isFinite_58 B l1 l2 l3 (1:Int32) M hl1
  · refine s_aload_n B d_WordCounts_isFinite_16 rfl ?_
    refine s_getD (k := 1) B xc_WordCounts kd_93 (by decide) rfl rfl fl_WordCounts_15 d_WordCounts_isFinite_17 ?_
    refine s_guard (fun h1 => ?_)
    refine s_iload B d_WordCounts_isFinite_20 rfl ?_
    refine s_aload_n B d_WordCounts_isFinite_22 rfl ?_
    refine s_iload B d_WordCounts_isFinite_23 rfl ?_
    refine s_pick (lv1 := [(0, .ref 93), (1, .ref l1), (2, .int l2), (3, .int l3), (4, .int l4)]) [0, 1, 2, 3, 4] rfl ?_
    refine s_callI (av := [.ref l1, .int l4]) (rest := [.int l4, .ref (gD M 93 1)]) B (lk_V B d_WordCounts_isFinite_25 (gl_WordCounts_32 _) rfl hv_Machine_isAccepting (by decide) (by decide)) rfl (x_rcV B xc_Machine hl1) (fun _ _ => rfl) rfl rfl (by simp [Value.category]) rfl (fun r2 e9 => ct_Machine_isAccepting _ _ _ r2 e9) (fun r2 _ => ?_)
    refine s_zast B h1 d_WordCounts_isFinite_28 (fun M3 _ => ?_)
    refine s_iload_n B d_WordCounts_isFinite_29 rfl ?_
    refine s_if_ne B d_WordCounts_isFinite_30 rfl (fun _ => ?_) (fun _ => ?_)
    · refine s_iconst (v := (1:Int32)) B d_WordCounts_isFinite_43 (by decide) ?_
      refine s_goto B d_WordCounts_isFinite_44 rfl ?_
      refine s_istore_n B d_WordCounts_isFinite_48 (by decide) ?_
      refine s_iinc (w := (1:Int32)) B d_WordCounts_isFinite_49 rfl (by decide) (by decide) ?_
      refine s_goto B d_WordCounts_isFinite_52 rfl ?_
      refine s_pick (lv1 := [(0, .ref 93), (1, .ref l1), (2, .int l2), (3, .int (1:Int32)), (4, .int (l4 + (1:Int32)))]) [0, 1, 2, 3, 4] rfl ?_
      exact hk10 l1 l2 (1:Int32) (l4 + (1:Int32)) M3 hl1
    · refine s_aload_n B d_WordCounts_isFinite_33 rfl ?_
      refine s_getD (k := 1) B xc_WordCounts kd_93 (by decide) rfl rfl fl_WordCounts_15 d_WordCounts_isFinite_34 ?_
      refine s_guard (fun h4 => ?_)
      refine s_iload B d_WordCounts_isFinite_37 rfl ?_
      refine s_zald B h4 d_WordCounts_isFinite_39 (fun v5 _ => ?_)
      refine s_if_eq B d_WordCounts_isFinite_40 rfl (fun _ => ?_) (fun _ => ?_)
      · refine s_iconst (v := (0:Int32)) B d_WordCounts_isFinite_47 (by decide) ?_
        refine s_istore_n B d_WordCounts_isFinite_48 (by decide) ?_
        refine s_iinc (w := (1:Int32)) B d_WordCounts_isFinite_49 rfl (by decide) (by decide) ?_
        refine s_goto B d_WordCounts_isFinite_52 rfl ?_
        refine s_pick (lv1 := [(0, .ref 93), (1, .ref l1), (2, .int l2), (3, .int (0:Int32)), (4, .int (l4 + (1:Int32)))]) [0, 1, 2, 3, 4] rfl ?_
        exact hk10 l1 l2 (0:Int32) (l4 + (1:Int32)) M3 hl1
      · refine s_iconst (v := (1:Int32)) B d_WordCounts_isFinite_43 (by decide) ?_
        refine s_goto B d_WordCounts_isFinite_44 rfl ?_
        refine s_istore_n B d_WordCounts_isFinite_48 (by decide) ?_
        refine s_iinc (w := (1:Int32)) B d_WordCounts_isFinite_49 rfl (by decide) (by decide) ?_
        refine s_goto B d_WordCounts_isFinite_52 rfl ?_
        refine s_pick (lv1 := [(0, .ref 93), (1, .ref l1), (2, .int l2), (3, .int (1:Int32)), (4, .int (l4 + (1:Int32)))]) [0, 1, 2, 3, 4] rfl ?_
        exact hk10 l1 l2 (1:Int32) (l4 + (1:Int32)) M3 hl1
set_option maxRecDepth 100000 in
set_option maxHeartbeats 4000000 in
theorem t_WordCounts_isFinite_10  (B : xB p R s m args meth c b_WordCounts_isFinite 5 R_WordCounts (Cond.code y_WordCounts_isFinite b_WordCounts_isFinite 5 (some .boolean) :: x_T) (some .boolean) 2 47 D x_cl (xty g) base)  (l1 : Nat) (l2 : Int32) (l3 : Int32) (l4 : Int32) (M : MS) (hl1 : x_kd l1 = 4) : Sn p l e R s m args below meth c 5 D x_cl base (xwd g) cM x_g0 az kz (xfc cM) (xZ below args s D x_cl (xty g) base (xwd g) cM x_g0 az kz ovI) 10 [] [(0, .ref 93), (1, .ref l1), (2, .int l2), (3, .int l3), (4, .int l4)] M (m_WordCounts_isFinite_10 (l1, l2, l3, l4, M)) := by
  have q : ∀ (F : Nat) (i : Nat × Int32 × Int32 × Int32 × MS), x_kd i.1 = 4 → Sn p l e R s m args below meth c 5 D x_cl base (xwd g) cM x_g0 az kz (xfc cM) (xZ below args s D x_cl (xty g) base (xwd g) cM x_g0 az kz ovI) 10 [] [(0, .ref 93), (1, .ref i.1), (2, .int i.2.1), (3, .int i.2.2.1), (4, .int i.2.2.2.1)] i.2.2.2.2 (fx (fun (k : Nat × Int32 × Int32 × Int32 × MS → Option (MS × Int32)) (i : Nat × Int32 × Int32 × Int32 × MS) => m_WordCounts_isFinite_10b k i.1 i.2.1 i.2.2.1 i.2.2.2.1 i.2.2.2.2) F i) := by
    intro F
    induction F with
    | zero => intro i h0; exact s_none
    | succ F ih => intro i h0; exact t_WordCounts_isFinite_10b B  (fun l1 l2 l3 l4 M h0 => ih (l1, l2, l3, l4, M) h0) i.1 i.2.1 i.2.2.1 i.2.2.2.1 i.2.2.2.2 h0
  exact q FU (l1, l2, l3, l4, M) hl1
set_option maxRecDepth 100000 in
set_option maxHeartbeats 4000000 in
theorem t_WordCounts_isFinite (B : xB p R s m args meth c b_WordCounts_isFinite 5 R_WordCounts (Cond.code y_WordCounts_isFinite b_WordCounts_isFinite 5 (some .boolean) :: x_T) (some .boolean) 2 47 D x_cl (xty g) base) (a1 : Nat) (M : MS) : Sn p l e R s m args below meth c 5 D x_cl base (xwd g) cM x_g0 az kz (xfc cM) (xZ below args s D x_cl (xty g) base (xwd g) cM x_g0 az kz ovI) 0 [] [(0, .ref 93), (1, .ref a1)] M (m_WordCounts_isFinite a1 M) := by
  unfold m_WordCounts_isFinite
  refine s_guard (fun ha1 => ?_)
  refine s_aload_n B d_WordCounts_isFinite_0 rfl ?_
  refine s_pick (lv1 := [(0, .ref 93), (1, .ref a1)]) [0, 1] rfl ?_
  refine s_callI (av := [.ref a1]) (rest := []) B (lk_V B d_WordCounts_isFinite_1 (gl_WordCounts_26 _) rfl hv_Machine_count (by decide) (by decide)) rfl (x_rcV B xc_Machine ha1) (fun _ _ => rfl) rfl rfl (by simp [Value.category]) rfl (fun r1 e9 => ct_Machine_count _ _ r1 e9) (fun r1 _ => ?_)
  refine s_istore_n B d_WordCounts_isFinite_4 (by decide) ?_
  refine s_iconst (v := (0:Int32)) B d_WordCounts_isFinite_5 (by decide) ?_
  refine s_istore_n B d_WordCounts_isFinite_6 (by decide) ?_
  refine s_iconst (v := (0:Int32)) B d_WordCounts_isFinite_7 (by decide) ?_
  refine s_istore B d_WordCounts_isFinite_8 (by decide) ?_
  refine s_pick (lv1 := [(0, .ref 93), (1, .ref a1), (2, .int r1.2), (3, .int (0:Int32)), (4, .int (0:Int32))]) [0, 1, 2, 3, 4] rfl ?_
  exact t_WordCounts_isFinite_10 B a1 r1.2 (0:Int32) (0:Int32) r1.1 ha1
set_option maxRecDepth 100000 in
set_option maxHeartbeats 4000000 in
theorem ct_WordCounts_isFinite {l : Launch} {D : va_G} {base : Nat} {g : Nat → ClassId} (a1 : Nat) (M : MS) (r : MS × Int32) (hr : m_WordCounts_isFinite a1 M = some r) : Ct l y_WordCounts_isFinite (Cond.code y_WordCounts_isFinite b_WordCounts_isFinite 5 (some .boolean) :: x_T) 2 47 D x_cl (xty g) base (xwd g) cM x_g0 [.ref 93, .ref a1] M r.1 (ovI r.2) :=
  x_met (ov := ovI) (by decide) (Nat.le_of_ble_eq_true rfl) (fun p e R s m args below meth c az B => t_WordCounts_isFinite B a1 M) r hr
end
theorem d_D_ends_0 : decode b_D_ends 0 = .ok (.iload_n 1, 1) := by decide +kernel
theorem d_D_ends_1 : decode b_D_ends 1 = .ok (.invokestatic 61, 3) := by decide +kernel
theorem d_D_ends_4 : decode b_D_ends 4 = .ok (.aload_n 0, 1) := by decide +kernel
theorem d_D_ends_5 : decode b_D_ends 5 = .ok (.getfield 23, 3) := by decide +kernel
theorem d_D_ends_8 : decode b_D_ends 8 = .ok (.iload_n 1, 1) := by decide +kernel
theorem d_D_ends_9 : decode b_D_ends 9 = .ok (.aload_n 0, 1) := by decide +kernel
theorem d_D_ends_10 : decode b_D_ends 10 = .ok (.getfield 16, 3) := by decide +kernel
theorem d_D_ends_13 : decode b_D_ends 13 = .ok (.aload_n 0, 1) := by decide +kernel
theorem d_D_ends_14 : decode b_D_ends 14 = .ok (.getfield 9, 3) := by decide +kernel
theorem d_D_ends_17 : decode b_D_ends 17 = .ok (.invokevirtual 98, 3) := by decide +kernel
theorem d_D_ends_20 : decode b_D_ends 20 = .ok (.astore_n 2, 1) := by decide +kernel
theorem d_D_ends_21 : decode b_D_ends 21 = .ok (.aload_n 2, 1) := by decide +kernel
theorem d_D_ends_22 : decode b_D_ends 22 = .ok (.invokevirtual 108, 3) := by decide +kernel
theorem d_D_ends_25 : decode b_D_ends 25 = .ok (.ifCond .eq (5), 3) := by decide +kernel
theorem d_D_ends_28 : decode b_D_ends 28 = .ok (.iconst (-1), 1) := by decide +kernel
theorem d_D_ends_29 : decode b_D_ends 29 = .ok (.ireturn, 1) := by decide +kernel
theorem d_D_ends_30 : decode b_D_ends 30 = .ok (.aload_n 0, 1) := by decide +kernel
theorem d_D_ends_31 : decode b_D_ends 31 = .ok (.getfield 51, 3) := by decide +kernel
theorem d_D_ends_34 : decode b_D_ends 34 = .ok (.aload_n 2, 1) := by decide +kernel
theorem d_D_ends_35 : decode b_D_ends 35 = .ok (.invokevirtual 135, 3) := by decide +kernel
theorem d_D_ends_38 : decode b_D_ends 38 = .ok (.ifCond .eq (7), 3) := by decide +kernel
theorem d_D_ends_41 : decode b_D_ends 41 = .ok (.iconst (1), 1) := by decide +kernel
theorem d_D_ends_42 : decode b_D_ends 42 = .ok (.goto (4), 3) := by decide +kernel
theorem d_D_ends_45 : decode b_D_ends 45 = .ok (.iconst (0), 1) := by decide +kernel
theorem d_D_ends_46 : decode b_D_ends 46 = .ok (.ireturn, 1) := by decide +kernel
section
variable {p : Program} {l : Launch} {e : Env} {R : Room} {s : State} {m : MethodId} {args : Array Value} {below : List Frame} {meth : Method} {c : Code} {D : va_G} {base : Nat} {g : Nat → ClassId} {az : Nat → Nat} {kz : Nat × Nat}
set_option maxRecDepth 100000 in
set_option maxHeartbeats 4000000 in
theorem t_D_ends (B : xB p R s m args meth c b_D_ends 3 R_D (Cond.code y_D_ends b_D_ends 3 (some .int) :: x_T) (some .int) 10 240 D x_cl (xty g) base) (a1 : Int32) (M : MS) : Sn p l e R s m args below meth c 3 D x_cl base (xwd g) cM x_gr az kz (xfc cM) (xZ below args s D x_cl (xty g) base (xwd g) cM x_gr az kz ovI) 0 [] [(0, .ref 0), (1, .int a1)] M (m_D_ends a1 M) := by
  unfold m_D_ends
  refine s_iload_n B d_D_ends_0 rfl ?_
  refine s_pick (lv1 := [(0, .ref 0), (1, .int a1)]) [0, 1] rfl ?_
  refine s_callU (av := [.int a1]) (rest := []) B (lk_S B d_D_ends_1 (gl_D_61 _) (List.mem_cons_of_mem _ st_D_checkSlot) (List.mem_cons_of_mem _ in_D) (List.mem_cons_of_mem _ ml_D_61) rfl hs_D_checkSlot (by decide) (by decide)) rfl x_rcS (fun _ _ => rfl) rfl rfl (by simp [Value.category]) rfl (fun r1 e9 => ct_D_checkSlot _ _ r1 e9) (fun r1 _ => ?_)
  refine s_aload_n B d_D_ends_4 rfl ?_
  refine s_getS (k := 2) (n := 24) B xc_D kd_0 (by decide) rfl rfl fl_D_23 sr_0_2 d_D_ends_5 ?_
  refine s_iload_n B d_D_ends_8 rfl ?_
  refine s_aload_n B d_D_ends_9 rfl ?_
  refine s_getS (k := 1) (n := 2) B xc_D kd_0 (by decide) rfl rfl fl_D_16 sr_0_1 d_D_ends_10 ?_
  refine s_aload_n B d_D_ends_13 rfl ?_
  refine s_getS (k := 0) (n := 1) B xc_D kd_0 (by decide) rfl rfl fl_D_9 sr_0_0 d_D_ends_14 ?_
  refine s_pick (lv1 := [(0, .ref 0)]) [0] rfl ?_
  refine s_callR (av := [.ref 24, .int a1, .ref 2, .ref 1]) (rest := []) B (lk_V B d_D_ends_17 (gl_D_98 _) rfl hv_Explorer_machineOf (by decide) (by decide)) rfl (x_rcV B xc_Explorer kd_24) (fun _ h => h) rfl (by simp [xng, x_gr, kd_0]) (by simp [Value.category]) rfl (fun r2 e9 => ct_Explorer_machineOf _ _ r2 e9) (fun r2 _ => ?_)
  refine s_guard (fun h3 => ?_)
  refine s_astore_n B d_D_ends_20 (by decide) ?_
  refine s_aload_n B d_D_ends_21 rfl ?_
  refine s_pick (lv1 := [(0, .ref 0), (2, .ref r2.2)]) [0, 2] rfl ?_
  refine s_callI (av := [.ref r2.2]) (rest := []) B (lk_V B d_D_ends_22 (gl_D_108 _) rfl hv_Machine_isTooLarge (by decide) (by decide)) rfl (x_rcV B xc_Machine h3) (fun _ _ => rfl) rfl rfl (by simp [Value.category]) rfl (fun r4 e9 => ct_Machine_isTooLarge _ _ r4 e9) (fun r4 _ => ?_)
  refine s_if_eq B d_D_ends_25 rfl (fun _ => ?_) (fun _ => ?_)
  · refine s_aload_n B d_D_ends_30 rfl ?_
    refine s_getS (k := 6) (n := 93) B xc_D kd_0 (by decide) rfl rfl fl_D_51 sr_0_6 d_D_ends_31 ?_
    refine s_aload_n B d_D_ends_34 rfl ?_
    refine s_pick (lv1 := []) [] rfl ?_
    refine s_callI (av := [.ref 93, .ref r2.2]) (rest := []) B (lk_V B d_D_ends_35 (gl_D_135 _) rfl hv_WordCounts_isFinite (by decide) (by decide)) rfl (x_rcV B xc_WordCounts kd_93) (fun _ _ => rfl) rfl rfl (by simp [Value.category]) rfl (fun r5 e9 => ct_WordCounts_isFinite _ _ r5 e9) (fun r5 _ => ?_)
    refine s_if_eq B d_D_ends_38 rfl (fun _ => ?_) (fun _ => ?_)
    · refine s_iconst (v := (0:Int32)) B d_D_ends_45 (by decide) ?_
      exact s_iret B d_D_ends_46
    · refine s_iconst (v := (1:Int32)) B d_D_ends_41 (by decide) ?_
      refine s_goto B d_D_ends_42 rfl ?_
      exact s_iret B d_D_ends_46
  · refine s_iconst (v := (-1:Int32)) B d_D_ends_28 (by decide) ?_
    exact s_iret B d_D_ends_29
set_option maxRecDepth 100000 in
set_option maxHeartbeats 4000000 in
theorem ct_D_ends {l : Launch} {D : va_G} {base : Nat} {g : Nat → ClassId} (a1 : Int32) (M : MS) (r : MS × Int32) (hr : m_D_ends a1 M = some r) : Ct l y_D_ends (Cond.code y_D_ends b_D_ends 3 (some .int) :: x_T) 10 240 D x_cl (xty g) base (xwd g) cM x_gr [.ref 0, .int a1] M r.1 (ovI r.2) :=
  x_met (ov := ovI) (by decide) (Nat.le_of_ble_eq_true rfl) (fun p e R s m args below meth c az B => t_D_ends B a1 M) r hr
end
theorem d_WordCounts_wordOfLength_0 : decode b_WordCounts_wordOfLength 0 = .ok (.lconst 0, 1) := by decide +kernel
theorem d_WordCounts_wordOfLength_1 : decode b_WordCounts_wordOfLength 1 = .ok (.lstore 5, 2) := by decide +kernel
theorem d_WordCounts_wordOfLength_3 : decode b_WordCounts_wordOfLength 3 = .ok (.lload_n 3, 1) := by decide +kernel
theorem d_WordCounts_wordOfLength_4 : decode b_WordCounts_wordOfLength 4 = .ok (.lstore 7, 2) := by decide +kernel
theorem d_WordCounts_wordOfLength_6 : decode b_WordCounts_wordOfLength 6 = .ok (.iconst (0), 1) := by decide +kernel
theorem d_WordCounts_wordOfLength_7 : decode b_WordCounts_wordOfLength 7 = .ok (.istore 9, 2) := by decide +kernel
theorem d_WordCounts_wordOfLength_9 : decode b_WordCounts_wordOfLength 9 = .ok (.iload_n 2, 1) := by decide +kernel
theorem d_WordCounts_wordOfLength_10 : decode b_WordCounts_wordOfLength 10 = .ok (.iconst (1), 1) := by decide +kernel
theorem d_WordCounts_wordOfLength_11 : decode b_WordCounts_wordOfLength 11 = .ok (.isub, 1) := by decide +kernel
theorem d_WordCounts_wordOfLength_12 : decode b_WordCounts_wordOfLength 12 = .ok (.istore 10, 2) := by decide +kernel
theorem d_WordCounts_wordOfLength_14 : decode b_WordCounts_wordOfLength 14 = .ok (.iload 10, 2) := by decide +kernel
theorem d_WordCounts_wordOfLength_16 : decode b_WordCounts_wordOfLength 16 = .ok (.ifCond .lt (102), 3) := by decide +kernel
theorem d_WordCounts_wordOfLength_19 : decode b_WordCounts_wordOfLength 19 = .ok (.iconst (0), 1) := by decide +kernel
theorem d_WordCounts_wordOfLength_20 : decode b_WordCounts_wordOfLength 20 = .ok (.istore 11, 2) := by decide +kernel
theorem d_WordCounts_wordOfLength_22 : decode b_WordCounts_wordOfLength 22 = .ok (.aload_n 0, 1) := by decide +kernel
theorem d_WordCounts_wordOfLength_23 : decode b_WordCounts_wordOfLength 23 = .ok (.getfield 9, 3) := by decide +kernel
theorem d_WordCounts_wordOfLength_26 : decode b_WordCounts_wordOfLength 26 = .ok (.iload 10, 2) := by decide +kernel
theorem d_WordCounts_wordOfLength_28 : decode b_WordCounts_wordOfLength 28 = .ok (.sipush (150), 3) := by decide +kernel
theorem d_WordCounts_wordOfLength_31 : decode b_WordCounts_wordOfLength 31 = .ok (.imul, 1) := by decide +kernel
theorem d_WordCounts_wordOfLength_32 : decode b_WordCounts_wordOfLength 32 = .ok (.aload_n 1, 1) := by decide +kernel
theorem d_WordCounts_wordOfLength_33 : decode b_WordCounts_wordOfLength 33 = .ok (.iload 9, 2) := by decide +kernel
theorem d_WordCounts_wordOfLength_35 : decode b_WordCounts_wordOfLength 35 = .ok (.iconst (0), 1) := by decide +kernel
theorem d_WordCounts_wordOfLength_36 : decode b_WordCounts_wordOfLength 36 = .ok (.invokevirtual 36, 3) := by decide +kernel
theorem d_WordCounts_wordOfLength_39 : decode b_WordCounts_wordOfLength 39 = .ok (.iadd, 1) := by decide +kernel
theorem d_WordCounts_wordOfLength_40 : decode b_WordCounts_wordOfLength 40 = .ok (.laload, 1) := by decide +kernel
theorem d_WordCounts_wordOfLength_41 : decode b_WordCounts_wordOfLength 41 = .ok (.lstore 12, 2) := by decide +kernel
theorem d_WordCounts_wordOfLength_43 : decode b_WordCounts_wordOfLength 43 = .ok (.iload 11, 2) := by decide +kernel
theorem d_WordCounts_wordOfLength_45 : decode b_WordCounts_wordOfLength 45 = .ok (.iconst (3), 1) := by decide +kernel
theorem d_WordCounts_wordOfLength_46 : decode b_WordCounts_wordOfLength 46 = .ok (.if_icmp .ge (46), 3) := by decide +kernel
theorem d_WordCounts_wordOfLength_49 : decode b_WordCounts_wordOfLength 49 = .ok (.lload 7, 2) := by decide +kernel
theorem d_WordCounts_wordOfLength_51 : decode b_WordCounts_wordOfLength 51 = .ok (.lload 12, 2) := by decide +kernel
theorem d_WordCounts_wordOfLength_53 : decode b_WordCounts_wordOfLength 53 = .ok (.lcmp, 1) := by decide +kernel
theorem d_WordCounts_wordOfLength_54 : decode b_WordCounts_wordOfLength 54 = .ok (.ifCond .lt (38), 3) := by decide +kernel
theorem d_WordCounts_wordOfLength_57 : decode b_WordCounts_wordOfLength 57 = .ok (.lload 7, 2) := by decide +kernel
theorem d_WordCounts_wordOfLength_59 : decode b_WordCounts_wordOfLength 59 = .ok (.lload 12, 2) := by decide +kernel
theorem d_WordCounts_wordOfLength_61 : decode b_WordCounts_wordOfLength 61 = .ok (.lsub, 1) := by decide +kernel
theorem d_WordCounts_wordOfLength_62 : decode b_WordCounts_wordOfLength 62 = .ok (.lstore 7, 2) := by decide +kernel
theorem d_WordCounts_wordOfLength_64 : decode b_WordCounts_wordOfLength 64 = .ok (.iinc 11 (1), 3) := by decide +kernel
theorem d_WordCounts_wordOfLength_67 : decode b_WordCounts_wordOfLength 67 = .ok (.aload_n 0, 1) := by decide +kernel
theorem d_WordCounts_wordOfLength_68 : decode b_WordCounts_wordOfLength 68 = .ok (.getfield 9, 3) := by decide +kernel
theorem d_WordCounts_wordOfLength_71 : decode b_WordCounts_wordOfLength 71 = .ok (.iload 10, 2) := by decide +kernel
theorem d_WordCounts_wordOfLength_73 : decode b_WordCounts_wordOfLength 73 = .ok (.sipush (150), 3) := by decide +kernel
theorem d_WordCounts_wordOfLength_76 : decode b_WordCounts_wordOfLength 76 = .ok (.imul, 1) := by decide +kernel
theorem d_WordCounts_wordOfLength_77 : decode b_WordCounts_wordOfLength 77 = .ok (.aload_n 1, 1) := by decide +kernel
theorem d_WordCounts_wordOfLength_78 : decode b_WordCounts_wordOfLength 78 = .ok (.iload 9, 2) := by decide +kernel
theorem d_WordCounts_wordOfLength_80 : decode b_WordCounts_wordOfLength 80 = .ok (.iload 11, 2) := by decide +kernel
theorem d_WordCounts_wordOfLength_82 : decode b_WordCounts_wordOfLength 82 = .ok (.invokevirtual 36, 3) := by decide +kernel
theorem d_WordCounts_wordOfLength_85 : decode b_WordCounts_wordOfLength 85 = .ok (.iadd, 1) := by decide +kernel
theorem d_WordCounts_wordOfLength_86 : decode b_WordCounts_wordOfLength 86 = .ok (.laload, 1) := by decide +kernel
theorem d_WordCounts_wordOfLength_87 : decode b_WordCounts_wordOfLength 87 = .ok (.lstore 12, 2) := by decide +kernel
theorem d_WordCounts_wordOfLength_89 : decode b_WordCounts_wordOfLength 89 = .ok (.goto (-46), 3) := by decide +kernel
theorem d_WordCounts_wordOfLength_92 : decode b_WordCounts_wordOfLength 92 = .ok (.lload 5, 2) := by decide +kernel
theorem d_WordCounts_wordOfLength_94 : decode b_WordCounts_wordOfLength 94 = .ok (.iconst (2), 1) := by decide +kernel
theorem d_WordCounts_wordOfLength_95 : decode b_WordCounts_wordOfLength 95 = .ok (.lshl, 1) := by decide +kernel
theorem d_WordCounts_wordOfLength_96 : decode b_WordCounts_wordOfLength 96 = .ok (.iload 11, 2) := by decide +kernel
theorem d_WordCounts_wordOfLength_98 : decode b_WordCounts_wordOfLength 98 = .ok (.i2l, 1) := by decide +kernel
theorem d_WordCounts_wordOfLength_99 : decode b_WordCounts_wordOfLength 99 = .ok (.lor, 1) := by decide +kernel
theorem d_WordCounts_wordOfLength_100 : decode b_WordCounts_wordOfLength 100 = .ok (.lstore 5, 2) := by decide +kernel
theorem d_WordCounts_wordOfLength_102 : decode b_WordCounts_wordOfLength 102 = .ok (.aload_n 1, 1) := by decide +kernel
theorem d_WordCounts_wordOfLength_103 : decode b_WordCounts_wordOfLength 103 = .ok (.iload 9, 2) := by decide +kernel
theorem d_WordCounts_wordOfLength_105 : decode b_WordCounts_wordOfLength 105 = .ok (.iload 11, 2) := by decide +kernel
theorem d_WordCounts_wordOfLength_107 : decode b_WordCounts_wordOfLength 107 = .ok (.invokevirtual 36, 3) := by decide +kernel
theorem d_WordCounts_wordOfLength_110 : decode b_WordCounts_wordOfLength 110 = .ok (.istore 9, 2) := by decide +kernel
theorem d_WordCounts_wordOfLength_112 : decode b_WordCounts_wordOfLength 112 = .ok (.iinc 10 (-1), 3) := by decide +kernel
theorem d_WordCounts_wordOfLength_115 : decode b_WordCounts_wordOfLength 115 = .ok (.goto (-101), 3) := by decide +kernel
theorem d_WordCounts_wordOfLength_118 : decode b_WordCounts_wordOfLength 118 = .ok (.lload 5, 2) := by decide +kernel
theorem d_WordCounts_wordOfLength_120 : decode b_WordCounts_wordOfLength 120 = .ok (.lreturn, 1) := by decide +kernel
section
variable {p : Program} {l : Launch} {e : Env} {R : Room} {s : State} {m : MethodId} {args : Array Value} {below : List Frame} {meth : Method} {c : Code} {D : va_G} {base : Nat} {g : Nat → ClassId} {az : Nat → Nat} {kz : Nat × Nat}
set_option maxRecDepth 100000 in
set_option maxHeartbeats 4000000 in
theorem t_WordCounts_wordOfLength_92 {k14 : Nat × Int64 × Int64 × Int32 × Int32 × MS → Option (MS × Int64)} (B : xB p R s m args meth c b_WordCounts_wordOfLength 14 R_WordCounts (Cond.code y_WordCounts_wordOfLength b_WordCounts_wordOfLength 14 (some .long) :: x_T) (some .long) 1 22 D x_cl (xty g) base) (hk14 : ∀ (l1 : Nat) (l5 : Int64) (l7 : Int64) (l9 : Int32) (l10 : Int32) (M : MS) (hl1 : x_kd l1 = 4), Sn p l e R s m args below meth c 14 D x_cl base (xwd g) cM x_g0 az kz (xfc cM) (xZ below args s D x_cl (xty g) base (xwd g) cM x_g0 az kz ovL) 14 [] [(0, .ref 93), (1, .ref l1), (5, .long l5), (7, .long l7), (9, .int l9), (10, .int l10)] M (k14 (l1, l5, l7, l9, l10, M))) (l1 : Nat) (l5 : Int64) (l7 : Int64) (l9 : Int32) (l10 : Int32) (l11 : Int32) (M : MS) (hl1 : x_kd l1 = 4) : Sn p l e R s m args below meth c 14 D x_cl base (xwd g) cM x_g0 az kz (xfc cM) (xZ below args s D x_cl (xty g) base (xwd g) cM x_g0 az kz ovL) 92 [] [(0, .ref 93), (1, .ref l1), (5, .long l5), (7, .long l7), (9, .int l9), (10, .int l10), (11, .int l11)] M (m_WordCounts_wordOfLength_92 k14 l1 l5 l7 l9 l10 l11 M) := by
  unfold m_WordCounts_wordOfLength_92
  refine s_lload B d_WordCounts_wordOfLength_92 rfl ?_
  refine s_iconst (v := (2:Int32)) B d_WordCounts_wordOfLength_94 (by decide) ?_
  refine s_lshl B d_WordCounts_wordOfLength_95 ?_
  refine s_iload B d_WordCounts_wordOfLength_96 rfl ?_
  refine s_i2l B d_WordCounts_wordOfLength_98 ?_
  refine s_lor B d_WordCounts_wordOfLength_99 ?_
  refine s_lstore B d_WordCounts_wordOfLength_100 (by decide) ?_
  refine s_aload_n B d_WordCounts_wordOfLength_102 rfl ?_
  refine s_iload B d_WordCounts_wordOfLength_103 rfl ?_
  refine s_iload B d_WordCounts_wordOfLength_105 rfl ?_
  refine s_pick (lv1 := [(0, .ref 93), (1, .ref l1), (5, .long ((l5 <<< ((2:Int32).toInt64 &&& 63)) ||| l11.toInt64)), (7, .long l7), (10, .int l10)]) [0, 1, 5, 7, 10] rfl ?_
  refine s_callI (av := [.ref l1, .int l9, .int l11]) (rest := []) B (lk_V B d_WordCounts_wordOfLength_107 (gl_WordCounts_36 _) rfl hv_Machine_next (by decide) (by decide)) rfl (x_rcV B xc_Machine hl1) (fun _ _ => rfl) rfl rfl (by simp [Value.category]) rfl (fun r1 e9 => ct_Machine_next _ _ _ _ r1 e9) (fun r1 _ => ?_)
  refine s_istore B d_WordCounts_wordOfLength_110 (by decide) ?_
  refine s_iinc (w := (-1:Int32)) B d_WordCounts_wordOfLength_112 rfl (by decide) (by decide) ?_
  refine s_goto B d_WordCounts_wordOfLength_115 rfl ?_
  refine s_pick (lv1 := [(0, .ref 93), (1, .ref l1), (5, .long ((l5 <<< ((2:Int32).toInt64 &&& 63)) ||| l11.toInt64)), (7, .long l7), (9, .int r1.2), (10, .int (l10 + (-1:Int32)))]) [0, 1, 5, 7, 9, 10] rfl ?_
  exact hk14 l1 ((l5 <<< ((2:Int32).toInt64 &&& 63)) ||| l11.toInt64) l7 r1.2 (l10 + (-1:Int32)) r1.1 hl1
set_option maxRecDepth 100000 in
set_option maxHeartbeats 4000000 in
theorem t_WordCounts_wordOfLength_43b {k14 : Nat × Int64 × Int64 × Int32 × Int32 × MS → Option (MS × Int64)} {k43 : Nat × Int64 × Int64 × Int32 × Int32 × Int32 × Int64 × MS → Option (MS × Int64)} (B : xB p R s m args meth c b_WordCounts_wordOfLength 14 R_WordCounts (Cond.code y_WordCounts_wordOfLength b_WordCounts_wordOfLength 14 (some .long) :: x_T) (some .long) 1 22 D x_cl (xty g) base) (hk14 : ∀ (l1 : Nat) (l5 : Int64) (l7 : Int64) (l9 : Int32) (l10 : Int32) (M : MS) (hl1 : x_kd l1 = 4), Sn p l e R s m args below meth c 14 D x_cl base (xwd g) cM x_g0 az kz (xfc cM) (xZ below args s D x_cl (xty g) base (xwd g) cM x_g0 az kz ovL) 14 [] [(0, .ref 93), (1, .ref l1), (5, .long l5), (7, .long l7), (9, .int l9), (10, .int l10)] M (k14 (l1, l5, l7, l9, l10, M))) (hk43 : ∀ (l1 : Nat) (l5 : Int64) (l7 : Int64) (l9 : Int32) (l10 : Int32) (l11 : Int32) (l12 : Int64) (M : MS) (hl1 : x_kd l1 = 4), Sn p l e R s m args below meth c 14 D x_cl base (xwd g) cM x_g0 az kz (xfc cM) (xZ below args s D x_cl (xty g) base (xwd g) cM x_g0 az kz ovL) 43 [] [(0, .ref 93), (1, .ref l1), (5, .long l5), (7, .long l7), (9, .int l9), (10, .int l10), (11, .int l11), (12, .long l12)] M (k43 (l1, l5, l7, l9, l10, l11, l12, M))) (l1 : Nat) (l5 : Int64) (l7 : Int64) (l9 : Int32) (l10 : Int32) (l11 : Int32) (l12 : Int64) (M : MS) (hl1 : x_kd l1 = 4) : Sn p l e R s m args below meth c 14 D x_cl base (xwd g) cM x_g0 az kz (xfc cM) (xZ below args s D x_cl (xty g) base (xwd g) cM x_g0 az kz ovL) 43 [] [(0, .ref 93), (1, .ref l1), (5, .long l5), (7, .long l7), (9, .int l9), (10, .int l10), (11, .int l11), (12, .long l12)] M (m_WordCounts_wordOfLength_43b k14 k43 l1 l5 l7 l9 l10 l11 l12 M) := by
  unfold m_WordCounts_wordOfLength_43b
  refine s_iload B d_WordCounts_wordOfLength_43 rfl ?_
  refine s_iconst (v := (3:Int32)) B d_WordCounts_wordOfLength_45 (by decide) ?_
  refine s_icmp_ge B d_WordCounts_wordOfLength_46 rfl (fun _ => ?_) (fun _ => ?_)
  · refine s_pick (lv1 := [(0, .ref 93), (1, .ref l1), (5, .long l5), (7, .long l7), (9, .int l9), (10, .int l10), (11, .int l11)]) [0, 1, 5, 7, 9, 10, 11] rfl ?_
    exact t_WordCounts_wordOfLength_92 B hk14 l1 l5 l7 l9 l10 l11 M hl1
  · refine s_lload B d_WordCounts_wordOfLength_49 rfl ?_
    refine s_lload B d_WordCounts_wordOfLength_51 rfl ?_
    refine s_lcmp B d_WordCounts_wordOfLength_53 ?_
    refine s_if_lt B d_WordCounts_wordOfLength_54 rfl (fun _ => ?_) (fun _ => ?_)
    · refine s_pick (lv1 := [(0, .ref 93), (1, .ref l1), (5, .long l5), (7, .long l7), (9, .int l9), (10, .int l10), (11, .int l11)]) [0, 1, 5, 7, 9, 10, 11] rfl ?_
      exact t_WordCounts_wordOfLength_92 B hk14 l1 l5 l7 l9 l10 l11 M hl1
    · refine s_lload B d_WordCounts_wordOfLength_57 rfl ?_
      refine s_lload B d_WordCounts_wordOfLength_59 rfl ?_
      refine s_lsub B d_WordCounts_wordOfLength_61 ?_
      refine s_lstore B d_WordCounts_wordOfLength_62 (by decide) ?_
      refine s_iinc (w := (1:Int32)) B d_WordCounts_wordOfLength_64 rfl (by decide) (by decide) ?_
      refine s_aload_n B d_WordCounts_wordOfLength_67 rfl ?_
      refine s_getS (k := 0) (n := 94) B xc_WordCounts kd_93 (by decide) rfl rfl fl_WordCounts_9 sr_93_0 d_WordCounts_wordOfLength_68 ?_
      refine s_iload B d_WordCounts_wordOfLength_71 rfl ?_
      refine s_sipush (v := (150:Int32)) B d_WordCounts_wordOfLength_73 (by decide) ?_
      refine s_imul B d_WordCounts_wordOfLength_76 ?_
      refine s_aload_n B d_WordCounts_wordOfLength_77 rfl ?_
      refine s_iload B d_WordCounts_wordOfLength_78 rfl ?_
      refine s_iload B d_WordCounts_wordOfLength_80 rfl ?_
      refine s_pick (lv1 := [(0, .ref 93), (1, .ref l1), (5, .long l5), (7, .long (l7 - l12)), (9, .int l9), (10, .int l10), (11, .int (l11 + (1:Int32)))]) [0, 1, 5, 7, 9, 10, 11] rfl ?_
      refine s_callI (av := [.ref l1, .int l9, .int (l11 + (1:Int32))]) (rest := [.int (l10 * (150:Int32)), .ref 94]) B (lk_V B d_WordCounts_wordOfLength_82 (gl_WordCounts_36 _) rfl hv_Machine_next (by decide) (by decide)) rfl (x_rcV B xc_Machine hl1) (fun _ _ => rfl) rfl rfl (by simp [Value.category]) rfl (fun r1 e9 => ct_Machine_next _ _ _ _ r1 e9) (fun r1 _ => ?_)
      refine s_iadd B d_WordCounts_wordOfLength_85 ?_
      refine s_lald B kd_94 d_WordCounts_wordOfLength_86 (fun v2 _ => ?_)
      refine s_lstore B d_WordCounts_wordOfLength_87 (by decide) ?_
      refine s_goto B d_WordCounts_wordOfLength_89 rfl ?_
      refine s_pick (lv1 := [(0, .ref 93), (1, .ref l1), (5, .long l5), (7, .long (l7 - l12)), (9, .int l9), (10, .int l10), (11, .int (l11 + (1:Int32))), (12, .long v2)]) [0, 1, 5, 7, 9, 10, 11, 12] rfl ?_
      exact hk43 l1 l5 (l7 - l12) l9 l10 (l11 + (1:Int32)) v2 r1.1 hl1
set_option maxRecDepth 100000 in
set_option maxHeartbeats 4000000 in
theorem t_WordCounts_wordOfLength_43 {k14 : Nat × Int64 × Int64 × Int32 × Int32 × MS → Option (MS × Int64)} (B : xB p R s m args meth c b_WordCounts_wordOfLength 14 R_WordCounts (Cond.code y_WordCounts_wordOfLength b_WordCounts_wordOfLength 14 (some .long) :: x_T) (some .long) 1 22 D x_cl (xty g) base) (hk14 : ∀ (l1 : Nat) (l5 : Int64) (l7 : Int64) (l9 : Int32) (l10 : Int32) (M : MS) (hl1 : x_kd l1 = 4), Sn p l e R s m args below meth c 14 D x_cl base (xwd g) cM x_g0 az kz (xfc cM) (xZ below args s D x_cl (xty g) base (xwd g) cM x_g0 az kz ovL) 14 [] [(0, .ref 93), (1, .ref l1), (5, .long l5), (7, .long l7), (9, .int l9), (10, .int l10)] M (k14 (l1, l5, l7, l9, l10, M))) (l1 : Nat) (l5 : Int64) (l7 : Int64) (l9 : Int32) (l10 : Int32) (l11 : Int32) (l12 : Int64) (M : MS) (hl1 : x_kd l1 = 4) : Sn p l e R s m args below meth c 14 D x_cl base (xwd g) cM x_g0 az kz (xfc cM) (xZ below args s D x_cl (xty g) base (xwd g) cM x_g0 az kz ovL) 43 [] [(0, .ref 93), (1, .ref l1), (5, .long l5), (7, .long l7), (9, .int l9), (10, .int l10), (11, .int l11), (12, .long l12)] M (m_WordCounts_wordOfLength_43 k14 (l1, l5, l7, l9, l10, l11, l12, M)) := by
  have q : ∀ (F : Nat) (i : Nat × Int64 × Int64 × Int32 × Int32 × Int32 × Int64 × MS), x_kd i.1 = 4 → Sn p l e R s m args below meth c 14 D x_cl base (xwd g) cM x_g0 az kz (xfc cM) (xZ below args s D x_cl (xty g) base (xwd g) cM x_g0 az kz ovL) 43 [] [(0, .ref 93), (1, .ref i.1), (5, .long i.2.1), (7, .long i.2.2.1), (9, .int i.2.2.2.1), (10, .int i.2.2.2.2.1), (11, .int i.2.2.2.2.2.1), (12, .long i.2.2.2.2.2.2.1)] i.2.2.2.2.2.2.2 (fx (fun (k : Nat × Int64 × Int64 × Int32 × Int32 × Int32 × Int64 × MS → Option (MS × Int64)) (i : Nat × Int64 × Int64 × Int32 × Int32 × Int32 × Int64 × MS) => m_WordCounts_wordOfLength_43b k14 k i.1 i.2.1 i.2.2.1 i.2.2.2.1 i.2.2.2.2.1 i.2.2.2.2.2.1 i.2.2.2.2.2.2.1 i.2.2.2.2.2.2.2) F i) := by
    intro F
    induction F with
    | zero => intro i h0; exact s_none
    | succ F ih => intro i h0; exact t_WordCounts_wordOfLength_43b B hk14 (fun l1 l5 l7 l9 l10 l11 l12 M h0 => ih (l1, l5, l7, l9, l10, l11, l12, M) h0) i.1 i.2.1 i.2.2.1 i.2.2.2.1 i.2.2.2.2.1 i.2.2.2.2.2.1 i.2.2.2.2.2.2.1 i.2.2.2.2.2.2.2 h0
  exact q FU (l1, l5, l7, l9, l10, l11, l12, M) hl1
set_option maxRecDepth 100000 in
set_option maxHeartbeats 4000000 in
theorem t_WordCounts_wordOfLength_14b {k14 : Nat × Int64 × Int64 × Int32 × Int32 × MS → Option (MS × Int64)} (B : xB p R s m args meth c b_WordCounts_wordOfLength 14 R_WordCounts (Cond.code y_WordCounts_wordOfLength b_WordCounts_wordOfLength 14 (some .long) :: x_T) (some .long) 1 22 D x_cl (xty g) base) (hk14 : ∀ (l1 : Nat) (l5 : Int64) (l7 : Int64) (l9 : Int32) (l10 : Int32) (M : MS) (hl1 : x_kd l1 = 4), Sn p l e R s m args below meth c 14 D x_cl base (xwd g) cM x_g0 az kz (xfc cM) (xZ below args s D x_cl (xty g) base (xwd g) cM x_g0 az kz ovL) 14 [] [(0, .ref 93), (1, .ref l1), (5, .long l5), (7, .long l7), (9, .int l9), (10, .int l10)] M (k14 (l1, l5, l7, l9, l10, M))) (l1 : Nat) (l5 : Int64) (l7 : Int64) (l9 : Int32) (l10 : Int32) (M : MS) (hl1 : x_kd l1 = 4) : Sn p l e R s m args below meth c 14 D x_cl base (xwd g) cM x_g0 az kz (xfc cM) (xZ below args s D x_cl (xty g) base (xwd g) cM x_g0 az kz ovL) 14 [] [(0, .ref 93), (1, .ref l1), (5, .long l5), (7, .long l7), (9, .int l9), (10, .int l10)] M (m_WordCounts_wordOfLength_14b k14 l1 l5 l7 l9 l10 M) := by
  unfold m_WordCounts_wordOfLength_14b
  refine s_iload B d_WordCounts_wordOfLength_14 rfl ?_
  refine s_if_lt B d_WordCounts_wordOfLength_16 rfl (fun _ => ?_) (fun _ => ?_)
  · refine s_lload B d_WordCounts_wordOfLength_118 rfl ?_
    exact s_lret B d_WordCounts_wordOfLength_120
  · refine s_iconst (v := (0:Int32)) B d_WordCounts_wordOfLength_19 (by decide) ?_
    refine s_istore B d_WordCounts_wordOfLength_20 (by decide) ?_
    refine s_aload_n B d_WordCounts_wordOfLength_22 rfl ?_
    refine s_getS (k := 0) (n := 94) B xc_WordCounts kd_93 (by decide) rfl rfl fl_WordCounts_9 sr_93_0 d_WordCounts_wordOfLength_23 ?_
    refine s_iload B d_WordCounts_wordOfLength_26 rfl ?_
    refine s_sipush (v := (150:Int32)) B d_WordCounts_wordOfLength_28 (by decide) ?_
    refine s_imul B d_WordCounts_wordOfLength_31 ?_
    refine s_aload_n B d_WordCounts_wordOfLength_32 rfl ?_
    refine s_iload B d_WordCounts_wordOfLength_33 rfl ?_
    refine s_iconst (v := (0:Int32)) B d_WordCounts_wordOfLength_35 (by decide) ?_
    refine s_pick (lv1 := [(0, .ref 93), (1, .ref l1), (5, .long l5), (7, .long l7), (9, .int l9), (10, .int l10), (11, .int (0:Int32))]) [0, 1, 5, 7, 9, 10, 11] rfl ?_
    refine s_callI (av := [.ref l1, .int l9, .int (0:Int32)]) (rest := [.int (l10 * (150:Int32)), .ref 94]) B (lk_V B d_WordCounts_wordOfLength_36 (gl_WordCounts_36 _) rfl hv_Machine_next (by decide) (by decide)) rfl (x_rcV B xc_Machine hl1) (fun _ _ => rfl) rfl rfl (by simp [Value.category]) rfl (fun r1 e9 => ct_Machine_next _ _ _ _ r1 e9) (fun r1 _ => ?_)
    refine s_iadd B d_WordCounts_wordOfLength_39 ?_
    refine s_lald B kd_94 d_WordCounts_wordOfLength_40 (fun v2 _ => ?_)
    refine s_lstore B d_WordCounts_wordOfLength_41 (by decide) ?_
    refine s_pick (lv1 := [(0, .ref 93), (1, .ref l1), (5, .long l5), (7, .long l7), (9, .int l9), (10, .int l10), (11, .int (0:Int32)), (12, .long v2)]) [0, 1, 5, 7, 9, 10, 11, 12] rfl ?_
    exact t_WordCounts_wordOfLength_43 B hk14 l1 l5 l7 l9 l10 (0:Int32) v2 r1.1 hl1
set_option maxRecDepth 100000 in
set_option maxHeartbeats 4000000 in
theorem t_WordCounts_wordOfLength_14  (B : xB p R s m args meth c b_WordCounts_wordOfLength 14 R_WordCounts (Cond.code y_WordCounts_wordOfLength b_WordCounts_wordOfLength 14 (some .long) :: x_T) (some .long) 1 22 D x_cl (xty g) base)  (l1 : Nat) (l5 : Int64) (l7 : Int64) (l9 : Int32) (l10 : Int32) (M : MS) (hl1 : x_kd l1 = 4) : Sn p l e R s m args below meth c 14 D x_cl base (xwd g) cM x_g0 az kz (xfc cM) (xZ below args s D x_cl (xty g) base (xwd g) cM x_g0 az kz ovL) 14 [] [(0, .ref 93), (1, .ref l1), (5, .long l5), (7, .long l7), (9, .int l9), (10, .int l10)] M (m_WordCounts_wordOfLength_14 (l1, l5, l7, l9, l10, M)) := by
  have q : ∀ (F : Nat) (i : Nat × Int64 × Int64 × Int32 × Int32 × MS), x_kd i.1 = 4 → Sn p l e R s m args below meth c 14 D x_cl base (xwd g) cM x_g0 az kz (xfc cM) (xZ below args s D x_cl (xty g) base (xwd g) cM x_g0 az kz ovL) 14 [] [(0, .ref 93), (1, .ref i.1), (5, .long i.2.1), (7, .long i.2.2.1), (9, .int i.2.2.2.1), (10, .int i.2.2.2.2.1)] i.2.2.2.2.2 (fx (fun (k : Nat × Int64 × Int64 × Int32 × Int32 × MS → Option (MS × Int64)) (i : Nat × Int64 × Int64 × Int32 × Int32 × MS) => m_WordCounts_wordOfLength_14b k i.1 i.2.1 i.2.2.1 i.2.2.2.1 i.2.2.2.2.1 i.2.2.2.2.2) F i) := by
    intro F
    induction F with
    | zero => intro i h0; exact s_none
    | succ F ih => intro i h0; exact t_WordCounts_wordOfLength_14b B  (fun l1 l5 l7 l9 l10 M h0 => ih (l1, l5, l7, l9, l10, M) h0) i.1 i.2.1 i.2.2.1 i.2.2.2.1 i.2.2.2.2.1 i.2.2.2.2.2 h0
  exact q FU (l1, l5, l7, l9, l10, M) hl1
set_option maxRecDepth 100000 in
set_option maxHeartbeats 4000000 in
theorem t_WordCounts_wordOfLength (B : xB p R s m args meth c b_WordCounts_wordOfLength 14 R_WordCounts (Cond.code y_WordCounts_wordOfLength b_WordCounts_wordOfLength 14 (some .long) :: x_T) (some .long) 1 22 D x_cl (xty g) base) (a1 : Nat) (a2 : Int32) (a3 : Int64) (M : MS) : Sn p l e R s m args below meth c 14 D x_cl base (xwd g) cM x_g0 az kz (xfc cM) (xZ below args s D x_cl (xty g) base (xwd g) cM x_g0 az kz ovL) 0 [] [(0, .ref 93), (1, .ref a1), (2, .int a2), (3, .long a3)] M (m_WordCounts_wordOfLength a1 a2 a3 M) := by
  unfold m_WordCounts_wordOfLength
  refine s_guard (fun ha1 => ?_)
  refine s_lconst (v := (0:Int64)) B d_WordCounts_wordOfLength_0 (by decide) ?_
  refine s_lstore B d_WordCounts_wordOfLength_1 (by decide) ?_
  refine s_lload_n B d_WordCounts_wordOfLength_3 rfl ?_
  refine s_lstore B d_WordCounts_wordOfLength_4 (by decide) ?_
  refine s_iconst (v := (0:Int32)) B d_WordCounts_wordOfLength_6 (by decide) ?_
  refine s_istore B d_WordCounts_wordOfLength_7 (by decide) ?_
  refine s_iload_n B d_WordCounts_wordOfLength_9 rfl ?_
  refine s_iconst (v := (1:Int32)) B d_WordCounts_wordOfLength_10 (by decide) ?_
  refine s_isub B d_WordCounts_wordOfLength_11 ?_
  refine s_istore B d_WordCounts_wordOfLength_12 (by decide) ?_
  refine s_pick (lv1 := [(0, .ref 93), (1, .ref a1), (5, .long (0:Int64)), (7, .long a3), (9, .int (0:Int32)), (10, .int (a2 - (1:Int32)))]) [0, 1, 5, 7, 9, 10] rfl ?_
  exact t_WordCounts_wordOfLength_14 B a1 (0:Int64) a3 (0:Int32) (a2 - (1:Int32)) M ha1
set_option maxRecDepth 100000 in
set_option maxHeartbeats 4000000 in
theorem ct_WordCounts_wordOfLength {l : Launch} {D : va_G} {base : Nat} {g : Nat → ClassId} (a1 : Nat) (a2 : Int32) (a3 : Int64) (M : MS) (r : MS × Int64) (hr : m_WordCounts_wordOfLength a1 a2 a3 M = some r) : Ct l y_WordCounts_wordOfLength (Cond.code y_WordCounts_wordOfLength b_WordCounts_wordOfLength 14 (some .long) :: x_T) 1 22 D x_cl (xty g) base (xwd g) cM x_g0 [.ref 93, .ref a1, .int a2, .long a3] M r.1 (ovL r.2) :=
  x_met (ov := ovL) (by decide) (Nat.le_of_ble_eq_true rfl) (fun p e R s m args below meth c az B => t_WordCounts_wordOfLength B a1 a2 a3 M) r hr
end
theorem d_WordCounts_wordAt_0 : decode b_WordCounts_wordAt 0 = .ok (.lload_n 2, 1) := by decide +kernel
theorem d_WordCounts_wordAt_1 : decode b_WordCounts_wordAt 1 = .ok (.lconst 0, 1) := by decide +kernel
theorem d_WordCounts_wordAt_2 : decode b_WordCounts_wordAt 2 = .ok (.lcmp, 1) := by decide +kernel
theorem d_WordCounts_wordAt_3 : decode b_WordCounts_wordAt 3 = .ok (.ifCond .ge (7), 3) := by decide +kernel
theorem d_WordCounts_wordAt_6 : decode b_WordCounts_wordAt 6 = .ok (.ldc2_w 40, 3) := by decide +kernel
theorem d_WordCounts_wordAt_9 : decode b_WordCounts_wordAt 9 = .ok (.lreturn, 1) := by decide +kernel
theorem d_WordCounts_wordAt_10 : decode b_WordCounts_wordAt 10 = .ok (.aload_n 0, 1) := by decide +kernel
theorem d_WordCounts_wordAt_11 : decode b_WordCounts_wordAt 11 = .ok (.aload_n 1, 1) := by decide +kernel
theorem d_WordCounts_wordAt_12 : decode b_WordCounts_wordAt 12 = .ok (.bipush (16), 2) := by decide +kernel
theorem d_WordCounts_wordAt_14 : decode b_WordCounts_wordAt 14 = .ok (.invokevirtual 22, 3) := by decide +kernel
theorem d_WordCounts_wordAt_17 : decode b_WordCounts_wordAt 17 = .ok (.lload_n 2, 1) := by decide +kernel
theorem d_WordCounts_wordAt_18 : decode b_WordCounts_wordAt 18 = .ok (.lstore 4, 2) := by decide +kernel
theorem d_WordCounts_wordAt_20 : decode b_WordCounts_wordAt 20 = .ok (.iconst (0), 1) := by decide +kernel
theorem d_WordCounts_wordAt_21 : decode b_WordCounts_wordAt 21 = .ok (.istore 6, 2) := by decide +kernel
theorem d_WordCounts_wordAt_23 : decode b_WordCounts_wordAt 23 = .ok (.iload 6, 2) := by decide +kernel
theorem d_WordCounts_wordAt_25 : decode b_WordCounts_wordAt 25 = .ok (.bipush (16), 2) := by decide +kernel
theorem d_WordCounts_wordAt_27 : decode b_WordCounts_wordAt 27 = .ok (.if_icmp .gt (55), 3) := by decide +kernel
theorem d_WordCounts_wordAt_30 : decode b_WordCounts_wordAt 30 = .ok (.aload_n 0, 1) := by decide +kernel
theorem d_WordCounts_wordAt_31 : decode b_WordCounts_wordAt 31 = .ok (.getfield 9, 3) := by decide +kernel
theorem d_WordCounts_wordAt_34 : decode b_WordCounts_wordAt 34 = .ok (.iload 6, 2) := by decide +kernel
theorem d_WordCounts_wordAt_36 : decode b_WordCounts_wordAt 36 = .ok (.sipush (150), 3) := by decide +kernel
theorem d_WordCounts_wordAt_39 : decode b_WordCounts_wordAt 39 = .ok (.imul, 1) := by decide +kernel
theorem d_WordCounts_wordAt_40 : decode b_WordCounts_wordAt 40 = .ok (.laload, 1) := by decide +kernel
theorem d_WordCounts_wordAt_41 : decode b_WordCounts_wordAt 41 = .ok (.lstore 7, 2) := by decide +kernel
theorem d_WordCounts_wordAt_43 : decode b_WordCounts_wordAt 43 = .ok (.lload 4, 2) := by decide +kernel
theorem d_WordCounts_wordAt_45 : decode b_WordCounts_wordAt 45 = .ok (.lload 7, 2) := by decide +kernel
theorem d_WordCounts_wordAt_47 : decode b_WordCounts_wordAt 47 = .ok (.lcmp, 1) := by decide +kernel
theorem d_WordCounts_wordAt_48 : decode b_WordCounts_wordAt 48 = .ok (.ifCond .ge (21), 3) := by decide +kernel
theorem d_WordCounts_wordAt_51 : decode b_WordCounts_wordAt 51 = .ok (.iload 6, 2) := by decide +kernel
theorem d_WordCounts_wordAt_53 : decode b_WordCounts_wordAt 53 = .ok (.i2l, 1) := by decide +kernel
theorem d_WordCounts_wordAt_54 : decode b_WordCounts_wordAt 54 = .ok (.ldc2_w 42, 3) := by decide +kernel
theorem d_WordCounts_wordAt_57 : decode b_WordCounts_wordAt 57 = .ok (.lmul, 1) := by decide +kernel
theorem d_WordCounts_wordAt_58 : decode b_WordCounts_wordAt 58 = .ok (.aload_n 0, 1) := by decide +kernel
theorem d_WordCounts_wordAt_59 : decode b_WordCounts_wordAt 59 = .ok (.aload_n 1, 1) := by decide +kernel
theorem d_WordCounts_wordAt_60 : decode b_WordCounts_wordAt 60 = .ok (.iload 6, 2) := by decide +kernel
theorem d_WordCounts_wordAt_62 : decode b_WordCounts_wordAt 62 = .ok (.lload 4, 2) := by decide +kernel
theorem d_WordCounts_wordAt_64 : decode b_WordCounts_wordAt 64 = .ok (.invokevirtual 44, 3) := by decide +kernel
theorem d_WordCounts_wordAt_67 : decode b_WordCounts_wordAt 67 = .ok (.ladd, 1) := by decide +kernel
theorem d_WordCounts_wordAt_68 : decode b_WordCounts_wordAt 68 = .ok (.lreturn, 1) := by decide +kernel
theorem d_WordCounts_wordAt_69 : decode b_WordCounts_wordAt 69 = .ok (.lload 4, 2) := by decide +kernel
theorem d_WordCounts_wordAt_71 : decode b_WordCounts_wordAt 71 = .ok (.lload 7, 2) := by decide +kernel
theorem d_WordCounts_wordAt_73 : decode b_WordCounts_wordAt 73 = .ok (.lsub, 1) := by decide +kernel
theorem d_WordCounts_wordAt_74 : decode b_WordCounts_wordAt 74 = .ok (.lstore 4, 2) := by decide +kernel
theorem d_WordCounts_wordAt_76 : decode b_WordCounts_wordAt 76 = .ok (.iinc 6 (1), 3) := by decide +kernel
theorem d_WordCounts_wordAt_79 : decode b_WordCounts_wordAt 79 = .ok (.goto (-56), 3) := by decide +kernel
theorem d_WordCounts_wordAt_82 : decode b_WordCounts_wordAt 82 = .ok (.ldc2_w 40, 3) := by decide +kernel
theorem d_WordCounts_wordAt_85 : decode b_WordCounts_wordAt 85 = .ok (.lreturn, 1) := by decide +kernel
section
variable {p : Program} {l : Launch} {e : Env} {R : Room} {s : State} {m : MethodId} {args : Array Value} {below : List Frame} {meth : Method} {c : Code} {D : va_G} {base : Nat} {g : Nat → ClassId} {az : Nat → Nat} {kz : Nat × Nat}
set_option maxRecDepth 100000 in
set_option maxHeartbeats 4000000 in
theorem t_WordCounts_wordAt_51  (B : xB p R s m args meth c b_WordCounts_wordAt 9 R_WordCounts (Cond.code y_WordCounts_wordAt b_WordCounts_wordAt 9 (some .long) :: x_T) (some .long) 2 55 D x_cl (xty g) base)  (l1 : Nat) (l4 : Int64) (l6 : Int32) (M : MS) (hl1 : x_kd l1 = 4) : Sn p l e R s m args below meth c 9 D x_cl base (xwd g) cM x_g0 az kz (xfc cM) (xZ below args s D x_cl (xty g) base (xwd g) cM x_g0 az kz ovL) 51 [] [(0, .ref 93), (1, .ref l1), (4, .long l4), (6, .int l6)] M (m_WordCounts_wordAt_51 l1 l4 l6 M) := by
  unfold m_WordCounts_wordAt_51
  refine s_iload B d_WordCounts_wordAt_51 rfl ?_
  refine s_i2l B d_WordCounts_wordAt_53 ?_
  refine s_ldc2 (v := (68719476736:Int64)) B d_WordCounts_wordAt_54 (List.mem_cons_of_mem _ cs_WordCounts_42) ?_
  refine s_lmul B d_WordCounts_wordAt_57 ?_
  refine s_aload_n B d_WordCounts_wordAt_58 rfl ?_
  refine s_aload_n B d_WordCounts_wordAt_59 rfl ?_
  refine s_iload B d_WordCounts_wordAt_60 rfl ?_
  refine s_lload B d_WordCounts_wordAt_62 rfl ?_
  refine s_pick (lv1 := []) [] rfl ?_
  refine s_callL (av := [.ref 93, .ref l1, .int l6, .long l4]) (rest := [.long (l6.toInt64 * (68719476736:Int64))]) B (lk_V B d_WordCounts_wordAt_64 (gl_WordCounts_44 _) rfl hv_WordCounts_wordOfLength (by decide) (by decide)) rfl (x_rcV B xc_WordCounts kd_93) (fun _ _ => rfl) rfl rfl (by simp [Value.category]) rfl (fun r1 e9 => ct_WordCounts_wordOfLength _ _ _ _ r1 e9) (fun r1 _ => ?_)
  refine s_ladd B d_WordCounts_wordAt_67 ?_
  exact s_lret B d_WordCounts_wordAt_68
set_option maxRecDepth 100000 in
set_option maxHeartbeats 4000000 in
theorem t_WordCounts_wordAt_23b {k23 : Nat × Int64 × Int32 × MS → Option (MS × Int64)} (B : xB p R s m args meth c b_WordCounts_wordAt 9 R_WordCounts (Cond.code y_WordCounts_wordAt b_WordCounts_wordAt 9 (some .long) :: x_T) (some .long) 2 55 D x_cl (xty g) base) (hk23 : ∀ (l1 : Nat) (l4 : Int64) (l6 : Int32) (M : MS) (hl1 : x_kd l1 = 4), Sn p l e R s m args below meth c 9 D x_cl base (xwd g) cM x_g0 az kz (xfc cM) (xZ below args s D x_cl (xty g) base (xwd g) cM x_g0 az kz ovL) 23 [] [(0, .ref 93), (1, .ref l1), (4, .long l4), (6, .int l6)] M (k23 (l1, l4, l6, M))) (l1 : Nat) (l4 : Int64) (l6 : Int32) (M : MS) (hl1 : x_kd l1 = 4) : Sn p l e R s m args below meth c 9 D x_cl base (xwd g) cM x_g0 az kz (xfc cM) (xZ below args s D x_cl (xty g) base (xwd g) cM x_g0 az kz ovL) 23 [] [(0, .ref 93), (1, .ref l1), (4, .long l4), (6, .int l6)] M (m_WordCounts_wordAt_23b k23 l1 l4 l6 M) := by
  unfold m_WordCounts_wordAt_23b
  refine s_iload B d_WordCounts_wordAt_23 rfl ?_
  refine s_bipush (v := (16:Int32)) B d_WordCounts_wordAt_25 (by decide) ?_
  refine s_icmp_gt B d_WordCounts_wordAt_27 rfl (fun _ => ?_) (fun _ => ?_)
  · refine s_ldc2 (v := (-1:Int64)) B d_WordCounts_wordAt_82 (List.mem_cons_of_mem _ cs_WordCounts_40) ?_
    exact s_lret B d_WordCounts_wordAt_85
  · refine s_aload_n B d_WordCounts_wordAt_30 rfl ?_
    refine s_getS (k := 0) (n := 94) B xc_WordCounts kd_93 (by decide) rfl rfl fl_WordCounts_9 sr_93_0 d_WordCounts_wordAt_31 ?_
    refine s_iload B d_WordCounts_wordAt_34 rfl ?_
    refine s_sipush (v := (150:Int32)) B d_WordCounts_wordAt_36 (by decide) ?_
    refine s_imul B d_WordCounts_wordAt_39 ?_
    refine s_lald B kd_94 d_WordCounts_wordAt_40 (fun v1 _ => ?_)
    refine s_lstore B d_WordCounts_wordAt_41 (by decide) ?_
    refine s_lload B d_WordCounts_wordAt_43 rfl ?_
    refine s_lload B d_WordCounts_wordAt_45 rfl ?_
    refine s_lcmp B d_WordCounts_wordAt_47 ?_
    refine s_if_ge B d_WordCounts_wordAt_48 rfl (fun _ => ?_) (fun _ => ?_)
    · refine s_lload B d_WordCounts_wordAt_69 rfl ?_
      refine s_lload B d_WordCounts_wordAt_71 rfl ?_
      refine s_lsub B d_WordCounts_wordAt_73 ?_
      refine s_lstore B d_WordCounts_wordAt_74 (by decide) ?_
      refine s_iinc (w := (1:Int32)) B d_WordCounts_wordAt_76 rfl (by decide) (by decide) ?_
      refine s_goto B d_WordCounts_wordAt_79 rfl ?_
      refine s_pick (lv1 := [(0, .ref 93), (1, .ref l1), (4, .long (l4 - v1)), (6, .int (l6 + (1:Int32)))]) [0, 1, 4, 6] rfl ?_
      exact hk23 l1 (l4 - v1) (l6 + (1:Int32)) M hl1
    · refine s_pick (lv1 := [(0, .ref 93), (1, .ref l1), (4, .long l4), (6, .int l6)]) [0, 1, 4, 6] rfl ?_
      exact t_WordCounts_wordAt_51 B l1 l4 l6 M hl1
set_option maxRecDepth 100000 in
set_option maxHeartbeats 4000000 in
theorem t_WordCounts_wordAt_23  (B : xB p R s m args meth c b_WordCounts_wordAt 9 R_WordCounts (Cond.code y_WordCounts_wordAt b_WordCounts_wordAt 9 (some .long) :: x_T) (some .long) 2 55 D x_cl (xty g) base)  (l1 : Nat) (l4 : Int64) (l6 : Int32) (M : MS) (hl1 : x_kd l1 = 4) : Sn p l e R s m args below meth c 9 D x_cl base (xwd g) cM x_g0 az kz (xfc cM) (xZ below args s D x_cl (xty g) base (xwd g) cM x_g0 az kz ovL) 23 [] [(0, .ref 93), (1, .ref l1), (4, .long l4), (6, .int l6)] M (m_WordCounts_wordAt_23 (l1, l4, l6, M)) := by
  have q : ∀ (F : Nat) (i : Nat × Int64 × Int32 × MS), x_kd i.1 = 4 → Sn p l e R s m args below meth c 9 D x_cl base (xwd g) cM x_g0 az kz (xfc cM) (xZ below args s D x_cl (xty g) base (xwd g) cM x_g0 az kz ovL) 23 [] [(0, .ref 93), (1, .ref i.1), (4, .long i.2.1), (6, .int i.2.2.1)] i.2.2.2 (fx (fun (k : Nat × Int64 × Int32 × MS → Option (MS × Int64)) (i : Nat × Int64 × Int32 × MS) => m_WordCounts_wordAt_23b k i.1 i.2.1 i.2.2.1 i.2.2.2) F i) := by
    intro F
    induction F with
    | zero => intro i h0; exact s_none
    | succ F ih => intro i h0; exact t_WordCounts_wordAt_23b B  (fun l1 l4 l6 M h0 => ih (l1, l4, l6, M) h0) i.1 i.2.1 i.2.2.1 i.2.2.2 h0
  exact q FU (l1, l4, l6, M) hl1
set_option maxRecDepth 100000 in
set_option maxHeartbeats 4000000 in
theorem t_WordCounts_wordAt (B : xB p R s m args meth c b_WordCounts_wordAt 9 R_WordCounts (Cond.code y_WordCounts_wordAt b_WordCounts_wordAt 9 (some .long) :: x_T) (some .long) 2 55 D x_cl (xty g) base) (a1 : Nat) (a2 : Int64) (M : MS) : Sn p l e R s m args below meth c 9 D x_cl base (xwd g) cM x_g0 az kz (xfc cM) (xZ below args s D x_cl (xty g) base (xwd g) cM x_g0 az kz ovL) 0 [] [(0, .ref 93), (1, .ref a1), (2, .long a2)] M (m_WordCounts_wordAt a1 a2 M) := by
  unfold m_WordCounts_wordAt
  refine s_guard (fun ha1 => ?_)
  refine s_lload_n B d_WordCounts_wordAt_0 rfl ?_
  refine s_lconst (v := (0:Int64)) B d_WordCounts_wordAt_1 (by decide) ?_
  refine s_lcmp B d_WordCounts_wordAt_2 ?_
  refine s_if_ge B d_WordCounts_wordAt_3 rfl (fun _ => ?_) (fun _ => ?_)
  · refine s_aload_n B d_WordCounts_wordAt_10 rfl ?_
    refine s_aload_n B d_WordCounts_wordAt_11 rfl ?_
    refine s_bipush (v := (16:Int32)) B d_WordCounts_wordAt_12 (by decide) ?_
    refine s_pick (lv1 := [(0, .ref 93), (1, .ref a1), (2, .long a2)]) [0, 1, 2] rfl ?_
    refine s_callU (av := [.ref 93, .ref a1, .int (16:Int32)]) (rest := []) B (lk_V B d_WordCounts_wordAt_14 (gl_WordCounts_22 _) rfl hv_WordCounts_fill (by decide) (by decide)) rfl (x_rcV B xc_WordCounts kd_93) (fun _ _ => rfl) rfl rfl (by simp [Value.category]) rfl (fun r1 e9 => ct_WordCounts_fill _ _ _ r1 e9) (fun r1 _ => ?_)
    refine s_lload_n B d_WordCounts_wordAt_17 rfl ?_
    refine s_lstore B d_WordCounts_wordAt_18 (by decide) ?_
    refine s_iconst (v := (0:Int32)) B d_WordCounts_wordAt_20 (by decide) ?_
    refine s_istore B d_WordCounts_wordAt_21 (by decide) ?_
    refine s_pick (lv1 := [(0, .ref 93), (1, .ref a1), (4, .long a2), (6, .int (0:Int32))]) [0, 1, 4, 6] rfl ?_
    exact t_WordCounts_wordAt_23 B a1 a2 (0:Int32) r1.1 ha1
  · refine s_ldc2 (v := (-1:Int64)) B d_WordCounts_wordAt_6 (List.mem_cons_of_mem _ cs_WordCounts_40) ?_
    exact s_lret B d_WordCounts_wordAt_9
set_option maxRecDepth 100000 in
set_option maxHeartbeats 4000000 in
theorem ct_WordCounts_wordAt {l : Launch} {D : va_G} {base : Nat} {g : Nat → ClassId} (a1 : Nat) (a2 : Int64) (M : MS) (r : MS × Int64) (hr : m_WordCounts_wordAt a1 a2 M = some r) : Ct l y_WordCounts_wordAt (Cond.code y_WordCounts_wordAt b_WordCounts_wordAt 9 (some .long) :: x_T) 2 55 D x_cl (xty g) base (xwd g) cM x_g0 [.ref 93, .ref a1, .long a2] M r.1 (ovL r.2) :=
  x_met (ov := ovL) (by decide) (Nat.le_of_ble_eq_true rfl) (fun p e R s m args below meth c az B => t_WordCounts_wordAt B a1 a2 M) r hr
end
theorem d_D_find_0 : decode b_D_find 0 = .ok (.iload_n 1, 1) := by decide +kernel
theorem d_D_find_1 : decode b_D_find 1 = .ok (.invokestatic 61, 3) := by decide +kernel
theorem d_D_find_4 : decode b_D_find 4 = .ok (.aload_n 0, 1) := by decide +kernel
theorem d_D_find_5 : decode b_D_find 5 = .ok (.getfield 23, 3) := by decide +kernel
theorem d_D_find_8 : decode b_D_find 8 = .ok (.iload_n 1, 1) := by decide +kernel
theorem d_D_find_9 : decode b_D_find 9 = .ok (.aload_n 0, 1) := by decide +kernel
theorem d_D_find_10 : decode b_D_find 10 = .ok (.getfield 16, 3) := by decide +kernel
theorem d_D_find_13 : decode b_D_find 13 = .ok (.aload_n 0, 1) := by decide +kernel
theorem d_D_find_14 : decode b_D_find 14 = .ok (.getfield 9, 3) := by decide +kernel
theorem d_D_find_17 : decode b_D_find 17 = .ok (.invokevirtual 98, 3) := by decide +kernel
theorem d_D_find_20 : decode b_D_find 20 = .ok (.astore 4, 2) := by decide +kernel
theorem d_D_find_22 : decode b_D_find 22 = .ok (.aload 4, 2) := by decide +kernel
theorem d_D_find_24 : decode b_D_find 24 = .ok (.invokevirtual 108, 3) := by decide +kernel
theorem d_D_find_27 : decode b_D_find 27 = .ok (.ifCond .eq (9), 3) := by decide +kernel
theorem d_D_find_30 : decode b_D_find 30 = .ok (.ldc2_w 129, 3) := by decide +kernel
theorem d_D_find_33 : decode b_D_find 33 = .ok (.goto (13), 3) := by decide +kernel
theorem d_D_find_36 : decode b_D_find 36 = .ok (.aload_n 0, 1) := by decide +kernel
theorem d_D_find_37 : decode b_D_find 37 = .ok (.getfield 51, 3) := by decide +kernel
theorem d_D_find_40 : decode b_D_find 40 = .ok (.aload 4, 2) := by decide +kernel
theorem d_D_find_42 : decode b_D_find 42 = .ok (.lload_n 2, 1) := by decide +kernel
theorem d_D_find_43 : decode b_D_find 43 = .ok (.invokevirtual 139, 3) := by decide +kernel
theorem d_D_find_46 : decode b_D_find 46 = .ok (.lreturn, 1) := by decide +kernel
section
variable {p : Program} {l : Launch} {e : Env} {R : Room} {s : State} {m : MethodId} {args : Array Value} {below : List Frame} {meth : Method} {c : Code} {D : va_G} {base : Nat} {g : Nat → ClassId} {az : Nat → Nat} {kz : Nat × Nat}
set_option maxRecDepth 100000 in
set_option maxHeartbeats 4000000 in
theorem t_D_find (B : xB p R s m args meth c b_D_find 5 R_D (Cond.code y_D_find b_D_find 5 (some .long) :: x_T) (some .long) 10 240 D x_cl (xty g) base) (a1 : Int32) (a2 : Int64) (M : MS) : Sn p l e R s m args below meth c 5 D x_cl base (xwd g) cM x_gr az kz (xfc cM) (xZ below args s D x_cl (xty g) base (xwd g) cM x_gr az kz ovL) 0 [] [(0, .ref 0), (1, .int a1), (2, .long a2)] M (m_D_find a1 a2 M) := by
  unfold m_D_find
  refine s_iload_n B d_D_find_0 rfl ?_
  refine s_pick (lv1 := [(0, .ref 0), (1, .int a1), (2, .long a2)]) [0, 1, 2] rfl ?_
  refine s_callU (av := [.int a1]) (rest := []) B (lk_S B d_D_find_1 (gl_D_61 _) (List.mem_cons_of_mem _ st_D_checkSlot) (List.mem_cons_of_mem _ in_D) (List.mem_cons_of_mem _ ml_D_61) rfl hs_D_checkSlot (by decide) (by decide)) rfl x_rcS (fun _ _ => rfl) rfl rfl (by simp [Value.category]) rfl (fun r1 e9 => ct_D_checkSlot _ _ r1 e9) (fun r1 _ => ?_)
  refine s_aload_n B d_D_find_4 rfl ?_
  refine s_getS (k := 2) (n := 24) B xc_D kd_0 (by decide) rfl rfl fl_D_23 sr_0_2 d_D_find_5 ?_
  refine s_iload_n B d_D_find_8 rfl ?_
  refine s_aload_n B d_D_find_9 rfl ?_
  refine s_getS (k := 1) (n := 2) B xc_D kd_0 (by decide) rfl rfl fl_D_16 sr_0_1 d_D_find_10 ?_
  refine s_aload_n B d_D_find_13 rfl ?_
  refine s_getS (k := 0) (n := 1) B xc_D kd_0 (by decide) rfl rfl fl_D_9 sr_0_0 d_D_find_14 ?_
  refine s_pick (lv1 := [(0, .ref 0), (2, .long a2)]) [0, 2] rfl ?_
  refine s_callR (av := [.ref 24, .int a1, .ref 2, .ref 1]) (rest := []) B (lk_V B d_D_find_17 (gl_D_98 _) rfl hv_Explorer_machineOf (by decide) (by decide)) rfl (x_rcV B xc_Explorer kd_24) (fun _ h => h) rfl (by simp [xng, x_gr, kd_0]) (by simp [Value.category]) rfl (fun r2 e9 => ct_Explorer_machineOf _ _ r2 e9) (fun r2 _ => ?_)
  refine s_guard (fun h3 => ?_)
  refine s_astore B d_D_find_20 (by decide) ?_
  refine s_aload B d_D_find_22 rfl ?_
  refine s_pick (lv1 := [(0, .ref 0), (2, .long a2), (4, .ref r2.2)]) [0, 2, 4] rfl ?_
  refine s_callI (av := [.ref r2.2]) (rest := []) B (lk_V B d_D_find_24 (gl_D_108 _) rfl hv_Machine_isTooLarge (by decide) (by decide)) rfl (x_rcV B xc_Machine h3) (fun _ _ => rfl) rfl rfl (by simp [Value.category]) rfl (fun r4 e9 => ct_Machine_isTooLarge _ _ r4 e9) (fun r4 _ => ?_)
  refine s_if_eq B d_D_find_27 rfl (fun _ => ?_) (fun _ => ?_)
  · refine s_aload_n B d_D_find_36 rfl ?_
    refine s_getS (k := 6) (n := 93) B xc_D kd_0 (by decide) rfl rfl fl_D_51 sr_0_6 d_D_find_37 ?_
    refine s_aload B d_D_find_40 rfl ?_
    refine s_lload_n B d_D_find_42 rfl ?_
    refine s_pick (lv1 := []) [] rfl ?_
    refine s_callL (av := [.ref 93, .ref r2.2, .long a2]) (rest := []) B (lk_V B d_D_find_43 (gl_D_139 _) rfl hv_WordCounts_wordAt (by decide) (by decide)) rfl (x_rcV B xc_WordCounts kd_93) (fun _ _ => rfl) rfl rfl (by simp [Value.category]) rfl (fun r5 e9 => ct_WordCounts_wordAt _ _ _ r5 e9) (fun r5 _ => ?_)
    exact s_lret B d_D_find_46
  · refine s_ldc2 (v := (-1:Int64)) B d_D_find_30 (List.mem_cons_of_mem _ cs_D_129) ?_
    refine s_goto B d_D_find_33 rfl ?_
    exact s_lret B d_D_find_46
set_option maxRecDepth 100000 in
set_option maxHeartbeats 4000000 in
theorem ct_D_find {l : Launch} {D : va_G} {base : Nat} {g : Nat → ClassId} (a1 : Int32) (a2 : Int64) (M : MS) (r : MS × Int64) (hr : m_D_find a1 a2 M = some r) : Ct l y_D_find (Cond.code y_D_find b_D_find 5 (some .long) :: x_T) 10 240 D x_cl (xty g) base (xwd g) cM x_gr [.ref 0, .int a1, .long a2] M r.1 (ovL r.2) :=
  x_met (ov := ovL) (by decide) (Nat.le_of_ble_eq_true rfl) (fun p e R s m args below meth c az B => t_D_find B a1 a2 M) r hr
end
theorem d_D_look_0 : decode b_D_look 0 = .ok (.iload_n 1, 1) := by decide +kernel
theorem d_D_look_1 : decode b_D_look 1 = .ok (.invokestatic 61, 3) := by decide +kernel
theorem d_D_look_4 : decode b_D_look 4 = .ok (.aload_n 0, 1) := by decide +kernel
theorem d_D_look_5 : decode b_D_look 5 = .ok (.getfield 9, 3) := by decide +kernel
theorem d_D_look_8 : decode b_D_look 8 = .ok (.iload_n 1, 1) := by decide +kernel
theorem d_D_look_9 : decode b_D_look 9 = .ok (.iaload, 1) := by decide +kernel
theorem d_D_look_10 : decode b_D_look 10 = .ok (.istore_n 3, 1) := by decide +kernel
theorem d_D_look_11 : decode b_D_look 11 = .ok (.iload_n 2, 1) := by decide +kernel
theorem d_D_look_12 : decode b_D_look 12 = .ok (.tableswitch (98) (0) (4) #[36, 45, 54, 71, 80], 36) := by decide +kernel
theorem d_D_look_48 : decode b_D_look 48 = .ok (.aload_n 0, 1) := by decide +kernel
theorem d_D_look_49 : decode b_D_look 49 = .ok (.getfield 16, 3) := by decide +kernel
theorem d_D_look_52 : decode b_D_look 52 = .ok (.iload_n 3, 1) := by decide +kernel
theorem d_D_look_53 : decode b_D_look 53 = .ok (.invokevirtual 143, 3) := by decide +kernel
theorem d_D_look_56 : decode b_D_look 56 = .ok (.ireturn, 1) := by decide +kernel
theorem d_D_look_57 : decode b_D_look 57 = .ok (.aload_n 0, 1) := by decide +kernel
theorem d_D_look_58 : decode b_D_look 58 = .ok (.getfield 16, 3) := by decide +kernel
theorem d_D_look_61 : decode b_D_look 61 = .ok (.iload_n 3, 1) := by decide +kernel
theorem d_D_look_62 : decode b_D_look 62 = .ok (.invokevirtual 146, 3) := by decide +kernel
theorem d_D_look_65 : decode b_D_look 65 = .ok (.ireturn, 1) := by decide +kernel
theorem d_D_look_66 : decode b_D_look 66 = .ok (.aload_n 0, 1) := by decide +kernel
theorem d_D_look_67 : decode b_D_look 67 = .ok (.getfield 16, 3) := by decide +kernel
theorem d_D_look_70 : decode b_D_look 70 = .ok (.iload_n 3, 1) := by decide +kernel
theorem d_D_look_71 : decode b_D_look 71 = .ok (.invokevirtual 149, 3) := by decide +kernel
theorem d_D_look_74 : decode b_D_look 74 = .ok (.ifCond .eq (7), 3) := by decide +kernel
theorem d_D_look_77 : decode b_D_look 77 = .ok (.iconst (1), 1) := by decide +kernel
theorem d_D_look_78 : decode b_D_look 78 = .ok (.goto (4), 3) := by decide +kernel
theorem d_D_look_81 : decode b_D_look 81 = .ok (.iconst (0), 1) := by decide +kernel
theorem d_D_look_82 : decode b_D_look 82 = .ok (.ireturn, 1) := by decide +kernel
theorem d_D_look_83 : decode b_D_look 83 = .ok (.aload_n 0, 1) := by decide +kernel
theorem d_D_look_84 : decode b_D_look 84 = .ok (.getfield 16, 3) := by decide +kernel
theorem d_D_look_87 : decode b_D_look 87 = .ok (.iload_n 3, 1) := by decide +kernel
theorem d_D_look_88 : decode b_D_look 88 = .ok (.invokevirtual 153, 3) := by decide +kernel
theorem d_D_look_91 : decode b_D_look 91 = .ok (.ireturn, 1) := by decide +kernel
theorem d_D_look_92 : decode b_D_look 92 = .ok (.aload_n 0, 1) := by decide +kernel
theorem d_D_look_93 : decode b_D_look 93 = .ok (.getfield 16, 3) := by decide +kernel
theorem d_D_look_96 : decode b_D_look 96 = .ok (.iload_n 3, 1) := by decide +kernel
theorem d_D_look_97 : decode b_D_look 97 = .ok (.invokevirtual 143, 3) := by decide +kernel
theorem d_D_look_100 : decode b_D_look 100 = .ok (.iconst (2), 1) := by decide +kernel
theorem d_D_look_101 : decode b_D_look 101 = .ok (.if_icmp .ne (7), 3) := by decide +kernel
theorem d_D_look_104 : decode b_D_look 104 = .ok (.iload_n 3, 1) := by decide +kernel
theorem d_D_look_105 : decode b_D_look 105 = .ok (.goto (4), 3) := by decide +kernel
theorem d_D_look_108 : decode b_D_look 108 = .ok (.iconst (0), 1) := by decide +kernel
theorem d_D_look_109 : decode b_D_look 109 = .ok (.ireturn, 1) := by decide +kernel
theorem d_D_look_110 : decode b_D_look 110 = .ok (.iconst (-1), 1) := by decide +kernel
theorem d_D_look_111 : decode b_D_look 111 = .ok (.ireturn, 1) := by decide +kernel
section
variable {p : Program} {l : Launch} {e : Env} {R : Room} {s : State} {m : MethodId} {args : Array Value} {below : List Frame} {meth : Method} {c : Code} {D : va_G} {base : Nat} {g : Nat → ClassId} {az : Nat → Nat} {kz : Nat × Nat}
set_option maxRecDepth 100000 in
set_option maxHeartbeats 4000000 in
theorem t_D_look (B : xB p R s m args meth c b_D_look 4 R_D (Cond.code y_D_look b_D_look 4 (some .int) :: x_T) (some .int) 1 21 D x_cl (xty g) base) (a1 : Int32) (a2 : Int32) (M : MS) : Sn p l e R s m args below meth c 4 D x_cl base (xwd g) cM x_g0 az kz (xfc cM) (xZ below args s D x_cl (xty g) base (xwd g) cM x_g0 az kz ovI) 0 [] [(0, .ref 0), (1, .int a1), (2, .int a2)] M (m_D_look a1 a2 M) := by
  unfold m_D_look
  refine s_iload_n B d_D_look_0 rfl ?_
  refine s_pick (lv1 := [(0, .ref 0), (1, .int a1), (2, .int a2)]) [0, 1, 2] rfl ?_
  refine s_callU (av := [.int a1]) (rest := []) B (lk_S B d_D_look_1 (gl_D_61 _) (List.mem_cons_of_mem _ st_D_checkSlot) (List.mem_cons_of_mem _ in_D) (List.mem_cons_of_mem _ ml_D_61) rfl hs_D_checkSlot (by decide) (by decide)) rfl x_rcS (fun _ _ => rfl) rfl rfl (by simp [Value.category]) rfl (fun r1 e9 => ct_D_checkSlot _ _ r1 e9) (fun r1 _ => ?_)
  refine s_aload_n B d_D_look_4 rfl ?_
  refine s_getS (k := 0) (n := 1) B xc_D kd_0 (by decide) rfl rfl fl_D_9 sr_0_0 d_D_look_5 ?_
  refine s_iload_n B d_D_look_8 rfl ?_
  refine s_iald B (Or.inl kd_1) d_D_look_9 (fun v2 _ => ?_)
  refine s_istore_n B d_D_look_10 (by decide) ?_
  refine s_iload_n B d_D_look_11 rfl ?_
  refine s_if (fun h0_ => ?_) (fun h0_ => ?_)
  · refine s_tabIn B d_D_look_12 (by rw [h0_]; decide) (by rw [h0_]; decide) (by rw [h0_]; rfl) rfl ?_
    refine s_aload_n B d_D_look_48 rfl ?_
    refine s_getS (k := 1) (n := 2) B xc_D kd_0 (by decide) rfl rfl fl_D_16 sr_0_1 d_D_look_49 ?_
    refine s_iload_n B d_D_look_52 rfl ?_
    refine s_pick (lv1 := []) [] rfl ?_
    refine s_callI (av := [.ref 2, .int v2]) (rest := []) B (lk_V B d_D_look_53 (gl_D_143 _) rfl hv_Terms_sortOf (by decide) (by decide)) rfl (x_rcV B xc_Terms kd_2) (fun _ _ => rfl) rfl rfl (by simp [Value.category]) rfl (fun r3 e9 => ct_Terms_sortOf _ _ r3 e9) (fun r3 _ => ?_)
    exact s_iret B d_D_look_56
  · refine s_if (fun h1_ => ?_) (fun h1_ => ?_)
    · refine s_tabIn B d_D_look_12 (by rw [h1_]; decide) (by rw [h1_]; decide) (by rw [h1_]; rfl) rfl ?_
      refine s_aload_n B d_D_look_57 rfl ?_
      refine s_getS (k := 1) (n := 2) B xc_D kd_0 (by decide) rfl rfl fl_D_16 sr_0_1 d_D_look_58 ?_
      refine s_iload_n B d_D_look_61 rfl ?_
      refine s_pick (lv1 := []) [] rfl ?_
      refine s_callI (av := [.ref 2, .int v2]) (rest := []) B (lk_V B d_D_look_62 (gl_D_146 _) rfl hv_Terms_sizeOf (by decide) (by decide)) rfl (x_rcV B xc_Terms kd_2) (fun _ _ => rfl) rfl rfl (by simp [Value.category]) rfl (fun r4 e9 => ct_Terms_sizeOf _ _ r4 e9) (fun r4 _ => ?_)
      exact s_iret B d_D_look_65
    · refine s_if (fun h2_ => ?_) (fun h2_ => ?_)
      · refine s_tabIn B d_D_look_12 (by rw [h2_]; decide) (by rw [h2_]; decide) (by rw [h2_]; rfl) rfl ?_
        refine s_aload_n B d_D_look_66 rfl ?_
        refine s_getS (k := 1) (n := 2) B xc_D kd_0 (by decide) rfl rfl fl_D_16 sr_0_1 d_D_look_67 ?_
        refine s_iload_n B d_D_look_70 rfl ?_
        refine s_pick (lv1 := []) [] rfl ?_
        refine s_callI (av := [.ref 2, .int v2]) (rest := []) B (lk_V B d_D_look_71 (gl_D_149 _) rfl hv_Terms_isNullable (by decide) (by decide)) rfl (x_rcV B xc_Terms kd_2) (fun _ _ => rfl) rfl rfl (by simp [Value.category]) rfl (fun r5 e9 => ct_Terms_isNullable _ _ r5 e9) (fun r5 _ => ?_)
        refine s_if_eq B d_D_look_74 rfl (fun _ => ?_) (fun _ => ?_)
        · refine s_iconst (v := (0:Int32)) B d_D_look_81 (by decide) ?_
          exact s_iret B d_D_look_82
        · refine s_iconst (v := (1:Int32)) B d_D_look_77 (by decide) ?_
          refine s_goto B d_D_look_78 rfl ?_
          exact s_iret B d_D_look_82
      · refine s_if (fun h3_ => ?_) (fun h3_ => ?_)
        · refine s_tabIn B d_D_look_12 (by rw [h3_]; decide) (by rw [h3_]; decide) (by rw [h3_]; rfl) rfl ?_
          refine s_aload_n B d_D_look_83 rfl ?_
          refine s_getS (k := 1) (n := 2) B xc_D kd_0 (by decide) rfl rfl fl_D_16 sr_0_1 d_D_look_84 ?_
          refine s_iload_n B d_D_look_87 rfl ?_
          refine s_pick (lv1 := []) [] rfl ?_
          refine s_callI (av := [.ref 2, .int v2]) (rest := []) B (lk_V B d_D_look_88 (gl_D_153 _) rfl hv_Terms_countOf (by decide) (by decide)) rfl (x_rcV B xc_Terms kd_2) (fun _ _ => rfl) rfl rfl (by simp [Value.category]) rfl (fun r6 e9 => ct_Terms_countOf _ _ r6 e9) (fun r6 _ => ?_)
          exact s_iret B d_D_look_91
        · refine s_if (fun h4_ => ?_) (fun h4_ => ?_)
          · refine s_tabIn B d_D_look_12 (by rw [h4_]; decide) (by rw [h4_]; decide) (by rw [h4_]; rfl) rfl ?_
            refine s_aload_n B d_D_look_92 rfl ?_
            refine s_getS (k := 1) (n := 2) B xc_D kd_0 (by decide) rfl rfl fl_D_16 sr_0_1 d_D_look_93 ?_
            refine s_iload_n B d_D_look_96 rfl ?_
            refine s_pick (lv1 := [(3, .int v2)]) [3] rfl ?_
            refine s_callI (av := [.ref 2, .int v2]) (rest := []) B (lk_V B d_D_look_97 (gl_D_143 _) rfl hv_Terms_sortOf (by decide) (by decide)) rfl (x_rcV B xc_Terms kd_2) (fun _ _ => rfl) rfl rfl (by simp [Value.category]) rfl (fun r7 e9 => ct_Terms_sortOf _ _ r7 e9) (fun r7 _ => ?_)
            refine s_iconst (v := (2:Int32)) B d_D_look_100 (by decide) ?_
            refine s_icmp_ne B d_D_look_101 rfl (fun _ => ?_) (fun _ => ?_)
            · refine s_iconst (v := (0:Int32)) B d_D_look_108 (by decide) ?_
              exact s_iret B d_D_look_109
            · refine s_iload_n B d_D_look_104 rfl ?_
              refine s_goto B d_D_look_105 rfl ?_
              exact s_iret B d_D_look_109
          · refine s_tabOut B d_D_look_12 (by have q0 := lv_neT h0_ (by decide : (0:Int32).toInt = 0); have q1 := lv_neT h1_ (by decide : (1:Int32).toInt = 1); have q2 := lv_neT h2_ (by decide : (2:Int32).toInt = 2); have q3 := lv_neT h3_ (by decide : (3:Int32).toInt = 3); have q4 := lv_neT h4_ (by decide : (4:Int32).toInt = 4); omega) rfl ?_
            refine s_iconst (v := (-1:Int32)) B d_D_look_110 (by decide) ?_
            exact s_iret B d_D_look_111
set_option maxRecDepth 100000 in
set_option maxHeartbeats 4000000 in
theorem ct_D_look {l : Launch} {D : va_G} {base : Nat} {g : Nat → ClassId} (a1 : Int32) (a2 : Int32) (M : MS) (r : MS × Int32) (hr : m_D_look a1 a2 M = some r) : Ct l y_D_look (Cond.code y_D_look b_D_look 4 (some .int) :: x_T) 1 21 D x_cl (xty g) base (xwd g) cM x_g0 [.ref 0, .int a1, .int a2] M r.1 (ovI r.2) :=
  x_met (ov := ovI) (by decide) (Nat.le_of_ble_eq_true rfl) (fun p e R s m args below meth c az B => t_D_look B a1 a2 M) r hr
end
theorem d_Mo_thrown_0 : decode b_Mo_thrown 0 = .ok (.aload_n 0, 1) := by decide +kernel
theorem d_Mo_thrown_1 : decode b_Mo_thrown 1 = .ok (.getfield 93, 3) := by decide +kernel
theorem d_Mo_thrown_4 : decode b_Mo_thrown 4 = .ok (.ireturn, 1) := by decide +kernel
section
variable {p : Program} {l : Launch} {e : Env} {R : Room} {s : State} {m : MethodId} {args : Array Value} {below : List Frame} {meth : Method} {c : Code} {D : va_G} {base : Nat} {g : Nat → ClassId} {az : Nat → Nat} {kz : Nat × Nat}
set_option maxRecDepth 100000 in
set_option maxHeartbeats 4000000 in
theorem t_Mo_thrown (B : xB p R s m args meth c b_Mo_thrown 1 R_Mo (Cond.code y_Mo_thrown b_Mo_thrown 1 (some .int) :: x_T) (some .int) 0 0 D x_cl (xty g) base)  (M : MS) : Sn p l e R s m args below meth c 1 D x_cl base (xwd g) cM x_g0 az kz (xfc cM) (xZ below args s D x_cl (xty g) base (xwd g) cM x_g0 az kz ovI) 0 [] [(0, .ref 97)] M (m_Mo_thrown M) := by
  unfold m_Mo_thrown
  refine s_aload_n B d_Mo_thrown_0 rfl ?_
  refine s_getI (k := 0) B xc_Mo kd_97 (by decide) rfl rfl fl_Mo_93 d_Mo_thrown_1 ?_
  exact s_iret B d_Mo_thrown_4
set_option maxRecDepth 100000 in
set_option maxHeartbeats 4000000 in
theorem ct_Mo_thrown {l : Launch} {D : va_G} {base : Nat} {g : Nat → ClassId}  (M : MS) (r : MS × Int32) (hr : m_Mo_thrown M = some r) : Ct l y_Mo_thrown (Cond.code y_Mo_thrown b_Mo_thrown 1 (some .int) :: x_T) 0 0 D x_cl (xty g) base (xwd g) cM x_g0 [.ref 97] M r.1 (ovI r.2) :=
  x_met (ov := ovI) (by decide) (Nat.le_of_ble_eq_true rfl) (fun p e R s m args below meth c az B => t_Mo_thrown B  M) r hr
end
