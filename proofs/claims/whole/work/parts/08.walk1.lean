theorem d_D_checkSlot_0 : decode b_D_checkSlot 0 = .ok (.iload_n 0, 1) := by decide +kernel
theorem d_D_checkSlot_1 : decode b_D_checkSlot 1 = .ok (.ifCond .lt (9), 3) := by decide +kernel
theorem d_D_checkSlot_4 : decode b_D_checkSlot 4 = .ok (.iload_n 0, 1) := by decide +kernel
theorem d_D_checkSlot_5 : decode b_D_checkSlot 5 = .ok (.bipush (16), 2) := by decide +kernel
theorem d_D_checkSlot_7 : decode b_D_checkSlot 7 = .ok (.if_icmp .lt (11), 3) := by decide +kernel
theorem d_D_checkSlot_10 : decode b_D_checkSlot 10 = .ok (.new 156, 3) := by decide +kernel
theorem d_D_checkSlot_18 : decode b_D_checkSlot 18 = .ok (.return_, 1) := by decide +kernel
section
variable {p : Program} {l : Launch} {e : Env} {R : Room} {s : State} {m : MethodId} {args : Array Value} {below : List Frame} {meth : Method} {c : Code} {D : va_G} {base : Nat} {g : Nat → ClassId} {az : Nat → Nat} {kz : Nat × Nat}
set_option maxRecDepth 100000 in
set_option maxHeartbeats 4000000 in
theorem t_D_checkSlot (B : xB p R s m args meth c b_D_checkSlot 1 R_D (Cond.code y_D_checkSlot b_D_checkSlot 1 none :: x_T) none 0 0 D x_cl (xty g) base) (a0 : Int32) (M : MS) : Sn p l e R s m args below meth c 1 D x_cl base (xwd g) cM x_g0 az kz (xfc cM) (xZ below args s D x_cl (xty g) base (xwd g) cM x_g0 az kz ovU) 0 [] [(0, .int a0)] M (m_D_checkSlot a0 M) := by
  unfold m_D_checkSlot
  refine s_iload_n B d_D_checkSlot_0 rfl ?_
  refine s_if_lt B d_D_checkSlot_1 rfl (fun _ => ?_) (fun _ => ?_)
  · exact s_none
  · refine s_iload_n B d_D_checkSlot_4 rfl ?_
    refine s_bipush (v := (16:Int32)) B d_D_checkSlot_5 (by decide) ?_
    refine s_icmp_lt B d_D_checkSlot_7 rfl (fun _ => ?_) (fun _ => ?_)
    · exact s_vret B d_D_checkSlot_18
    · exact s_none
set_option maxRecDepth 100000 in
set_option maxHeartbeats 4000000 in
theorem ct_D_checkSlot {l : Launch} {D : va_G} {base : Nat} {g : Nat → ClassId} (a0 : Int32) (M : MS) (r : MS × Unit) (hr : m_D_checkSlot a0 M = some r) : Ct l y_D_checkSlot (Cond.code y_D_checkSlot b_D_checkSlot 1 none :: x_T) 0 0 D x_cl (xty g) base (xwd g) cM x_g0 [.int a0] M r.1 (ovU r.2) :=
  x_met (ov := ovU) (by decide) (Nat.le_of_ble_eq_true rfl) (fun p e R s m args below meth c az B => t_D_checkSlot B a0 M) r hr
end
theorem d_D_checkRange_0 : decode b_D_checkRange 0 = .ok (.iload_n 0, 1) := by decide +kernel
theorem d_D_checkRange_1 : decode b_D_checkRange 1 = .ok (.ifCond .lt (8), 3) := by decide +kernel
theorem d_D_checkRange_4 : decode b_D_checkRange 4 = .ok (.iload_n 0, 1) := by decide +kernel
theorem d_D_checkRange_5 : decode b_D_checkRange 5 = .ok (.iload_n 1, 1) := by decide +kernel
theorem d_D_checkRange_6 : decode b_D_checkRange 6 = .ok (.if_icmp .le (11), 3) := by decide +kernel
theorem d_D_checkRange_9 : decode b_D_checkRange 9 = .ok (.new 159, 3) := by decide +kernel
theorem d_D_checkRange_17 : decode b_D_checkRange 17 = .ok (.return_, 1) := by decide +kernel
section
variable {p : Program} {l : Launch} {e : Env} {R : Room} {s : State} {m : MethodId} {args : Array Value} {below : List Frame} {meth : Method} {c : Code} {D : va_G} {base : Nat} {g : Nat → ClassId} {az : Nat → Nat} {kz : Nat × Nat}
set_option maxRecDepth 100000 in
set_option maxHeartbeats 4000000 in
theorem t_D_checkRange (B : xB p R s m args meth c b_D_checkRange 2 R_D (Cond.code y_D_checkRange b_D_checkRange 2 none :: x_T) none 0 0 D x_cl (xty g) base) (a0 : Int32) (a1 : Int32) (M : MS) : Sn p l e R s m args below meth c 2 D x_cl base (xwd g) cM x_g0 az kz (xfc cM) (xZ below args s D x_cl (xty g) base (xwd g) cM x_g0 az kz ovU) 0 [] [(0, .int a0), (1, .int a1)] M (m_D_checkRange a0 a1 M) := by
  unfold m_D_checkRange
  refine s_iload_n B d_D_checkRange_0 rfl ?_
  refine s_if_lt B d_D_checkRange_1 rfl (fun _ => ?_) (fun _ => ?_)
  · exact s_none
  · refine s_iload_n B d_D_checkRange_4 rfl ?_
    refine s_iload_n B d_D_checkRange_5 rfl ?_
    refine s_icmp_le B d_D_checkRange_6 rfl (fun _ => ?_) (fun _ => ?_)
    · exact s_vret B d_D_checkRange_17
    · exact s_none
set_option maxRecDepth 100000 in
set_option maxHeartbeats 4000000 in
theorem ct_D_checkRange {l : Launch} {D : va_G} {base : Nat} {g : Nat → ClassId} (a0 : Int32) (a1 : Int32) (M : MS) (r : MS × Unit) (hr : m_D_checkRange a0 a1 M = some r) : Ct l y_D_checkRange (Cond.code y_D_checkRange b_D_checkRange 2 none :: x_T) 0 0 D x_cl (xty g) base (xwd g) cM x_g0 [.int a0, .int a1] M r.1 (ovU r.2) :=
  x_met (ov := ovU) (by decide) (Nat.le_of_ble_eq_true rfl) (fun p e R s m args below meth c az B => t_D_checkRange B a0 a1 M) r hr
end
theorem d_Terms_sizeOf_0 : decode b_Terms_sizeOf 0 = .ok (.aload_n 0, 1) := by decide +kernel
theorem d_Terms_sizeOf_1 : decode b_Terms_sizeOf 1 = .ok (.getfield 15, 3) := by decide +kernel
theorem d_Terms_sizeOf_4 : decode b_Terms_sizeOf 4 = .ok (.iload_n 1, 1) := by decide +kernel
theorem d_Terms_sizeOf_5 : decode b_Terms_sizeOf 5 = .ok (.iaload, 1) := by decide +kernel
theorem d_Terms_sizeOf_6 : decode b_Terms_sizeOf 6 = .ok (.ireturn, 1) := by decide +kernel
section
variable {p : Program} {l : Launch} {e : Env} {R : Room} {s : State} {m : MethodId} {args : Array Value} {below : List Frame} {meth : Method} {c : Code} {D : va_G} {base : Nat} {g : Nat → ClassId} {az : Nat → Nat} {kz : Nat × Nat}
set_option maxRecDepth 100000 in
set_option maxHeartbeats 4000000 in
theorem t_Terms_sizeOf (B : xB p R s m args meth c b_Terms_sizeOf 2 R_Terms (Cond.code y_Terms_sizeOf b_Terms_sizeOf 2 (some .int) :: x_T) (some .int) 0 0 D x_cl (xty g) base) (a1 : Int32) (M : MS) : Sn p l e R s m args below meth c 2 D x_cl base (xwd g) cM x_g0 az kz (xfc cM) (xZ below args s D x_cl (xty g) base (xwd g) cM x_g0 az kz ovI) 0 [] [(0, .ref 2), (1, .int a1)] M (m_Terms_sizeOf a1 M) := by
  unfold m_Terms_sizeOf
  refine s_aload_n B d_Terms_sizeOf_0 rfl ?_
  refine s_getS (k := 1) (n := 4) B xc_Terms kd_2 (by decide) rfl rfl fl_Terms_15 sr_2_1 d_Terms_sizeOf_1 ?_
  refine s_iload_n B d_Terms_sizeOf_4 rfl ?_
  refine s_iald B (Or.inr kd_4) d_Terms_sizeOf_5 (fun v1 _ => ?_)
  exact s_iret B d_Terms_sizeOf_6
set_option maxRecDepth 100000 in
set_option maxHeartbeats 4000000 in
theorem ct_Terms_sizeOf {l : Launch} {D : va_G} {base : Nat} {g : Nat → ClassId} (a1 : Int32) (M : MS) (r : MS × Int32) (hr : m_Terms_sizeOf a1 M = some r) : Ct l y_Terms_sizeOf (Cond.code y_Terms_sizeOf b_Terms_sizeOf 2 (some .int) :: x_T) 0 0 D x_cl (xty g) base (xwd g) cM x_g0 [.ref 2, .int a1] M r.1 (ovI r.2) :=
  x_met (ov := ovI) (by decide) (Nat.le_of_ble_eq_true rfl) (fun p e R s m args below meth c az B => t_Terms_sizeOf B a1 M) r hr
end
theorem d_Machine_setCount_0 : decode b_Machine_setCount 0 = .ok (.aload_n 0, 1) := by decide +kernel
theorem d_Machine_setCount_1 : decode b_Machine_setCount 1 = .ok (.iload_n 1, 1) := by decide +kernel
theorem d_Machine_setCount_2 : decode b_Machine_setCount 2 = .ok (.putfield 19, 3) := by decide +kernel
theorem d_Machine_setCount_5 : decode b_Machine_setCount 5 = .ok (.return_, 1) := by decide +kernel
section
variable {p : Program} {l : Launch} {e : Env} {R : Room} {s : State} {m : MethodId} {args : Array Value} {below : List Frame} {meth : Method} {c : Code} {D : va_G} {base : Nat} {g : Nat → ClassId} {az : Nat → Nat} {kz : Nat × Nat}
set_option maxRecDepth 100000 in
set_option maxHeartbeats 4000000 in
theorem t_Machine_setCount (B : xB p R s m args meth c b_Machine_setCount 2 R_Machine (Cond.code y_Machine_setCount b_Machine_setCount 2 none :: x_T) none 0 0 D x_cl (xty g) base) (a0 : Nat) (a1 : Int32) (M : MS) : Sn p l e R s m args below meth c 2 D x_cl base (xwd g) cM x_g0 az kz (xfc cM) (xZ below args s D x_cl (xty g) base (xwd g) cM x_g0 az kz ovU) 0 [] [(0, .ref a0), (1, .int a1)] M (m_Machine_setCount a0 a1 M) := by
  unfold m_Machine_setCount
  refine s_guard (fun ha0 => ?_)
  refine s_aload_n B d_Machine_setCount_0 rfl ?_
  refine s_iload_n B d_Machine_setCount_1 rfl ?_
  refine s_putI (k := 2) (ty := .int) B xc_Machine ha0 (by decide) rfl rfl fl_Machine_19 rfl rfl rfl rfl d_Machine_setCount_2 (fun M1 _ => ?_)
  exact s_vret B d_Machine_setCount_5
set_option maxRecDepth 100000 in
set_option maxHeartbeats 4000000 in
theorem ct_Machine_setCount {l : Launch} {D : va_G} {base : Nat} {g : Nat → ClassId} (a0 : Nat) (a1 : Int32) (M : MS) (r : MS × Unit) (hr : m_Machine_setCount a0 a1 M = some r) : Ct l y_Machine_setCount (Cond.code y_Machine_setCount b_Machine_setCount 2 none :: x_T) 0 0 D x_cl (xty g) base (xwd g) cM x_g0 [.ref a0, .int a1] M r.1 (ovU r.2) :=
  x_met (ov := ovU) (by decide) (Nat.le_of_ble_eq_true rfl) (fun p e R s m args below meth c az B => t_Machine_setCount B a0 a1 M) r hr
end
theorem d_Explorer_forget_0 : decode b_Explorer_forget 0 = .ok (.aload_n 0, 1) := by decide +kernel
theorem d_Explorer_forget_1 : decode b_Explorer_forget 1 = .ok (.getfield 11, 3) := by decide +kernel
theorem d_Explorer_forget_4 : decode b_Explorer_forget 4 = .ok (.iload_n 1, 1) := by decide +kernel
theorem d_Explorer_forget_5 : decode b_Explorer_forget 5 = .ok (.aaload, 1) := by decide +kernel
theorem d_Explorer_forget_6 : decode b_Explorer_forget 6 = .ok (.iconst (0), 1) := by decide +kernel
theorem d_Explorer_forget_7 : decode b_Explorer_forget 7 = .ok (.invokevirtual 22, 3) := by decide +kernel
theorem d_Explorer_forget_10 : decode b_Explorer_forget 10 = .ok (.return_, 1) := by decide +kernel
section
variable {p : Program} {l : Launch} {e : Env} {R : Room} {s : State} {m : MethodId} {args : Array Value} {below : List Frame} {meth : Method} {c : Code} {D : va_G} {base : Nat} {g : Nat → ClassId} {az : Nat → Nat} {kz : Nat × Nat}
set_option maxRecDepth 100000 in
set_option maxHeartbeats 4000000 in
theorem t_Explorer_forget (B : xB p R s m args meth c b_Explorer_forget 2 R_Explorer (Cond.code y_Explorer_forget b_Explorer_forget 2 none :: x_T) none 1 21 D x_cl (xty g) base) (a1 : Int32) (M : MS) : Sn p l e R s m args below meth c 2 D x_cl base (xwd g) cM x_g0 az kz (xfc cM) (xZ below args s D x_cl (xty g) base (xwd g) cM x_g0 az kz ovU) 0 [] [(0, .ref 24), (1, .int a1)] M (m_Explorer_forget a1 M) := by
  unfold m_Explorer_forget
  refine s_aload_n B d_Explorer_forget_0 rfl ?_
  refine s_getS (k := 0) (n := 25) B xc_Explorer kd_24 (by decide) rfl rfl fl_Explorer_11 sr_24_0 d_Explorer_forget_1 ?_
  refine s_iload_n B d_Explorer_forget_4 rfl ?_
  refine s_aald B kd_25 d_Explorer_forget_5 (fun v1 _ => ?_)
  refine s_guard (fun h2 => ?_)
  refine s_iconst (v := (0:Int32)) B d_Explorer_forget_6 (by decide) ?_
  refine s_pick (lv1 := []) [] rfl ?_
  refine s_callU (av := [.ref v1, .int (0:Int32)]) (rest := []) B (lk_V B d_Explorer_forget_7 (gl_Explorer_22 _) rfl hv_Machine_setCount (by decide) (by decide)) rfl (x_rcV B xc_Machine h2) (fun _ _ => rfl) rfl rfl (by simp [Value.category]) rfl (fun r3 e9 => ct_Machine_setCount _ _ _ r3 e9) (fun r3 _ => ?_)
  exact s_vret B d_Explorer_forget_10
set_option maxRecDepth 100000 in
set_option maxHeartbeats 4000000 in
theorem ct_Explorer_forget {l : Launch} {D : va_G} {base : Nat} {g : Nat → ClassId} (a1 : Int32) (M : MS) (r : MS × Unit) (hr : m_Explorer_forget a1 M = some r) : Ct l y_Explorer_forget (Cond.code y_Explorer_forget b_Explorer_forget 2 none :: x_T) 1 21 D x_cl (xty g) base (xwd g) cM x_g0 [.ref 24, .int a1] M r.1 (ovU r.2) :=
  x_met (ov := ovU) (by decide) (Nat.le_of_ble_eq_true rfl) (fun p e R s m args below meth c az B => t_Explorer_forget B a1 M) r hr
end
theorem d_D_put_0 : decode b_D_put 0 = .ok (.aload_n 0, 1) := by decide +kernel
theorem d_D_put_1 : decode b_D_put 1 = .ok (.getfield 16, 3) := by decide +kernel
theorem d_D_put_4 : decode b_D_put 4 = .ok (.iload_n 2, 1) := by decide +kernel
theorem d_D_put_5 : decode b_D_put 5 = .ok (.invokevirtual 146, 3) := by decide +kernel
theorem d_D_put_8 : decode b_D_put 8 = .ok (.istore_n 3, 1) := by decide +kernel
theorem d_D_put_9 : decode b_D_put 9 = .ok (.iload_n 3, 1) := by decide +kernel
theorem d_D_put_10 : decode b_D_put 10 = .ok (.bipush (100), 2) := by decide +kernel
theorem d_D_put_12 : decode b_D_put 12 = .ok (.if_icmp .le (5), 3) := by decide +kernel
theorem d_D_put_15 : decode b_D_put 15 = .ok (.iconst (-1), 1) := by decide +kernel
theorem d_D_put_16 : decode b_D_put 16 = .ok (.ireturn, 1) := by decide +kernel
theorem d_D_put_17 : decode b_D_put 17 = .ok (.aload_n 0, 1) := by decide +kernel
theorem d_D_put_18 : decode b_D_put 18 = .ok (.getfield 9, 3) := by decide +kernel
theorem d_D_put_21 : decode b_D_put 21 = .ok (.iload_n 1, 1) := by decide +kernel
theorem d_D_put_22 : decode b_D_put 22 = .ok (.iaload, 1) := by decide +kernel
theorem d_D_put_23 : decode b_D_put 23 = .ok (.iload_n 2, 1) := by decide +kernel
theorem d_D_put_24 : decode b_D_put 24 = .ok (.if_icmp .eq (18), 3) := by decide +kernel
theorem d_D_put_27 : decode b_D_put 27 = .ok (.aload_n 0, 1) := by decide +kernel
theorem d_D_put_28 : decode b_D_put 28 = .ok (.getfield 9, 3) := by decide +kernel
theorem d_D_put_31 : decode b_D_put 31 = .ok (.iload_n 1, 1) := by decide +kernel
theorem d_D_put_32 : decode b_D_put 32 = .ok (.iload_n 2, 1) := by decide +kernel
theorem d_D_put_33 : decode b_D_put 33 = .ok (.iastore, 1) := by decide +kernel
theorem d_D_put_34 : decode b_D_put 34 = .ok (.aload_n 0, 1) := by decide +kernel
theorem d_D_put_35 : decode b_D_put 35 = .ok (.getfield 23, 3) := by decide +kernel
theorem d_D_put_38 : decode b_D_put 38 = .ok (.iload_n 1, 1) := by decide +kernel
theorem d_D_put_39 : decode b_D_put 39 = .ok (.invokevirtual 162, 3) := by decide +kernel
theorem d_D_put_42 : decode b_D_put 42 = .ok (.iload_n 3, 1) := by decide +kernel
theorem d_D_put_43 : decode b_D_put 43 = .ok (.ireturn, 1) := by decide +kernel
section
variable {p : Program} {l : Launch} {e : Env} {R : Room} {s : State} {m : MethodId} {args : Array Value} {below : List Frame} {meth : Method} {c : Code} {D : va_G} {base : Nat} {g : Nat → ClassId} {az : Nat → Nat} {kz : Nat × Nat}
set_option maxRecDepth 100000 in
set_option maxHeartbeats 4000000 in
theorem t_D_put (B : xB p R s m args meth c b_D_put 4 R_D (Cond.code y_D_put b_D_put 4 (some .int) :: x_T) (some .int) 2 42 D x_cl (xty g) base) (a1 : Int32) (a2 : Int32) (M : MS) : Sn p l e R s m args below meth c 4 D x_cl base (xwd g) cM x_g0 az kz (xfc cM) (xZ below args s D x_cl (xty g) base (xwd g) cM x_g0 az kz ovI) 0 [] [(0, .ref 0), (1, .int a1), (2, .int a2)] M (m_D_put a1 a2 M) := by
  unfold m_D_put
  refine s_aload_n B d_D_put_0 rfl ?_
  refine s_getS (k := 1) (n := 2) B xc_D kd_0 (by decide) rfl rfl fl_D_16 sr_0_1 d_D_put_1 ?_
  refine s_iload_n B d_D_put_4 rfl ?_
  refine s_pick (lv1 := [(0, .ref 0), (1, .int a1), (2, .int a2)]) [0, 1, 2] rfl ?_
  refine s_callI (av := [.ref 2, .int a2]) (rest := []) B (lk_V B d_D_put_5 (gl_D_146 _) rfl hv_Terms_sizeOf (by decide) (by decide)) rfl (x_rcV B xc_Terms kd_2) (fun _ _ => rfl) rfl rfl (by simp [Value.category]) rfl (fun r1 e9 => ct_Terms_sizeOf _ _ r1 e9) (fun r1 _ => ?_)
  refine s_istore_n B d_D_put_8 (by decide) ?_
  refine s_iload_n B d_D_put_9 rfl ?_
  refine s_bipush (v := (100:Int32)) B d_D_put_10 (by decide) ?_
  refine s_icmp_le B d_D_put_12 rfl (fun _ => ?_) (fun _ => ?_)
  · refine s_aload_n B d_D_put_17 rfl ?_
    refine s_getS (k := 0) (n := 1) B xc_D kd_0 (by decide) rfl rfl fl_D_9 sr_0_0 d_D_put_18 ?_
    refine s_iload_n B d_D_put_21 rfl ?_
    refine s_iald B (Or.inl kd_1) d_D_put_22 (fun v2 _ => ?_)
    refine s_iload_n B d_D_put_23 rfl ?_
    refine s_icmp_eq B d_D_put_24 rfl (fun _ => ?_) (fun _ => ?_)
    · refine s_iload_n B d_D_put_42 rfl ?_
      exact s_iret B d_D_put_43
    · refine s_aload_n B d_D_put_27 rfl ?_
      refine s_getS (k := 0) (n := 1) B xc_D kd_0 (by decide) rfl rfl fl_D_9 sr_0_0 d_D_put_28 ?_
      refine s_iload_n B d_D_put_31 rfl ?_
      refine s_iload_n B d_D_put_32 rfl ?_
      refine s_iast B (Or.inl kd_1) d_D_put_33 (fun M3 _ => ?_)
      refine s_aload_n B d_D_put_34 rfl ?_
      refine s_getS (k := 2) (n := 24) B xc_D kd_0 (by decide) rfl rfl fl_D_23 sr_0_2 d_D_put_35 ?_
      refine s_iload_n B d_D_put_38 rfl ?_
      refine s_pick (lv1 := [(3, .int r1.2)]) [3] rfl ?_
      refine s_callU (av := [.ref 24, .int a1]) (rest := []) B (lk_V B d_D_put_39 (gl_D_162 _) rfl hv_Explorer_forget (by decide) (by decide)) rfl (x_rcV B xc_Explorer kd_24) (fun _ _ => rfl) rfl rfl (by simp [Value.category]) rfl (fun r4 e9 => ct_Explorer_forget _ _ r4 e9) (fun r4 _ => ?_)
      refine s_iload_n B d_D_put_42 rfl ?_
      exact s_iret B d_D_put_43
  · refine s_iconst (v := (-1:Int32)) B d_D_put_15 (by decide) ?_
    exact s_iret B d_D_put_16
set_option maxRecDepth 100000 in
set_option maxHeartbeats 4000000 in
theorem ct_D_put {l : Launch} {D : va_G} {base : Nat} {g : Nat → ClassId} (a1 : Int32) (a2 : Int32) (M : MS) (r : MS × Int32) (hr : m_D_put a1 a2 M = some r) : Ct l y_D_put (Cond.code y_D_put b_D_put 4 (some .int) :: x_T) 2 42 D x_cl (xty g) base (xwd g) cM x_g0 [.ref 0, .int a1, .int a2] M r.1 (ovI r.2) :=
  x_met (ov := ovI) (by decide) (Nat.le_of_ble_eq_true rfl) (fun p e R s m args below meth c az B => t_D_put B a1 a2 M) r hr
end
theorem d_D_letters_0 : decode b_D_letters 0 = .ok (.iload_n 1, 1) := by decide +kernel
theorem d_D_letters_1 : decode b_D_letters 1 = .ok (.invokestatic 61, 3) := by decide +kernel
theorem d_D_letters_4 : decode b_D_letters 4 = .ok (.iload_n 2, 1) := by decide +kernel
theorem d_D_letters_5 : decode b_D_letters 5 = .ok (.bipush (16), 2) := by decide +kernel
theorem d_D_letters_7 : decode b_D_letters 7 = .ok (.invokestatic 65, 3) := by decide +kernel
theorem d_D_letters_10 : decode b_D_letters 10 = .ok (.aload_n 0, 1) := by decide +kernel
theorem d_D_letters_11 : decode b_D_letters 11 = .ok (.iload_n 1, 1) := by decide +kernel
theorem d_D_letters_12 : decode b_D_letters 12 = .ok (.iload_n 2, 1) := by decide +kernel
theorem d_D_letters_13 : decode b_D_letters 13 = .ok (.invokevirtual 69, 3) := by decide +kernel
theorem d_D_letters_16 : decode b_D_letters 16 = .ok (.ireturn, 1) := by decide +kernel
section
variable {p : Program} {l : Launch} {e : Env} {R : Room} {s : State} {m : MethodId} {args : Array Value} {below : List Frame} {meth : Method} {c : Code} {D : va_G} {base : Nat} {g : Nat → ClassId} {az : Nat → Nat} {kz : Nat × Nat}
set_option maxRecDepth 100000 in
set_option maxHeartbeats 4000000 in
theorem t_D_letters (B : xB p R s m args meth c b_D_letters 3 R_D (Cond.code y_D_letters b_D_letters 3 (some .int) :: x_T) (some .int) 3 65 D x_cl (xty g) base) (a1 : Int32) (a2 : Int32) (M : MS) : Sn p l e R s m args below meth c 3 D x_cl base (xwd g) cM x_g0 az kz (xfc cM) (xZ below args s D x_cl (xty g) base (xwd g) cM x_g0 az kz ovI) 0 [] [(0, .ref 0), (1, .int a1), (2, .int a2)] M (m_D_letters a1 a2 M) := by
  unfold m_D_letters
  refine s_iload_n B d_D_letters_0 rfl ?_
  refine s_pick (lv1 := [(0, .ref 0), (1, .int a1), (2, .int a2)]) [0, 1, 2] rfl ?_
  refine s_callU (av := [.int a1]) (rest := []) B (lk_S B d_D_letters_1 (gl_D_61 _) (List.mem_cons_of_mem _ st_D_checkSlot) (List.mem_cons_of_mem _ in_D) (List.mem_cons_of_mem _ ml_D_61) rfl hs_D_checkSlot (by decide) (by decide)) rfl x_rcS (fun _ _ => rfl) rfl rfl (by simp [Value.category]) rfl (fun r1 e9 => ct_D_checkSlot _ _ r1 e9) (fun r1 _ => ?_)
  refine s_iload_n B d_D_letters_4 rfl ?_
  refine s_bipush (v := (16:Int32)) B d_D_letters_5 (by decide) ?_
  refine s_pick (lv1 := [(0, .ref 0), (1, .int a1), (2, .int a2)]) [0, 1, 2] rfl ?_
  refine s_callU (av := [.int a2, .int (16:Int32)]) (rest := []) B (lk_S B d_D_letters_7 (gl_D_65 _) (List.mem_cons_of_mem _ st_D_checkRange) (List.mem_cons_of_mem _ in_D) (List.mem_cons_of_mem _ ml_D_65) rfl hs_D_checkRange (by decide) (by decide)) rfl x_rcS (fun _ _ => rfl) rfl rfl (by simp [Value.category]) rfl (fun r2 e9 => ct_D_checkRange _ _ _ r2 e9) (fun r2 _ => ?_)
  refine s_aload_n B d_D_letters_10 rfl ?_
  refine s_iload_n B d_D_letters_11 rfl ?_
  refine s_iload_n B d_D_letters_12 rfl ?_
  refine s_pick (lv1 := []) [] rfl ?_
  refine s_callI (av := [.ref 0, .int a1, .int a2]) (rest := []) B (lk_V B d_D_letters_13 (gl_D_69 _) rfl hv_D_put (by decide) (by decide)) rfl (x_rcV B xc_D kd_0) (fun _ _ => rfl) rfl rfl (by simp [Value.category]) rfl (fun r3 e9 => ct_D_put _ _ _ r3 e9) (fun r3 _ => ?_)
  exact s_iret B d_D_letters_16
set_option maxRecDepth 100000 in
set_option maxHeartbeats 4000000 in
theorem ct_D_letters {l : Launch} {D : va_G} {base : Nat} {g : Nat → ClassId} (a1 : Int32) (a2 : Int32) (M : MS) (r : MS × Int32) (hr : m_D_letters a1 a2 M = some r) : Ct l y_D_letters (Cond.code y_D_letters b_D_letters 3 (some .int) :: x_T) 3 65 D x_cl (xty g) base (xwd g) cM x_g0 [.ref 0, .int a1, .int a2] M r.1 (ovI r.2) :=
  x_met (ov := ovI) (by decide) (Nat.le_of_ble_eq_true rfl) (fun p e R s m args below meth c az B => t_D_letters B a1 a2 M) r hr
end
theorem d_Arr_fill_0 : decode b_Arr_fill 0 = .ok (.iconst (0), 1) := by decide +kernel
theorem d_Arr_fill_1 : decode b_Arr_fill 1 = .ok (.istore_n 2, 1) := by decide +kernel
theorem d_Arr_fill_2 : decode b_Arr_fill 2 = .ok (.aload_n 0, 1) := by decide +kernel
theorem d_Arr_fill_3 : decode b_Arr_fill 3 = .ok (.arraylength, 1) := by decide +kernel
theorem d_Arr_fill_4 : decode b_Arr_fill 4 = .ok (.istore_n 3, 1) := by decide +kernel
theorem d_Arr_fill_5 : decode b_Arr_fill 5 = .ok (.iload_n 2, 1) := by decide +kernel
theorem d_Arr_fill_6 : decode b_Arr_fill 6 = .ok (.iload_n 3, 1) := by decide +kernel
theorem d_Arr_fill_7 : decode b_Arr_fill 7 = .ok (.if_icmp .ge (13), 3) := by decide +kernel
theorem d_Arr_fill_10 : decode b_Arr_fill 10 = .ok (.aload_n 0, 1) := by decide +kernel
theorem d_Arr_fill_11 : decode b_Arr_fill 11 = .ok (.iload_n 2, 1) := by decide +kernel
theorem d_Arr_fill_12 : decode b_Arr_fill 12 = .ok (.iload_n 1, 1) := by decide +kernel
theorem d_Arr_fill_13 : decode b_Arr_fill 13 = .ok (.iastore, 1) := by decide +kernel
theorem d_Arr_fill_14 : decode b_Arr_fill 14 = .ok (.iinc 2 (1), 3) := by decide +kernel
theorem d_Arr_fill_17 : decode b_Arr_fill 17 = .ok (.goto (-12), 3) := by decide +kernel
theorem d_Arr_fill_20 : decode b_Arr_fill 20 = .ok (.return_, 1) := by decide +kernel
section
variable {p : Program} {l : Launch} {e : Env} {R : Room} {s : State} {m : MethodId} {args : Array Value} {below : List Frame} {meth : Method} {c : Code} {D : va_G} {base : Nat} {g : Nat → ClassId} {az : Nat → Nat} {kz : Nat × Nat}
set_option maxRecDepth 100000 in
set_option maxHeartbeats 4000000 in
theorem t_Arr_fill_5b {k5 : Nat × Int32 × Int32 × Int32 × MS → Option (MS × Unit)} (B : xB p R s m args meth c b_Arr_fill 4 R_Arr (Cond.code y_Arr_fill b_Arr_fill 4 none :: x_T) none 0 0 D x_cl (xty g) base) (hk5 : ∀ (l0 : Nat) (l1 : Int32) (l2 : Int32) (l3 : Int32) (M : MS) (hl0 : x_kd l0 = 20 ∨ x_kd l0 = 21), Sn p l e R s m args below meth c 4 D x_cl base (xwd g) cM x_g0 az kz (xfc cM) (xZ below args s D x_cl (xty g) base (xwd g) cM x_g0 az kz ovU) 5 [] [(0, .ref l0), (1, .int l1), (2, .int l2), (3, .int l3)] M (k5 (l0, l1, l2, l3, M))) (l0 : Nat) (l1 : Int32) (l2 : Int32) (l3 : Int32) (M : MS) (hl0 : x_kd l0 = 20 ∨ x_kd l0 = 21) : Sn p l e R s m args below meth c 4 D x_cl base (xwd g) cM x_g0 az kz (xfc cM) (xZ below args s D x_cl (xty g) base (xwd g) cM x_g0 az kz ovU) 5 [] [(0, .ref l0), (1, .int l1), (2, .int l2), (3, .int l3)] M (m_Arr_fill_5b k5 l0 l1 l2 l3 M) := by
  unfold m_Arr_fill_5b
  refine s_iload_n B d_Arr_fill_5 rfl ?_
  refine s_iload_n B d_Arr_fill_6 rfl ?_
  refine s_icmp_ge B d_Arr_fill_7 rfl (fun _ => ?_) (fun _ => ?_)
  · exact s_vret B d_Arr_fill_20
  · refine s_aload_n B d_Arr_fill_10 rfl ?_
    refine s_iload_n B d_Arr_fill_11 rfl ?_
    refine s_iload_n B d_Arr_fill_12 rfl ?_
    refine s_iast B hl0 d_Arr_fill_13 (fun M1 _ => ?_)
    refine s_iinc (w := (1:Int32)) B d_Arr_fill_14 rfl (by decide) (by decide) ?_
    refine s_goto B d_Arr_fill_17 rfl ?_
    refine s_pick (lv1 := [(0, .ref l0), (1, .int l1), (2, .int (l2 + (1:Int32))), (3, .int l3)]) [0, 1, 2, 3] rfl ?_
    exact hk5 l0 l1 (l2 + (1:Int32)) l3 M1 hl0
set_option maxRecDepth 100000 in
set_option maxHeartbeats 4000000 in
theorem t_Arr_fill_5  (B : xB p R s m args meth c b_Arr_fill 4 R_Arr (Cond.code y_Arr_fill b_Arr_fill 4 none :: x_T) none 0 0 D x_cl (xty g) base)  (l0 : Nat) (l1 : Int32) (l2 : Int32) (l3 : Int32) (M : MS) (hl0 : x_kd l0 = 20 ∨ x_kd l0 = 21) : Sn p l e R s m args below meth c 4 D x_cl base (xwd g) cM x_g0 az kz (xfc cM) (xZ below args s D x_cl (xty g) base (xwd g) cM x_g0 az kz ovU) 5 [] [(0, .ref l0), (1, .int l1), (2, .int l2), (3, .int l3)] M (m_Arr_fill_5 (l0, l1, l2, l3, M)) := by
  have q : ∀ (F : Nat) (i : Nat × Int32 × Int32 × Int32 × MS), x_kd i.1 = 20 ∨ x_kd i.1 = 21 → Sn p l e R s m args below meth c 4 D x_cl base (xwd g) cM x_g0 az kz (xfc cM) (xZ below args s D x_cl (xty g) base (xwd g) cM x_g0 az kz ovU) 5 [] [(0, .ref i.1), (1, .int i.2.1), (2, .int i.2.2.1), (3, .int i.2.2.2.1)] i.2.2.2.2 (fx (fun (k : Nat × Int32 × Int32 × Int32 × MS → Option (MS × Unit)) (i : Nat × Int32 × Int32 × Int32 × MS) => m_Arr_fill_5b k i.1 i.2.1 i.2.2.1 i.2.2.2.1 i.2.2.2.2) F i) := by
    intro F
    induction F with
    | zero => intro i h0; exact s_none
    | succ F ih => intro i h0; exact t_Arr_fill_5b B  (fun l0 l1 l2 l3 M h0 => ih (l0, l1, l2, l3, M) h0) i.1 i.2.1 i.2.2.1 i.2.2.2.1 i.2.2.2.2 h0
  exact q FU (l0, l1, l2, l3, M) hl0
set_option maxRecDepth 100000 in
set_option maxHeartbeats 4000000 in
theorem t_Arr_fill (B : xB p R s m args meth c b_Arr_fill 4 R_Arr (Cond.code y_Arr_fill b_Arr_fill 4 none :: x_T) none 0 0 D x_cl (xty g) base) (a0 : Nat) (a1 : Int32) (M : MS) : Sn p l e R s m args below meth c 4 D x_cl base (xwd g) cM x_g0 az kz (xfc cM) (xZ below args s D x_cl (xty g) base (xwd g) cM x_g0 az kz ovU) 0 [] [(0, .ref a0), (1, .int a1)] M (m_Arr_fill a0 a1 M) := by
  unfold m_Arr_fill
  refine s_guard (fun ha0 => ?_)
  refine s_iconst (v := (0:Int32)) B d_Arr_fill_0 (by decide) ?_
  refine s_istore_n B d_Arr_fill_1 (by decide) ?_
  refine s_aload_n B d_Arr_fill_2 rfl ?_
  refine s_alen B ha0 d_Arr_fill_3 ?_
  refine s_istore_n B d_Arr_fill_4 (by decide) ?_
  refine s_pick (lv1 := [(0, .ref a0), (1, .int a1), (2, .int (0:Int32)), (3, .int (Int32.ofNat (gL M a0)))]) [0, 1, 2, 3] rfl ?_
  exact t_Arr_fill_5 B a0 a1 (0:Int32) (Int32.ofNat (gL M a0)) M ha0
set_option maxRecDepth 100000 in
set_option maxHeartbeats 4000000 in
theorem ct_Arr_fill {l : Launch} {D : va_G} {base : Nat} {g : Nat → ClassId} (a0 : Nat) (a1 : Int32) (M : MS) (r : MS × Unit) (hr : m_Arr_fill a0 a1 M = some r) : Ct l y_Arr_fill (Cond.code y_Arr_fill b_Arr_fill 4 none :: x_T) 0 0 D x_cl (xty g) base (xwd g) cM x_g0 [.ref a0, .int a1] M r.1 (ovU r.2) :=
  x_met (ov := ovU) (by decide) (Nat.le_of_ble_eq_true rfl) (fun p e R s m args below meth c az B => t_Arr_fill B a0 a1 M) r hr
end
theorem d_Terms_markRow_0 : decode b_Terms_markRow 0 = .ok (.iconst (0), 1) := by decide +kernel
theorem d_Terms_markRow_1 : decode b_Terms_markRow 1 = .ok (.istore_n 3, 1) := by decide +kernel
theorem d_Terms_markRow_2 : decode b_Terms_markRow 2 = .ok (.iload_n 3, 1) := by decide +kernel
theorem d_Terms_markRow_3 : decode b_Terms_markRow 3 = .ok (.iload_n 2, 1) := by decide +kernel
theorem d_Terms_markRow_4 : decode b_Terms_markRow 4 = .ok (.if_icmp .ge (20), 3) := by decide +kernel
theorem d_Terms_markRow_7 : decode b_Terms_markRow 7 = .ok (.aload_n 0, 1) := by decide +kernel
theorem d_Terms_markRow_8 : decode b_Terms_markRow 8 = .ok (.getfield 36, 3) := by decide +kernel
theorem d_Terms_markRow_11 : decode b_Terms_markRow 11 = .ok (.aload_n 1, 1) := by decide +kernel
theorem d_Terms_markRow_12 : decode b_Terms_markRow 12 = .ok (.iload_n 3, 1) := by decide +kernel
theorem d_Terms_markRow_13 : decode b_Terms_markRow 13 = .ok (.iaload, 1) := by decide +kernel
theorem d_Terms_markRow_14 : decode b_Terms_markRow 14 = .ok (.aload_n 1, 1) := by decide +kernel
theorem d_Terms_markRow_15 : decode b_Terms_markRow 15 = .ok (.iload_n 3, 1) := by decide +kernel
theorem d_Terms_markRow_16 : decode b_Terms_markRow 16 = .ok (.iaload, 1) := by decide +kernel
theorem d_Terms_markRow_17 : decode b_Terms_markRow 17 = .ok (.iastore, 1) := by decide +kernel
theorem d_Terms_markRow_18 : decode b_Terms_markRow 18 = .ok (.iinc 3 (1), 3) := by decide +kernel
theorem d_Terms_markRow_21 : decode b_Terms_markRow 21 = .ok (.goto (-19), 3) := by decide +kernel
theorem d_Terms_markRow_24 : decode b_Terms_markRow 24 = .ok (.return_, 1) := by decide +kernel
section
variable {p : Program} {l : Launch} {e : Env} {R : Room} {s : State} {m : MethodId} {args : Array Value} {below : List Frame} {meth : Method} {c : Code} {D : va_G} {base : Nat} {g : Nat → ClassId} {az : Nat → Nat} {kz : Nat × Nat}
set_option maxRecDepth 100000 in
set_option maxHeartbeats 4000000 in
theorem t_Terms_markRow_2b {k2 : Nat × Int32 × Int32 × MS → Option (MS × Unit)} (B : xB p R s m args meth c b_Terms_markRow 4 R_Terms (Cond.code y_Terms_markRow b_Terms_markRow 4 none :: x_T) none 0 0 D x_cl (xty g) base) (hk2 : ∀ (l1 : Nat) (l2 : Int32) (l3 : Int32) (M : MS) (hl1 : x_kd l1 = 20), Sn p l e R s m args below meth c 4 D x_cl base (xwd g) cM x_g0 az kz (xfc cM) (xZ below args s D x_cl (xty g) base (xwd g) cM x_g0 az kz ovU) 2 [] [(0, .ref 2), (1, .ref l1), (2, .int l2), (3, .int l3)] M (k2 (l1, l2, l3, M))) (l1 : Nat) (l2 : Int32) (l3 : Int32) (M : MS) (hl1 : x_kd l1 = 20) : Sn p l e R s m args below meth c 4 D x_cl base (xwd g) cM x_g0 az kz (xfc cM) (xZ below args s D x_cl (xty g) base (xwd g) cM x_g0 az kz ovU) 2 [] [(0, .ref 2), (1, .ref l1), (2, .int l2), (3, .int l3)] M (m_Terms_markRow_2b k2 l1 l2 l3 M) := by
  unfold m_Terms_markRow_2b
  refine s_iload_n B d_Terms_markRow_2 rfl ?_
  refine s_iload_n B d_Terms_markRow_3 rfl ?_
  refine s_icmp_ge B d_Terms_markRow_4 rfl (fun _ => ?_) (fun _ => ?_)
  · exact s_vret B d_Terms_markRow_24
  · refine s_aload_n B d_Terms_markRow_7 rfl ?_
    refine s_getS (k := 8) (n := 11) B xc_Terms kd_2 (by decide) rfl rfl fl_Terms_36 sr_2_8 d_Terms_markRow_8 ?_
    refine s_aload_n B d_Terms_markRow_11 rfl ?_
    refine s_iload_n B d_Terms_markRow_12 rfl ?_
    refine s_iald B (Or.inl hl1) d_Terms_markRow_13 (fun v1 _ => ?_)
    refine s_aload_n B d_Terms_markRow_14 rfl ?_
    refine s_iload_n B d_Terms_markRow_15 rfl ?_
    refine s_iald B (Or.inl hl1) d_Terms_markRow_16 (fun v2 _ => ?_)
    refine s_iast B (Or.inr kd_11) d_Terms_markRow_17 (fun M3 _ => ?_)
    refine s_iinc (w := (1:Int32)) B d_Terms_markRow_18 rfl (by decide) (by decide) ?_
    refine s_goto B d_Terms_markRow_21 rfl ?_
    refine s_pick (lv1 := [(0, .ref 2), (1, .ref l1), (2, .int l2), (3, .int (l3 + (1:Int32)))]) [0, 1, 2, 3] rfl ?_
    exact hk2 l1 l2 (l3 + (1:Int32)) M3 hl1
set_option maxRecDepth 100000 in
set_option maxHeartbeats 4000000 in
theorem t_Terms_markRow_2  (B : xB p R s m args meth c b_Terms_markRow 4 R_Terms (Cond.code y_Terms_markRow b_Terms_markRow 4 none :: x_T) none 0 0 D x_cl (xty g) base)  (l1 : Nat) (l2 : Int32) (l3 : Int32) (M : MS) (hl1 : x_kd l1 = 20) : Sn p l e R s m args below meth c 4 D x_cl base (xwd g) cM x_g0 az kz (xfc cM) (xZ below args s D x_cl (xty g) base (xwd g) cM x_g0 az kz ovU) 2 [] [(0, .ref 2), (1, .ref l1), (2, .int l2), (3, .int l3)] M (m_Terms_markRow_2 (l1, l2, l3, M)) := by
  have q : ∀ (F : Nat) (i : Nat × Int32 × Int32 × MS), x_kd i.1 = 20 → Sn p l e R s m args below meth c 4 D x_cl base (xwd g) cM x_g0 az kz (xfc cM) (xZ below args s D x_cl (xty g) base (xwd g) cM x_g0 az kz ovU) 2 [] [(0, .ref 2), (1, .ref i.1), (2, .int i.2.1), (3, .int i.2.2.1)] i.2.2.2 (fx (fun (k : Nat × Int32 × Int32 × MS → Option (MS × Unit)) (i : Nat × Int32 × Int32 × MS) => m_Terms_markRow_2b k i.1 i.2.1 i.2.2.1 i.2.2.2) F i) := by
    intro F
    induction F with
    | zero => intro i h0; exact s_none
    | succ F ih => intro i h0; exact t_Terms_markRow_2b B  (fun l1 l2 l3 M h0 => ih (l1, l2, l3, M) h0) i.1 i.2.1 i.2.2.1 i.2.2.2 h0
  exact q FU (l1, l2, l3, M) hl1
set_option maxRecDepth 100000 in
set_option maxHeartbeats 4000000 in
theorem t_Terms_markRow (B : xB p R s m args meth c b_Terms_markRow 4 R_Terms (Cond.code y_Terms_markRow b_Terms_markRow 4 none :: x_T) none 0 0 D x_cl (xty g) base) (a1 : Nat) (a2 : Int32) (M : MS) : Sn p l e R s m args below meth c 4 D x_cl base (xwd g) cM x_g0 az kz (xfc cM) (xZ below args s D x_cl (xty g) base (xwd g) cM x_g0 az kz ovU) 0 [] [(0, .ref 2), (1, .ref a1), (2, .int a2)] M (m_Terms_markRow a1 a2 M) := by
  unfold m_Terms_markRow
  refine s_guard (fun ha1 => ?_)
  refine s_iconst (v := (0:Int32)) B d_Terms_markRow_0 (by decide) ?_
  refine s_istore_n B d_Terms_markRow_1 (by decide) ?_
  refine s_pick (lv1 := [(0, .ref 2), (1, .ref a1), (2, .int a2), (3, .int (0:Int32))]) [0, 1, 2, 3] rfl ?_
  exact t_Terms_markRow_2 B a1 a2 (0:Int32) M ha1
set_option maxRecDepth 100000 in
set_option maxHeartbeats 4000000 in
theorem ct_Terms_markRow {l : Launch} {D : va_G} {base : Nat} {g : Nat → ClassId} (a1 : Nat) (a2 : Int32) (M : MS) (r : MS × Unit) (hr : m_Terms_markRow a1 a2 M = some r) : Ct l y_Terms_markRow (Cond.code y_Terms_markRow b_Terms_markRow 4 none :: x_T) 0 0 D x_cl (xty g) base (xwd g) cM x_g0 [.ref 2, .ref a1, .int a2] M r.1 (ovU r.2) :=
  x_met (ov := ovU) (by decide) (Nat.le_of_ble_eq_true rfl) (fun p e R s m args below meth c az B => t_Terms_markRow B a1 a2 M) r hr
end
theorem d_Terms_kid_0 : decode b_Terms_kid 0 = .ok (.aload_n 0, 1) := by decide +kernel
theorem d_Terms_kid_1 : decode b_Terms_kid 1 = .ok (.getfield 42, 3) := by decide +kernel
theorem d_Terms_kid_4 : decode b_Terms_kid 4 = .ok (.aload_n 0, 1) := by decide +kernel
theorem d_Terms_kid_5 : decode b_Terms_kid 5 = .ok (.getfield 21, 3) := by decide +kernel
theorem d_Terms_kid_8 : decode b_Terms_kid 8 = .ok (.iload_n 1, 1) := by decide +kernel
theorem d_Terms_kid_9 : decode b_Terms_kid 9 = .ok (.iaload, 1) := by decide +kernel
theorem d_Terms_kid_10 : decode b_Terms_kid 10 = .ok (.iload_n 2, 1) := by decide +kernel
theorem d_Terms_kid_11 : decode b_Terms_kid 11 = .ok (.iadd, 1) := by decide +kernel
theorem d_Terms_kid_12 : decode b_Terms_kid 12 = .ok (.iaload, 1) := by decide +kernel
theorem d_Terms_kid_13 : decode b_Terms_kid 13 = .ok (.ireturn, 1) := by decide +kernel
section
variable {p : Program} {l : Launch} {e : Env} {R : Room} {s : State} {m : MethodId} {args : Array Value} {below : List Frame} {meth : Method} {c : Code} {D : va_G} {base : Nat} {g : Nat → ClassId} {az : Nat → Nat} {kz : Nat × Nat}
set_option maxRecDepth 100000 in
set_option maxHeartbeats 4000000 in
theorem t_Terms_kid (B : xB p R s m args meth c b_Terms_kid 3 R_Terms (Cond.code y_Terms_kid b_Terms_kid 3 (some .int) :: x_T) (some .int) 0 0 D x_cl (xty g) base) (a1 : Int32) (a2 : Int32) (M : MS) : Sn p l e R s m args below meth c 3 D x_cl base (xwd g) cM x_g0 az kz (xfc cM) (xZ below args s D x_cl (xty g) base (xwd g) cM x_g0 az kz ovI) 0 [] [(0, .ref 2), (1, .int a1), (2, .int a2)] M (m_Terms_kid a1 a2 M) := by
  unfold m_Terms_kid
  refine s_aload_n B d_Terms_kid_0 rfl ?_
  refine s_getS (k := 10) (n := 13) B xc_Terms kd_2 (by decide) rfl rfl fl_Terms_42 sr_2_10 d_Terms_kid_1 ?_
  refine s_aload_n B d_Terms_kid_4 rfl ?_
  refine s_getS (k := 3) (n := 6) B xc_Terms kd_2 (by decide) rfl rfl fl_Terms_21 sr_2_3 d_Terms_kid_5 ?_
  refine s_iload_n B d_Terms_kid_8 rfl ?_
  refine s_iald B (Or.inr kd_6) d_Terms_kid_9 (fun v1 _ => ?_)
  refine s_iload_n B d_Terms_kid_10 rfl ?_
  refine s_iadd B d_Terms_kid_11 ?_
  refine s_iald B (Or.inr kd_13) d_Terms_kid_12 (fun v2 _ => ?_)
  exact s_iret B d_Terms_kid_13
set_option maxRecDepth 100000 in
set_option maxHeartbeats 4000000 in
theorem ct_Terms_kid {l : Launch} {D : va_G} {base : Nat} {g : Nat → ClassId} (a1 : Int32) (a2 : Int32) (M : MS) (r : MS × Int32) (hr : m_Terms_kid a1 a2 M = some r) : Ct l y_Terms_kid (Cond.code y_Terms_kid b_Terms_kid 3 (some .int) :: x_T) 0 0 D x_cl (xty g) base (xwd g) cM x_g0 [.ref 2, .int a1, .int a2] M r.1 (ovI r.2) :=
  x_met (ov := ovI) (by decide) (Nat.le_of_ble_eq_true rfl) (fun p e R s m args below meth c az B => t_Terms_kid B a1 a2 M) r hr
end
theorem d_Terms_markKids_0 : decode b_Terms_markKids 0 = .ok (.aload_n 0, 1) := by decide +kernel
theorem d_Terms_markKids_1 : decode b_Terms_markKids 1 = .ok (.getfield 68, 3) := by decide +kernel
theorem d_Terms_markKids_4 : decode b_Terms_markKids 4 = .ok (.iconst (1), 1) := by decide +kernel
theorem d_Terms_markKids_5 : decode b_Terms_markKids 5 = .ok (.isub, 1) := by decide +kernel
theorem d_Terms_markKids_6 : decode b_Terms_markKids 6 = .ok (.istore_n 1, 1) := by decide +kernel
theorem d_Terms_markKids_7 : decode b_Terms_markKids 7 = .ok (.iload_n 1, 1) := by decide +kernel
theorem d_Terms_markKids_8 : decode b_Terms_markKids 8 = .ok (.bipush (18), 2) := by decide +kernel
theorem d_Terms_markKids_10 : decode b_Terms_markKids 10 = .ok (.if_icmp .lt (49), 3) := by decide +kernel
theorem d_Terms_markKids_13 : decode b_Terms_markKids 13 = .ok (.iconst (0), 1) := by decide +kernel
theorem d_Terms_markKids_14 : decode b_Terms_markKids 14 = .ok (.istore_n 2, 1) := by decide +kernel
theorem d_Terms_markKids_15 : decode b_Terms_markKids 15 = .ok (.aload_n 0, 1) := by decide +kernel
theorem d_Terms_markKids_16 : decode b_Terms_markKids 16 = .ok (.getfield 36, 3) := by decide +kernel
theorem d_Terms_markKids_19 : decode b_Terms_markKids 19 = .ok (.iload_n 1, 1) := by decide +kernel
theorem d_Terms_markKids_20 : decode b_Terms_markKids 20 = .ok (.iaload, 1) := by decide +kernel
theorem d_Terms_markKids_21 : decode b_Terms_markKids 21 = .ok (.iconst (-1), 1) := by decide +kernel
theorem d_Terms_markKids_22 : decode b_Terms_markKids 22 = .ok (.if_icmp .eq (31), 3) := by decide +kernel
theorem d_Terms_markKids_25 : decode b_Terms_markKids 25 = .ok (.iload_n 2, 1) := by decide +kernel
theorem d_Terms_markKids_26 : decode b_Terms_markKids 26 = .ok (.aload_n 0, 1) := by decide +kernel
theorem d_Terms_markKids_27 : decode b_Terms_markKids 27 = .ok (.getfield 24, 3) := by decide +kernel
theorem d_Terms_markKids_30 : decode b_Terms_markKids 30 = .ok (.iload_n 1, 1) := by decide +kernel
theorem d_Terms_markKids_31 : decode b_Terms_markKids 31 = .ok (.iaload, 1) := by decide +kernel
theorem d_Terms_markKids_32 : decode b_Terms_markKids 32 = .ok (.if_icmp .ge (21), 3) := by decide +kernel
theorem d_Terms_markKids_35 : decode b_Terms_markKids 35 = .ok (.aload_n 0, 1) := by decide +kernel
theorem d_Terms_markKids_36 : decode b_Terms_markKids 36 = .ok (.getfield 36, 3) := by decide +kernel
theorem d_Terms_markKids_39 : decode b_Terms_markKids 39 = .ok (.aload_n 0, 1) := by decide +kernel
theorem d_Terms_markKids_40 : decode b_Terms_markKids 40 = .ok (.iload_n 1, 1) := by decide +kernel
theorem d_Terms_markKids_41 : decode b_Terms_markKids 41 = .ok (.iload_n 2, 1) := by decide +kernel
theorem d_Terms_markKids_42 : decode b_Terms_markKids 42 = .ok (.invokevirtual 91, 3) := by decide +kernel
theorem d_Terms_markKids_45 : decode b_Terms_markKids 45 = .ok (.iload_n 1, 1) := by decide +kernel
theorem d_Terms_markKids_46 : decode b_Terms_markKids 46 = .ok (.iastore, 1) := by decide +kernel
theorem d_Terms_markKids_47 : decode b_Terms_markKids 47 = .ok (.iinc 2 (1), 3) := by decide +kernel
theorem d_Terms_markKids_50 : decode b_Terms_markKids 50 = .ok (.goto (-35), 3) := by decide +kernel
theorem d_Terms_markKids_53 : decode b_Terms_markKids 53 = .ok (.iinc 1 (-1), 3) := by decide +kernel
theorem d_Terms_markKids_56 : decode b_Terms_markKids 56 = .ok (.goto (-49), 3) := by decide +kernel
theorem d_Terms_markKids_59 : decode b_Terms_markKids 59 = .ok (.return_, 1) := by decide +kernel
section
variable {p : Program} {l : Launch} {e : Env} {R : Room} {s : State} {m : MethodId} {args : Array Value} {below : List Frame} {meth : Method} {c : Code} {D : va_G} {base : Nat} {g : Nat → ClassId} {az : Nat → Nat} {kz : Nat × Nat}
set_option maxRecDepth 100000 in
set_option maxHeartbeats 4000000 in
theorem t_Terms_markKids_15b {k7 : Int32 × MS → Option (MS × Unit)} {k15 : Int32 × Int32 × MS → Option (MS × Unit)} (B : xB p R s m args meth c b_Terms_markKids 3 R_Terms (Cond.code y_Terms_markKids b_Terms_markKids 3 none :: x_T) none 1 22 D x_cl (xty g) base) (hk7 : ∀ (l1 : Int32) (M : MS) , Sn p l e R s m args below meth c 3 D x_cl base (xwd g) cM x_g0 az kz (xfc cM) (xZ below args s D x_cl (xty g) base (xwd g) cM x_g0 az kz ovU) 7 [] [(0, .ref 2), (1, .int l1)] M (k7 (l1, M))) (hk15 : ∀ (l1 : Int32) (l2 : Int32) (M : MS) , Sn p l e R s m args below meth c 3 D x_cl base (xwd g) cM x_g0 az kz (xfc cM) (xZ below args s D x_cl (xty g) base (xwd g) cM x_g0 az kz ovU) 15 [] [(0, .ref 2), (1, .int l1), (2, .int l2)] M (k15 (l1, l2, M))) (l1 : Int32) (l2 : Int32) (M : MS)  : Sn p l e R s m args below meth c 3 D x_cl base (xwd g) cM x_g0 az kz (xfc cM) (xZ below args s D x_cl (xty g) base (xwd g) cM x_g0 az kz ovU) 15 [] [(0, .ref 2), (1, .int l1), (2, .int l2)] M (m_Terms_markKids_15b k7 k15 l1 l2 M) := by
  unfold m_Terms_markKids_15b
  refine s_aload_n B d_Terms_markKids_15 rfl ?_
  refine s_getS (k := 8) (n := 11) B xc_Terms kd_2 (by decide) rfl rfl fl_Terms_36 sr_2_8 d_Terms_markKids_16 ?_
  refine s_iload_n B d_Terms_markKids_19 rfl ?_
  refine s_iald B (Or.inr kd_11) d_Terms_markKids_20 (fun v1 _ => ?_)
  refine s_iconst (v := (-1:Int32)) B d_Terms_markKids_21 (by decide) ?_
  refine s_icmp_eq B d_Terms_markKids_22 rfl (fun _ => ?_) (fun _ => ?_)
  · refine s_iinc (w := (-1:Int32)) B d_Terms_markKids_53 rfl (by decide) (by decide) ?_
    refine s_goto B d_Terms_markKids_56 rfl ?_
    refine s_pick (lv1 := [(0, .ref 2), (1, .int (l1 + (-1:Int32)))]) [0, 1] rfl ?_
    exact hk7 (l1 + (-1:Int32)) M
  · refine s_iload_n B d_Terms_markKids_25 rfl ?_
    refine s_aload_n B d_Terms_markKids_26 rfl ?_
    refine s_getS (k := 4) (n := 7) B xc_Terms kd_2 (by decide) rfl rfl fl_Terms_24 sr_2_4 d_Terms_markKids_27 ?_
    refine s_iload_n B d_Terms_markKids_30 rfl ?_
    refine s_iald B (Or.inr kd_7) d_Terms_markKids_31 (fun v2 _ => ?_)
    refine s_icmp_ge B d_Terms_markKids_32 rfl (fun _ => ?_) (fun _ => ?_)
    · refine s_iinc (w := (-1:Int32)) B d_Terms_markKids_53 rfl (by decide) (by decide) ?_
      refine s_goto B d_Terms_markKids_56 rfl ?_
      refine s_pick (lv1 := [(0, .ref 2), (1, .int (l1 + (-1:Int32)))]) [0, 1] rfl ?_
      exact hk7 (l1 + (-1:Int32)) M
    · refine s_aload_n B d_Terms_markKids_35 rfl ?_
      refine s_getS (k := 8) (n := 11) B xc_Terms kd_2 (by decide) rfl rfl fl_Terms_36 sr_2_8 d_Terms_markKids_36 ?_
      refine s_aload_n B d_Terms_markKids_39 rfl ?_
      refine s_iload_n B d_Terms_markKids_40 rfl ?_
      refine s_iload_n B d_Terms_markKids_41 rfl ?_
      refine s_pick (lv1 := [(0, .ref 2), (1, .int l1), (2, .int l2)]) [0, 1, 2] rfl ?_
      refine s_callI (av := [.ref 2, .int l1, .int l2]) (rest := [.ref 11]) B (lk_V B d_Terms_markKids_42 (gl_Terms_91 _) rfl hv_Terms_kid (by decide) (by decide)) rfl (x_rcV B xc_Terms kd_2) (fun _ _ => rfl) rfl rfl (by simp [Value.category]) rfl (fun r3 e9 => ct_Terms_kid _ _ _ r3 e9) (fun r3 _ => ?_)
      refine s_iload_n B d_Terms_markKids_45 rfl ?_
      refine s_iast B (Or.inr kd_11) d_Terms_markKids_46 (fun M4 _ => ?_)
      refine s_iinc (w := (1:Int32)) B d_Terms_markKids_47 rfl (by decide) (by decide) ?_
      refine s_goto B d_Terms_markKids_50 rfl ?_
      refine s_pick (lv1 := [(0, .ref 2), (1, .int l1), (2, .int (l2 + (1:Int32)))]) [0, 1, 2] rfl ?_
      exact hk15 l1 (l2 + (1:Int32)) M4
set_option maxRecDepth 100000 in
set_option maxHeartbeats 4000000 in
theorem t_Terms_markKids_15 {k7 : Int32 × MS → Option (MS × Unit)} (B : xB p R s m args meth c b_Terms_markKids 3 R_Terms (Cond.code y_Terms_markKids b_Terms_markKids 3 none :: x_T) none 1 22 D x_cl (xty g) base) (hk7 : ∀ (l1 : Int32) (M : MS) , Sn p l e R s m args below meth c 3 D x_cl base (xwd g) cM x_g0 az kz (xfc cM) (xZ below args s D x_cl (xty g) base (xwd g) cM x_g0 az kz ovU) 7 [] [(0, .ref 2), (1, .int l1)] M (k7 (l1, M))) (l1 : Int32) (l2 : Int32) (M : MS)  : Sn p l e R s m args below meth c 3 D x_cl base (xwd g) cM x_g0 az kz (xfc cM) (xZ below args s D x_cl (xty g) base (xwd g) cM x_g0 az kz ovU) 15 [] [(0, .ref 2), (1, .int l1), (2, .int l2)] M (m_Terms_markKids_15 k7 (l1, l2, M)) := by
  have q : ∀ (F : Nat) (i : Int32 × Int32 × MS), Sn p l e R s m args below meth c 3 D x_cl base (xwd g) cM x_g0 az kz (xfc cM) (xZ below args s D x_cl (xty g) base (xwd g) cM x_g0 az kz ovU) 15 [] [(0, .ref 2), (1, .int i.1), (2, .int i.2.1)] i.2.2 (fx (fun (k : Int32 × Int32 × MS → Option (MS × Unit)) (i : Int32 × Int32 × MS) => m_Terms_markKids_15b k7 k i.1 i.2.1 i.2.2) F i) := by
    intro F
    induction F with
    | zero => intro i ; exact s_none
    | succ F ih => intro i ; exact t_Terms_markKids_15b B hk7 (fun l1 l2 M  => ih (l1, l2, M) ) i.1 i.2.1 i.2.2 
  exact q FU (l1, l2, M) 
set_option maxRecDepth 100000 in
set_option maxHeartbeats 4000000 in
theorem t_Terms_markKids_7b {k7 : Int32 × MS → Option (MS × Unit)} (B : xB p R s m args meth c b_Terms_markKids 3 R_Terms (Cond.code y_Terms_markKids b_Terms_markKids 3 none :: x_T) none 1 22 D x_cl (xty g) base) (hk7 : ∀ (l1 : Int32) (M : MS) , Sn p l e R s m args below meth c 3 D x_cl base (xwd g) cM x_g0 az kz (xfc cM) (xZ below args s D x_cl (xty g) base (xwd g) cM x_g0 az kz ovU) 7 [] [(0, .ref 2), (1, .int l1)] M (k7 (l1, M))) (l1 : Int32) (M : MS)  : Sn p l e R s m args below meth c 3 D x_cl base (xwd g) cM x_g0 az kz (xfc cM) (xZ below args s D x_cl (xty g) base (xwd g) cM x_g0 az kz ovU) 7 [] [(0, .ref 2), (1, .int l1)] M (m_Terms_markKids_7b k7 l1 M) := by
  unfold m_Terms_markKids_7b
  refine s_iload_n B d_Terms_markKids_7 rfl ?_
  refine s_bipush (v := (18:Int32)) B d_Terms_markKids_8 (by decide) ?_
  refine s_icmp_lt B d_Terms_markKids_10 rfl (fun _ => ?_) (fun _ => ?_)
  · exact s_vret B d_Terms_markKids_59
  · refine s_iconst (v := (0:Int32)) B d_Terms_markKids_13 (by decide) ?_
    refine s_istore_n B d_Terms_markKids_14 (by decide) ?_
    refine s_pick (lv1 := [(0, .ref 2), (1, .int l1), (2, .int (0:Int32))]) [0, 1, 2] rfl ?_
    exact t_Terms_markKids_15 B hk7 l1 (0:Int32) M
set_option maxRecDepth 100000 in
set_option maxHeartbeats 4000000 in
theorem t_Terms_markKids_7  (B : xB p R s m args meth c b_Terms_markKids 3 R_Terms (Cond.code y_Terms_markKids b_Terms_markKids 3 none :: x_T) none 1 22 D x_cl (xty g) base)  (l1 : Int32) (M : MS)  : Sn p l e R s m args below meth c 3 D x_cl base (xwd g) cM x_g0 az kz (xfc cM) (xZ below args s D x_cl (xty g) base (xwd g) cM x_g0 az kz ovU) 7 [] [(0, .ref 2), (1, .int l1)] M (m_Terms_markKids_7 (l1, M)) := by
  have q : ∀ (F : Nat) (i : Int32 × MS), Sn p l e R s m args below meth c 3 D x_cl base (xwd g) cM x_g0 az kz (xfc cM) (xZ below args s D x_cl (xty g) base (xwd g) cM x_g0 az kz ovU) 7 [] [(0, .ref 2), (1, .int i.1)] i.2 (fx (fun (k : Int32 × MS → Option (MS × Unit)) (i : Int32 × MS) => m_Terms_markKids_7b k i.1 i.2) F i) := by
    intro F
    induction F with
    | zero => intro i ; exact s_none
    | succ F ih => intro i ; exact t_Terms_markKids_7b B  (fun l1 M  => ih (l1, M) ) i.1 i.2 
  exact q FU (l1, M) 
set_option maxRecDepth 100000 in
set_option maxHeartbeats 4000000 in
theorem t_Terms_markKids (B : xB p R s m args meth c b_Terms_markKids 3 R_Terms (Cond.code y_Terms_markKids b_Terms_markKids 3 none :: x_T) none 1 22 D x_cl (xty g) base)  (M : MS) : Sn p l e R s m args below meth c 3 D x_cl base (xwd g) cM x_g0 az kz (xfc cM) (xZ below args s D x_cl (xty g) base (xwd g) cM x_g0 az kz ovU) 0 [] [(0, .ref 2)] M (m_Terms_markKids M) := by
  unfold m_Terms_markKids
  refine s_aload_n B d_Terms_markKids_0 rfl ?_
  refine s_getI (k := 16) B xc_Terms kd_2 (by decide) rfl rfl fl_Terms_68 d_Terms_markKids_1 ?_
  refine s_iconst (v := (1:Int32)) B d_Terms_markKids_4 (by decide) ?_
  refine s_isub B d_Terms_markKids_5 ?_
  refine s_istore_n B d_Terms_markKids_6 (by decide) ?_
  refine s_pick (lv1 := [(0, .ref 2), (1, .int ((gI M 2 16) - (1:Int32)))]) [0, 1] rfl ?_
  exact t_Terms_markKids_7 B ((gI M 2 16) - (1:Int32)) M
set_option maxRecDepth 100000 in
set_option maxHeartbeats 4000000 in
theorem ct_Terms_markKids {l : Launch} {D : va_G} {base : Nat} {g : Nat → ClassId}  (M : MS) (r : MS × Unit) (hr : m_Terms_markKids M = some r) : Ct l y_Terms_markKids (Cond.code y_Terms_markKids b_Terms_markKids 3 none :: x_T) 1 22 D x_cl (xty g) base (xwd g) cM x_g0 [.ref 2] M r.1 (ovU r.2) :=
  x_met (ov := ovU) (by decide) (Nat.le_of_ble_eq_true rfl) (fun p e R s m args below meth c az B => t_Terms_markKids B  M) r hr
end
theorem d_Terms_numberMarked_0 : decode b_Terms_numberMarked 0 = .ok (.iconst (0), 1) := by decide +kernel
theorem d_Terms_numberMarked_1 : decode b_Terms_numberMarked 1 = .ok (.istore_n 1, 1) := by decide +kernel
theorem d_Terms_numberMarked_2 : decode b_Terms_numberMarked 2 = .ok (.iconst (0), 1) := by decide +kernel
theorem d_Terms_numberMarked_3 : decode b_Terms_numberMarked 3 = .ok (.istore_n 2, 1) := by decide +kernel
theorem d_Terms_numberMarked_4 : decode b_Terms_numberMarked 4 = .ok (.iload_n 2, 1) := by decide +kernel
theorem d_Terms_numberMarked_5 : decode b_Terms_numberMarked 5 = .ok (.aload_n 0, 1) := by decide +kernel
theorem d_Terms_numberMarked_6 : decode b_Terms_numberMarked 6 = .ok (.getfield 68, 3) := by decide +kernel
theorem d_Terms_numberMarked_9 : decode b_Terms_numberMarked 9 = .ok (.if_icmp .ge (35), 3) := by decide +kernel
theorem d_Terms_numberMarked_12 : decode b_Terms_numberMarked 12 = .ok (.iload_n 2, 1) := by decide +kernel
theorem d_Terms_numberMarked_13 : decode b_Terms_numberMarked 13 = .ok (.bipush (18), 2) := by decide +kernel
theorem d_Terms_numberMarked_15 : decode b_Terms_numberMarked 15 = .ok (.if_icmp .lt (13), 3) := by decide +kernel
theorem d_Terms_numberMarked_18 : decode b_Terms_numberMarked 18 = .ok (.aload_n 0, 1) := by decide +kernel
theorem d_Terms_numberMarked_19 : decode b_Terms_numberMarked 19 = .ok (.getfield 36, 3) := by decide +kernel
theorem d_Terms_numberMarked_22 : decode b_Terms_numberMarked 22 = .ok (.iload_n 2, 1) := by decide +kernel
theorem d_Terms_numberMarked_23 : decode b_Terms_numberMarked 23 = .ok (.iaload, 1) := by decide +kernel
theorem d_Terms_numberMarked_24 : decode b_Terms_numberMarked 24 = .ok (.iconst (-1), 1) := by decide +kernel
theorem d_Terms_numberMarked_25 : decode b_Terms_numberMarked 25 = .ok (.if_icmp .eq (13), 3) := by decide +kernel
theorem d_Terms_numberMarked_28 : decode b_Terms_numberMarked 28 = .ok (.aload_n 0, 1) := by decide +kernel
theorem d_Terms_numberMarked_29 : decode b_Terms_numberMarked 29 = .ok (.getfield 36, 3) := by decide +kernel
theorem d_Terms_numberMarked_32 : decode b_Terms_numberMarked 32 = .ok (.iload_n 2, 1) := by decide +kernel
theorem d_Terms_numberMarked_33 : decode b_Terms_numberMarked 33 = .ok (.iload_n 1, 1) := by decide +kernel
theorem d_Terms_numberMarked_34 : decode b_Terms_numberMarked 34 = .ok (.iastore, 1) := by decide +kernel
theorem d_Terms_numberMarked_35 : decode b_Terms_numberMarked 35 = .ok (.iinc 1 (1), 3) := by decide +kernel
theorem d_Terms_numberMarked_38 : decode b_Terms_numberMarked 38 = .ok (.iinc 2 (1), 3) := by decide +kernel
theorem d_Terms_numberMarked_41 : decode b_Terms_numberMarked 41 = .ok (.goto (-37), 3) := by decide +kernel
theorem d_Terms_numberMarked_44 : decode b_Terms_numberMarked 44 = .ok (.return_, 1) := by decide +kernel
section
variable {p : Program} {l : Launch} {e : Env} {R : Room} {s : State} {m : MethodId} {args : Array Value} {below : List Frame} {meth : Method} {c : Code} {D : va_G} {base : Nat} {g : Nat → ClassId} {az : Nat → Nat} {kz : Nat × Nat}
set_option maxRecDepth 100000 in
set_option maxHeartbeats 4000000 in
theorem t_Terms_numberMarked_28 {k4 : Int32 × Int32 × MS → Option (MS × Unit)} (B : xB p R s m args meth c b_Terms_numberMarked 3 R_Terms (Cond.code y_Terms_numberMarked b_Terms_numberMarked 3 none :: x_T) none 0 0 D x_cl (xty g) base) (hk4 : ∀ (l1 : Int32) (l2 : Int32) (M : MS) , Sn p l e R s m args below meth c 3 D x_cl base (xwd g) cM x_g0 az kz (xfc cM) (xZ below args s D x_cl (xty g) base (xwd g) cM x_g0 az kz ovU) 4 [] [(0, .ref 2), (1, .int l1), (2, .int l2)] M (k4 (l1, l2, M))) (l1 : Int32) (l2 : Int32) (M : MS)  : Sn p l e R s m args below meth c 3 D x_cl base (xwd g) cM x_g0 az kz (xfc cM) (xZ below args s D x_cl (xty g) base (xwd g) cM x_g0 az kz ovU) 28 [] [(0, .ref 2), (1, .int l1), (2, .int l2)] M (m_Terms_numberMarked_28 k4 l1 l2 M) := by
  unfold m_Terms_numberMarked_28
  refine s_aload_n B d_Terms_numberMarked_28 rfl ?_
  refine s_getS (k := 8) (n := 11) B xc_Terms kd_2 (by decide) rfl rfl fl_Terms_36 sr_2_8 d_Terms_numberMarked_29 ?_
  refine s_iload_n B d_Terms_numberMarked_32 rfl ?_
  refine s_iload_n B d_Terms_numberMarked_33 rfl ?_
  refine s_iast B (Or.inr kd_11) d_Terms_numberMarked_34 (fun M1 _ => ?_)
  refine s_iinc (w := (1:Int32)) B d_Terms_numberMarked_35 rfl (by decide) (by decide) ?_
  refine s_iinc (w := (1:Int32)) B d_Terms_numberMarked_38 rfl (by decide) (by decide) ?_
  refine s_goto B d_Terms_numberMarked_41 rfl ?_
  refine s_pick (lv1 := [(0, .ref 2), (1, .int (l1 + (1:Int32))), (2, .int (l2 + (1:Int32)))]) [0, 1, 2] rfl ?_
  exact hk4 (l1 + (1:Int32)) (l2 + (1:Int32)) M1
set_option maxRecDepth 100000 in
set_option maxHeartbeats 4000000 in
theorem t_Terms_numberMarked_4b {k4 : Int32 × Int32 × MS → Option (MS × Unit)} (B : xB p R s m args meth c b_Terms_numberMarked 3 R_Terms (Cond.code y_Terms_numberMarked b_Terms_numberMarked 3 none :: x_T) none 0 0 D x_cl (xty g) base) (hk4 : ∀ (l1 : Int32) (l2 : Int32) (M : MS) , Sn p l e R s m args below meth c 3 D x_cl base (xwd g) cM x_g0 az kz (xfc cM) (xZ below args s D x_cl (xty g) base (xwd g) cM x_g0 az kz ovU) 4 [] [(0, .ref 2), (1, .int l1), (2, .int l2)] M (k4 (l1, l2, M))) (l1 : Int32) (l2 : Int32) (M : MS)  : Sn p l e R s m args below meth c 3 D x_cl base (xwd g) cM x_g0 az kz (xfc cM) (xZ below args s D x_cl (xty g) base (xwd g) cM x_g0 az kz ovU) 4 [] [(0, .ref 2), (1, .int l1), (2, .int l2)] M (m_Terms_numberMarked_4b k4 l1 l2 M) := by
  unfold m_Terms_numberMarked_4b
  refine s_iload_n B d_Terms_numberMarked_4 rfl ?_
  refine s_aload_n B d_Terms_numberMarked_5 rfl ?_
  refine s_getI (k := 16) B xc_Terms kd_2 (by decide) rfl rfl fl_Terms_68 d_Terms_numberMarked_6 ?_
  refine s_icmp_ge B d_Terms_numberMarked_9 rfl (fun _ => ?_) (fun _ => ?_)
  · exact s_vret B d_Terms_numberMarked_44
  · refine s_iload_n B d_Terms_numberMarked_12 rfl ?_
    refine s_bipush (v := (18:Int32)) B d_Terms_numberMarked_13 (by decide) ?_
    refine s_icmp_lt B d_Terms_numberMarked_15 rfl (fun _ => ?_) (fun _ => ?_)
    · refine s_pick (lv1 := [(0, .ref 2), (1, .int l1), (2, .int l2)]) [0, 1, 2] rfl ?_
      exact t_Terms_numberMarked_28 B hk4 l1 l2 M
    · refine s_aload_n B d_Terms_numberMarked_18 rfl ?_
      refine s_getS (k := 8) (n := 11) B xc_Terms kd_2 (by decide) rfl rfl fl_Terms_36 sr_2_8 d_Terms_numberMarked_19 ?_
      refine s_iload_n B d_Terms_numberMarked_22 rfl ?_
      refine s_iald B (Or.inr kd_11) d_Terms_numberMarked_23 (fun v1 _ => ?_)
      refine s_iconst (v := (-1:Int32)) B d_Terms_numberMarked_24 (by decide) ?_
      refine s_icmp_eq B d_Terms_numberMarked_25 rfl (fun _ => ?_) (fun _ => ?_)
      · refine s_iinc (w := (1:Int32)) B d_Terms_numberMarked_38 rfl (by decide) (by decide) ?_
        refine s_goto B d_Terms_numberMarked_41 rfl ?_
        refine s_pick (lv1 := [(0, .ref 2), (1, .int l1), (2, .int (l2 + (1:Int32)))]) [0, 1, 2] rfl ?_
        exact hk4 l1 (l2 + (1:Int32)) M
      · refine s_pick (lv1 := [(0, .ref 2), (1, .int l1), (2, .int l2)]) [0, 1, 2] rfl ?_
        exact t_Terms_numberMarked_28 B hk4 l1 l2 M
set_option maxRecDepth 100000 in
set_option maxHeartbeats 4000000 in
theorem t_Terms_numberMarked_4  (B : xB p R s m args meth c b_Terms_numberMarked 3 R_Terms (Cond.code y_Terms_numberMarked b_Terms_numberMarked 3 none :: x_T) none 0 0 D x_cl (xty g) base)  (l1 : Int32) (l2 : Int32) (M : MS)  : Sn p l e R s m args below meth c 3 D x_cl base (xwd g) cM x_g0 az kz (xfc cM) (xZ below args s D x_cl (xty g) base (xwd g) cM x_g0 az kz ovU) 4 [] [(0, .ref 2), (1, .int l1), (2, .int l2)] M (m_Terms_numberMarked_4 (l1, l2, M)) := by
  have q : ∀ (F : Nat) (i : Int32 × Int32 × MS), Sn p l e R s m args below meth c 3 D x_cl base (xwd g) cM x_g0 az kz (xfc cM) (xZ below args s D x_cl (xty g) base (xwd g) cM x_g0 az kz ovU) 4 [] [(0, .ref 2), (1, .int i.1), (2, .int i.2.1)] i.2.2 (fx (fun (k : Int32 × Int32 × MS → Option (MS × Unit)) (i : Int32 × Int32 × MS) => m_Terms_numberMarked_4b k i.1 i.2.1 i.2.2) F i) := by
    intro F
    induction F with
    | zero => intro i ; exact s_none
    | succ F ih => intro i ; exact t_Terms_numberMarked_4b B  (fun l1 l2 M  => ih (l1, l2, M) ) i.1 i.2.1 i.2.2 
  exact q FU (l1, l2, M) 
set_option maxRecDepth 100000 in
set_option maxHeartbeats 4000000 in
theorem t_Terms_numberMarked (B : xB p R s m args meth c b_Terms_numberMarked 3 R_Terms (Cond.code y_Terms_numberMarked b_Terms_numberMarked 3 none :: x_T) none 0 0 D x_cl (xty g) base)  (M : MS) : Sn p l e R s m args below meth c 3 D x_cl base (xwd g) cM x_g0 az kz (xfc cM) (xZ below args s D x_cl (xty g) base (xwd g) cM x_g0 az kz ovU) 0 [] [(0, .ref 2)] M (m_Terms_numberMarked M) := by
  unfold m_Terms_numberMarked
  refine s_iconst (v := (0:Int32)) B d_Terms_numberMarked_0 (by decide) ?_
  refine s_istore_n B d_Terms_numberMarked_1 (by decide) ?_
  refine s_iconst (v := (0:Int32)) B d_Terms_numberMarked_2 (by decide) ?_
  refine s_istore_n B d_Terms_numberMarked_3 (by decide) ?_
  refine s_pick (lv1 := [(0, .ref 2), (1, .int (0:Int32)), (2, .int (0:Int32))]) [0, 1, 2] rfl ?_
  exact t_Terms_numberMarked_4 B (0:Int32) (0:Int32) M
set_option maxRecDepth 100000 in
set_option maxHeartbeats 4000000 in
theorem ct_Terms_numberMarked {l : Launch} {D : va_G} {base : Nat} {g : Nat → ClassId}  (M : MS) (r : MS × Unit) (hr : m_Terms_numberMarked M = some r) : Ct l y_Terms_numberMarked (Cond.code y_Terms_numberMarked b_Terms_numberMarked 3 none :: x_T) 0 0 D x_cl (xty g) base (xwd g) cM x_g0 [.ref 2] M r.1 (ovU r.2) :=
  x_met (ov := ovU) (by decide) (Nat.le_of_ble_eq_true rfl) (fun p e R s m args below meth c az B => t_Terms_numberMarked B  M) r hr
end
theorem d_Terms_move_0 : decode b_Terms_move 0 = .ok (.aload_n 0, 1) := by decide +kernel
theorem d_Terms_move_1 : decode b_Terms_move 1 = .ok (.getfield 72, 3) := by decide +kernel
theorem d_Terms_move_4 : decode b_Terms_move 4 = .ok (.istore_n 3, 1) := by decide +kernel
theorem d_Terms_move_5 : decode b_Terms_move 5 = .ok (.iconst (0), 1) := by decide +kernel
theorem d_Terms_move_6 : decode b_Terms_move 6 = .ok (.istore 4, 2) := by decide +kernel
theorem d_Terms_move_8 : decode b_Terms_move 8 = .ok (.iload 4, 2) := by decide +kernel
theorem d_Terms_move_10 : decode b_Terms_move 10 = .ok (.aload_n 0, 1) := by decide +kernel
theorem d_Terms_move_11 : decode b_Terms_move 11 = .ok (.getfield 24, 3) := by decide +kernel
theorem d_Terms_move_14 : decode b_Terms_move 14 = .ok (.iload_n 1, 1) := by decide +kernel
theorem d_Terms_move_15 : decode b_Terms_move 15 = .ok (.iaload, 1) := by decide +kernel
theorem d_Terms_move_16 : decode b_Terms_move 16 = .ok (.if_icmp .ge (40), 3) := by decide +kernel
theorem d_Terms_move_19 : decode b_Terms_move 19 = .ok (.aload_n 0, 1) := by decide +kernel
theorem d_Terms_move_20 : decode b_Terms_move 20 = .ok (.getfield 42, 3) := by decide +kernel
theorem d_Terms_move_23 : decode b_Terms_move 23 = .ok (.aload_n 0, 1) := by decide +kernel
theorem d_Terms_move_24 : decode b_Terms_move 24 = .ok (.getfield 72, 3) := by decide +kernel
theorem d_Terms_move_27 : decode b_Terms_move 27 = .ok (.aload_n 0, 1) := by decide +kernel
theorem d_Terms_move_28 : decode b_Terms_move 28 = .ok (.getfield 36, 3) := by decide +kernel
theorem d_Terms_move_31 : decode b_Terms_move 31 = .ok (.aload_n 0, 1) := by decide +kernel
theorem d_Terms_move_32 : decode b_Terms_move 32 = .ok (.iload_n 1, 1) := by decide +kernel
theorem d_Terms_move_33 : decode b_Terms_move 33 = .ok (.iload 4, 2) := by decide +kernel
theorem d_Terms_move_35 : decode b_Terms_move 35 = .ok (.invokevirtual 91, 3) := by decide +kernel
theorem d_Terms_move_38 : decode b_Terms_move 38 = .ok (.iaload, 1) := by decide +kernel
theorem d_Terms_move_39 : decode b_Terms_move 39 = .ok (.iastore, 1) := by decide +kernel
theorem d_Terms_move_40 : decode b_Terms_move 40 = .ok (.aload_n 0, 1) := by decide +kernel
theorem d_Terms_move_41 : decode b_Terms_move 41 = .ok (.dup, 1) := by decide +kernel
theorem d_Terms_move_42 : decode b_Terms_move 42 = .ok (.getfield 72, 3) := by decide +kernel
theorem d_Terms_move_45 : decode b_Terms_move 45 = .ok (.iconst (1), 1) := by decide +kernel
theorem d_Terms_move_46 : decode b_Terms_move 46 = .ok (.iadd, 1) := by decide +kernel
theorem d_Terms_move_47 : decode b_Terms_move 47 = .ok (.putfield 72, 3) := by decide +kernel
theorem d_Terms_move_50 : decode b_Terms_move 50 = .ok (.iinc 4 (1), 3) := by decide +kernel
theorem d_Terms_move_53 : decode b_Terms_move 53 = .ok (.goto (-45), 3) := by decide +kernel
theorem d_Terms_move_56 : decode b_Terms_move 56 = .ok (.aload_n 0, 1) := by decide +kernel
theorem d_Terms_move_57 : decode b_Terms_move 57 = .ok (.getfield 21, 3) := by decide +kernel
theorem d_Terms_move_60 : decode b_Terms_move 60 = .ok (.iload_n 2, 1) := by decide +kernel
theorem d_Terms_move_61 : decode b_Terms_move 61 = .ok (.iload_n 3, 1) := by decide +kernel
theorem d_Terms_move_62 : decode b_Terms_move 62 = .ok (.iastore, 1) := by decide +kernel
theorem d_Terms_move_63 : decode b_Terms_move 63 = .ok (.aload_n 0, 1) := by decide +kernel
theorem d_Terms_move_64 : decode b_Terms_move 64 = .ok (.getfield 24, 3) := by decide +kernel
theorem d_Terms_move_67 : decode b_Terms_move 67 = .ok (.iload_n 2, 1) := by decide +kernel
theorem d_Terms_move_68 : decode b_Terms_move 68 = .ok (.aload_n 0, 1) := by decide +kernel
theorem d_Terms_move_69 : decode b_Terms_move 69 = .ok (.getfield 24, 3) := by decide +kernel
theorem d_Terms_move_72 : decode b_Terms_move 72 = .ok (.iload_n 1, 1) := by decide +kernel
theorem d_Terms_move_73 : decode b_Terms_move 73 = .ok (.iaload, 1) := by decide +kernel
theorem d_Terms_move_74 : decode b_Terms_move 74 = .ok (.iastore, 1) := by decide +kernel
theorem d_Terms_move_75 : decode b_Terms_move 75 = .ok (.aload_n 0, 1) := by decide +kernel
theorem d_Terms_move_76 : decode b_Terms_move 76 = .ok (.getfield 11, 3) := by decide +kernel
theorem d_Terms_move_79 : decode b_Terms_move 79 = .ok (.iload_n 2, 1) := by decide +kernel
theorem d_Terms_move_80 : decode b_Terms_move 80 = .ok (.aload_n 0, 1) := by decide +kernel
theorem d_Terms_move_81 : decode b_Terms_move 81 = .ok (.getfield 11, 3) := by decide +kernel
theorem d_Terms_move_84 : decode b_Terms_move 84 = .ok (.iload_n 1, 1) := by decide +kernel
theorem d_Terms_move_85 : decode b_Terms_move 85 = .ok (.iaload, 1) := by decide +kernel
theorem d_Terms_move_86 : decode b_Terms_move 86 = .ok (.iastore, 1) := by decide +kernel
theorem d_Terms_move_87 : decode b_Terms_move 87 = .ok (.aload_n 0, 1) := by decide +kernel
theorem d_Terms_move_88 : decode b_Terms_move 88 = .ok (.getfield 15, 3) := by decide +kernel
theorem d_Terms_move_91 : decode b_Terms_move 91 = .ok (.iload_n 2, 1) := by decide +kernel
theorem d_Terms_move_92 : decode b_Terms_move 92 = .ok (.aload_n 0, 1) := by decide +kernel
theorem d_Terms_move_93 : decode b_Terms_move 93 = .ok (.getfield 15, 3) := by decide +kernel
theorem d_Terms_move_96 : decode b_Terms_move 96 = .ok (.iload_n 1, 1) := by decide +kernel
theorem d_Terms_move_97 : decode b_Terms_move 97 = .ok (.iaload, 1) := by decide +kernel
theorem d_Terms_move_98 : decode b_Terms_move 98 = .ok (.iastore, 1) := by decide +kernel
theorem d_Terms_move_99 : decode b_Terms_move 99 = .ok (.aload_n 0, 1) := by decide +kernel
theorem d_Terms_move_100 : decode b_Terms_move 100 = .ok (.getfield 18, 3) := by decide +kernel
theorem d_Terms_move_103 : decode b_Terms_move 103 = .ok (.iload_n 2, 1) := by decide +kernel
theorem d_Terms_move_104 : decode b_Terms_move 104 = .ok (.aload_n 0, 1) := by decide +kernel
theorem d_Terms_move_105 : decode b_Terms_move 105 = .ok (.getfield 18, 3) := by decide +kernel
theorem d_Terms_move_108 : decode b_Terms_move 108 = .ok (.iload_n 1, 1) := by decide +kernel
theorem d_Terms_move_109 : decode b_Terms_move 109 = .ok (.iaload, 1) := by decide +kernel
theorem d_Terms_move_110 : decode b_Terms_move 110 = .ok (.iastore, 1) := by decide +kernel
theorem d_Terms_move_111 : decode b_Terms_move 111 = .ok (.aload_n 0, 1) := by decide +kernel
theorem d_Terms_move_112 : decode b_Terms_move 112 = .ok (.getfield 33, 3) := by decide +kernel
theorem d_Terms_move_115 : decode b_Terms_move 115 = .ok (.iload_n 2, 1) := by decide +kernel
theorem d_Terms_move_116 : decode b_Terms_move 116 = .ok (.aload_n 0, 1) := by decide +kernel
theorem d_Terms_move_117 : decode b_Terms_move 117 = .ok (.getfield 33, 3) := by decide +kernel
theorem d_Terms_move_120 : decode b_Terms_move 120 = .ok (.iload_n 1, 1) := by decide +kernel
theorem d_Terms_move_121 : decode b_Terms_move 121 = .ok (.iaload, 1) := by decide +kernel
theorem d_Terms_move_122 : decode b_Terms_move 122 = .ok (.iastore, 1) := by decide +kernel
theorem d_Terms_move_123 : decode b_Terms_move 123 = .ok (.aload_n 0, 1) := by decide +kernel
theorem d_Terms_move_124 : decode b_Terms_move 124 = .ok (.getfield 11, 3) := by decide +kernel
theorem d_Terms_move_127 : decode b_Terms_move 127 = .ok (.iload_n 2, 1) := by decide +kernel
theorem d_Terms_move_128 : decode b_Terms_move 128 = .ok (.iaload, 1) := by decide +kernel
theorem d_Terms_move_129 : decode b_Terms_move 129 = .ok (.istore 4, 2) := by decide +kernel
theorem d_Terms_move_131 : decode b_Terms_move 131 = .ok (.iconst (0), 1) := by decide +kernel
theorem d_Terms_move_132 : decode b_Terms_move 132 = .ok (.istore 5, 2) := by decide +kernel
theorem d_Terms_move_134 : decode b_Terms_move 134 = .ok (.iload 5, 2) := by decide +kernel
theorem d_Terms_move_136 : decode b_Terms_move 136 = .ok (.aload_n 0, 1) := by decide +kernel
theorem d_Terms_move_137 : decode b_Terms_move 137 = .ok (.getfield 24, 3) := by decide +kernel
theorem d_Terms_move_140 : decode b_Terms_move 140 = .ok (.iload_n 2, 1) := by decide +kernel
theorem d_Terms_move_141 : decode b_Terms_move 141 = .ok (.iaload, 1) := by decide +kernel
theorem d_Terms_move_142 : decode b_Terms_move 142 = .ok (.if_icmp .ge (24), 3) := by decide +kernel
theorem d_Terms_move_145 : decode b_Terms_move 145 = .ok (.iload 4, 2) := by decide +kernel
theorem d_Terms_move_147 : decode b_Terms_move 147 = .ok (.aload_n 0, 1) := by decide +kernel
theorem d_Terms_move_148 : decode b_Terms_move 148 = .ok (.iload_n 2, 1) := by decide +kernel
theorem d_Terms_move_149 : decode b_Terms_move 149 = .ok (.iload 5, 2) := by decide +kernel
theorem d_Terms_move_151 : decode b_Terms_move 151 = .ok (.invokevirtual 91, 3) := by decide +kernel
theorem d_Terms_move_154 : decode b_Terms_move 154 = .ok (.iadd, 1) := by decide +kernel
theorem d_Terms_move_155 : decode b_Terms_move 155 = .ok (.ldc 150, 2) := by decide +kernel
theorem d_Terms_move_157 : decode b_Terms_move 157 = .ok (.imul, 1) := by decide +kernel
theorem d_Terms_move_158 : decode b_Terms_move 158 = .ok (.istore 4, 2) := by decide +kernel
theorem d_Terms_move_160 : decode b_Terms_move 160 = .ok (.iinc 5 (1), 3) := by decide +kernel
theorem d_Terms_move_163 : decode b_Terms_move 163 = .ok (.goto (-29), 3) := by decide +kernel
theorem d_Terms_move_166 : decode b_Terms_move 166 = .ok (.aload_n 0, 1) := by decide +kernel
theorem d_Terms_move_167 : decode b_Terms_move 167 = .ok (.getfield 27, 3) := by decide +kernel
theorem d_Terms_move_170 : decode b_Terms_move 170 = .ok (.iload_n 2, 1) := by decide +kernel
theorem d_Terms_move_171 : decode b_Terms_move 171 = .ok (.iload 4, 2) := by decide +kernel
theorem d_Terms_move_173 : decode b_Terms_move 173 = .ok (.iastore, 1) := by decide +kernel
theorem d_Terms_move_174 : decode b_Terms_move 174 = .ok (.aload_n 0, 1) := by decide +kernel
theorem d_Terms_move_175 : decode b_Terms_move 175 = .ok (.getfield 30, 3) := by decide +kernel
theorem d_Terms_move_178 : decode b_Terms_move 178 = .ok (.iload_n 2, 1) := by decide +kernel
theorem d_Terms_move_179 : decode b_Terms_move 179 = .ok (.aload_n 0, 1) := by decide +kernel
theorem d_Terms_move_180 : decode b_Terms_move 180 = .ok (.getfield 45, 3) := by decide +kernel
theorem d_Terms_move_183 : decode b_Terms_move 183 = .ok (.iload 4, 2) := by decide +kernel
theorem d_Terms_move_185 : decode b_Terms_move 185 = .ok (.bipush (22), 2) := by decide +kernel
theorem d_Terms_move_187 : decode b_Terms_move 187 = .ok (.iushr, 1) := by decide +kernel
theorem d_Terms_move_188 : decode b_Terms_move 188 = .ok (.iaload, 1) := by decide +kernel
theorem d_Terms_move_189 : decode b_Terms_move 189 = .ok (.iastore, 1) := by decide +kernel
theorem d_Terms_move_190 : decode b_Terms_move 190 = .ok (.aload_n 0, 1) := by decide +kernel
theorem d_Terms_move_191 : decode b_Terms_move 191 = .ok (.getfield 45, 3) := by decide +kernel
theorem d_Terms_move_194 : decode b_Terms_move 194 = .ok (.iload 4, 2) := by decide +kernel
theorem d_Terms_move_196 : decode b_Terms_move 196 = .ok (.bipush (22), 2) := by decide +kernel
theorem d_Terms_move_198 : decode b_Terms_move 198 = .ok (.iushr, 1) := by decide +kernel
theorem d_Terms_move_199 : decode b_Terms_move 199 = .ok (.iload_n 2, 1) := by decide +kernel
theorem d_Terms_move_200 : decode b_Terms_move 200 = .ok (.iastore, 1) := by decide +kernel
theorem d_Terms_move_201 : decode b_Terms_move 201 = .ok (.iconst (0), 1) := by decide +kernel
theorem d_Terms_move_202 : decode b_Terms_move 202 = .ok (.istore 5, 2) := by decide +kernel
theorem d_Terms_move_204 : decode b_Terms_move 204 = .ok (.iload 5, 2) := by decide +kernel
theorem d_Terms_move_206 : decode b_Terms_move 206 = .ok (.iconst (4), 1) := by decide +kernel
theorem d_Terms_move_207 : decode b_Terms_move 207 = .ok (.if_icmp .ge (50), 3) := by decide +kernel
theorem d_Terms_move_210 : decode b_Terms_move 210 = .ok (.aload_n 0, 1) := by decide +kernel
theorem d_Terms_move_211 : decode b_Terms_move 211 = .ok (.getfield 39, 3) := by decide +kernel
theorem d_Terms_move_214 : decode b_Terms_move 214 = .ok (.iload_n 1, 1) := by decide +kernel
theorem d_Terms_move_215 : decode b_Terms_move 215 = .ok (.iconst (4), 1) := by decide +kernel
theorem d_Terms_move_216 : decode b_Terms_move 216 = .ok (.imul, 1) := by decide +kernel
theorem d_Terms_move_217 : decode b_Terms_move 217 = .ok (.iload 5, 2) := by decide +kernel
theorem d_Terms_move_219 : decode b_Terms_move 219 = .ok (.iadd, 1) := by decide +kernel
theorem d_Terms_move_220 : decode b_Terms_move 220 = .ok (.iaload, 1) := by decide +kernel
theorem d_Terms_move_221 : decode b_Terms_move 221 = .ok (.istore 6, 2) := by decide +kernel
theorem d_Terms_move_223 : decode b_Terms_move 223 = .ok (.aload_n 0, 1) := by decide +kernel
theorem d_Terms_move_224 : decode b_Terms_move 224 = .ok (.getfield 39, 3) := by decide +kernel
theorem d_Terms_move_227 : decode b_Terms_move 227 = .ok (.iload_n 2, 1) := by decide +kernel
theorem d_Terms_move_228 : decode b_Terms_move 228 = .ok (.iconst (4), 1) := by decide +kernel
theorem d_Terms_move_229 : decode b_Terms_move 229 = .ok (.imul, 1) := by decide +kernel
theorem d_Terms_move_230 : decode b_Terms_move 230 = .ok (.iload 5, 2) := by decide +kernel
theorem d_Terms_move_232 : decode b_Terms_move 232 = .ok (.iadd, 1) := by decide +kernel
theorem d_Terms_move_233 : decode b_Terms_move 233 = .ok (.iload 6, 2) := by decide +kernel
theorem d_Terms_move_235 : decode b_Terms_move 235 = .ok (.iconst (-1), 1) := by decide +kernel
theorem d_Terms_move_236 : decode b_Terms_move 236 = .ok (.if_icmp .ne (7), 3) := by decide +kernel
theorem d_Terms_move_239 : decode b_Terms_move 239 = .ok (.iconst (-1), 1) := by decide +kernel
theorem d_Terms_move_240 : decode b_Terms_move 240 = .ok (.goto (10), 3) := by decide +kernel
theorem d_Terms_move_243 : decode b_Terms_move 243 = .ok (.aload_n 0, 1) := by decide +kernel
theorem d_Terms_move_244 : decode b_Terms_move 244 = .ok (.getfield 36, 3) := by decide +kernel
theorem d_Terms_move_247 : decode b_Terms_move 247 = .ok (.iload 6, 2) := by decide +kernel
theorem d_Terms_move_249 : decode b_Terms_move 249 = .ok (.iaload, 1) := by decide +kernel
theorem d_Terms_move_250 : decode b_Terms_move 250 = .ok (.iastore, 1) := by decide +kernel
theorem d_Terms_move_251 : decode b_Terms_move 251 = .ok (.iinc 5 (1), 3) := by decide +kernel
theorem d_Terms_move_254 : decode b_Terms_move 254 = .ok (.goto (-50), 3) := by decide +kernel
theorem d_Terms_move_257 : decode b_Terms_move 257 = .ok (.return_, 1) := by decide +kernel
section
variable {p : Program} {l : Launch} {e : Env} {R : Room} {s : State} {m : MethodId} {args : Array Value} {below : List Frame} {meth : Method} {c : Code} {D : va_G} {base : Nat} {g : Nat → ClassId} {az : Nat → Nat} {kz : Nat × Nat}
set_option maxRecDepth 100000 in
set_option maxHeartbeats 4000000 in
theorem t_Terms_move_250 {k204 : Int32 × Int32 × Int32 × MS → Option (MS × Unit)} (B : xB p R s m args meth c b_Terms_move 7 R_Terms (Cond.code y_Terms_move b_Terms_move 7 none :: x_T) none 1 22 D x_cl (xty g) base) (hk204 : ∀ (l1 : Int32) (l2 : Int32) (l5 : Int32) (M : MS) , Sn p l e R s m args below meth c 7 D x_cl base (xwd g) cM x_g0 az kz (xfc cM) (xZ below args s D x_cl (xty g) base (xwd g) cM x_g0 az kz ovU) 204 [] [(0, .ref 2), (1, .int l1), (2, .int l2), (5, .int l5)] M (k204 (l1, l2, l5, M))) (l1 : Int32) (l2 : Int32) (l5 : Int32) (s1 : Int32) (s2 : Int32) (M : MS)  : Sn p l e R s m args below meth c 7 D x_cl base (xwd g) cM x_g0 az kz (xfc cM) (xZ below args s D x_cl (xty g) base (xwd g) cM x_g0 az kz ovU) 250 [.int s2, .int s1, .ref 12] [(0, .ref 2), (1, .int l1), (2, .int l2), (5, .int l5)] M (m_Terms_move_250 k204 l1 l2 l5 s1 s2 M) := by
  unfold m_Terms_move_250
  refine s_iast B (Or.inr kd_12) d_Terms_move_250 (fun M1 _ => ?_)
  refine s_iinc (w := (1:Int32)) B d_Terms_move_251 rfl (by decide) (by decide) ?_
  refine s_goto B d_Terms_move_254 rfl ?_
  refine s_pick (lv1 := [(0, .ref 2), (1, .int l1), (2, .int l2), (5, .int (l5 + (1:Int32)))]) [0, 1, 2, 5] rfl ?_
  exact hk204 l1 l2 (l5 + (1:Int32)) M1
set_option maxRecDepth 100000 in
set_option maxHeartbeats 4000000 in
theorem t_Terms_move_204b {k204 : Int32 × Int32 × Int32 × MS → Option (MS × Unit)} (B : xB p R s m args meth c b_Terms_move 7 R_Terms (Cond.code y_Terms_move b_Terms_move 7 none :: x_T) none 1 22 D x_cl (xty g) base) (hk204 : ∀ (l1 : Int32) (l2 : Int32) (l5 : Int32) (M : MS) , Sn p l e R s m args below meth c 7 D x_cl base (xwd g) cM x_g0 az kz (xfc cM) (xZ below args s D x_cl (xty g) base (xwd g) cM x_g0 az kz ovU) 204 [] [(0, .ref 2), (1, .int l1), (2, .int l2), (5, .int l5)] M (k204 (l1, l2, l5, M))) (l1 : Int32) (l2 : Int32) (l5 : Int32) (M : MS)  : Sn p l e R s m args below meth c 7 D x_cl base (xwd g) cM x_g0 az kz (xfc cM) (xZ below args s D x_cl (xty g) base (xwd g) cM x_g0 az kz ovU) 204 [] [(0, .ref 2), (1, .int l1), (2, .int l2), (5, .int l5)] M (m_Terms_move_204b k204 l1 l2 l5 M) := by
  unfold m_Terms_move_204b
  refine s_iload B d_Terms_move_204 rfl ?_
  refine s_iconst (v := (4:Int32)) B d_Terms_move_206 (by decide) ?_
  refine s_icmp_ge B d_Terms_move_207 rfl (fun _ => ?_) (fun _ => ?_)
  · exact s_vret B d_Terms_move_257
  · refine s_aload_n B d_Terms_move_210 rfl ?_
    refine s_getS (k := 9) (n := 12) B xc_Terms kd_2 (by decide) rfl rfl fl_Terms_39 sr_2_9 d_Terms_move_211 ?_
    refine s_iload_n B d_Terms_move_214 rfl ?_
    refine s_iconst (v := (4:Int32)) B d_Terms_move_215 (by decide) ?_
    refine s_imul B d_Terms_move_216 ?_
    refine s_iload B d_Terms_move_217 rfl ?_
    refine s_iadd B d_Terms_move_219 ?_
    refine s_iald B (Or.inr kd_12) d_Terms_move_220 (fun v1 _ => ?_)
    refine s_istore B d_Terms_move_221 (by decide) ?_
    refine s_aload_n B d_Terms_move_223 rfl ?_
    refine s_getS (k := 9) (n := 12) B xc_Terms kd_2 (by decide) rfl rfl fl_Terms_39 sr_2_9 d_Terms_move_224 ?_
    refine s_iload_n B d_Terms_move_227 rfl ?_
    refine s_iconst (v := (4:Int32)) B d_Terms_move_228 (by decide) ?_
    refine s_imul B d_Terms_move_229 ?_
    refine s_iload B d_Terms_move_230 rfl ?_
    refine s_iadd B d_Terms_move_232 ?_
    refine s_iload B d_Terms_move_233 rfl ?_
    refine s_iconst (v := (-1:Int32)) B d_Terms_move_235 (by decide) ?_
    refine s_icmp_ne B d_Terms_move_236 rfl (fun _ => ?_) (fun _ => ?_)
    · refine s_aload_n B d_Terms_move_243 rfl ?_
      refine s_getS (k := 8) (n := 11) B xc_Terms kd_2 (by decide) rfl rfl fl_Terms_36 sr_2_8 d_Terms_move_244 ?_
      refine s_iload B d_Terms_move_247 rfl ?_
      refine s_iald B (Or.inr kd_11) d_Terms_move_249 (fun v2 _ => ?_)
      refine s_pick (lv1 := [(0, .ref 2), (1, .int l1), (2, .int l2), (5, .int l5)]) [0, 1, 2, 5] rfl ?_
      exact t_Terms_move_250 B hk204 l1 l2 l5 ((l2 * (4:Int32)) + l5) v2 M
    · refine s_iconst (v := (-1:Int32)) B d_Terms_move_239 (by decide) ?_
      refine s_goto B d_Terms_move_240 rfl ?_
      refine s_pick (lv1 := [(0, .ref 2), (1, .int l1), (2, .int l2), (5, .int l5)]) [0, 1, 2, 5] rfl ?_
      exact t_Terms_move_250 B hk204 l1 l2 l5 ((l2 * (4:Int32)) + l5) (-1:Int32) M
set_option maxRecDepth 100000 in
set_option maxHeartbeats 4000000 in
theorem t_Terms_move_204  (B : xB p R s m args meth c b_Terms_move 7 R_Terms (Cond.code y_Terms_move b_Terms_move 7 none :: x_T) none 1 22 D x_cl (xty g) base)  (l1 : Int32) (l2 : Int32) (l5 : Int32) (M : MS)  : Sn p l e R s m args below meth c 7 D x_cl base (xwd g) cM x_g0 az kz (xfc cM) (xZ below args s D x_cl (xty g) base (xwd g) cM x_g0 az kz ovU) 204 [] [(0, .ref 2), (1, .int l1), (2, .int l2), (5, .int l5)] M (m_Terms_move_204 (l1, l2, l5, M)) := by
  have q : ∀ (F : Nat) (i : Int32 × Int32 × Int32 × MS), Sn p l e R s m args below meth c 7 D x_cl base (xwd g) cM x_g0 az kz (xfc cM) (xZ below args s D x_cl (xty g) base (xwd g) cM x_g0 az kz ovU) 204 [] [(0, .ref 2), (1, .int i.1), (2, .int i.2.1), (5, .int i.2.2.1)] i.2.2.2 (fx (fun (k : Int32 × Int32 × Int32 × MS → Option (MS × Unit)) (i : Int32 × Int32 × Int32 × MS) => m_Terms_move_204b k i.1 i.2.1 i.2.2.1 i.2.2.2) F i) := by
    intro F
    induction F with
    | zero => intro i ; exact s_none
    | succ F ih => intro i ; exact t_Terms_move_204b B  (fun l1 l2 l5 M  => ih (l1, l2, l5, M) ) i.1 i.2.1 i.2.2.1 i.2.2.2 
  exact q FU (l1, l2, l5, M) 
set_option maxRecDepth 100000 in
set_option maxHeartbeats 4000000 in
theorem t_Terms_move_166  (B : xB p R s m args meth c b_Terms_move 7 R_Terms (Cond.code y_Terms_move b_Terms_move 7 none :: x_T) none 1 22 D x_cl (xty g) base)  (l1 : Int32) (l2 : Int32) (l4 : Int32) (M : MS)  : Sn p l e R s m args below meth c 7 D x_cl base (xwd g) cM x_g0 az kz (xfc cM) (xZ below args s D x_cl (xty g) base (xwd g) cM x_g0 az kz ovU) 166 [] [(0, .ref 2), (1, .int l1), (2, .int l2), (4, .int l4)] M (m_Terms_move_166 l1 l2 l4 M) := by
  unfold m_Terms_move_166
  refine s_aload_n B d_Terms_move_166 rfl ?_
  refine s_getS (k := 5) (n := 8) B xc_Terms kd_2 (by decide) rfl rfl fl_Terms_27 sr_2_5 d_Terms_move_167 ?_
  refine s_iload_n B d_Terms_move_170 rfl ?_
  refine s_iload B d_Terms_move_171 rfl ?_
  refine s_iast B (Or.inr kd_8) d_Terms_move_173 (fun M1 _ => ?_)
  refine s_aload_n B d_Terms_move_174 rfl ?_
  refine s_getS (k := 6) (n := 9) B xc_Terms kd_2 (by decide) rfl rfl fl_Terms_30 sr_2_6 d_Terms_move_175 ?_
  refine s_iload_n B d_Terms_move_178 rfl ?_
  refine s_aload_n B d_Terms_move_179 rfl ?_
  refine s_getS (k := 11) (n := 14) B xc_Terms kd_2 (by decide) rfl rfl fl_Terms_45 sr_2_11 d_Terms_move_180 ?_
  refine s_iload B d_Terms_move_183 rfl ?_
  refine s_bipush (v := (22:Int32)) B d_Terms_move_185 (by decide) ?_
  refine s_iushr B d_Terms_move_187 ?_
  refine s_iald B (Or.inl kd_14) d_Terms_move_188 (fun v2 _ => ?_)
  refine s_iast B (Or.inr kd_9) d_Terms_move_189 (fun M3 _ => ?_)
  refine s_aload_n B d_Terms_move_190 rfl ?_
  refine s_getS (k := 11) (n := 14) B xc_Terms kd_2 (by decide) rfl rfl fl_Terms_45 sr_2_11 d_Terms_move_191 ?_
  refine s_iload B d_Terms_move_194 rfl ?_
  refine s_bipush (v := (22:Int32)) B d_Terms_move_196 (by decide) ?_
  refine s_iushr B d_Terms_move_198 ?_
  refine s_iload_n B d_Terms_move_199 rfl ?_
  refine s_iast B (Or.inl kd_14) d_Terms_move_200 (fun M4 _ => ?_)
  refine s_iconst (v := (0:Int32)) B d_Terms_move_201 (by decide) ?_
  refine s_istore B d_Terms_move_202 (by decide) ?_
  refine s_pick (lv1 := [(0, .ref 2), (1, .int l1), (2, .int l2), (5, .int (0:Int32))]) [0, 1, 2, 5] rfl ?_
  exact t_Terms_move_204 B l1 l2 (0:Int32) M4
set_option maxRecDepth 100000 in
set_option maxHeartbeats 4000000 in
theorem t_Terms_move_134b {k134 : Int32 × Int32 × Int32 × Int32 × MS → Option (MS × Unit)} (B : xB p R s m args meth c b_Terms_move 7 R_Terms (Cond.code y_Terms_move b_Terms_move 7 none :: x_T) none 1 22 D x_cl (xty g) base) (hk134 : ∀ (l1 : Int32) (l2 : Int32) (l4 : Int32) (l5 : Int32) (M : MS) , Sn p l e R s m args below meth c 7 D x_cl base (xwd g) cM x_g0 az kz (xfc cM) (xZ below args s D x_cl (xty g) base (xwd g) cM x_g0 az kz ovU) 134 [] [(0, .ref 2), (1, .int l1), (2, .int l2), (4, .int l4), (5, .int l5)] M (k134 (l1, l2, l4, l5, M))) (l1 : Int32) (l2 : Int32) (l4 : Int32) (l5 : Int32) (M : MS)  : Sn p l e R s m args below meth c 7 D x_cl base (xwd g) cM x_g0 az kz (xfc cM) (xZ below args s D x_cl (xty g) base (xwd g) cM x_g0 az kz ovU) 134 [] [(0, .ref 2), (1, .int l1), (2, .int l2), (4, .int l4), (5, .int l5)] M (m_Terms_move_134b k134 l1 l2 l4 l5 M) := by
  unfold m_Terms_move_134b
  refine s_iload B d_Terms_move_134 rfl ?_
  refine s_aload_n B d_Terms_move_136 rfl ?_
  refine s_getS (k := 4) (n := 7) B xc_Terms kd_2 (by decide) rfl rfl fl_Terms_24 sr_2_4 d_Terms_move_137 ?_
  refine s_iload_n B d_Terms_move_140 rfl ?_
  refine s_iald B (Or.inr kd_7) d_Terms_move_141 (fun v1 _ => ?_)
  refine s_icmp_ge B d_Terms_move_142 rfl (fun _ => ?_) (fun _ => ?_)
  · refine s_pick (lv1 := [(0, .ref 2), (1, .int l1), (2, .int l2), (4, .int l4)]) [0, 1, 2, 4] rfl ?_
    exact t_Terms_move_166 B l1 l2 l4 M
  · refine s_iload B d_Terms_move_145 rfl ?_
    refine s_aload_n B d_Terms_move_147 rfl ?_
    refine s_iload_n B d_Terms_move_148 rfl ?_
    refine s_iload B d_Terms_move_149 rfl ?_
    refine s_pick (lv1 := [(0, .ref 2), (1, .int l1), (2, .int l2), (5, .int l5)]) [0, 1, 2, 5] rfl ?_
    refine s_callI (av := [.ref 2, .int l2, .int l5]) (rest := [.int l4]) B (lk_V B d_Terms_move_151 (gl_Terms_91 _) rfl hv_Terms_kid (by decide) (by decide)) rfl (x_rcV B xc_Terms kd_2) (fun _ _ => rfl) rfl rfl (by simp [Value.category]) rfl (fun r2 e9 => ct_Terms_kid _ _ _ r2 e9) (fun r2 _ => ?_)
    refine s_iadd B d_Terms_move_154 ?_
    refine s_ldc (v := (-1640531535:Int32)) B d_Terms_move_155 (List.mem_cons_of_mem _ cs_Terms_150) ?_
    refine s_imul B d_Terms_move_157 ?_
    refine s_istore B d_Terms_move_158 (by decide) ?_
    refine s_iinc (w := (1:Int32)) B d_Terms_move_160 rfl (by decide) (by decide) ?_
    refine s_goto B d_Terms_move_163 rfl ?_
    refine s_pick (lv1 := [(0, .ref 2), (1, .int l1), (2, .int l2), (4, .int ((l4 + r2.2) * (-1640531535:Int32))), (5, .int (l5 + (1:Int32)))]) [0, 1, 2, 4, 5] rfl ?_
    exact hk134 l1 l2 ((l4 + r2.2) * (-1640531535:Int32)) (l5 + (1:Int32)) r2.1
set_option maxRecDepth 100000 in
set_option maxHeartbeats 4000000 in
theorem t_Terms_move_134  (B : xB p R s m args meth c b_Terms_move 7 R_Terms (Cond.code y_Terms_move b_Terms_move 7 none :: x_T) none 1 22 D x_cl (xty g) base)  (l1 : Int32) (l2 : Int32) (l4 : Int32) (l5 : Int32) (M : MS)  : Sn p l e R s m args below meth c 7 D x_cl base (xwd g) cM x_g0 az kz (xfc cM) (xZ below args s D x_cl (xty g) base (xwd g) cM x_g0 az kz ovU) 134 [] [(0, .ref 2), (1, .int l1), (2, .int l2), (4, .int l4), (5, .int l5)] M (m_Terms_move_134 (l1, l2, l4, l5, M)) := by
  have q : ∀ (F : Nat) (i : Int32 × Int32 × Int32 × Int32 × MS), Sn p l e R s m args below meth c 7 D x_cl base (xwd g) cM x_g0 az kz (xfc cM) (xZ below args s D x_cl (xty g) base (xwd g) cM x_g0 az kz ovU) 134 [] [(0, .ref 2), (1, .int i.1), (2, .int i.2.1), (4, .int i.2.2.1), (5, .int i.2.2.2.1)] i.2.2.2.2 (fx (fun (k : Int32 × Int32 × Int32 × Int32 × MS → Option (MS × Unit)) (i : Int32 × Int32 × Int32 × Int32 × MS) => m_Terms_move_134b k i.1 i.2.1 i.2.2.1 i.2.2.2.1 i.2.2.2.2) F i) := by
    intro F
    induction F with
    | zero => intro i ; exact s_none
    | succ F ih => intro i ; exact t_Terms_move_134b B  (fun l1 l2 l4 l5 M  => ih (l1, l2, l4, l5, M) ) i.1 i.2.1 i.2.2.1 i.2.2.2.1 i.2.2.2.2 
  exact q FU (l1, l2, l4, l5, M) 
set_option maxRecDepth 100000 in
set_option maxHeartbeats 4000000 in
theorem t_Terms_move_56  (B : xB p R s m args meth c b_Terms_move 7 R_Terms (Cond.code y_Terms_move b_Terms_move 7 none :: x_T) none 1 22 D x_cl (xty g) base)  (l1 : Int32) (l2 : Int32) (l3 : Int32) (M : MS)  : Sn p l e R s m args below meth c 7 D x_cl base (xwd g) cM x_g0 az kz (xfc cM) (xZ below args s D x_cl (xty g) base (xwd g) cM x_g0 az kz ovU) 56 [] [(0, .ref 2), (1, .int l1), (2, .int l2), (3, .int l3)] M (m_Terms_move_56 l1 l2 l3 M) := by
  unfold m_Terms_move_56
  refine s_aload_n B d_Terms_move_56 rfl ?_
  refine s_getS (k := 3) (n := 6) B xc_Terms kd_2 (by decide) rfl rfl fl_Terms_21 sr_2_3 d_Terms_move_57 ?_
  refine s_iload_n B d_Terms_move_60 rfl ?_
  refine s_iload_n B d_Terms_move_61 rfl ?_
  refine s_iast B (Or.inr kd_6) d_Terms_move_62 (fun M1 _ => ?_)
  refine s_aload_n B d_Terms_move_63 rfl ?_
  refine s_getS (k := 4) (n := 7) B xc_Terms kd_2 (by decide) rfl rfl fl_Terms_24 sr_2_4 d_Terms_move_64 ?_
  refine s_iload_n B d_Terms_move_67 rfl ?_
  refine s_aload_n B d_Terms_move_68 rfl ?_
  refine s_getS (k := 4) (n := 7) B xc_Terms kd_2 (by decide) rfl rfl fl_Terms_24 sr_2_4 d_Terms_move_69 ?_
  refine s_iload_n B d_Terms_move_72 rfl ?_
  refine s_iald B (Or.inr kd_7) d_Terms_move_73 (fun v2 _ => ?_)
  refine s_iast B (Or.inr kd_7) d_Terms_move_74 (fun M3 _ => ?_)
  refine s_aload_n B d_Terms_move_75 rfl ?_
  refine s_getS (k := 0) (n := 3) B xc_Terms kd_2 (by decide) rfl rfl fl_Terms_11 sr_2_0 d_Terms_move_76 ?_
  refine s_iload_n B d_Terms_move_79 rfl ?_
  refine s_aload_n B d_Terms_move_80 rfl ?_
  refine s_getS (k := 0) (n := 3) B xc_Terms kd_2 (by decide) rfl rfl fl_Terms_11 sr_2_0 d_Terms_move_81 ?_
  refine s_iload_n B d_Terms_move_84 rfl ?_
  refine s_iald B (Or.inr kd_3) d_Terms_move_85 (fun v4 _ => ?_)
  refine s_iast B (Or.inr kd_3) d_Terms_move_86 (fun M5 _ => ?_)
  refine s_aload_n B d_Terms_move_87 rfl ?_
  refine s_getS (k := 1) (n := 4) B xc_Terms kd_2 (by decide) rfl rfl fl_Terms_15 sr_2_1 d_Terms_move_88 ?_
  refine s_iload_n B d_Terms_move_91 rfl ?_
  refine s_aload_n B d_Terms_move_92 rfl ?_
  refine s_getS (k := 1) (n := 4) B xc_Terms kd_2 (by decide) rfl rfl fl_Terms_15 sr_2_1 d_Terms_move_93 ?_
  refine s_iload_n B d_Terms_move_96 rfl ?_
  refine s_iald B (Or.inr kd_4) d_Terms_move_97 (fun v6 _ => ?_)
  refine s_iast B (Or.inr kd_4) d_Terms_move_98 (fun M7 _ => ?_)
  refine s_aload_n B d_Terms_move_99 rfl ?_
  refine s_getS (k := 2) (n := 5) B xc_Terms kd_2 (by decide) rfl rfl fl_Terms_18 sr_2_2 d_Terms_move_100 ?_
  refine s_iload_n B d_Terms_move_103 rfl ?_
  refine s_aload_n B d_Terms_move_104 rfl ?_
  refine s_getS (k := 2) (n := 5) B xc_Terms kd_2 (by decide) rfl rfl fl_Terms_18 sr_2_2 d_Terms_move_105 ?_
  refine s_iload_n B d_Terms_move_108 rfl ?_
  refine s_iald B (Or.inr kd_5) d_Terms_move_109 (fun v8 _ => ?_)
  refine s_iast B (Or.inr kd_5) d_Terms_move_110 (fun M9 _ => ?_)
  refine s_aload_n B d_Terms_move_111 rfl ?_
  refine s_getS (k := 7) (n := 10) B xc_Terms kd_2 (by decide) rfl rfl fl_Terms_33 sr_2_7 d_Terms_move_112 ?_
  refine s_iload_n B d_Terms_move_115 rfl ?_
  refine s_aload_n B d_Terms_move_116 rfl ?_
  refine s_getS (k := 7) (n := 10) B xc_Terms kd_2 (by decide) rfl rfl fl_Terms_33 sr_2_7 d_Terms_move_117 ?_
  refine s_iload_n B d_Terms_move_120 rfl ?_
  refine s_iald B (Or.inr kd_10) d_Terms_move_121 (fun v10 _ => ?_)
  refine s_iast B (Or.inr kd_10) d_Terms_move_122 (fun M11 _ => ?_)
  refine s_aload_n B d_Terms_move_123 rfl ?_
  refine s_getS (k := 0) (n := 3) B xc_Terms kd_2 (by decide) rfl rfl fl_Terms_11 sr_2_0 d_Terms_move_124 ?_
  refine s_iload_n B d_Terms_move_127 rfl ?_
  refine s_iald B (Or.inr kd_3) d_Terms_move_128 (fun v12 _ => ?_)
  refine s_istore B d_Terms_move_129 (by decide) ?_
  refine s_iconst (v := (0:Int32)) B d_Terms_move_131 (by decide) ?_
  refine s_istore B d_Terms_move_132 (by decide) ?_
  refine s_pick (lv1 := [(0, .ref 2), (1, .int l1), (2, .int l2), (4, .int v12), (5, .int (0:Int32))]) [0, 1, 2, 4, 5] rfl ?_
  exact t_Terms_move_134 B l1 l2 v12 (0:Int32) M11
set_option maxRecDepth 100000 in
set_option maxHeartbeats 4000000 in
theorem t_Terms_move_8b {k8 : Int32 × Int32 × Int32 × Int32 × MS → Option (MS × Unit)} (B : xB p R s m args meth c b_Terms_move 7 R_Terms (Cond.code y_Terms_move b_Terms_move 7 none :: x_T) none 1 22 D x_cl (xty g) base) (hk8 : ∀ (l1 : Int32) (l2 : Int32) (l3 : Int32) (l4 : Int32) (M : MS) , Sn p l e R s m args below meth c 7 D x_cl base (xwd g) cM x_g0 az kz (xfc cM) (xZ below args s D x_cl (xty g) base (xwd g) cM x_g0 az kz ovU) 8 [] [(0, .ref 2), (1, .int l1), (2, .int l2), (3, .int l3), (4, .int l4)] M (k8 (l1, l2, l3, l4, M))) (l1 : Int32) (l2 : Int32) (l3 : Int32) (l4 : Int32) (M : MS)  : Sn p l e R s m args below meth c 7 D x_cl base (xwd g) cM x_g0 az kz (xfc cM) (xZ below args s D x_cl (xty g) base (xwd g) cM x_g0 az kz ovU) 8 [] [(0, .ref 2), (1, .int l1), (2, .int l2), (3, .int l3), (4, .int l4)] M (m_Terms_move_8b k8 l1 l2 l3 l4 M) := by
  unfold m_Terms_move_8b
  refine s_iload B d_Terms_move_8 rfl ?_
  refine s_aload_n B d_Terms_move_10 rfl ?_
  refine s_getS (k := 4) (n := 7) B xc_Terms kd_2 (by decide) rfl rfl fl_Terms_24 sr_2_4 d_Terms_move_11 ?_
  refine s_iload_n B d_Terms_move_14 rfl ?_
  refine s_iald B (Or.inr kd_7) d_Terms_move_15 (fun v1 _ => ?_)
  refine s_icmp_ge B d_Terms_move_16 rfl (fun _ => ?_) (fun _ => ?_)
  · refine s_pick (lv1 := [(0, .ref 2), (1, .int l1), (2, .int l2), (3, .int l3)]) [0, 1, 2, 3] rfl ?_
    exact t_Terms_move_56 B l1 l2 l3 M
  · refine s_aload_n B d_Terms_move_19 rfl ?_
    refine s_getS (k := 10) (n := 13) B xc_Terms kd_2 (by decide) rfl rfl fl_Terms_42 sr_2_10 d_Terms_move_20 ?_
    refine s_aload_n B d_Terms_move_23 rfl ?_
    refine s_getI (k := 17) B xc_Terms kd_2 (by decide) rfl rfl fl_Terms_72 d_Terms_move_24 ?_
    refine s_aload_n B d_Terms_move_27 rfl ?_
    refine s_getS (k := 8) (n := 11) B xc_Terms kd_2 (by decide) rfl rfl fl_Terms_36 sr_2_8 d_Terms_move_28 ?_
    refine s_aload_n B d_Terms_move_31 rfl ?_
    refine s_iload_n B d_Terms_move_32 rfl ?_
    refine s_iload B d_Terms_move_33 rfl ?_
    refine s_pick (lv1 := [(0, .ref 2), (1, .int l1), (2, .int l2), (3, .int l3), (4, .int l4)]) [0, 1, 2, 3, 4] rfl ?_
    refine s_callI (av := [.ref 2, .int l1, .int l4]) (rest := [.ref 11, .int (gI M 2 17), .ref 13]) B (lk_V B d_Terms_move_35 (gl_Terms_91 _) rfl hv_Terms_kid (by decide) (by decide)) rfl (x_rcV B xc_Terms kd_2) (fun _ _ => rfl) rfl rfl (by simp [Value.category]) rfl (fun r2 e9 => ct_Terms_kid _ _ _ r2 e9) (fun r2 _ => ?_)
    refine s_iald B (Or.inr kd_11) d_Terms_move_38 (fun v3 _ => ?_)
    refine s_iast B (Or.inr kd_13) d_Terms_move_39 (fun M4 _ => ?_)
    refine s_aload_n B d_Terms_move_40 rfl ?_
    refine s_dup B d_Terms_move_41 rfl ?_
    refine s_getI (k := 17) B xc_Terms kd_2 (by decide) rfl rfl fl_Terms_72 d_Terms_move_42 ?_
    refine s_iconst (v := (1:Int32)) B d_Terms_move_45 (by decide) ?_
    refine s_iadd B d_Terms_move_46 ?_
    refine s_putI (k := 17) (ty := .int) B xc_Terms kd_2 (by decide) rfl rfl fl_Terms_72 rfl rfl rfl rfl d_Terms_move_47 (fun M5 _ => ?_)
    refine s_iinc (w := (1:Int32)) B d_Terms_move_50 rfl (by decide) (by decide) ?_
    refine s_goto B d_Terms_move_53 rfl ?_
    refine s_pick (lv1 := [(0, .ref 2), (1, .int l1), (2, .int l2), (3, .int l3), (4, .int (l4 + (1:Int32)))]) [0, 1, 2, 3, 4] rfl ?_
    exact hk8 l1 l2 l3 (l4 + (1:Int32)) M5
set_option maxRecDepth 100000 in
set_option maxHeartbeats 4000000 in
theorem t_Terms_move_8  (B : xB p R s m args meth c b_Terms_move 7 R_Terms (Cond.code y_Terms_move b_Terms_move 7 none :: x_T) none 1 22 D x_cl (xty g) base)  (l1 : Int32) (l2 : Int32) (l3 : Int32) (l4 : Int32) (M : MS)  : Sn p l e R s m args below meth c 7 D x_cl base (xwd g) cM x_g0 az kz (xfc cM) (xZ below args s D x_cl (xty g) base (xwd g) cM x_g0 az kz ovU) 8 [] [(0, .ref 2), (1, .int l1), (2, .int l2), (3, .int l3), (4, .int l4)] M (m_Terms_move_8 (l1, l2, l3, l4, M)) := by
  have q : ∀ (F : Nat) (i : Int32 × Int32 × Int32 × Int32 × MS), Sn p l e R s m args below meth c 7 D x_cl base (xwd g) cM x_g0 az kz (xfc cM) (xZ below args s D x_cl (xty g) base (xwd g) cM x_g0 az kz ovU) 8 [] [(0, .ref 2), (1, .int i.1), (2, .int i.2.1), (3, .int i.2.2.1), (4, .int i.2.2.2.1)] i.2.2.2.2 (fx (fun (k : Int32 × Int32 × Int32 × Int32 × MS → Option (MS × Unit)) (i : Int32 × Int32 × Int32 × Int32 × MS) => m_Terms_move_8b k i.1 i.2.1 i.2.2.1 i.2.2.2.1 i.2.2.2.2) F i) := by
    intro F
    induction F with
    | zero => intro i ; exact s_none
    | succ F ih => intro i ; exact t_Terms_move_8b B  (fun l1 l2 l3 l4 M  => ih (l1, l2, l3, l4, M) ) i.1 i.2.1 i.2.2.1 i.2.2.2.1 i.2.2.2.2 
  exact q FU (l1, l2, l3, l4, M) 
set_option maxRecDepth 100000 in
set_option maxHeartbeats 4000000 in
theorem t_Terms_move (B : xB p R s m args meth c b_Terms_move 7 R_Terms (Cond.code y_Terms_move b_Terms_move 7 none :: x_T) none 1 22 D x_cl (xty g) base) (a1 : Int32) (a2 : Int32) (M : MS) : Sn p l e R s m args below meth c 7 D x_cl base (xwd g) cM x_g0 az kz (xfc cM) (xZ below args s D x_cl (xty g) base (xwd g) cM x_g0 az kz ovU) 0 [] [(0, .ref 2), (1, .int a1), (2, .int a2)] M (m_Terms_move a1 a2 M) := by
  unfold m_Terms_move
  refine s_aload_n B d_Terms_move_0 rfl ?_
  refine s_getI (k := 17) B xc_Terms kd_2 (by decide) rfl rfl fl_Terms_72 d_Terms_move_1 ?_
  refine s_istore_n B d_Terms_move_4 (by decide) ?_
  refine s_iconst (v := (0:Int32)) B d_Terms_move_5 (by decide) ?_
  refine s_istore B d_Terms_move_6 (by decide) ?_
  refine s_pick (lv1 := [(0, .ref 2), (1, .int a1), (2, .int a2), (3, .int (gI M 2 17)), (4, .int (0:Int32))]) [0, 1, 2, 3, 4] rfl ?_
  exact t_Terms_move_8 B a1 a2 (gI M 2 17) (0:Int32) M
set_option maxRecDepth 100000 in
set_option maxHeartbeats 4000000 in
theorem ct_Terms_move {l : Launch} {D : va_G} {base : Nat} {g : Nat → ClassId} (a1 : Int32) (a2 : Int32) (M : MS) (r : MS × Unit) (hr : m_Terms_move a1 a2 M = some r) : Ct l y_Terms_move (Cond.code y_Terms_move b_Terms_move 7 none :: x_T) 1 22 D x_cl (xty g) base (xwd g) cM x_g0 [.ref 2, .int a1, .int a2] M r.1 (ovU r.2) :=
  x_met (ov := ovU) (by decide) (Nat.le_of_ble_eq_true rfl) (fun p e R s m args below meth c az B => t_Terms_move B a1 a2 M) r hr
end
theorem d_Terms_moveMarked_0 : decode b_Terms_moveMarked 0 = .ok (.aload_n 0, 1) := by decide +kernel
theorem d_Terms_moveMarked_1 : decode b_Terms_moveMarked 1 = .ok (.getfield 45, 3) := by decide +kernel
theorem d_Terms_moveMarked_4 : decode b_Terms_moveMarked 4 = .ok (.iconst (-1), 1) := by decide +kernel
theorem d_Terms_moveMarked_5 : decode b_Terms_moveMarked 5 = .ok (.invokestatic 81, 3) := by decide +kernel
theorem d_Terms_moveMarked_8 : decode b_Terms_moveMarked 8 = .ok (.aload_n 0, 1) := by decide +kernel
theorem d_Terms_moveMarked_9 : decode b_Terms_moveMarked 9 = .ok (.getfield 68, 3) := by decide +kernel
theorem d_Terms_moveMarked_12 : decode b_Terms_moveMarked 12 = .ok (.istore_n 1, 1) := by decide +kernel
theorem d_Terms_moveMarked_13 : decode b_Terms_moveMarked 13 = .ok (.aload_n 0, 1) := by decide +kernel
theorem d_Terms_moveMarked_14 : decode b_Terms_moveMarked 14 = .ok (.bipush (18), 2) := by decide +kernel
theorem d_Terms_moveMarked_16 : decode b_Terms_moveMarked 16 = .ok (.putfield 68, 3) := by decide +kernel
theorem d_Terms_moveMarked_19 : decode b_Terms_moveMarked 19 = .ok (.aload_n 0, 1) := by decide +kernel
theorem d_Terms_moveMarked_20 : decode b_Terms_moveMarked 20 = .ok (.iconst (1), 1) := by decide +kernel
theorem d_Terms_moveMarked_21 : decode b_Terms_moveMarked 21 = .ok (.putfield 72, 3) := by decide +kernel
theorem d_Terms_moveMarked_24 : decode b_Terms_moveMarked 24 = .ok (.bipush (18), 2) := by decide +kernel
theorem d_Terms_moveMarked_26 : decode b_Terms_moveMarked 26 = .ok (.istore_n 2, 1) := by decide +kernel
theorem d_Terms_moveMarked_27 : decode b_Terms_moveMarked 27 = .ok (.iload_n 2, 1) := by decide +kernel
theorem d_Terms_moveMarked_28 : decode b_Terms_moveMarked 28 = .ok (.iload_n 1, 1) := by decide +kernel
theorem d_Terms_moveMarked_29 : decode b_Terms_moveMarked 29 = .ok (.if_icmp .ge (38), 3) := by decide +kernel
theorem d_Terms_moveMarked_32 : decode b_Terms_moveMarked 32 = .ok (.aload_n 0, 1) := by decide +kernel
theorem d_Terms_moveMarked_33 : decode b_Terms_moveMarked 33 = .ok (.getfield 36, 3) := by decide +kernel
theorem d_Terms_moveMarked_36 : decode b_Terms_moveMarked 36 = .ok (.iload_n 2, 1) := by decide +kernel
theorem d_Terms_moveMarked_37 : decode b_Terms_moveMarked 37 = .ok (.iaload, 1) := by decide +kernel
theorem d_Terms_moveMarked_38 : decode b_Terms_moveMarked 38 = .ok (.iconst (-1), 1) := by decide +kernel
theorem d_Terms_moveMarked_39 : decode b_Terms_moveMarked 39 = .ok (.if_icmp .eq (22), 3) := by decide +kernel
theorem d_Terms_moveMarked_42 : decode b_Terms_moveMarked 42 = .ok (.aload_n 0, 1) := by decide +kernel
theorem d_Terms_moveMarked_43 : decode b_Terms_moveMarked 43 = .ok (.iload_n 2, 1) := by decide +kernel
theorem d_Terms_moveMarked_44 : decode b_Terms_moveMarked 44 = .ok (.aload_n 0, 1) := by decide +kernel
theorem d_Terms_moveMarked_45 : decode b_Terms_moveMarked 45 = .ok (.getfield 68, 3) := by decide +kernel
theorem d_Terms_moveMarked_48 : decode b_Terms_moveMarked 48 = .ok (.invokevirtual 190, 3) := by decide +kernel
theorem d_Terms_moveMarked_51 : decode b_Terms_moveMarked 51 = .ok (.aload_n 0, 1) := by decide +kernel
theorem d_Terms_moveMarked_52 : decode b_Terms_moveMarked 52 = .ok (.dup, 1) := by decide +kernel
theorem d_Terms_moveMarked_53 : decode b_Terms_moveMarked 53 = .ok (.getfield 68, 3) := by decide +kernel
theorem d_Terms_moveMarked_56 : decode b_Terms_moveMarked 56 = .ok (.iconst (1), 1) := by decide +kernel
theorem d_Terms_moveMarked_57 : decode b_Terms_moveMarked 57 = .ok (.iadd, 1) := by decide +kernel
theorem d_Terms_moveMarked_58 : decode b_Terms_moveMarked 58 = .ok (.putfield 68, 3) := by decide +kernel
theorem d_Terms_moveMarked_61 : decode b_Terms_moveMarked 61 = .ok (.iinc 2 (1), 3) := by decide +kernel
theorem d_Terms_moveMarked_64 : decode b_Terms_moveMarked 64 = .ok (.goto (-37), 3) := by decide +kernel
theorem d_Terms_moveMarked_67 : decode b_Terms_moveMarked 67 = .ok (.return_, 1) := by decide +kernel
section
variable {p : Program} {l : Launch} {e : Env} {R : Room} {s : State} {m : MethodId} {args : Array Value} {below : List Frame} {meth : Method} {c : Code} {D : va_G} {base : Nat} {g : Nat → ClassId} {az : Nat → Nat} {kz : Nat × Nat}
set_option maxRecDepth 100000 in
set_option maxHeartbeats 4000000 in
theorem t_Terms_moveMarked_27b {k27 : Int32 × Int32 × MS → Option (MS × Unit)} (B : xB p R s m args meth c b_Terms_moveMarked 3 R_Terms (Cond.code y_Terms_moveMarked b_Terms_moveMarked 3 none :: x_T) none 2 48 D x_cl (xty g) base) (hk27 : ∀ (l1 : Int32) (l2 : Int32) (M : MS) , Sn p l e R s m args below meth c 3 D x_cl base (xwd g) cM x_g0 az kz (xfc cM) (xZ below args s D x_cl (xty g) base (xwd g) cM x_g0 az kz ovU) 27 [] [(0, .ref 2), (1, .int l1), (2, .int l2)] M (k27 (l1, l2, M))) (l1 : Int32) (l2 : Int32) (M : MS)  : Sn p l e R s m args below meth c 3 D x_cl base (xwd g) cM x_g0 az kz (xfc cM) (xZ below args s D x_cl (xty g) base (xwd g) cM x_g0 az kz ovU) 27 [] [(0, .ref 2), (1, .int l1), (2, .int l2)] M (m_Terms_moveMarked_27b k27 l1 l2 M) := by
  unfold m_Terms_moveMarked_27b
  refine s_iload_n B d_Terms_moveMarked_27 rfl ?_
  refine s_iload_n B d_Terms_moveMarked_28 rfl ?_
  refine s_icmp_ge B d_Terms_moveMarked_29 rfl (fun _ => ?_) (fun _ => ?_)
  · exact s_vret B d_Terms_moveMarked_67
  · refine s_aload_n B d_Terms_moveMarked_32 rfl ?_
    refine s_getS (k := 8) (n := 11) B xc_Terms kd_2 (by decide) rfl rfl fl_Terms_36 sr_2_8 d_Terms_moveMarked_33 ?_
    refine s_iload_n B d_Terms_moveMarked_36 rfl ?_
    refine s_iald B (Or.inr kd_11) d_Terms_moveMarked_37 (fun v1 _ => ?_)
    refine s_iconst (v := (-1:Int32)) B d_Terms_moveMarked_38 (by decide) ?_
    refine s_icmp_eq B d_Terms_moveMarked_39 rfl (fun _ => ?_) (fun _ => ?_)
    · refine s_iinc (w := (1:Int32)) B d_Terms_moveMarked_61 rfl (by decide) (by decide) ?_
      refine s_goto B d_Terms_moveMarked_64 rfl ?_
      refine s_pick (lv1 := [(0, .ref 2), (1, .int l1), (2, .int (l2 + (1:Int32)))]) [0, 1, 2] rfl ?_
      exact hk27 l1 (l2 + (1:Int32)) M
    · refine s_aload_n B d_Terms_moveMarked_42 rfl ?_
      refine s_iload_n B d_Terms_moveMarked_43 rfl ?_
      refine s_aload_n B d_Terms_moveMarked_44 rfl ?_
      refine s_getI (k := 16) B xc_Terms kd_2 (by decide) rfl rfl fl_Terms_68 d_Terms_moveMarked_45 ?_
      refine s_pick (lv1 := [(0, .ref 2), (1, .int l1), (2, .int l2)]) [0, 1, 2] rfl ?_
      refine s_callU (av := [.ref 2, .int l2, .int (gI M 2 16)]) (rest := []) B (lk_V B d_Terms_moveMarked_48 (gl_Terms_190 _) rfl hv_Terms_move (by decide) (by decide)) rfl (x_rcV B xc_Terms kd_2) (fun _ _ => rfl) rfl rfl (by simp [Value.category]) rfl (fun r2 e9 => ct_Terms_move _ _ _ r2 e9) (fun r2 _ => ?_)
      refine s_aload_n B d_Terms_moveMarked_51 rfl ?_
      refine s_dup B d_Terms_moveMarked_52 rfl ?_
      refine s_getI (k := 16) B xc_Terms kd_2 (by decide) rfl rfl fl_Terms_68 d_Terms_moveMarked_53 ?_
      refine s_iconst (v := (1:Int32)) B d_Terms_moveMarked_56 (by decide) ?_
      refine s_iadd B d_Terms_moveMarked_57 ?_
      refine s_putI (k := 16) (ty := .int) B xc_Terms kd_2 (by decide) rfl rfl fl_Terms_68 rfl rfl rfl rfl d_Terms_moveMarked_58 (fun M3 _ => ?_)
      refine s_iinc (w := (1:Int32)) B d_Terms_moveMarked_61 rfl (by decide) (by decide) ?_
      refine s_goto B d_Terms_moveMarked_64 rfl ?_
      refine s_pick (lv1 := [(0, .ref 2), (1, .int l1), (2, .int (l2 + (1:Int32)))]) [0, 1, 2] rfl ?_
      exact hk27 l1 (l2 + (1:Int32)) M3
set_option maxRecDepth 100000 in
set_option maxHeartbeats 4000000 in
theorem t_Terms_moveMarked_27  (B : xB p R s m args meth c b_Terms_moveMarked 3 R_Terms (Cond.code y_Terms_moveMarked b_Terms_moveMarked 3 none :: x_T) none 2 48 D x_cl (xty g) base)  (l1 : Int32) (l2 : Int32) (M : MS)  : Sn p l e R s m args below meth c 3 D x_cl base (xwd g) cM x_g0 az kz (xfc cM) (xZ below args s D x_cl (xty g) base (xwd g) cM x_g0 az kz ovU) 27 [] [(0, .ref 2), (1, .int l1), (2, .int l2)] M (m_Terms_moveMarked_27 (l1, l2, M)) := by
  have q : ∀ (F : Nat) (i : Int32 × Int32 × MS), Sn p l e R s m args below meth c 3 D x_cl base (xwd g) cM x_g0 az kz (xfc cM) (xZ below args s D x_cl (xty g) base (xwd g) cM x_g0 az kz ovU) 27 [] [(0, .ref 2), (1, .int i.1), (2, .int i.2.1)] i.2.2 (fx (fun (k : Int32 × Int32 × MS → Option (MS × Unit)) (i : Int32 × Int32 × MS) => m_Terms_moveMarked_27b k i.1 i.2.1 i.2.2) F i) := by
    intro F
    induction F with
    | zero => intro i ; exact s_none
    | succ F ih => intro i ; exact t_Terms_moveMarked_27b B  (fun l1 l2 M  => ih (l1, l2, M) ) i.1 i.2.1 i.2.2 
  exact q FU (l1, l2, M) 
set_option maxRecDepth 100000 in
set_option maxHeartbeats 4000000 in
theorem t_Terms_moveMarked (B : xB p R s m args meth c b_Terms_moveMarked 3 R_Terms (Cond.code y_Terms_moveMarked b_Terms_moveMarked 3 none :: x_T) none 2 48 D x_cl (xty g) base)  (M : MS) : Sn p l e R s m args below meth c 3 D x_cl base (xwd g) cM x_g0 az kz (xfc cM) (xZ below args s D x_cl (xty g) base (xwd g) cM x_g0 az kz ovU) 0 [] [(0, .ref 2)] M (m_Terms_moveMarked M) := by
  unfold m_Terms_moveMarked
  refine s_aload_n B d_Terms_moveMarked_0 rfl ?_
  refine s_getS (k := 11) (n := 14) B xc_Terms kd_2 (by decide) rfl rfl fl_Terms_45 sr_2_11 d_Terms_moveMarked_1 ?_
  refine s_iconst (v := (-1:Int32)) B d_Terms_moveMarked_4 (by decide) ?_
  refine s_pick (lv1 := [(0, .ref 2)]) [0] rfl ?_
  refine s_callU (av := [.ref 14, .int (-1:Int32)]) (rest := []) B (lk_S B d_Terms_moveMarked_5 (gl_Terms_81 _) (List.mem_cons_of_mem _ st_Arr_fill) (List.mem_cons_of_mem _ in_Arr) (List.mem_cons_of_mem _ ml_Terms_81) rfl hs_Arr_fill (by decide) (by decide)) rfl x_rcS (fun _ _ => rfl) rfl rfl (by simp [Value.category]) rfl (fun r1 e9 => ct_Arr_fill _ _ _ r1 e9) (fun r1 _ => ?_)
  refine s_aload_n B d_Terms_moveMarked_8 rfl ?_
  refine s_getI (k := 16) B xc_Terms kd_2 (by decide) rfl rfl fl_Terms_68 d_Terms_moveMarked_9 ?_
  refine s_istore_n B d_Terms_moveMarked_12 (by decide) ?_
  refine s_aload_n B d_Terms_moveMarked_13 rfl ?_
  refine s_bipush (v := (18:Int32)) B d_Terms_moveMarked_14 (by decide) ?_
  refine s_putI (k := 16) (ty := .int) B xc_Terms kd_2 (by decide) rfl rfl fl_Terms_68 rfl rfl rfl rfl d_Terms_moveMarked_16 (fun M2 _ => ?_)
  refine s_aload_n B d_Terms_moveMarked_19 rfl ?_
  refine s_iconst (v := (1:Int32)) B d_Terms_moveMarked_20 (by decide) ?_
  refine s_putI (k := 17) (ty := .int) B xc_Terms kd_2 (by decide) rfl rfl fl_Terms_72 rfl rfl rfl rfl d_Terms_moveMarked_21 (fun M3 _ => ?_)
  refine s_bipush (v := (18:Int32)) B d_Terms_moveMarked_24 (by decide) ?_
  refine s_istore_n B d_Terms_moveMarked_26 (by decide) ?_
  refine s_pick (lv1 := [(0, .ref 2), (1, .int (gI r1.1 2 16)), (2, .int (18:Int32))]) [0, 1, 2] rfl ?_
  exact t_Terms_moveMarked_27 B (gI r1.1 2 16) (18:Int32) M3
set_option maxRecDepth 100000 in
set_option maxHeartbeats 4000000 in
theorem ct_Terms_moveMarked {l : Launch} {D : va_G} {base : Nat} {g : Nat → ClassId}  (M : MS) (r : MS × Unit) (hr : m_Terms_moveMarked M = some r) : Ct l y_Terms_moveMarked (Cond.code y_Terms_moveMarked b_Terms_moveMarked 3 none :: x_T) 2 48 D x_cl (xty g) base (xwd g) cM x_g0 [.ref 2] M r.1 (ovU r.2) :=
  x_met (ov := ovU) (by decide) (Nat.le_of_ble_eq_true rfl) (fun p e R s m args below meth c az B => t_Terms_moveMarked B  M) r hr
end
theorem d_Terms_renumber_0 : decode b_Terms_renumber 0 = .ok (.iconst (0), 1) := by decide +kernel
theorem d_Terms_renumber_1 : decode b_Terms_renumber 1 = .ok (.istore_n 3, 1) := by decide +kernel
theorem d_Terms_renumber_2 : decode b_Terms_renumber 2 = .ok (.iload_n 3, 1) := by decide +kernel
theorem d_Terms_renumber_3 : decode b_Terms_renumber 3 = .ok (.iload_n 2, 1) := by decide +kernel
theorem d_Terms_renumber_4 : decode b_Terms_renumber 4 = .ok (.if_icmp .ge (20), 3) := by decide +kernel
theorem d_Terms_renumber_7 : decode b_Terms_renumber 7 = .ok (.aload_n 1, 1) := by decide +kernel
theorem d_Terms_renumber_8 : decode b_Terms_renumber 8 = .ok (.iload_n 3, 1) := by decide +kernel
theorem d_Terms_renumber_9 : decode b_Terms_renumber 9 = .ok (.aload_n 0, 1) := by decide +kernel
theorem d_Terms_renumber_10 : decode b_Terms_renumber 10 = .ok (.getfield 36, 3) := by decide +kernel
theorem d_Terms_renumber_13 : decode b_Terms_renumber 13 = .ok (.aload_n 1, 1) := by decide +kernel
theorem d_Terms_renumber_14 : decode b_Terms_renumber 14 = .ok (.iload_n 3, 1) := by decide +kernel
theorem d_Terms_renumber_15 : decode b_Terms_renumber 15 = .ok (.iaload, 1) := by decide +kernel
theorem d_Terms_renumber_16 : decode b_Terms_renumber 16 = .ok (.iaload, 1) := by decide +kernel
theorem d_Terms_renumber_17 : decode b_Terms_renumber 17 = .ok (.iastore, 1) := by decide +kernel
theorem d_Terms_renumber_18 : decode b_Terms_renumber 18 = .ok (.iinc 3 (1), 3) := by decide +kernel
theorem d_Terms_renumber_21 : decode b_Terms_renumber 21 = .ok (.goto (-19), 3) := by decide +kernel
theorem d_Terms_renumber_24 : decode b_Terms_renumber 24 = .ok (.return_, 1) := by decide +kernel
section
variable {p : Program} {l : Launch} {e : Env} {R : Room} {s : State} {m : MethodId} {args : Array Value} {below : List Frame} {meth : Method} {c : Code} {D : va_G} {base : Nat} {g : Nat → ClassId} {az : Nat → Nat} {kz : Nat × Nat}
set_option maxRecDepth 100000 in
set_option maxHeartbeats 4000000 in
theorem t_Terms_renumber_2b {k2 : Nat × Int32 × Int32 × MS → Option (MS × Unit)} (B : xB p R s m args meth c b_Terms_renumber 4 R_Terms (Cond.code y_Terms_renumber b_Terms_renumber 4 none :: x_T) none 0 0 D x_cl (xty g) base) (hk2 : ∀ (l1 : Nat) (l2 : Int32) (l3 : Int32) (M : MS) (hl1 : x_kd l1 = 20), Sn p l e R s m args below meth c 4 D x_cl base (xwd g) cM x_g0 az kz (xfc cM) (xZ below args s D x_cl (xty g) base (xwd g) cM x_g0 az kz ovU) 2 [] [(0, .ref 2), (1, .ref l1), (2, .int l2), (3, .int l3)] M (k2 (l1, l2, l3, M))) (l1 : Nat) (l2 : Int32) (l3 : Int32) (M : MS) (hl1 : x_kd l1 = 20) : Sn p l e R s m args below meth c 4 D x_cl base (xwd g) cM x_g0 az kz (xfc cM) (xZ below args s D x_cl (xty g) base (xwd g) cM x_g0 az kz ovU) 2 [] [(0, .ref 2), (1, .ref l1), (2, .int l2), (3, .int l3)] M (m_Terms_renumber_2b k2 l1 l2 l3 M) := by
  unfold m_Terms_renumber_2b
  refine s_iload_n B d_Terms_renumber_2 rfl ?_
  refine s_iload_n B d_Terms_renumber_3 rfl ?_
  refine s_icmp_ge B d_Terms_renumber_4 rfl (fun _ => ?_) (fun _ => ?_)
  · exact s_vret B d_Terms_renumber_24
  · refine s_aload_n B d_Terms_renumber_7 rfl ?_
    refine s_iload_n B d_Terms_renumber_8 rfl ?_
    refine s_aload_n B d_Terms_renumber_9 rfl ?_
    refine s_getS (k := 8) (n := 11) B xc_Terms kd_2 (by decide) rfl rfl fl_Terms_36 sr_2_8 d_Terms_renumber_10 ?_
    refine s_aload_n B d_Terms_renumber_13 rfl ?_
    refine s_iload_n B d_Terms_renumber_14 rfl ?_
    refine s_iald B (Or.inl hl1) d_Terms_renumber_15 (fun v1 _ => ?_)
    refine s_iald B (Or.inr kd_11) d_Terms_renumber_16 (fun v2 _ => ?_)
    refine s_iast B (Or.inl hl1) d_Terms_renumber_17 (fun M3 _ => ?_)
    refine s_iinc (w := (1:Int32)) B d_Terms_renumber_18 rfl (by decide) (by decide) ?_
    refine s_goto B d_Terms_renumber_21 rfl ?_
    refine s_pick (lv1 := [(0, .ref 2), (1, .ref l1), (2, .int l2), (3, .int (l3 + (1:Int32)))]) [0, 1, 2, 3] rfl ?_
    exact hk2 l1 l2 (l3 + (1:Int32)) M3 hl1
set_option maxRecDepth 100000 in
set_option maxHeartbeats 4000000 in
theorem t_Terms_renumber_2  (B : xB p R s m args meth c b_Terms_renumber 4 R_Terms (Cond.code y_Terms_renumber b_Terms_renumber 4 none :: x_T) none 0 0 D x_cl (xty g) base)  (l1 : Nat) (l2 : Int32) (l3 : Int32) (M : MS) (hl1 : x_kd l1 = 20) : Sn p l e R s m args below meth c 4 D x_cl base (xwd g) cM x_g0 az kz (xfc cM) (xZ below args s D x_cl (xty g) base (xwd g) cM x_g0 az kz ovU) 2 [] [(0, .ref 2), (1, .ref l1), (2, .int l2), (3, .int l3)] M (m_Terms_renumber_2 (l1, l2, l3, M)) := by
  have q : ∀ (F : Nat) (i : Nat × Int32 × Int32 × MS), x_kd i.1 = 20 → Sn p l e R s m args below meth c 4 D x_cl base (xwd g) cM x_g0 az kz (xfc cM) (xZ below args s D x_cl (xty g) base (xwd g) cM x_g0 az kz ovU) 2 [] [(0, .ref 2), (1, .ref i.1), (2, .int i.2.1), (3, .int i.2.2.1)] i.2.2.2 (fx (fun (k : Nat × Int32 × Int32 × MS → Option (MS × Unit)) (i : Nat × Int32 × Int32 × MS) => m_Terms_renumber_2b k i.1 i.2.1 i.2.2.1 i.2.2.2) F i) := by
    intro F
    induction F with
    | zero => intro i h0; exact s_none
    | succ F ih => intro i h0; exact t_Terms_renumber_2b B  (fun l1 l2 l3 M h0 => ih (l1, l2, l3, M) h0) i.1 i.2.1 i.2.2.1 i.2.2.2 h0
  exact q FU (l1, l2, l3, M) hl1
set_option maxRecDepth 100000 in
set_option maxHeartbeats 4000000 in
theorem t_Terms_renumber (B : xB p R s m args meth c b_Terms_renumber 4 R_Terms (Cond.code y_Terms_renumber b_Terms_renumber 4 none :: x_T) none 0 0 D x_cl (xty g) base) (a1 : Nat) (a2 : Int32) (M : MS) : Sn p l e R s m args below meth c 4 D x_cl base (xwd g) cM x_g0 az kz (xfc cM) (xZ below args s D x_cl (xty g) base (xwd g) cM x_g0 az kz ovU) 0 [] [(0, .ref 2), (1, .ref a1), (2, .int a2)] M (m_Terms_renumber a1 a2 M) := by
  unfold m_Terms_renumber
  refine s_guard (fun ha1 => ?_)
  refine s_iconst (v := (0:Int32)) B d_Terms_renumber_0 (by decide) ?_
  refine s_istore_n B d_Terms_renumber_1 (by decide) ?_
  refine s_pick (lv1 := [(0, .ref 2), (1, .ref a1), (2, .int a2), (3, .int (0:Int32))]) [0, 1, 2, 3] rfl ?_
  exact t_Terms_renumber_2 B a1 a2 (0:Int32) M ha1
set_option maxRecDepth 100000 in
set_option maxHeartbeats 4000000 in
theorem ct_Terms_renumber {l : Launch} {D : va_G} {base : Nat} {g : Nat → ClassId} (a1 : Nat) (a2 : Int32) (M : MS) (r : MS × Unit) (hr : m_Terms_renumber a1 a2 M = some r) : Ct l y_Terms_renumber (Cond.code y_Terms_renumber b_Terms_renumber 4 none :: x_T) 0 0 D x_cl (xty g) base (xwd g) cM x_g0 [.ref 2, .ref a1, .int a2] M r.1 (ovU r.2) :=
  x_met (ov := ovU) (by decide) (Nat.le_of_ble_eq_true rfl) (fun p e R s m args below meth c az B => t_Terms_renumber B a1 a2 M) r hr
end
theorem d_Terms_tidy_0 : decode b_Terms_tidy 0 = .ok (.aload_n 0, 1) := by decide +kernel
theorem d_Terms_tidy_1 : decode b_Terms_tidy 1 = .ok (.getfield 68, 3) := by decide +kernel
theorem d_Terms_tidy_4 : decode b_Terms_tidy 4 = .ok (.aload_n 0, 1) := by decide +kernel
theorem d_Terms_tidy_5 : decode b_Terms_tidy 5 = .ok (.getfield 75, 3) := by decide +kernel
theorem d_Terms_tidy_8 : decode b_Terms_tidy 8 = .ok (.if_icmp .gt (15), 3) := by decide +kernel
theorem d_Terms_tidy_11 : decode b_Terms_tidy 11 = .ok (.aload_n 0, 1) := by decide +kernel
theorem d_Terms_tidy_12 : decode b_Terms_tidy 12 = .ok (.getfield 72, 3) := by decide +kernel
theorem d_Terms_tidy_15 : decode b_Terms_tidy 15 = .ok (.aload_n 0, 1) := by decide +kernel
theorem d_Terms_tidy_16 : decode b_Terms_tidy 16 = .ok (.getfield 78, 3) := by decide +kernel
theorem d_Terms_tidy_19 : decode b_Terms_tidy 19 = .ok (.if_icmp .gt (4), 3) := by decide +kernel
theorem d_Terms_tidy_22 : decode b_Terms_tidy 22 = .ok (.return_, 1) := by decide +kernel
theorem d_Terms_tidy_23 : decode b_Terms_tidy 23 = .ok (.aload_n 0, 1) := by decide +kernel
theorem d_Terms_tidy_24 : decode b_Terms_tidy 24 = .ok (.getfield 36, 3) := by decide +kernel
theorem d_Terms_tidy_27 : decode b_Terms_tidy 27 = .ok (.iconst (-1), 1) := by decide +kernel
theorem d_Terms_tidy_28 : decode b_Terms_tidy 28 = .ok (.invokestatic 81, 3) := by decide +kernel
theorem d_Terms_tidy_31 : decode b_Terms_tidy 31 = .ok (.aload_n 0, 1) := by decide +kernel
theorem d_Terms_tidy_32 : decode b_Terms_tidy 32 = .ok (.aload_n 1, 1) := by decide +kernel
theorem d_Terms_tidy_33 : decode b_Terms_tidy 33 = .ok (.aload_n 1, 1) := by decide +kernel
theorem d_Terms_tidy_34 : decode b_Terms_tidy 34 = .ok (.arraylength, 1) := by decide +kernel
theorem d_Terms_tidy_35 : decode b_Terms_tidy 35 = .ok (.invokevirtual 170, 3) := by decide +kernel
theorem d_Terms_tidy_38 : decode b_Terms_tidy 38 = .ok (.aload_n 0, 1) := by decide +kernel
theorem d_Terms_tidy_39 : decode b_Terms_tidy 39 = .ok (.aload_n 2, 1) := by decide +kernel
theorem d_Terms_tidy_40 : decode b_Terms_tidy 40 = .ok (.iload_n 3, 1) := by decide +kernel
theorem d_Terms_tidy_41 : decode b_Terms_tidy 41 = .ok (.invokevirtual 170, 3) := by decide +kernel
theorem d_Terms_tidy_44 : decode b_Terms_tidy 44 = .ok (.aload_n 0, 1) := by decide +kernel
theorem d_Terms_tidy_45 : decode b_Terms_tidy 45 = .ok (.invokevirtual 173, 3) := by decide +kernel
theorem d_Terms_tidy_48 : decode b_Terms_tidy 48 = .ok (.aload_n 0, 1) := by decide +kernel
theorem d_Terms_tidy_49 : decode b_Terms_tidy 49 = .ok (.invokevirtual 176, 3) := by decide +kernel
theorem d_Terms_tidy_52 : decode b_Terms_tidy 52 = .ok (.aload_n 0, 1) := by decide +kernel
theorem d_Terms_tidy_53 : decode b_Terms_tidy 53 = .ok (.invokevirtual 179, 3) := by decide +kernel
theorem d_Terms_tidy_56 : decode b_Terms_tidy 56 = .ok (.aload_n 0, 1) := by decide +kernel
theorem d_Terms_tidy_57 : decode b_Terms_tidy 57 = .ok (.aload_n 1, 1) := by decide +kernel
theorem d_Terms_tidy_58 : decode b_Terms_tidy 58 = .ok (.aload_n 1, 1) := by decide +kernel
theorem d_Terms_tidy_59 : decode b_Terms_tidy 59 = .ok (.arraylength, 1) := by decide +kernel
theorem d_Terms_tidy_60 : decode b_Terms_tidy 60 = .ok (.invokevirtual 182, 3) := by decide +kernel
theorem d_Terms_tidy_63 : decode b_Terms_tidy 63 = .ok (.aload_n 0, 1) := by decide +kernel
theorem d_Terms_tidy_64 : decode b_Terms_tidy 64 = .ok (.aload_n 2, 1) := by decide +kernel
theorem d_Terms_tidy_65 : decode b_Terms_tidy 65 = .ok (.iload_n 3, 1) := by decide +kernel
theorem d_Terms_tidy_66 : decode b_Terms_tidy 66 = .ok (.invokevirtual 182, 3) := by decide +kernel
theorem d_Terms_tidy_69 : decode b_Terms_tidy 69 = .ok (.aload_n 0, 1) := by decide +kernel
theorem d_Terms_tidy_70 : decode b_Terms_tidy 70 = .ok (.sipush (768), 3) := by decide +kernel
theorem d_Terms_tidy_73 : decode b_Terms_tidy 73 = .ok (.aload_n 0, 1) := by decide +kernel
theorem d_Terms_tidy_74 : decode b_Terms_tidy 74 = .ok (.getfield 68, 3) := by decide +kernel
theorem d_Terms_tidy_77 : decode b_Terms_tidy 77 = .ok (.iconst (2), 1) := by decide +kernel
theorem d_Terms_tidy_78 : decode b_Terms_tidy 78 = .ok (.imul, 1) := by decide +kernel
theorem d_Terms_tidy_79 : decode b_Terms_tidy 79 = .ok (.invokestatic 185, 3) := by decide +kernel
theorem d_Terms_tidy_82 : decode b_Terms_tidy 82 = .ok (.putfield 75, 3) := by decide +kernel
theorem d_Terms_tidy_85 : decode b_Terms_tidy 85 = .ok (.aload_n 0, 1) := by decide +kernel
theorem d_Terms_tidy_86 : decode b_Terms_tidy 86 = .ok (.sipush (1536), 3) := by decide +kernel
theorem d_Terms_tidy_89 : decode b_Terms_tidy 89 = .ok (.aload_n 0, 1) := by decide +kernel
theorem d_Terms_tidy_90 : decode b_Terms_tidy 90 = .ok (.getfield 72, 3) := by decide +kernel
theorem d_Terms_tidy_93 : decode b_Terms_tidy 93 = .ok (.iconst (2), 1) := by decide +kernel
theorem d_Terms_tidy_94 : decode b_Terms_tidy 94 = .ok (.imul, 1) := by decide +kernel
theorem d_Terms_tidy_95 : decode b_Terms_tidy 95 = .ok (.invokestatic 185, 3) := by decide +kernel
theorem d_Terms_tidy_98 : decode b_Terms_tidy 98 = .ok (.putfield 78, 3) := by decide +kernel
theorem d_Terms_tidy_101 : decode b_Terms_tidy 101 = .ok (.return_, 1) := by decide +kernel
section
variable {p : Program} {l : Launch} {e : Env} {R : Room} {s : State} {m : MethodId} {args : Array Value} {below : List Frame} {meth : Method} {c : Code} {D : va_G} {base : Nat} {g : Nat → ClassId} {az : Nat → Nat} {kz : Nat × Nat}
set_option maxRecDepth 100000 in
set_option maxHeartbeats 4000000 in
theorem t_Terms_tidy_23  (B : xB p R s m args meth c b_Terms_tidy 4 R_Terms (Cond.code y_Terms_tidy b_Terms_tidy 4 none :: x_T) none 3 70 D x_cl (xty g) base)  (l3 : Int32) (M : MS)  : Sn p l e R s m args below meth c 4 D x_cl base (xwd g) cM x_g0 az kz (xfc cM) (xZ below args s D x_cl (xty g) base (xwd g) cM x_g0 az kz ovU) 23 [] [(0, .ref 2), (1, .ref 1), (2, .ref 26), (3, .int l3)] M (m_Terms_tidy_23 l3 M) := by
  unfold m_Terms_tidy_23
  refine s_aload_n B d_Terms_tidy_23 rfl ?_
  refine s_getS (k := 8) (n := 11) B xc_Terms kd_2 (by decide) rfl rfl fl_Terms_36 sr_2_8 d_Terms_tidy_24 ?_
  refine s_iconst (v := (-1:Int32)) B d_Terms_tidy_27 (by decide) ?_
  refine s_pick (lv1 := [(0, .ref 2), (1, .ref 1), (2, .ref 26), (3, .int l3)]) [0, 1, 2, 3] rfl ?_
  refine s_callU (av := [.ref 11, .int (-1:Int32)]) (rest := []) B (lk_S B d_Terms_tidy_28 (gl_Terms_81 _) (List.mem_cons_of_mem _ st_Arr_fill) (List.mem_cons_of_mem _ in_Arr) (List.mem_cons_of_mem _ ml_Terms_81) rfl hs_Arr_fill (by decide) (by decide)) rfl x_rcS (fun _ _ => rfl) rfl rfl (by simp [Value.category]) rfl (fun r1 e9 => ct_Arr_fill _ _ _ r1 e9) (fun r1 _ => ?_)
  refine s_aload_n B d_Terms_tidy_31 rfl ?_
  refine s_aload_n B d_Terms_tidy_32 rfl ?_
  refine s_aload_n B d_Terms_tidy_33 rfl ?_
  refine s_alen B (Or.inl kd_1) d_Terms_tidy_34 ?_
  refine s_pick (lv1 := [(0, .ref 2), (1, .ref 1), (2, .ref 26), (3, .int l3)]) [0, 1, 2, 3] rfl ?_
  refine s_callU (av := [.ref 2, .ref 1, .int (Int32.ofNat (gL r1.1 1))]) (rest := []) B (lk_V B d_Terms_tidy_35 (gl_Terms_170 _) rfl hv_Terms_markRow (by decide) (by decide)) rfl (x_rcV B xc_Terms kd_2) (fun _ _ => rfl) rfl rfl (by simp [Value.category]) rfl (fun r2 e9 => ct_Terms_markRow _ _ _ r2 e9) (fun r2 _ => ?_)
  refine s_aload_n B d_Terms_tidy_38 rfl ?_
  refine s_aload_n B d_Terms_tidy_39 rfl ?_
  refine s_iload_n B d_Terms_tidy_40 rfl ?_
  refine s_pick (lv1 := [(0, .ref 2), (1, .ref 1), (2, .ref 26), (3, .int l3)]) [0, 1, 2, 3] rfl ?_
  refine s_callU (av := [.ref 2, .ref 26, .int l3]) (rest := []) B (lk_V B d_Terms_tidy_41 (gl_Terms_170 _) rfl hv_Terms_markRow (by decide) (by decide)) rfl (x_rcV B xc_Terms kd_2) (fun _ _ => rfl) rfl rfl (by simp [Value.category]) rfl (fun r3 e9 => ct_Terms_markRow _ _ _ r3 e9) (fun r3 _ => ?_)
  refine s_aload_n B d_Terms_tidy_44 rfl ?_
  refine s_pick (lv1 := [(0, .ref 2), (1, .ref 1), (2, .ref 26), (3, .int l3)]) [0, 1, 2, 3] rfl ?_
  refine s_callU (av := [.ref 2]) (rest := []) B (lk_V B d_Terms_tidy_45 (gl_Terms_173 _) rfl hv_Terms_markKids (by decide) (by decide)) rfl (x_rcV B xc_Terms kd_2) (fun _ _ => rfl) rfl rfl (by simp [Value.category]) rfl (fun r4 e9 => ct_Terms_markKids  _ r4 e9) (fun r4 _ => ?_)
  refine s_aload_n B d_Terms_tidy_48 rfl ?_
  refine s_pick (lv1 := [(0, .ref 2), (1, .ref 1), (2, .ref 26), (3, .int l3)]) [0, 1, 2, 3] rfl ?_
  refine s_callU (av := [.ref 2]) (rest := []) B (lk_V B d_Terms_tidy_49 (gl_Terms_176 _) rfl hv_Terms_numberMarked (by decide) (by decide)) rfl (x_rcV B xc_Terms kd_2) (fun _ _ => rfl) rfl rfl (by simp [Value.category]) rfl (fun r5 e9 => ct_Terms_numberMarked  _ r5 e9) (fun r5 _ => ?_)
  refine s_aload_n B d_Terms_tidy_52 rfl ?_
  refine s_pick (lv1 := [(0, .ref 2), (1, .ref 1), (2, .ref 26), (3, .int l3)]) [0, 1, 2, 3] rfl ?_
  refine s_callU (av := [.ref 2]) (rest := []) B (lk_V B d_Terms_tidy_53 (gl_Terms_179 _) rfl hv_Terms_moveMarked (by decide) (by decide)) rfl (x_rcV B xc_Terms kd_2) (fun _ _ => rfl) rfl rfl (by simp [Value.category]) rfl (fun r6 e9 => ct_Terms_moveMarked  _ r6 e9) (fun r6 _ => ?_)
  refine s_aload_n B d_Terms_tidy_56 rfl ?_
  refine s_aload_n B d_Terms_tidy_57 rfl ?_
  refine s_aload_n B d_Terms_tidy_58 rfl ?_
  refine s_alen B (Or.inl kd_1) d_Terms_tidy_59 ?_
  refine s_pick (lv1 := [(0, .ref 2), (2, .ref 26), (3, .int l3)]) [0, 2, 3] rfl ?_
  refine s_callU (av := [.ref 2, .ref 1, .int (Int32.ofNat (gL r6.1 1))]) (rest := []) B (lk_V B d_Terms_tidy_60 (gl_Terms_182 _) rfl hv_Terms_renumber (by decide) (by decide)) rfl (x_rcV B xc_Terms kd_2) (fun _ _ => rfl) rfl rfl (by simp [Value.category]) rfl (fun r7 e9 => ct_Terms_renumber _ _ _ r7 e9) (fun r7 _ => ?_)
  refine s_aload_n B d_Terms_tidy_63 rfl ?_
  refine s_aload_n B d_Terms_tidy_64 rfl ?_
  refine s_iload_n B d_Terms_tidy_65 rfl ?_
  refine s_pick (lv1 := [(0, .ref 2)]) [0] rfl ?_
  refine s_callU (av := [.ref 2, .ref 26, .int l3]) (rest := []) B (lk_V B d_Terms_tidy_66 (gl_Terms_182 _) rfl hv_Terms_renumber (by decide) (by decide)) rfl (x_rcV B xc_Terms kd_2) (fun _ _ => rfl) rfl rfl (by simp [Value.category]) rfl (fun r8 e9 => ct_Terms_renumber _ _ _ r8 e9) (fun r8 _ => ?_)
  refine s_aload_n B d_Terms_tidy_69 rfl ?_
  refine s_sipush (v := (768:Int32)) B d_Terms_tidy_70 (by decide) ?_
  refine s_aload_n B d_Terms_tidy_73 rfl ?_
  refine s_getI (k := 16) B xc_Terms kd_2 (by decide) rfl rfl fl_Terms_68 d_Terms_tidy_74 ?_
  refine s_iconst (v := (2:Int32)) B d_Terms_tidy_77 (by decide) ?_
  refine s_imul B d_Terms_tidy_78 ?_
  refine s_mmax B (List.mem_cons_of_mem _ ml_Terms_185) (List.mem_cons_of_mem _ st_max) (List.mem_cons_of_mem _ in_math) (List.mem_cons_of_mem _ cd_max) d_Terms_tidy_79 (by decide) (by simp [Value.category]) ?_
  refine s_putI (k := 18) (ty := .int) B xc_Terms kd_2 (by decide) rfl rfl fl_Terms_75 rfl rfl rfl rfl d_Terms_tidy_82 (fun M9 _ => ?_)
  refine s_aload_n B d_Terms_tidy_85 rfl ?_
  refine s_sipush (v := (1536:Int32)) B d_Terms_tidy_86 (by decide) ?_
  refine s_aload_n B d_Terms_tidy_89 rfl ?_
  refine s_getI (k := 17) B xc_Terms kd_2 (by decide) rfl rfl fl_Terms_72 d_Terms_tidy_90 ?_
  refine s_iconst (v := (2:Int32)) B d_Terms_tidy_93 (by decide) ?_
  refine s_imul B d_Terms_tidy_94 ?_
  refine s_mmax B (List.mem_cons_of_mem _ ml_Terms_185) (List.mem_cons_of_mem _ st_max) (List.mem_cons_of_mem _ in_math) (List.mem_cons_of_mem _ cd_max) d_Terms_tidy_95 (by decide) (by simp [Value.category]) ?_
  refine s_putI (k := 19) (ty := .int) B xc_Terms kd_2 (by decide) rfl rfl fl_Terms_78 rfl rfl rfl rfl d_Terms_tidy_98 (fun M10 _ => ?_)
  exact s_vret B d_Terms_tidy_101
set_option maxRecDepth 100000 in
set_option maxHeartbeats 4000000 in
theorem t_Terms_tidy (B : xB p R s m args meth c b_Terms_tidy 4 R_Terms (Cond.code y_Terms_tidy b_Terms_tidy 4 none :: x_T) none 3 70 D x_cl (xty g) base) (a3 : Int32) (M : MS) : Sn p l e R s m args below meth c 4 D x_cl base (xwd g) cM x_g0 az kz (xfc cM) (xZ below args s D x_cl (xty g) base (xwd g) cM x_g0 az kz ovU) 0 [] [(0, .ref 2), (1, .ref 1), (2, .ref 26), (3, .int a3)] M (m_Terms_tidy a3 M) := by
  unfold m_Terms_tidy
  refine s_aload_n B d_Terms_tidy_0 rfl ?_
  refine s_getI (k := 16) B xc_Terms kd_2 (by decide) rfl rfl fl_Terms_68 d_Terms_tidy_1 ?_
  refine s_aload_n B d_Terms_tidy_4 rfl ?_
  refine s_getI (k := 18) B xc_Terms kd_2 (by decide) rfl rfl fl_Terms_75 d_Terms_tidy_5 ?_
  refine s_icmp_gt B d_Terms_tidy_8 rfl (fun _ => ?_) (fun _ => ?_)
  · refine s_pick (lv1 := [(0, .ref 2), (1, .ref 1), (2, .ref 26), (3, .int a3)]) [0, 1, 2, 3] rfl ?_
    exact t_Terms_tidy_23 B a3 M
  · refine s_aload_n B d_Terms_tidy_11 rfl ?_
    refine s_getI (k := 17) B xc_Terms kd_2 (by decide) rfl rfl fl_Terms_72 d_Terms_tidy_12 ?_
    refine s_aload_n B d_Terms_tidy_15 rfl ?_
    refine s_getI (k := 19) B xc_Terms kd_2 (by decide) rfl rfl fl_Terms_78 d_Terms_tidy_16 ?_
    refine s_icmp_gt B d_Terms_tidy_19 rfl (fun _ => ?_) (fun _ => ?_)
    · refine s_pick (lv1 := [(0, .ref 2), (1, .ref 1), (2, .ref 26), (3, .int a3)]) [0, 1, 2, 3] rfl ?_
      exact t_Terms_tidy_23 B a3 M
    · exact s_vret B d_Terms_tidy_22
set_option maxRecDepth 100000 in
set_option maxHeartbeats 4000000 in
theorem ct_Terms_tidy {l : Launch} {D : va_G} {base : Nat} {g : Nat → ClassId} (a3 : Int32) (M : MS) (r : MS × Unit) (hr : m_Terms_tidy a3 M = some r) : Ct l y_Terms_tidy (Cond.code y_Terms_tidy b_Terms_tidy 4 none :: x_T) 3 70 D x_cl (xty g) base (xwd g) cM x_g0 [.ref 2, .ref 1, .ref 26, .int a3] M r.1 (ovU r.2) :=
  x_met (ov := ovU) (by decide) (Nat.le_of_ble_eq_true rfl) (fun p e R s m args below meth c az B => t_Terms_tidy B a3 M) r hr
end
theorem d_Explorer_tidy_0 : decode b_Explorer_tidy 0 = .ok (.aload_n 1, 1) := by decide +kernel
theorem d_Explorer_tidy_1 : decode b_Explorer_tidy 1 = .ok (.aload_n 2, 1) := by decide +kernel
theorem d_Explorer_tidy_2 : decode b_Explorer_tidy 2 = .ok (.aload_n 0, 1) := by decide +kernel
theorem d_Explorer_tidy_3 : decode b_Explorer_tidy 3 = .ok (.getfield 17, 3) := by decide +kernel
theorem d_Explorer_tidy_6 : decode b_Explorer_tidy 6 = .ok (.iconst (0), 1) := by decide +kernel
theorem d_Explorer_tidy_7 : decode b_Explorer_tidy 7 = .ok (.invokevirtual 26, 3) := by decide +kernel
theorem d_Explorer_tidy_10 : decode b_Explorer_tidy 10 = .ok (.return_, 1) := by decide +kernel
section
variable {p : Program} {l : Launch} {e : Env} {R : Room} {s : State} {m : MethodId} {args : Array Value} {below : List Frame} {meth : Method} {c : Code} {D : va_G} {base : Nat} {g : Nat → ClassId} {az : Nat → Nat} {kz : Nat × Nat}
set_option maxRecDepth 100000 in
set_option maxHeartbeats 4000000 in
theorem t_Explorer_tidy (B : xB p R s m args meth c b_Explorer_tidy 3 R_Explorer (Cond.code y_Explorer_tidy b_Explorer_tidy 3 none :: x_T) none 4 93 D x_cl (xty g) base)  (M : MS) : Sn p l e R s m args below meth c 3 D x_cl base (xwd g) cM x_g0 az kz (xfc cM) (xZ below args s D x_cl (xty g) base (xwd g) cM x_g0 az kz ovU) 0 [] [(0, .ref 24), (1, .ref 2), (2, .ref 1)] M (m_Explorer_tidy M) := by
  unfold m_Explorer_tidy
  refine s_aload_n B d_Explorer_tidy_0 rfl ?_
  refine s_aload_n B d_Explorer_tidy_1 rfl ?_
  refine s_aload_n B d_Explorer_tidy_2 rfl ?_
  refine s_getS (k := 1) (n := 26) B xc_Explorer kd_24 (by decide) rfl rfl fl_Explorer_17 sr_24_1 d_Explorer_tidy_3 ?_
  refine s_iconst (v := (0:Int32)) B d_Explorer_tidy_6 (by decide) ?_
  refine s_pick (lv1 := []) [] rfl ?_
  refine s_callU (av := [.ref 2, .ref 1, .ref 26, .int (0:Int32)]) (rest := []) B (lk_V B d_Explorer_tidy_7 (gl_Explorer_26 _) rfl hv_Terms_tidy (by decide) (by decide)) rfl (x_rcV B xc_Terms kd_2) (fun _ _ => rfl) rfl rfl (by simp [Value.category]) rfl (fun r1 e9 => ct_Terms_tidy _ _ r1 e9) (fun r1 _ => ?_)
  exact s_vret B d_Explorer_tidy_10
set_option maxRecDepth 100000 in
set_option maxHeartbeats 4000000 in
theorem ct_Explorer_tidy {l : Launch} {D : va_G} {base : Nat} {g : Nat → ClassId}  (M : MS) (r : MS × Unit) (hr : m_Explorer_tidy M = some r) : Ct l y_Explorer_tidy (Cond.code y_Explorer_tidy b_Explorer_tidy 3 none :: x_T) 4 93 D x_cl (xty g) base (xwd g) cM x_g0 [.ref 24, .ref 2, .ref 1] M r.1 (ovU r.2) :=
  x_met (ov := ovU) (by decide) (Nat.le_of_ble_eq_true rfl) (fun p e R s m args below meth c az B => t_Explorer_tidy B  M) r hr
end
theorem d_Row_clear_0 : decode b_Row_clear 0 = .ok (.aload_n 0, 1) := by decide +kernel
theorem d_Row_clear_1 : decode b_Row_clear 1 = .ok (.iconst (0), 1) := by decide +kernel
theorem d_Row_clear_2 : decode b_Row_clear 2 = .ok (.putfield 13, 3) := by decide +kernel
theorem d_Row_clear_5 : decode b_Row_clear 5 = .ok (.return_, 1) := by decide +kernel
section
variable {p : Program} {l : Launch} {e : Env} {R : Room} {s : State} {m : MethodId} {args : Array Value} {below : List Frame} {meth : Method} {c : Code} {D : va_G} {base : Nat} {g : Nat → ClassId} {az : Nat → Nat} {kz : Nat × Nat}
set_option maxRecDepth 100000 in
set_option maxHeartbeats 4000000 in
theorem t_Row_clear (B : xB p R s m args meth c b_Row_clear 1 R_Row (Cond.code y_Row_clear b_Row_clear 1 none :: x_T) none 0 0 D x_cl (xty g) base) (a0 : Nat) (M : MS) : Sn p l e R s m args below meth c 1 D x_cl base (xwd g) cM x_g0 az kz (xfc cM) (xZ below args s D x_cl (xty g) base (xwd g) cM x_g0 az kz ovU) 0 [] [(0, .ref a0)] M (m_Row_clear a0 M) := by
  unfold m_Row_clear
  refine s_guard (fun ha0 => ?_)
  refine s_aload_n B d_Row_clear_0 rfl ?_
  refine s_iconst (v := (0:Int32)) B d_Row_clear_1 (by decide) ?_
  refine s_putI (k := 1) (ty := .int) B xc_Row ha0 (by decide) rfl rfl fl_Row_13 rfl rfl rfl rfl d_Row_clear_2 (fun M1 _ => ?_)
  exact s_vret B d_Row_clear_5
set_option maxRecDepth 100000 in
set_option maxHeartbeats 4000000 in
theorem ct_Row_clear {l : Launch} {D : va_G} {base : Nat} {g : Nat → ClassId} (a0 : Nat) (M : MS) (r : MS × Unit) (hr : m_Row_clear a0 M = some r) : Ct l y_Row_clear (Cond.code y_Row_clear b_Row_clear 1 none :: x_T) 0 0 D x_cl (xty g) base (xwd g) cM x_g0 [.ref a0] M r.1 (ovU r.2) :=
  x_met (ov := ovU) (by decide) (Nat.le_of_ble_eq_true rfl) (fun p e R s m args below meth c az B => t_Row_clear B a0 M) r hr
end
theorem d_Row_add_0 : decode b_Row_add 0 = .ok (.aload_n 0, 1) := by decide +kernel
theorem d_Row_add_1 : decode b_Row_add 1 = .ok (.getfield 13, 3) := by decide +kernel
theorem d_Row_add_4 : decode b_Row_add 4 = .ok (.aload_n 0, 1) := by decide +kernel
theorem d_Row_add_5 : decode b_Row_add 5 = .ok (.getfield 7, 3) := by decide +kernel
theorem d_Row_add_8 : decode b_Row_add 8 = .ok (.arraylength, 1) := by decide +kernel
theorem d_Row_add_9 : decode b_Row_add 9 = .ok (.if_icmp .ne (20), 3) := by decide +kernel
theorem d_Row_add_12 : decode b_Row_add 12 = .ok (.aload_n 0, 1) := by decide +kernel
theorem d_Row_add_13 : decode b_Row_add 13 = .ok (.aload_n 0, 1) := by decide +kernel
theorem d_Row_add_14 : decode b_Row_add 14 = .ok (.getfield 7, 3) := by decide +kernel
theorem d_Row_add_17 : decode b_Row_add 17 = .ok (.aload_n 0, 1) := by decide +kernel
theorem d_Row_add_18 : decode b_Row_add 18 = .ok (.getfield 13, 3) := by decide +kernel
theorem d_Row_add_21 : decode b_Row_add 21 = .ok (.iconst (2), 1) := by decide +kernel
theorem d_Row_add_22 : decode b_Row_add 22 = .ok (.imul, 1) := by decide +kernel
theorem d_Row_add_23 : decode b_Row_add 23 = .ok (.invokestatic 17, 3) := by decide +kernel
theorem d_Row_add_26 : decode b_Row_add 26 = .ok (.putfield 7, 3) := by decide +kernel
theorem d_Row_add_29 : decode b_Row_add 29 = .ok (.aload_n 0, 1) := by decide +kernel
theorem d_Row_add_30 : decode b_Row_add 30 = .ok (.getfield 7, 3) := by decide +kernel
theorem d_Row_add_33 : decode b_Row_add 33 = .ok (.aload_n 0, 1) := by decide +kernel
theorem d_Row_add_34 : decode b_Row_add 34 = .ok (.getfield 13, 3) := by decide +kernel
theorem d_Row_add_37 : decode b_Row_add 37 = .ok (.iload_n 1, 1) := by decide +kernel
theorem d_Row_add_38 : decode b_Row_add 38 = .ok (.iastore, 1) := by decide +kernel
theorem d_Row_add_39 : decode b_Row_add 39 = .ok (.aload_n 0, 1) := by decide +kernel
theorem d_Row_add_40 : decode b_Row_add 40 = .ok (.dup, 1) := by decide +kernel
theorem d_Row_add_41 : decode b_Row_add 41 = .ok (.getfield 13, 3) := by decide +kernel
theorem d_Row_add_44 : decode b_Row_add 44 = .ok (.iconst (1), 1) := by decide +kernel
theorem d_Row_add_45 : decode b_Row_add 45 = .ok (.iadd, 1) := by decide +kernel
theorem d_Row_add_46 : decode b_Row_add 46 = .ok (.putfield 13, 3) := by decide +kernel
theorem d_Row_add_49 : decode b_Row_add 49 = .ok (.return_, 1) := by decide +kernel
section
variable {p : Program} {l : Launch} {e : Env} {R : Room} {s : State} {m : MethodId} {args : Array Value} {below : List Frame} {meth : Method} {c : Code} {D : va_G} {base : Nat} {g : Nat → ClassId} {az : Nat → Nat} {kz : Nat × Nat}
set_option maxRecDepth 100000 in
set_option maxHeartbeats 4000000 in
theorem t_Row_add_29  (B : xB p R s m args meth c b_Row_add 2 R_Row (Cond.code y_Row_add b_Row_add 2 none :: x_T) none 4 90 D x_cl (xty g) base)  (l0 : Nat) (l1 : Int32) (M : MS) (hl0 : x_kd l0 = 1) : Sn p l e R s m args below meth c 2 D x_cl base (xwd g) cM x_gr az kz (xfc cM) (xZ below args s D x_cl (xty g) base (xwd g) cM x_gr az kz ovU) 29 [] [(0, .ref l0), (1, .int l1)] M (m_Row_add_29 l0 l1 M) := by
  unfold m_Row_add_29
  refine s_aload_n B d_Row_add_29 rfl ?_
  refine s_getS (k := 0) (n := (x_sr l0 0)) B xc_Row hl0 (by decide) rfl rfl fl_Row_7 rfl d_Row_add_30 ?_
  refine s_aload_n B d_Row_add_33 rfl ?_
  refine s_getI (k := 1) B xc_Row hl0 (by decide) rfl rfl fl_Row_13 d_Row_add_34 ?_
  refine s_iload_n B d_Row_add_37 rfl ?_
  refine s_iast B (Or.inr (srk_Row_0 hl0)) d_Row_add_38 (fun M1 _ => ?_)
  refine s_aload_n B d_Row_add_39 rfl ?_
  refine s_dup B d_Row_add_40 rfl ?_
  refine s_getI (k := 1) B xc_Row hl0 (by decide) rfl rfl fl_Row_13 d_Row_add_41 ?_
  refine s_iconst (v := (1:Int32)) B d_Row_add_44 (by decide) ?_
  refine s_iadd B d_Row_add_45 ?_
  refine s_putI (k := 1) (ty := .int) B xc_Row hl0 (by decide) rfl rfl fl_Row_13 rfl rfl rfl rfl d_Row_add_46 (fun M2 _ => ?_)
  exact s_vret B d_Row_add_49
set_option maxRecDepth 100000 in
set_option maxHeartbeats 4000000 in
theorem t_Row_add (B : xB p R s m args meth c b_Row_add 2 R_Row (Cond.code y_Row_add b_Row_add 2 none :: x_T) none 4 90 D x_cl (xty g) base) (a0 : Nat) (a1 : Int32) (M : MS) : Sn p l e R s m args below meth c 2 D x_cl base (xwd g) cM x_gr az kz (xfc cM) (xZ below args s D x_cl (xty g) base (xwd g) cM x_gr az kz ovU) 0 [] [(0, .ref a0), (1, .int a1)] M (m_Row_add a0 a1 M) := by
  unfold m_Row_add
  refine s_guard (fun ha0 => ?_)
  refine s_aload_n B d_Row_add_0 rfl ?_
  refine s_getI (k := 1) B xc_Row ha0 (by decide) rfl rfl fl_Row_13 d_Row_add_1 ?_
  refine s_aload_n B d_Row_add_4 rfl ?_
  refine s_getS (k := 0) (n := (x_sr a0 0)) B xc_Row ha0 (by decide) rfl rfl fl_Row_7 rfl d_Row_add_5 ?_
  refine s_alen B (Or.inr (srk_Row_0 ha0)) d_Row_add_8 ?_
  refine s_icmp_ne B d_Row_add_9 rfl (fun _ => ?_) (fun _ => ?_)
  · refine s_pick (lv1 := [(0, .ref a0), (1, .int a1)]) [0, 1] rfl ?_
    exact t_Row_add_29 B a0 a1 M ha0
  · refine s_aload_n B d_Row_add_12 rfl ?_
    refine s_aload_n B d_Row_add_13 rfl ?_
    refine s_getS (k := 0) (n := (x_sr a0 0)) B xc_Row ha0 (by decide) rfl rfl fl_Row_7 rfl d_Row_add_14 ?_
    refine s_aload_n B d_Row_add_17 rfl ?_
    refine s_getI (k := 1) B xc_Row ha0 (by decide) rfl rfl fl_Row_13 d_Row_add_18 ?_
    refine s_iconst (v := (2:Int32)) B d_Row_add_21 (by decide) ?_
    refine s_imul B d_Row_add_22 ?_
    refine s_pick (lv1 := [(0, .ref a0), (1, .int a1)]) [0, 1] rfl ?_
    refine s_grow (k := 0) B xc_Row ha0 (by decide) rfl rfl (List.mem_cons_of_mem _ ml_Row_17) fl_Row_7 rfl rfl rfl (srk_Row_0 ha0) d_Row_add_23 d_Row_add_26 rfl (by simp [xng, x_gr, ha0]) (by decide) (by decide) (by decide) (fun M1 _ => ?_)
    refine s_pick (lv1 := [(0, .ref a0), (1, .int a1)]) [0, 1] rfl ?_
    exact t_Row_add_29 B a0 a1 M1 ha0
set_option maxRecDepth 100000 in
set_option maxHeartbeats 4000000 in
theorem ct_Row_add {l : Launch} {D : va_G} {base : Nat} {g : Nat → ClassId} (a0 : Nat) (a1 : Int32) (M : MS) (r : MS × Unit) (hr : m_Row_add a0 a1 M = some r) : Ct l y_Row_add (Cond.code y_Row_add b_Row_add 2 none :: x_T) 4 90 D x_cl (xty g) base (xwd g) cM x_gr [.ref a0, .int a1] M r.1 (ovU r.2) :=
  x_met (ov := ovU) (by decide) (Nat.le_of_ble_eq_true rfl) (fun p e R s m args below meth c az B => t_Row_add B a0 a1 M) r hr
end
theorem d_Row_size_0 : decode b_Row_size 0 = .ok (.aload_n 0, 1) := by decide +kernel
theorem d_Row_size_1 : decode b_Row_size 1 = .ok (.getfield 13, 3) := by decide +kernel
theorem d_Row_size_4 : decode b_Row_size 4 = .ok (.ireturn, 1) := by decide +kernel
section
variable {p : Program} {l : Launch} {e : Env} {R : Room} {s : State} {m : MethodId} {args : Array Value} {below : List Frame} {meth : Method} {c : Code} {D : va_G} {base : Nat} {g : Nat → ClassId} {az : Nat → Nat} {kz : Nat × Nat}
set_option maxRecDepth 100000 in
set_option maxHeartbeats 4000000 in
theorem t_Row_size (B : xB p R s m args meth c b_Row_size 1 R_Row (Cond.code y_Row_size b_Row_size 1 (some .int) :: x_T) (some .int) 0 0 D x_cl (xty g) base) (a0 : Nat) (M : MS) : Sn p l e R s m args below meth c 1 D x_cl base (xwd g) cM x_g0 az kz (xfc cM) (xZ below args s D x_cl (xty g) base (xwd g) cM x_g0 az kz ovI) 0 [] [(0, .ref a0)] M (m_Row_size a0 M) := by
  unfold m_Row_size
  refine s_guard (fun ha0 => ?_)
  refine s_aload_n B d_Row_size_0 rfl ?_
  refine s_getI (k := 1) B xc_Row ha0 (by decide) rfl rfl fl_Row_13 d_Row_size_1 ?_
  exact s_iret B d_Row_size_4
set_option maxRecDepth 100000 in
set_option maxHeartbeats 4000000 in
theorem ct_Row_size {l : Launch} {D : va_G} {base : Nat} {g : Nat → ClassId} (a0 : Nat) (M : MS) (r : MS × Int32) (hr : m_Row_size a0 M = some r) : Ct l y_Row_size (Cond.code y_Row_size b_Row_size 1 (some .int) :: x_T) 0 0 D x_cl (xty g) base (xwd g) cM x_g0 [.ref a0] M r.1 (ovI r.2) :=
  x_met (ov := ovI) (by decide) (Nat.le_of_ble_eq_true rfl) (fun p e R s m args below meth c az B => t_Row_size B a0 M) r hr
end
theorem d_Row_get_0 : decode b_Row_get 0 = .ok (.aload_n 0, 1) := by decide +kernel
theorem d_Row_get_1 : decode b_Row_get 1 = .ok (.getfield 7, 3) := by decide +kernel
theorem d_Row_get_4 : decode b_Row_get 4 = .ok (.iload_n 1, 1) := by decide +kernel
theorem d_Row_get_5 : decode b_Row_get 5 = .ok (.iaload, 1) := by decide +kernel
theorem d_Row_get_6 : decode b_Row_get 6 = .ok (.ireturn, 1) := by decide +kernel
section
variable {p : Program} {l : Launch} {e : Env} {R : Room} {s : State} {m : MethodId} {args : Array Value} {below : List Frame} {meth : Method} {c : Code} {D : va_G} {base : Nat} {g : Nat → ClassId} {az : Nat → Nat} {kz : Nat × Nat}
set_option maxRecDepth 100000 in
set_option maxHeartbeats 4000000 in
theorem t_Row_get (B : xB p R s m args meth c b_Row_get 2 R_Row (Cond.code y_Row_get b_Row_get 2 (some .int) :: x_T) (some .int) 0 0 D x_cl (xty g) base) (a0 : Nat) (a1 : Int32) (M : MS) : Sn p l e R s m args below meth c 2 D x_cl base (xwd g) cM x_g0 az kz (xfc cM) (xZ below args s D x_cl (xty g) base (xwd g) cM x_g0 az kz ovI) 0 [] [(0, .ref a0), (1, .int a1)] M (m_Row_get a0 a1 M) := by
  unfold m_Row_get
  refine s_guard (fun ha0 => ?_)
  refine s_aload_n B d_Row_get_0 rfl ?_
  refine s_getS (k := 0) (n := (x_sr a0 0)) B xc_Row ha0 (by decide) rfl rfl fl_Row_7 rfl d_Row_get_1 ?_
  refine s_iload_n B d_Row_get_4 rfl ?_
  refine s_iald B (Or.inr (srk_Row_0 ha0)) d_Row_get_5 (fun v1 _ => ?_)
  exact s_iret B d_Row_get_6
set_option maxRecDepth 100000 in
set_option maxHeartbeats 4000000 in
theorem ct_Row_get {l : Launch} {D : va_G} {base : Nat} {g : Nat → ClassId} (a0 : Nat) (a1 : Int32) (M : MS) (r : MS × Int32) (hr : m_Row_get a0 a1 M = some r) : Ct l y_Row_get (Cond.code y_Row_get b_Row_get 2 (some .int) :: x_T) 0 0 D x_cl (xty g) base (xwd g) cM x_g0 [.ref a0, .int a1] M r.1 (ovI r.2) :=
  x_met (ov := ovI) (by decide) (Nat.le_of_ble_eq_true rfl) (fun p e R s m args below meth c az B => t_Row_get B a0 a1 M) r hr
end
theorem d_Terms_hasJust_0 : decode b_Terms_hasJust 0 = .ok (.aload_n 0, 1) := by decide +kernel
theorem d_Terms_hasJust_1 : decode b_Terms_hasJust 1 = .ok (.getfield 24, 3) := by decide +kernel
theorem d_Terms_hasJust_4 : decode b_Terms_hasJust 4 = .ok (.iload_n 1, 1) := by decide +kernel
theorem d_Terms_hasJust_5 : decode b_Terms_hasJust 5 = .ok (.iaload, 1) := by decide +kernel
theorem d_Terms_hasJust_6 : decode b_Terms_hasJust 6 = .ok (.aload_n 2, 1) := by decide +kernel
theorem d_Terms_hasJust_7 : decode b_Terms_hasJust 7 = .ok (.invokevirtual 99, 3) := by decide +kernel
theorem d_Terms_hasJust_10 : decode b_Terms_hasJust 10 = .ok (.if_icmp .eq (5), 3) := by decide +kernel
theorem d_Terms_hasJust_13 : decode b_Terms_hasJust 13 = .ok (.iconst (0), 1) := by decide +kernel
theorem d_Terms_hasJust_14 : decode b_Terms_hasJust 14 = .ok (.ireturn, 1) := by decide +kernel
theorem d_Terms_hasJust_15 : decode b_Terms_hasJust 15 = .ok (.iconst (0), 1) := by decide +kernel
theorem d_Terms_hasJust_16 : decode b_Terms_hasJust 16 = .ok (.istore_n 3, 1) := by decide +kernel
theorem d_Terms_hasJust_17 : decode b_Terms_hasJust 17 = .ok (.iload_n 3, 1) := by decide +kernel
theorem d_Terms_hasJust_18 : decode b_Terms_hasJust 18 = .ok (.aload_n 2, 1) := by decide +kernel
theorem d_Terms_hasJust_19 : decode b_Terms_hasJust 19 = .ok (.invokevirtual 99, 3) := by decide +kernel
theorem d_Terms_hasJust_22 : decode b_Terms_hasJust 22 = .ok (.if_icmp .ge (25), 3) := by decide +kernel
theorem d_Terms_hasJust_25 : decode b_Terms_hasJust 25 = .ok (.aload_n 0, 1) := by decide +kernel
theorem d_Terms_hasJust_26 : decode b_Terms_hasJust 26 = .ok (.iload_n 1, 1) := by decide +kernel
theorem d_Terms_hasJust_27 : decode b_Terms_hasJust 27 = .ok (.iload_n 3, 1) := by decide +kernel
theorem d_Terms_hasJust_28 : decode b_Terms_hasJust 28 = .ok (.invokevirtual 91, 3) := by decide +kernel
theorem d_Terms_hasJust_31 : decode b_Terms_hasJust 31 = .ok (.aload_n 2, 1) := by decide +kernel
theorem d_Terms_hasJust_32 : decode b_Terms_hasJust 32 = .ok (.iload_n 3, 1) := by decide +kernel
theorem d_Terms_hasJust_33 : decode b_Terms_hasJust 33 = .ok (.invokevirtual 102, 3) := by decide +kernel
theorem d_Terms_hasJust_36 : decode b_Terms_hasJust 36 = .ok (.if_icmp .eq (5), 3) := by decide +kernel
theorem d_Terms_hasJust_39 : decode b_Terms_hasJust 39 = .ok (.iconst (0), 1) := by decide +kernel
theorem d_Terms_hasJust_40 : decode b_Terms_hasJust 40 = .ok (.ireturn, 1) := by decide +kernel
theorem d_Terms_hasJust_41 : decode b_Terms_hasJust 41 = .ok (.iinc 3 (1), 3) := by decide +kernel
theorem d_Terms_hasJust_44 : decode b_Terms_hasJust 44 = .ok (.goto (-27), 3) := by decide +kernel
theorem d_Terms_hasJust_47 : decode b_Terms_hasJust 47 = .ok (.iconst (1), 1) := by decide +kernel
theorem d_Terms_hasJust_48 : decode b_Terms_hasJust 48 = .ok (.ireturn, 1) := by decide +kernel
section
variable {p : Program} {l : Launch} {e : Env} {R : Room} {s : State} {m : MethodId} {args : Array Value} {below : List Frame} {meth : Method} {c : Code} {D : va_G} {base : Nat} {g : Nat → ClassId} {az : Nat → Nat} {kz : Nat × Nat}
set_option maxRecDepth 100000 in
set_option maxHeartbeats 4000000 in
theorem t_Terms_hasJust_17b {k17 : Int32 × Nat × Int32 × MS → Option (MS × Int32)} (B : xB p R s m args meth c b_Terms_hasJust 4 R_Terms (Cond.code y_Terms_hasJust b_Terms_hasJust 4 (some .boolean) :: x_T) (some .boolean) 1 22 D x_cl (xty g) base) (hk17 : ∀ (l1 : Int32) (l2 : Nat) (l3 : Int32) (M : MS) (hl2 : x_kd l2 = 1), Sn p l e R s m args below meth c 4 D x_cl base (xwd g) cM x_g0 az kz (xfc cM) (xZ below args s D x_cl (xty g) base (xwd g) cM x_g0 az kz ovI) 17 [] [(0, .ref 2), (1, .int l1), (2, .ref l2), (3, .int l3)] M (k17 (l1, l2, l3, M))) (l1 : Int32) (l2 : Nat) (l3 : Int32) (M : MS) (hl2 : x_kd l2 = 1) : Sn p l e R s m args below meth c 4 D x_cl base (xwd g) cM x_g0 az kz (xfc cM) (xZ below args s D x_cl (xty g) base (xwd g) cM x_g0 az kz ovI) 17 [] [(0, .ref 2), (1, .int l1), (2, .ref l2), (3, .int l3)] M (m_Terms_hasJust_17b k17 l1 l2 l3 M) := by
  unfold m_Terms_hasJust_17b
  refine s_iload_n B d_Terms_hasJust_17 rfl ?_
  refine s_aload_n B d_Terms_hasJust_18 rfl ?_
  refine s_pick (lv1 := [(0, .ref 2), (1, .int l1), (2, .ref l2), (3, .int l3)]) [0, 1, 2, 3] rfl ?_
  refine s_callI (av := [.ref l2]) (rest := [.int l3]) B (lk_V B d_Terms_hasJust_19 (gl_Terms_99 _) rfl hv_Row_size (by decide) (by decide)) rfl (x_rcV B xc_Row hl2) (fun _ _ => rfl) rfl rfl (by simp [Value.category]) rfl (fun r1 e9 => ct_Row_size _ _ r1 e9) (fun r1 _ => ?_)
  refine s_icmp_ge B d_Terms_hasJust_22 rfl (fun _ => ?_) (fun _ => ?_)
  · refine s_iconst (v := (1:Int32)) B d_Terms_hasJust_47 (by decide) ?_
    exact s_zret0 rfl B d_Terms_hasJust_48
  · refine s_aload_n B d_Terms_hasJust_25 rfl ?_
    refine s_iload_n B d_Terms_hasJust_26 rfl ?_
    refine s_iload_n B d_Terms_hasJust_27 rfl ?_
    refine s_pick (lv1 := [(0, .ref 2), (1, .int l1), (2, .ref l2), (3, .int l3)]) [0, 1, 2, 3] rfl ?_
    refine s_callI (av := [.ref 2, .int l1, .int l3]) (rest := []) B (lk_V B d_Terms_hasJust_28 (gl_Terms_91 _) rfl hv_Terms_kid (by decide) (by decide)) rfl (x_rcV B xc_Terms kd_2) (fun _ _ => rfl) rfl rfl (by simp [Value.category]) rfl (fun r2 e9 => ct_Terms_kid _ _ _ r2 e9) (fun r2 _ => ?_)
    refine s_aload_n B d_Terms_hasJust_31 rfl ?_
    refine s_iload_n B d_Terms_hasJust_32 rfl ?_
    refine s_pick (lv1 := [(0, .ref 2), (1, .int l1), (2, .ref l2), (3, .int l3)]) [0, 1, 2, 3] rfl ?_
    refine s_callI (av := [.ref l2, .int l3]) (rest := [.int r2.2]) B (lk_V B d_Terms_hasJust_33 (gl_Terms_102 _) rfl hv_Row_get (by decide) (by decide)) rfl (x_rcV B xc_Row hl2) (fun _ _ => rfl) rfl rfl (by simp [Value.category]) rfl (fun r3 e9 => ct_Row_get _ _ _ r3 e9) (fun r3 _ => ?_)
    refine s_icmp_eq B d_Terms_hasJust_36 rfl (fun _ => ?_) (fun _ => ?_)
    · refine s_iinc (w := (1:Int32)) B d_Terms_hasJust_41 rfl (by decide) (by decide) ?_
      refine s_goto B d_Terms_hasJust_44 rfl ?_
      refine s_pick (lv1 := [(0, .ref 2), (1, .int l1), (2, .ref l2), (3, .int (l3 + (1:Int32)))]) [0, 1, 2, 3] rfl ?_
      exact hk17 l1 l2 (l3 + (1:Int32)) r3.1 hl2
    · refine s_iconst (v := (0:Int32)) B d_Terms_hasJust_39 (by decide) ?_
      exact s_zret0 rfl B d_Terms_hasJust_40
set_option maxRecDepth 100000 in
set_option maxHeartbeats 4000000 in
theorem t_Terms_hasJust_17  (B : xB p R s m args meth c b_Terms_hasJust 4 R_Terms (Cond.code y_Terms_hasJust b_Terms_hasJust 4 (some .boolean) :: x_T) (some .boolean) 1 22 D x_cl (xty g) base)  (l1 : Int32) (l2 : Nat) (l3 : Int32) (M : MS) (hl2 : x_kd l2 = 1) : Sn p l e R s m args below meth c 4 D x_cl base (xwd g) cM x_g0 az kz (xfc cM) (xZ below args s D x_cl (xty g) base (xwd g) cM x_g0 az kz ovI) 17 [] [(0, .ref 2), (1, .int l1), (2, .ref l2), (3, .int l3)] M (m_Terms_hasJust_17 (l1, l2, l3, M)) := by
  have q : ∀ (F : Nat) (i : Int32 × Nat × Int32 × MS), x_kd i.2.1 = 1 → Sn p l e R s m args below meth c 4 D x_cl base (xwd g) cM x_g0 az kz (xfc cM) (xZ below args s D x_cl (xty g) base (xwd g) cM x_g0 az kz ovI) 17 [] [(0, .ref 2), (1, .int i.1), (2, .ref i.2.1), (3, .int i.2.2.1)] i.2.2.2 (fx (fun (k : Int32 × Nat × Int32 × MS → Option (MS × Int32)) (i : Int32 × Nat × Int32 × MS) => m_Terms_hasJust_17b k i.1 i.2.1 i.2.2.1 i.2.2.2) F i) := by
    intro F
    induction F with
    | zero => intro i h0; exact s_none
    | succ F ih => intro i h0; exact t_Terms_hasJust_17b B  (fun l1 l2 l3 M h0 => ih (l1, l2, l3, M) h0) i.1 i.2.1 i.2.2.1 i.2.2.2 h0
  exact q FU (l1, l2, l3, M) hl2
set_option maxRecDepth 100000 in
set_option maxHeartbeats 4000000 in
theorem t_Terms_hasJust (B : xB p R s m args meth c b_Terms_hasJust 4 R_Terms (Cond.code y_Terms_hasJust b_Terms_hasJust 4 (some .boolean) :: x_T) (some .boolean) 1 22 D x_cl (xty g) base) (a1 : Int32) (a2 : Nat) (M : MS) : Sn p l e R s m args below meth c 4 D x_cl base (xwd g) cM x_g0 az kz (xfc cM) (xZ below args s D x_cl (xty g) base (xwd g) cM x_g0 az kz ovI) 0 [] [(0, .ref 2), (1, .int a1), (2, .ref a2)] M (m_Terms_hasJust a1 a2 M) := by
  unfold m_Terms_hasJust
  refine s_guard (fun ha2 => ?_)
  refine s_aload_n B d_Terms_hasJust_0 rfl ?_
  refine s_getS (k := 4) (n := 7) B xc_Terms kd_2 (by decide) rfl rfl fl_Terms_24 sr_2_4 d_Terms_hasJust_1 ?_
  refine s_iload_n B d_Terms_hasJust_4 rfl ?_
  refine s_iald B (Or.inr kd_7) d_Terms_hasJust_5 (fun v1 _ => ?_)
  refine s_aload_n B d_Terms_hasJust_6 rfl ?_
  refine s_pick (lv1 := [(0, .ref 2), (1, .int a1), (2, .ref a2)]) [0, 1, 2] rfl ?_
  refine s_callI (av := [.ref a2]) (rest := [.int v1]) B (lk_V B d_Terms_hasJust_7 (gl_Terms_99 _) rfl hv_Row_size (by decide) (by decide)) rfl (x_rcV B xc_Row ha2) (fun _ _ => rfl) rfl rfl (by simp [Value.category]) rfl (fun r2 e9 => ct_Row_size _ _ r2 e9) (fun r2 _ => ?_)
  refine s_icmp_eq B d_Terms_hasJust_10 rfl (fun _ => ?_) (fun _ => ?_)
  · refine s_iconst (v := (0:Int32)) B d_Terms_hasJust_15 (by decide) ?_
    refine s_istore_n B d_Terms_hasJust_16 (by decide) ?_
    refine s_pick (lv1 := [(0, .ref 2), (1, .int a1), (2, .ref a2), (3, .int (0:Int32))]) [0, 1, 2, 3] rfl ?_
    exact t_Terms_hasJust_17 B a1 a2 (0:Int32) r2.1 ha2
  · refine s_iconst (v := (0:Int32)) B d_Terms_hasJust_13 (by decide) ?_
    exact s_zret0 rfl B d_Terms_hasJust_14
set_option maxRecDepth 100000 in
set_option maxHeartbeats 4000000 in
theorem ct_Terms_hasJust {l : Launch} {D : va_G} {base : Nat} {g : Nat → ClassId} (a1 : Int32) (a2 : Nat) (M : MS) (r : MS × Int32) (hr : m_Terms_hasJust a1 a2 M = some r) : Ct l y_Terms_hasJust (Cond.code y_Terms_hasJust b_Terms_hasJust 4 (some .boolean) :: x_T) 1 22 D x_cl (xty g) base (xwd g) cM x_g0 [.ref 2, .int a1, .ref a2] M r.1 (ovI r.2) :=
  x_met (ov := ovI) (by decide) (Nat.le_of_ble_eq_true rfl) (fun p e R s m args below meth c az B => t_Terms_hasJust B a1 a2 M) r hr
end
theorem d_Terms_makeRoom_0 : decode b_Terms_makeRoom 0 = .ok (.aload_n 0, 1) := by decide +kernel
theorem d_Terms_makeRoom_1 : decode b_Terms_makeRoom 1 = .ok (.getfield 72, 3) := by decide +kernel
theorem d_Terms_makeRoom_4 : decode b_Terms_makeRoom 4 = .ok (.iload_n 1, 1) := by decide +kernel
theorem d_Terms_makeRoom_5 : decode b_Terms_makeRoom 5 = .ok (.iadd, 1) := by decide +kernel
theorem d_Terms_makeRoom_6 : decode b_Terms_makeRoom 6 = .ok (.aload_n 0, 1) := by decide +kernel
theorem d_Terms_makeRoom_7 : decode b_Terms_makeRoom 7 = .ok (.getfield 42, 3) := by decide +kernel
theorem d_Terms_makeRoom_10 : decode b_Terms_makeRoom 10 = .ok (.arraylength, 1) := by decide +kernel
theorem d_Terms_makeRoom_11 : decode b_Terms_makeRoom 11 = .ok (.if_icmp .le (22), 3) := by decide +kernel
theorem d_Terms_makeRoom_14 : decode b_Terms_makeRoom 14 = .ok (.aload_n 0, 1) := by decide +kernel
theorem d_Terms_makeRoom_15 : decode b_Terms_makeRoom 15 = .ok (.aload_n 0, 1) := by decide +kernel
theorem d_Terms_makeRoom_16 : decode b_Terms_makeRoom 16 = .ok (.getfield 42, 3) := by decide +kernel
theorem d_Terms_makeRoom_19 : decode b_Terms_makeRoom 19 = .ok (.aload_n 0, 1) := by decide +kernel
theorem d_Terms_makeRoom_20 : decode b_Terms_makeRoom 20 = .ok (.getfield 72, 3) := by decide +kernel
theorem d_Terms_makeRoom_23 : decode b_Terms_makeRoom 23 = .ok (.iload_n 1, 1) := by decide +kernel
theorem d_Terms_makeRoom_24 : decode b_Terms_makeRoom 24 = .ok (.iadd, 1) := by decide +kernel
theorem d_Terms_makeRoom_25 : decode b_Terms_makeRoom 25 = .ok (.iconst (2), 1) := by decide +kernel
theorem d_Terms_makeRoom_26 : decode b_Terms_makeRoom 26 = .ok (.imul, 1) := by decide +kernel
theorem d_Terms_makeRoom_27 : decode b_Terms_makeRoom 27 = .ok (.invokestatic 166, 3) := by decide +kernel
theorem d_Terms_makeRoom_30 : decode b_Terms_makeRoom 30 = .ok (.putfield 42, 3) := by decide +kernel
theorem d_Terms_makeRoom_33 : decode b_Terms_makeRoom 33 = .ok (.aload_n 0, 1) := by decide +kernel
theorem d_Terms_makeRoom_34 : decode b_Terms_makeRoom 34 = .ok (.getfield 68, 3) := by decide +kernel
theorem d_Terms_makeRoom_37 : decode b_Terms_makeRoom 37 = .ok (.aload_n 0, 1) := by decide +kernel
theorem d_Terms_makeRoom_38 : decode b_Terms_makeRoom 38 = .ok (.getfield 11, 3) := by decide +kernel
theorem d_Terms_makeRoom_41 : decode b_Terms_makeRoom 41 = .ok (.arraylength, 1) := by decide +kernel
theorem d_Terms_makeRoom_42 : decode b_Terms_makeRoom 42 = .ok (.if_icmp .ge (4), 3) := by decide +kernel
theorem d_Terms_makeRoom_45 : decode b_Terms_makeRoom 45 = .ok (.return_, 1) := by decide +kernel
theorem d_Terms_makeRoom_46 : decode b_Terms_makeRoom 46 = .ok (.aload_n 0, 1) := by decide +kernel
theorem d_Terms_makeRoom_47 : decode b_Terms_makeRoom 47 = .ok (.getfield 68, 3) := by decide +kernel
theorem d_Terms_makeRoom_50 : decode b_Terms_makeRoom 50 = .ok (.iconst (2), 1) := by decide +kernel
theorem d_Terms_makeRoom_51 : decode b_Terms_makeRoom 51 = .ok (.imul, 1) := by decide +kernel
theorem d_Terms_makeRoom_52 : decode b_Terms_makeRoom 52 = .ok (.istore_n 2, 1) := by decide +kernel
theorem d_Terms_makeRoom_53 : decode b_Terms_makeRoom 53 = .ok (.aload_n 0, 1) := by decide +kernel
theorem d_Terms_makeRoom_54 : decode b_Terms_makeRoom 54 = .ok (.aload_n 0, 1) := by decide +kernel
theorem d_Terms_makeRoom_55 : decode b_Terms_makeRoom 55 = .ok (.getfield 11, 3) := by decide +kernel
theorem d_Terms_makeRoom_58 : decode b_Terms_makeRoom 58 = .ok (.iload_n 2, 1) := by decide +kernel
theorem d_Terms_makeRoom_59 : decode b_Terms_makeRoom 59 = .ok (.invokestatic 166, 3) := by decide +kernel
theorem d_Terms_makeRoom_62 : decode b_Terms_makeRoom 62 = .ok (.putfield 11, 3) := by decide +kernel
theorem d_Terms_makeRoom_65 : decode b_Terms_makeRoom 65 = .ok (.aload_n 0, 1) := by decide +kernel
theorem d_Terms_makeRoom_66 : decode b_Terms_makeRoom 66 = .ok (.aload_n 0, 1) := by decide +kernel
theorem d_Terms_makeRoom_67 : decode b_Terms_makeRoom 67 = .ok (.getfield 15, 3) := by decide +kernel
theorem d_Terms_makeRoom_70 : decode b_Terms_makeRoom 70 = .ok (.iload_n 2, 1) := by decide +kernel
theorem d_Terms_makeRoom_71 : decode b_Terms_makeRoom 71 = .ok (.invokestatic 166, 3) := by decide +kernel
theorem d_Terms_makeRoom_74 : decode b_Terms_makeRoom 74 = .ok (.putfield 15, 3) := by decide +kernel
theorem d_Terms_makeRoom_77 : decode b_Terms_makeRoom 77 = .ok (.aload_n 0, 1) := by decide +kernel
theorem d_Terms_makeRoom_78 : decode b_Terms_makeRoom 78 = .ok (.aload_n 0, 1) := by decide +kernel
theorem d_Terms_makeRoom_79 : decode b_Terms_makeRoom 79 = .ok (.getfield 18, 3) := by decide +kernel
theorem d_Terms_makeRoom_82 : decode b_Terms_makeRoom 82 = .ok (.iload_n 2, 1) := by decide +kernel
theorem d_Terms_makeRoom_83 : decode b_Terms_makeRoom 83 = .ok (.invokestatic 166, 3) := by decide +kernel
theorem d_Terms_makeRoom_86 : decode b_Terms_makeRoom 86 = .ok (.putfield 18, 3) := by decide +kernel
theorem d_Terms_makeRoom_89 : decode b_Terms_makeRoom 89 = .ok (.aload_n 0, 1) := by decide +kernel
theorem d_Terms_makeRoom_90 : decode b_Terms_makeRoom 90 = .ok (.aload_n 0, 1) := by decide +kernel
theorem d_Terms_makeRoom_91 : decode b_Terms_makeRoom 91 = .ok (.getfield 21, 3) := by decide +kernel
theorem d_Terms_makeRoom_94 : decode b_Terms_makeRoom 94 = .ok (.iload_n 2, 1) := by decide +kernel
theorem d_Terms_makeRoom_95 : decode b_Terms_makeRoom 95 = .ok (.invokestatic 166, 3) := by decide +kernel
theorem d_Terms_makeRoom_98 : decode b_Terms_makeRoom 98 = .ok (.putfield 21, 3) := by decide +kernel
theorem d_Terms_makeRoom_101 : decode b_Terms_makeRoom 101 = .ok (.aload_n 0, 1) := by decide +kernel
theorem d_Terms_makeRoom_102 : decode b_Terms_makeRoom 102 = .ok (.aload_n 0, 1) := by decide +kernel
theorem d_Terms_makeRoom_103 : decode b_Terms_makeRoom 103 = .ok (.getfield 24, 3) := by decide +kernel
theorem d_Terms_makeRoom_106 : decode b_Terms_makeRoom 106 = .ok (.iload_n 2, 1) := by decide +kernel
theorem d_Terms_makeRoom_107 : decode b_Terms_makeRoom 107 = .ok (.invokestatic 166, 3) := by decide +kernel
theorem d_Terms_makeRoom_110 : decode b_Terms_makeRoom 110 = .ok (.putfield 24, 3) := by decide +kernel
theorem d_Terms_makeRoom_113 : decode b_Terms_makeRoom 113 = .ok (.aload_n 0, 1) := by decide +kernel
theorem d_Terms_makeRoom_114 : decode b_Terms_makeRoom 114 = .ok (.aload_n 0, 1) := by decide +kernel
theorem d_Terms_makeRoom_115 : decode b_Terms_makeRoom 115 = .ok (.getfield 27, 3) := by decide +kernel
theorem d_Terms_makeRoom_118 : decode b_Terms_makeRoom 118 = .ok (.iload_n 2, 1) := by decide +kernel
theorem d_Terms_makeRoom_119 : decode b_Terms_makeRoom 119 = .ok (.invokestatic 166, 3) := by decide +kernel
theorem d_Terms_makeRoom_122 : decode b_Terms_makeRoom 122 = .ok (.putfield 27, 3) := by decide +kernel
theorem d_Terms_makeRoom_125 : decode b_Terms_makeRoom 125 = .ok (.aload_n 0, 1) := by decide +kernel
theorem d_Terms_makeRoom_126 : decode b_Terms_makeRoom 126 = .ok (.aload_n 0, 1) := by decide +kernel
theorem d_Terms_makeRoom_127 : decode b_Terms_makeRoom 127 = .ok (.getfield 30, 3) := by decide +kernel
theorem d_Terms_makeRoom_130 : decode b_Terms_makeRoom 130 = .ok (.iload_n 2, 1) := by decide +kernel
theorem d_Terms_makeRoom_131 : decode b_Terms_makeRoom 131 = .ok (.invokestatic 166, 3) := by decide +kernel
theorem d_Terms_makeRoom_134 : decode b_Terms_makeRoom 134 = .ok (.putfield 30, 3) := by decide +kernel
theorem d_Terms_makeRoom_137 : decode b_Terms_makeRoom 137 = .ok (.aload_n 0, 1) := by decide +kernel
theorem d_Terms_makeRoom_138 : decode b_Terms_makeRoom 138 = .ok (.aload_n 0, 1) := by decide +kernel
theorem d_Terms_makeRoom_139 : decode b_Terms_makeRoom 139 = .ok (.getfield 33, 3) := by decide +kernel
theorem d_Terms_makeRoom_142 : decode b_Terms_makeRoom 142 = .ok (.iload_n 2, 1) := by decide +kernel
theorem d_Terms_makeRoom_143 : decode b_Terms_makeRoom 143 = .ok (.invokestatic 166, 3) := by decide +kernel
theorem d_Terms_makeRoom_146 : decode b_Terms_makeRoom 146 = .ok (.putfield 33, 3) := by decide +kernel
theorem d_Terms_makeRoom_149 : decode b_Terms_makeRoom 149 = .ok (.aload_n 0, 1) := by decide +kernel
theorem d_Terms_makeRoom_150 : decode b_Terms_makeRoom 150 = .ok (.aload_n 0, 1) := by decide +kernel
theorem d_Terms_makeRoom_151 : decode b_Terms_makeRoom 151 = .ok (.getfield 36, 3) := by decide +kernel
theorem d_Terms_makeRoom_154 : decode b_Terms_makeRoom 154 = .ok (.iload_n 2, 1) := by decide +kernel
theorem d_Terms_makeRoom_155 : decode b_Terms_makeRoom 155 = .ok (.invokestatic 166, 3) := by decide +kernel
theorem d_Terms_makeRoom_158 : decode b_Terms_makeRoom 158 = .ok (.putfield 36, 3) := by decide +kernel
theorem d_Terms_makeRoom_161 : decode b_Terms_makeRoom 161 = .ok (.aload_n 0, 1) := by decide +kernel
theorem d_Terms_makeRoom_162 : decode b_Terms_makeRoom 162 = .ok (.aload_n 0, 1) := by decide +kernel
theorem d_Terms_makeRoom_163 : decode b_Terms_makeRoom 163 = .ok (.getfield 39, 3) := by decide +kernel
theorem d_Terms_makeRoom_166 : decode b_Terms_makeRoom 166 = .ok (.iload_n 2, 1) := by decide +kernel
theorem d_Terms_makeRoom_167 : decode b_Terms_makeRoom 167 = .ok (.iconst (4), 1) := by decide +kernel
theorem d_Terms_makeRoom_168 : decode b_Terms_makeRoom 168 = .ok (.imul, 1) := by decide +kernel
theorem d_Terms_makeRoom_169 : decode b_Terms_makeRoom 169 = .ok (.invokestatic 166, 3) := by decide +kernel
theorem d_Terms_makeRoom_172 : decode b_Terms_makeRoom 172 = .ok (.putfield 39, 3) := by decide +kernel
theorem d_Terms_makeRoom_175 : decode b_Terms_makeRoom 175 = .ok (.return_, 1) := by decide +kernel
section
variable {p : Program} {l : Launch} {e : Env} {R : Room} {s : State} {m : MethodId} {args : Array Value} {below : List Frame} {meth : Method} {c : Code} {D : va_G} {base : Nat} {g : Nat → ClassId} {az : Nat → Nat} {kz : Nat × Nat}
set_option maxRecDepth 100000 in
set_option maxHeartbeats 4000000 in
theorem t_Terms_makeRoom_33  (B : xB p R s m args meth c b_Terms_makeRoom 3 R_Terms (Cond.code y_Terms_makeRoom b_Terms_makeRoom 3 none :: x_T) none 4 90 D x_cl (xty g) base)   (M : MS)  : Sn p l e R s m args below meth c 3 D x_cl base (xwd g) cM x_gr az kz (xfc cM) (xZ below args s D x_cl (xty g) base (xwd g) cM x_gr az kz ovU) 33 [] [(0, .ref 2)] M (m_Terms_makeRoom_33 M) := by
  unfold m_Terms_makeRoom_33
  refine s_aload_n B d_Terms_makeRoom_33 rfl ?_
  refine s_getI (k := 16) B xc_Terms kd_2 (by decide) rfl rfl fl_Terms_68 d_Terms_makeRoom_34 ?_
  refine s_aload_n B d_Terms_makeRoom_37 rfl ?_
  refine s_getS (k := 0) (n := 3) B xc_Terms kd_2 (by decide) rfl rfl fl_Terms_11 sr_2_0 d_Terms_makeRoom_38 ?_
  refine s_alen B (Or.inr kd_3) d_Terms_makeRoom_41 ?_
  refine s_icmp_ge B d_Terms_makeRoom_42 rfl (fun _ => ?_) (fun _ => ?_)
  · refine s_aload_n B d_Terms_makeRoom_46 rfl ?_
    refine s_getI (k := 16) B xc_Terms kd_2 (by decide) rfl rfl fl_Terms_68 d_Terms_makeRoom_47 ?_
    refine s_iconst (v := (2:Int32)) B d_Terms_makeRoom_50 (by decide) ?_
    refine s_imul B d_Terms_makeRoom_51 ?_
    refine s_istore_n B d_Terms_makeRoom_52 (by decide) ?_
    refine s_aload_n B d_Terms_makeRoom_53 rfl ?_
    refine s_aload_n B d_Terms_makeRoom_54 rfl ?_
    refine s_getS (k := 0) (n := 3) B xc_Terms kd_2 (by decide) rfl rfl fl_Terms_11 sr_2_0 d_Terms_makeRoom_55 ?_
    refine s_iload_n B d_Terms_makeRoom_58 rfl ?_
    refine s_pick (lv1 := [(0, .ref 2), (2, .int ((gI M 2 16) * (2:Int32)))]) [0, 2] rfl ?_
    refine s_grow (k := 0) B xc_Terms kd_2 (by decide) rfl rfl (List.mem_cons_of_mem _ ml_Terms_166) fl_Terms_11 rfl rfl sr_2_0 kd_3 d_Terms_makeRoom_59 d_Terms_makeRoom_62 rfl (by simp [xng, x_gr, kd_2]) (by decide) (by decide) (by decide) (fun M1 _ => ?_)
    refine s_aload_n B d_Terms_makeRoom_65 rfl ?_
    refine s_aload_n B d_Terms_makeRoom_66 rfl ?_
    refine s_getS (k := 1) (n := 4) B xc_Terms kd_2 (by decide) rfl rfl fl_Terms_15 sr_2_1 d_Terms_makeRoom_67 ?_
    refine s_iload_n B d_Terms_makeRoom_70 rfl ?_
    refine s_pick (lv1 := [(0, .ref 2), (2, .int ((gI M 2 16) * (2:Int32)))]) [0, 2] rfl ?_
    refine s_grow (k := 1) B xc_Terms kd_2 (by decide) rfl rfl (List.mem_cons_of_mem _ ml_Terms_166) fl_Terms_15 rfl rfl sr_2_1 kd_4 d_Terms_makeRoom_71 d_Terms_makeRoom_74 rfl (by simp [xng, x_gr, kd_2]) (by decide) (by decide) (by decide) (fun M2 _ => ?_)
    refine s_aload_n B d_Terms_makeRoom_77 rfl ?_
    refine s_aload_n B d_Terms_makeRoom_78 rfl ?_
    refine s_getS (k := 2) (n := 5) B xc_Terms kd_2 (by decide) rfl rfl fl_Terms_18 sr_2_2 d_Terms_makeRoom_79 ?_
    refine s_iload_n B d_Terms_makeRoom_82 rfl ?_
    refine s_pick (lv1 := [(0, .ref 2), (2, .int ((gI M 2 16) * (2:Int32)))]) [0, 2] rfl ?_
    refine s_grow (k := 2) B xc_Terms kd_2 (by decide) rfl rfl (List.mem_cons_of_mem _ ml_Terms_166) fl_Terms_18 rfl rfl sr_2_2 kd_5 d_Terms_makeRoom_83 d_Terms_makeRoom_86 rfl (by simp [xng, x_gr, kd_2]) (by decide) (by decide) (by decide) (fun M3 _ => ?_)
    refine s_aload_n B d_Terms_makeRoom_89 rfl ?_
    refine s_aload_n B d_Terms_makeRoom_90 rfl ?_
    refine s_getS (k := 3) (n := 6) B xc_Terms kd_2 (by decide) rfl rfl fl_Terms_21 sr_2_3 d_Terms_makeRoom_91 ?_
    refine s_iload_n B d_Terms_makeRoom_94 rfl ?_
    refine s_pick (lv1 := [(0, .ref 2), (2, .int ((gI M 2 16) * (2:Int32)))]) [0, 2] rfl ?_
    refine s_grow (k := 3) B xc_Terms kd_2 (by decide) rfl rfl (List.mem_cons_of_mem _ ml_Terms_166) fl_Terms_21 rfl rfl sr_2_3 kd_6 d_Terms_makeRoom_95 d_Terms_makeRoom_98 rfl (by simp [xng, x_gr, kd_2]) (by decide) (by decide) (by decide) (fun M4 _ => ?_)
    refine s_aload_n B d_Terms_makeRoom_101 rfl ?_
    refine s_aload_n B d_Terms_makeRoom_102 rfl ?_
    refine s_getS (k := 4) (n := 7) B xc_Terms kd_2 (by decide) rfl rfl fl_Terms_24 sr_2_4 d_Terms_makeRoom_103 ?_
    refine s_iload_n B d_Terms_makeRoom_106 rfl ?_
    refine s_pick (lv1 := [(0, .ref 2), (2, .int ((gI M 2 16) * (2:Int32)))]) [0, 2] rfl ?_
    refine s_grow (k := 4) B xc_Terms kd_2 (by decide) rfl rfl (List.mem_cons_of_mem _ ml_Terms_166) fl_Terms_24 rfl rfl sr_2_4 kd_7 d_Terms_makeRoom_107 d_Terms_makeRoom_110 rfl (by simp [xng, x_gr, kd_2]) (by decide) (by decide) (by decide) (fun M5 _ => ?_)
    refine s_aload_n B d_Terms_makeRoom_113 rfl ?_
    refine s_aload_n B d_Terms_makeRoom_114 rfl ?_
    refine s_getS (k := 5) (n := 8) B xc_Terms kd_2 (by decide) rfl rfl fl_Terms_27 sr_2_5 d_Terms_makeRoom_115 ?_
    refine s_iload_n B d_Terms_makeRoom_118 rfl ?_
    refine s_pick (lv1 := [(0, .ref 2), (2, .int ((gI M 2 16) * (2:Int32)))]) [0, 2] rfl ?_
    refine s_grow (k := 5) B xc_Terms kd_2 (by decide) rfl rfl (List.mem_cons_of_mem _ ml_Terms_166) fl_Terms_27 rfl rfl sr_2_5 kd_8 d_Terms_makeRoom_119 d_Terms_makeRoom_122 rfl (by simp [xng, x_gr, kd_2]) (by decide) (by decide) (by decide) (fun M6 _ => ?_)
    refine s_aload_n B d_Terms_makeRoom_125 rfl ?_
    refine s_aload_n B d_Terms_makeRoom_126 rfl ?_
    refine s_getS (k := 6) (n := 9) B xc_Terms kd_2 (by decide) rfl rfl fl_Terms_30 sr_2_6 d_Terms_makeRoom_127 ?_
    refine s_iload_n B d_Terms_makeRoom_130 rfl ?_
    refine s_pick (lv1 := [(0, .ref 2), (2, .int ((gI M 2 16) * (2:Int32)))]) [0, 2] rfl ?_
    refine s_grow (k := 6) B xc_Terms kd_2 (by decide) rfl rfl (List.mem_cons_of_mem _ ml_Terms_166) fl_Terms_30 rfl rfl sr_2_6 kd_9 d_Terms_makeRoom_131 d_Terms_makeRoom_134 rfl (by simp [xng, x_gr, kd_2]) (by decide) (by decide) (by decide) (fun M7 _ => ?_)
    refine s_aload_n B d_Terms_makeRoom_137 rfl ?_
    refine s_aload_n B d_Terms_makeRoom_138 rfl ?_
    refine s_getS (k := 7) (n := 10) B xc_Terms kd_2 (by decide) rfl rfl fl_Terms_33 sr_2_7 d_Terms_makeRoom_139 ?_
    refine s_iload_n B d_Terms_makeRoom_142 rfl ?_
    refine s_pick (lv1 := [(0, .ref 2), (2, .int ((gI M 2 16) * (2:Int32)))]) [0, 2] rfl ?_
    refine s_grow (k := 7) B xc_Terms kd_2 (by decide) rfl rfl (List.mem_cons_of_mem _ ml_Terms_166) fl_Terms_33 rfl rfl sr_2_7 kd_10 d_Terms_makeRoom_143 d_Terms_makeRoom_146 rfl (by simp [xng, x_gr, kd_2]) (by decide) (by decide) (by decide) (fun M8 _ => ?_)
    refine s_aload_n B d_Terms_makeRoom_149 rfl ?_
    refine s_aload_n B d_Terms_makeRoom_150 rfl ?_
    refine s_getS (k := 8) (n := 11) B xc_Terms kd_2 (by decide) rfl rfl fl_Terms_36 sr_2_8 d_Terms_makeRoom_151 ?_
    refine s_iload_n B d_Terms_makeRoom_154 rfl ?_
    refine s_pick (lv1 := [(0, .ref 2), (2, .int ((gI M 2 16) * (2:Int32)))]) [0, 2] rfl ?_
    refine s_grow (k := 8) B xc_Terms kd_2 (by decide) rfl rfl (List.mem_cons_of_mem _ ml_Terms_166) fl_Terms_36 rfl rfl sr_2_8 kd_11 d_Terms_makeRoom_155 d_Terms_makeRoom_158 rfl (by simp [xng, x_gr, kd_2]) (by decide) (by decide) (by decide) (fun M9 _ => ?_)
    refine s_aload_n B d_Terms_makeRoom_161 rfl ?_
    refine s_aload_n B d_Terms_makeRoom_162 rfl ?_
    refine s_getS (k := 9) (n := 12) B xc_Terms kd_2 (by decide) rfl rfl fl_Terms_39 sr_2_9 d_Terms_makeRoom_163 ?_
    refine s_iload_n B d_Terms_makeRoom_166 rfl ?_
    refine s_iconst (v := (4:Int32)) B d_Terms_makeRoom_167 (by decide) ?_
    refine s_imul B d_Terms_makeRoom_168 ?_
    refine s_pick (lv1 := []) [] rfl ?_
    refine s_grow (k := 9) B xc_Terms kd_2 (by decide) rfl rfl (List.mem_cons_of_mem _ ml_Terms_166) fl_Terms_39 rfl rfl sr_2_9 kd_12 d_Terms_makeRoom_169 d_Terms_makeRoom_172 rfl rfl (by decide) (by decide) (by decide) (fun M10 _ => ?_)
    exact s_vret B d_Terms_makeRoom_175
  · exact s_vret B d_Terms_makeRoom_45
set_option maxRecDepth 100000 in
set_option maxHeartbeats 4000000 in
theorem t_Terms_makeRoom (B : xB p R s m args meth c b_Terms_makeRoom 3 R_Terms (Cond.code y_Terms_makeRoom b_Terms_makeRoom 3 none :: x_T) none 4 90 D x_cl (xty g) base) (a1 : Int32) (M : MS) : Sn p l e R s m args below meth c 3 D x_cl base (xwd g) cM x_gr az kz (xfc cM) (xZ below args s D x_cl (xty g) base (xwd g) cM x_gr az kz ovU) 0 [] [(0, .ref 2), (1, .int a1)] M (m_Terms_makeRoom a1 M) := by
  unfold m_Terms_makeRoom
  refine s_aload_n B d_Terms_makeRoom_0 rfl ?_
  refine s_getI (k := 17) B xc_Terms kd_2 (by decide) rfl rfl fl_Terms_72 d_Terms_makeRoom_1 ?_
  refine s_iload_n B d_Terms_makeRoom_4 rfl ?_
  refine s_iadd B d_Terms_makeRoom_5 ?_
  refine s_aload_n B d_Terms_makeRoom_6 rfl ?_
  refine s_getS (k := 10) (n := 13) B xc_Terms kd_2 (by decide) rfl rfl fl_Terms_42 sr_2_10 d_Terms_makeRoom_7 ?_
  refine s_alen B (Or.inr kd_13) d_Terms_makeRoom_10 ?_
  refine s_icmp_le B d_Terms_makeRoom_11 rfl (fun _ => ?_) (fun _ => ?_)
  · refine s_pick (lv1 := [(0, .ref 2)]) [0] rfl ?_
    exact t_Terms_makeRoom_33 B M
  · refine s_aload_n B d_Terms_makeRoom_14 rfl ?_
    refine s_aload_n B d_Terms_makeRoom_15 rfl ?_
    refine s_getS (k := 10) (n := 13) B xc_Terms kd_2 (by decide) rfl rfl fl_Terms_42 sr_2_10 d_Terms_makeRoom_16 ?_
    refine s_aload_n B d_Terms_makeRoom_19 rfl ?_
    refine s_getI (k := 17) B xc_Terms kd_2 (by decide) rfl rfl fl_Terms_72 d_Terms_makeRoom_20 ?_
    refine s_iload_n B d_Terms_makeRoom_23 rfl ?_
    refine s_iadd B d_Terms_makeRoom_24 ?_
    refine s_iconst (v := (2:Int32)) B d_Terms_makeRoom_25 (by decide) ?_
    refine s_imul B d_Terms_makeRoom_26 ?_
    refine s_pick (lv1 := [(0, .ref 2)]) [0] rfl ?_
    refine s_grow (k := 10) B xc_Terms kd_2 (by decide) rfl rfl (List.mem_cons_of_mem _ ml_Terms_166) fl_Terms_42 rfl rfl sr_2_10 kd_13 d_Terms_makeRoom_27 d_Terms_makeRoom_30 rfl (by simp [xng, x_gr, kd_2]) (by decide) (by decide) (by decide) (fun M1 _ => ?_)
    refine s_pick (lv1 := [(0, .ref 2)]) [0] rfl ?_
    exact t_Terms_makeRoom_33 B M1
set_option maxRecDepth 100000 in
set_option maxHeartbeats 4000000 in
theorem ct_Terms_makeRoom {l : Launch} {D : va_G} {base : Nat} {g : Nat → ClassId} (a1 : Int32) (M : MS) (r : MS × Unit) (hr : m_Terms_makeRoom a1 M = some r) : Ct l y_Terms_makeRoom (Cond.code y_Terms_makeRoom b_Terms_makeRoom 3 none :: x_T) 4 90 D x_cl (xty g) base (xwd g) cM x_gr [.ref 2, .int a1] M r.1 (ovU r.2) :=
  x_met (ov := ovU) (by decide) (Nat.le_of_ble_eq_true rfl) (fun p e R s m args below meth c az B => t_Terms_makeRoom B a1 M) r hr
end
theorem d_Terms_isNullableWith_0 : decode b_Terms_isNullableWith 0 = .ok (.iload_n 0, 1) := by decide +kernel
theorem d_Terms_isNullableWith_1 : decode b_Terms_isNullableWith 1 = .ok (.tableswitch (53) (4) (7) #[43, 53, 33, 31], 31) := by decide +kernel
theorem d_Terms_isNullableWith_32 : decode b_Terms_isNullableWith 32 = .ok (.iconst (1), 1) := by decide +kernel
theorem d_Terms_isNullableWith_33 : decode b_Terms_isNullableWith 33 = .ok (.ireturn, 1) := by decide +kernel
theorem d_Terms_isNullableWith_34 : decode b_Terms_isNullableWith 34 = .ok (.iload_n 1, 1) := by decide +kernel
theorem d_Terms_isNullableWith_35 : decode b_Terms_isNullableWith 35 = .ok (.ifCond .ne (7), 3) := by decide +kernel
theorem d_Terms_isNullableWith_38 : decode b_Terms_isNullableWith 38 = .ok (.iconst (1), 1) := by decide +kernel
theorem d_Terms_isNullableWith_39 : decode b_Terms_isNullableWith 39 = .ok (.goto (4), 3) := by decide +kernel
theorem d_Terms_isNullableWith_42 : decode b_Terms_isNullableWith 42 = .ok (.iconst (0), 1) := by decide +kernel
theorem d_Terms_isNullableWith_43 : decode b_Terms_isNullableWith 43 = .ok (.ireturn, 1) := by decide +kernel
theorem d_Terms_isNullableWith_44 : decode b_Terms_isNullableWith 44 = .ok (.iload_n 1, 1) := by decide +kernel
theorem d_Terms_isNullableWith_45 : decode b_Terms_isNullableWith 45 = .ok (.ifCond .le (7), 3) := by decide +kernel
theorem d_Terms_isNullableWith_48 : decode b_Terms_isNullableWith 48 = .ok (.iconst (1), 1) := by decide +kernel
theorem d_Terms_isNullableWith_49 : decode b_Terms_isNullableWith 49 = .ok (.goto (4), 3) := by decide +kernel
theorem d_Terms_isNullableWith_52 : decode b_Terms_isNullableWith 52 = .ok (.iconst (0), 1) := by decide +kernel
theorem d_Terms_isNullableWith_53 : decode b_Terms_isNullableWith 53 = .ok (.ireturn, 1) := by decide +kernel
theorem d_Terms_isNullableWith_54 : decode b_Terms_isNullableWith 54 = .ok (.iload_n 1, 1) := by decide +kernel
theorem d_Terms_isNullableWith_55 : decode b_Terms_isNullableWith 55 = .ok (.iload_n 2, 1) := by decide +kernel
theorem d_Terms_isNullableWith_56 : decode b_Terms_isNullableWith 56 = .ok (.if_icmp .ne (7), 3) := by decide +kernel
theorem d_Terms_isNullableWith_59 : decode b_Terms_isNullableWith 59 = .ok (.iconst (1), 1) := by decide +kernel
theorem d_Terms_isNullableWith_60 : decode b_Terms_isNullableWith 60 = .ok (.goto (4), 3) := by decide +kernel
theorem d_Terms_isNullableWith_63 : decode b_Terms_isNullableWith 63 = .ok (.iconst (0), 1) := by decide +kernel
theorem d_Terms_isNullableWith_64 : decode b_Terms_isNullableWith 64 = .ok (.ireturn, 1) := by decide +kernel
section
variable {p : Program} {l : Launch} {e : Env} {R : Room} {s : State} {m : MethodId} {args : Array Value} {below : List Frame} {meth : Method} {c : Code} {D : va_G} {base : Nat} {g : Nat → ClassId} {az : Nat → Nat} {kz : Nat × Nat}
set_option maxRecDepth 100000 in
set_option maxHeartbeats 4000000 in
theorem t_Terms_isNullableWith (B : xB p R s m args meth c b_Terms_isNullableWith 3 R_Terms (Cond.code y_Terms_isNullableWith b_Terms_isNullableWith 3 (some .boolean) :: x_T) (some .boolean) 0 0 D x_cl (xty g) base) (a0 : Int32) (a1 : Int32) (a2 : Int32) (M : MS) : Sn p l e R s m args below meth c 3 D x_cl base (xwd g) cM x_g0 az kz (xfc cM) (xZ below args s D x_cl (xty g) base (xwd g) cM x_g0 az kz ovI) 0 [] [(0, .int a0), (1, .int a1), (2, .int a2)] M (m_Terms_isNullableWith a0 a1 a2 M) := by
  unfold m_Terms_isNullableWith
  refine s_iload_n B d_Terms_isNullableWith_0 rfl ?_
  refine s_if (fun h0_ => ?_) (fun h0_ => ?_)
  · refine s_tabIn B d_Terms_isNullableWith_1 (by rw [h0_]; decide) (by rw [h0_]; decide) (by rw [h0_]; rfl) rfl ?_
    refine s_iload_n B d_Terms_isNullableWith_44 rfl ?_
    refine s_if_le B d_Terms_isNullableWith_45 rfl (fun _ => ?_) (fun _ => ?_)
    · refine s_iconst (v := (0:Int32)) B d_Terms_isNullableWith_52 (by decide) ?_
      exact s_zret0 rfl B d_Terms_isNullableWith_53
    · refine s_iconst (v := (1:Int32)) B d_Terms_isNullableWith_48 (by decide) ?_
      refine s_goto B d_Terms_isNullableWith_49 rfl ?_
      exact s_zret0 rfl B d_Terms_isNullableWith_53
  · refine s_if (fun h1_ => ?_) (fun h1_ => ?_)
    · refine s_tabIn B d_Terms_isNullableWith_1 (by rw [h1_]; decide) (by rw [h1_]; decide) (by rw [h1_]; rfl) rfl ?_
      refine s_iload_n B d_Terms_isNullableWith_54 rfl ?_
      refine s_iload_n B d_Terms_isNullableWith_55 rfl ?_
      refine s_icmp_ne B d_Terms_isNullableWith_56 rfl (fun _ => ?_) (fun _ => ?_)
      · refine s_iconst (v := (0:Int32)) B d_Terms_isNullableWith_63 (by decide) ?_
        exact s_zret0 rfl B d_Terms_isNullableWith_64
      · refine s_iconst (v := (1:Int32)) B d_Terms_isNullableWith_59 (by decide) ?_
        refine s_goto B d_Terms_isNullableWith_60 rfl ?_
        exact s_zret0 rfl B d_Terms_isNullableWith_64
    · refine s_if (fun h2_ => ?_) (fun h2_ => ?_)
      · refine s_tabIn B d_Terms_isNullableWith_1 (by rw [h2_]; decide) (by rw [h2_]; decide) (by rw [h2_]; rfl) rfl ?_
        refine s_iload_n B d_Terms_isNullableWith_34 rfl ?_
        refine s_if_ne B d_Terms_isNullableWith_35 rfl (fun _ => ?_) (fun _ => ?_)
        · refine s_iconst (v := (0:Int32)) B d_Terms_isNullableWith_42 (by decide) ?_
          exact s_zret0 rfl B d_Terms_isNullableWith_43
        · refine s_iconst (v := (1:Int32)) B d_Terms_isNullableWith_38 (by decide) ?_
          refine s_goto B d_Terms_isNullableWith_39 rfl ?_
          exact s_zret0 rfl B d_Terms_isNullableWith_43
      · refine s_if (fun h3_ => ?_) (fun h3_ => ?_)
        · refine s_tabIn B d_Terms_isNullableWith_1 (by rw [h3_]; decide) (by rw [h3_]; decide) (by rw [h3_]; rfl) rfl ?_
          refine s_iconst (v := (1:Int32)) B d_Terms_isNullableWith_32 (by decide) ?_
          exact s_zret0 rfl B d_Terms_isNullableWith_33
        · refine s_tabOut B d_Terms_isNullableWith_1 (by have q0 := lv_neT h0_ (by decide : (4:Int32).toInt = 4); have q1 := lv_neT h1_ (by decide : (5:Int32).toInt = 5); have q2 := lv_neT h2_ (by decide : (6:Int32).toInt = 6); have q3 := lv_neT h3_ (by decide : (7:Int32).toInt = 7); omega) rfl ?_
          refine s_iload_n B d_Terms_isNullableWith_54 rfl ?_
          refine s_iload_n B d_Terms_isNullableWith_55 rfl ?_
          refine s_icmp_ne B d_Terms_isNullableWith_56 rfl (fun _ => ?_) (fun _ => ?_)
          · refine s_iconst (v := (0:Int32)) B d_Terms_isNullableWith_63 (by decide) ?_
            exact s_zret0 rfl B d_Terms_isNullableWith_64
          · refine s_iconst (v := (1:Int32)) B d_Terms_isNullableWith_59 (by decide) ?_
            refine s_goto B d_Terms_isNullableWith_60 rfl ?_
            exact s_zret0 rfl B d_Terms_isNullableWith_64
set_option maxRecDepth 100000 in
set_option maxHeartbeats 4000000 in
theorem ct_Terms_isNullableWith {l : Launch} {D : va_G} {base : Nat} {g : Nat → ClassId} (a0 : Int32) (a1 : Int32) (a2 : Int32) (M : MS) (r : MS × Int32) (hr : m_Terms_isNullableWith a0 a1 a2 M = some r) : Ct l y_Terms_isNullableWith (Cond.code y_Terms_isNullableWith b_Terms_isNullableWith 3 (some .boolean) :: x_T) 0 0 D x_cl (xty g) base (xwd g) cM x_g0 [.int a0, .int a1, .int a2] M r.1 (ovI r.2) :=
  x_met (ov := ovI) (by decide) (Nat.le_of_ble_eq_true rfl) (fun p e R s m args below meth c az B => t_Terms_isNullableWith B a0 a1 a2 M) r hr
end
theorem d_Terms_addNode_0 : decode b_Terms_addNode 0 = .ok (.aload_n 0, 1) := by decide +kernel
theorem d_Terms_addNode_1 : decode b_Terms_addNode 1 = .ok (.getfield 68, 3) := by decide +kernel
theorem d_Terms_addNode_4 : decode b_Terms_addNode 4 = .ok (.istore 4, 2) := by decide +kernel
theorem d_Terms_addNode_6 : decode b_Terms_addNode 6 = .ok (.aload_n 0, 1) := by decide +kernel
theorem d_Terms_addNode_7 : decode b_Terms_addNode 7 = .ok (.dup, 1) := by decide +kernel
theorem d_Terms_addNode_8 : decode b_Terms_addNode 8 = .ok (.getfield 68, 3) := by decide +kernel
theorem d_Terms_addNode_11 : decode b_Terms_addNode 11 = .ok (.iconst (1), 1) := by decide +kernel
theorem d_Terms_addNode_12 : decode b_Terms_addNode 12 = .ok (.iadd, 1) := by decide +kernel
theorem d_Terms_addNode_13 : decode b_Terms_addNode 13 = .ok (.putfield 68, 3) := by decide +kernel
theorem d_Terms_addNode_16 : decode b_Terms_addNode 16 = .ok (.aload_n 0, 1) := by decide +kernel
theorem d_Terms_addNode_17 : decode b_Terms_addNode 17 = .ok (.getfield 11, 3) := by decide +kernel
theorem d_Terms_addNode_20 : decode b_Terms_addNode 20 = .ok (.iload 4, 2) := by decide +kernel
theorem d_Terms_addNode_22 : decode b_Terms_addNode 22 = .ok (.iload_n 1, 1) := by decide +kernel
theorem d_Terms_addNode_23 : decode b_Terms_addNode 23 = .ok (.iastore, 1) := by decide +kernel
theorem d_Terms_addNode_24 : decode b_Terms_addNode 24 = .ok (.aload_n 0, 1) := by decide +kernel
theorem d_Terms_addNode_25 : decode b_Terms_addNode 25 = .ok (.getfield 21, 3) := by decide +kernel
theorem d_Terms_addNode_28 : decode b_Terms_addNode 28 = .ok (.iload 4, 2) := by decide +kernel
theorem d_Terms_addNode_30 : decode b_Terms_addNode 30 = .ok (.aload_n 0, 1) := by decide +kernel
theorem d_Terms_addNode_31 : decode b_Terms_addNode 31 = .ok (.getfield 72, 3) := by decide +kernel
theorem d_Terms_addNode_34 : decode b_Terms_addNode 34 = .ok (.iastore, 1) := by decide +kernel
theorem d_Terms_addNode_35 : decode b_Terms_addNode 35 = .ok (.aload_n 0, 1) := by decide +kernel
theorem d_Terms_addNode_36 : decode b_Terms_addNode 36 = .ok (.getfield 24, 3) := by decide +kernel
theorem d_Terms_addNode_39 : decode b_Terms_addNode 39 = .ok (.iload 4, 2) := by decide +kernel
theorem d_Terms_addNode_41 : decode b_Terms_addNode 41 = .ok (.aload_n 2, 1) := by decide +kernel
theorem d_Terms_addNode_42 : decode b_Terms_addNode 42 = .ok (.invokevirtual 99, 3) := by decide +kernel
theorem d_Terms_addNode_45 : decode b_Terms_addNode 45 = .ok (.iastore, 1) := by decide +kernel
theorem d_Terms_addNode_46 : decode b_Terms_addNode 46 = .ok (.iconst (1), 1) := by decide +kernel
theorem d_Terms_addNode_47 : decode b_Terms_addNode 47 = .ok (.istore 5, 2) := by decide +kernel
theorem d_Terms_addNode_49 : decode b_Terms_addNode 49 = .ok (.iconst (0), 1) := by decide +kernel
theorem d_Terms_addNode_50 : decode b_Terms_addNode 50 = .ok (.istore 6, 2) := by decide +kernel
theorem d_Terms_addNode_52 : decode b_Terms_addNode 52 = .ok (.iconst (0), 1) := by decide +kernel
theorem d_Terms_addNode_53 : decode b_Terms_addNode 53 = .ok (.istore 7, 2) := by decide +kernel
theorem d_Terms_addNode_55 : decode b_Terms_addNode 55 = .ok (.iload 7, 2) := by decide +kernel
theorem d_Terms_addNode_57 : decode b_Terms_addNode 57 = .ok (.aload_n 2, 1) := by decide +kernel
theorem d_Terms_addNode_58 : decode b_Terms_addNode 58 = .ok (.invokevirtual 99, 3) := by decide +kernel
theorem d_Terms_addNode_61 : decode b_Terms_addNode 61 = .ok (.if_icmp .ge (62), 3) := by decide +kernel
theorem d_Terms_addNode_64 : decode b_Terms_addNode 64 = .ok (.aload_n 2, 1) := by decide +kernel
theorem d_Terms_addNode_65 : decode b_Terms_addNode 65 = .ok (.iload 7, 2) := by decide +kernel
theorem d_Terms_addNode_67 : decode b_Terms_addNode 67 = .ok (.invokevirtual 102, 3) := by decide +kernel
theorem d_Terms_addNode_70 : decode b_Terms_addNode 70 = .ok (.istore 8, 2) := by decide +kernel
theorem d_Terms_addNode_72 : decode b_Terms_addNode 72 = .ok (.aload_n 0, 1) := by decide +kernel
theorem d_Terms_addNode_73 : decode b_Terms_addNode 73 = .ok (.getfield 42, 3) := by decide +kernel
theorem d_Terms_addNode_76 : decode b_Terms_addNode 76 = .ok (.aload_n 0, 1) := by decide +kernel
theorem d_Terms_addNode_77 : decode b_Terms_addNode 77 = .ok (.getfield 72, 3) := by decide +kernel
theorem d_Terms_addNode_80 : decode b_Terms_addNode 80 = .ok (.iload 8, 2) := by decide +kernel
theorem d_Terms_addNode_82 : decode b_Terms_addNode 82 = .ok (.iastore, 1) := by decide +kernel
theorem d_Terms_addNode_83 : decode b_Terms_addNode 83 = .ok (.aload_n 0, 1) := by decide +kernel
theorem d_Terms_addNode_84 : decode b_Terms_addNode 84 = .ok (.dup, 1) := by decide +kernel
theorem d_Terms_addNode_85 : decode b_Terms_addNode 85 = .ok (.getfield 72, 3) := by decide +kernel
theorem d_Terms_addNode_88 : decode b_Terms_addNode 88 = .ok (.iconst (1), 1) := by decide +kernel
theorem d_Terms_addNode_89 : decode b_Terms_addNode 89 = .ok (.iadd, 1) := by decide +kernel
theorem d_Terms_addNode_90 : decode b_Terms_addNode 90 = .ok (.putfield 72, 3) := by decide +kernel
theorem d_Terms_addNode_93 : decode b_Terms_addNode 93 = .ok (.iload 5, 2) := by decide +kernel
theorem d_Terms_addNode_95 : decode b_Terms_addNode 95 = .ok (.aload_n 0, 1) := by decide +kernel
theorem d_Terms_addNode_96 : decode b_Terms_addNode 96 = .ok (.getfield 15, 3) := by decide +kernel
theorem d_Terms_addNode_99 : decode b_Terms_addNode 99 = .ok (.iload 8, 2) := by decide +kernel
theorem d_Terms_addNode_101 : decode b_Terms_addNode 101 = .ok (.iaload, 1) := by decide +kernel
theorem d_Terms_addNode_102 : decode b_Terms_addNode 102 = .ok (.iadd, 1) := by decide +kernel
theorem d_Terms_addNode_103 : decode b_Terms_addNode 103 = .ok (.istore 5, 2) := by decide +kernel
theorem d_Terms_addNode_105 : decode b_Terms_addNode 105 = .ok (.iload 6, 2) := by decide +kernel
theorem d_Terms_addNode_107 : decode b_Terms_addNode 107 = .ok (.aload_n 0, 1) := by decide +kernel
theorem d_Terms_addNode_108 : decode b_Terms_addNode 108 = .ok (.getfield 18, 3) := by decide +kernel
theorem d_Terms_addNode_111 : decode b_Terms_addNode 111 = .ok (.iload 8, 2) := by decide +kernel
theorem d_Terms_addNode_113 : decode b_Terms_addNode 113 = .ok (.iaload, 1) := by decide +kernel
theorem d_Terms_addNode_114 : decode b_Terms_addNode 114 = .ok (.iadd, 1) := by decide +kernel
theorem d_Terms_addNode_115 : decode b_Terms_addNode 115 = .ok (.istore 6, 2) := by decide +kernel
theorem d_Terms_addNode_117 : decode b_Terms_addNode 117 = .ok (.iinc 7 (1), 3) := by decide +kernel
theorem d_Terms_addNode_120 : decode b_Terms_addNode 120 = .ok (.goto (-65), 3) := by decide +kernel
theorem d_Terms_addNode_123 : decode b_Terms_addNode 123 = .ok (.aload_n 0, 1) := by decide +kernel
theorem d_Terms_addNode_124 : decode b_Terms_addNode 124 = .ok (.getfield 15, 3) := by decide +kernel
theorem d_Terms_addNode_127 : decode b_Terms_addNode 127 = .ok (.iload 4, 2) := by decide +kernel
theorem d_Terms_addNode_129 : decode b_Terms_addNode 129 = .ok (.iload 5, 2) := by decide +kernel
theorem d_Terms_addNode_131 : decode b_Terms_addNode 131 = .ok (.iastore, 1) := by decide +kernel
theorem d_Terms_addNode_132 : decode b_Terms_addNode 132 = .ok (.aload_n 0, 1) := by decide +kernel
theorem d_Terms_addNode_133 : decode b_Terms_addNode 133 = .ok (.getfield 18, 3) := by decide +kernel
theorem d_Terms_addNode_136 : decode b_Terms_addNode 136 = .ok (.iload 4, 2) := by decide +kernel
theorem d_Terms_addNode_138 : decode b_Terms_addNode 138 = .ok (.iload_n 1, 1) := by decide +kernel
theorem d_Terms_addNode_139 : decode b_Terms_addNode 139 = .ok (.iload 6, 2) := by decide +kernel
theorem d_Terms_addNode_141 : decode b_Terms_addNode 141 = .ok (.aload_n 2, 1) := by decide +kernel
theorem d_Terms_addNode_142 : decode b_Terms_addNode 142 = .ok (.invokevirtual 99, 3) := by decide +kernel
theorem d_Terms_addNode_145 : decode b_Terms_addNode 145 = .ok (.invokestatic 162, 3) := by decide +kernel
theorem d_Terms_addNode_148 : decode b_Terms_addNode 148 = .ok (.ifCond .eq (7), 3) := by decide +kernel
theorem d_Terms_addNode_151 : decode b_Terms_addNode 151 = .ok (.iconst (1), 1) := by decide +kernel
theorem d_Terms_addNode_152 : decode b_Terms_addNode 152 = .ok (.goto (4), 3) := by decide +kernel
theorem d_Terms_addNode_155 : decode b_Terms_addNode 155 = .ok (.iconst (0), 1) := by decide +kernel
theorem d_Terms_addNode_156 : decode b_Terms_addNode 156 = .ok (.iastore, 1) := by decide +kernel
theorem d_Terms_addNode_157 : decode b_Terms_addNode 157 = .ok (.iconst (0), 1) := by decide +kernel
theorem d_Terms_addNode_158 : decode b_Terms_addNode 158 = .ok (.istore 7, 2) := by decide +kernel
theorem d_Terms_addNode_160 : decode b_Terms_addNode 160 = .ok (.iload 7, 2) := by decide +kernel
theorem d_Terms_addNode_162 : decode b_Terms_addNode 162 = .ok (.iconst (4), 1) := by decide +kernel
theorem d_Terms_addNode_163 : decode b_Terms_addNode 163 = .ok (.if_icmp .ge (22), 3) := by decide +kernel
theorem d_Terms_addNode_166 : decode b_Terms_addNode 166 = .ok (.aload_n 0, 1) := by decide +kernel
theorem d_Terms_addNode_167 : decode b_Terms_addNode 167 = .ok (.getfield 39, 3) := by decide +kernel
theorem d_Terms_addNode_170 : decode b_Terms_addNode 170 = .ok (.iload 4, 2) := by decide +kernel
theorem d_Terms_addNode_172 : decode b_Terms_addNode 172 = .ok (.iconst (4), 1) := by decide +kernel
theorem d_Terms_addNode_173 : decode b_Terms_addNode 173 = .ok (.imul, 1) := by decide +kernel
theorem d_Terms_addNode_174 : decode b_Terms_addNode 174 = .ok (.iload 7, 2) := by decide +kernel
theorem d_Terms_addNode_176 : decode b_Terms_addNode 176 = .ok (.iadd, 1) := by decide +kernel
theorem d_Terms_addNode_177 : decode b_Terms_addNode 177 = .ok (.iconst (-1), 1) := by decide +kernel
theorem d_Terms_addNode_178 : decode b_Terms_addNode 178 = .ok (.iastore, 1) := by decide +kernel
theorem d_Terms_addNode_179 : decode b_Terms_addNode 179 = .ok (.iinc 7 (1), 3) := by decide +kernel
theorem d_Terms_addNode_182 : decode b_Terms_addNode 182 = .ok (.goto (-22), 3) := by decide +kernel
theorem d_Terms_addNode_185 : decode b_Terms_addNode 185 = .ok (.aload_n 0, 1) := by decide +kernel
theorem d_Terms_addNode_186 : decode b_Terms_addNode 186 = .ok (.getfield 33, 3) := by decide +kernel
theorem d_Terms_addNode_189 : decode b_Terms_addNode 189 = .ok (.iload 4, 2) := by decide +kernel
theorem d_Terms_addNode_191 : decode b_Terms_addNode 191 = .ok (.iconst (0), 1) := by decide +kernel
theorem d_Terms_addNode_192 : decode b_Terms_addNode 192 = .ok (.iastore, 1) := by decide +kernel
theorem d_Terms_addNode_193 : decode b_Terms_addNode 193 = .ok (.aload_n 0, 1) := by decide +kernel
theorem d_Terms_addNode_194 : decode b_Terms_addNode 194 = .ok (.getfield 27, 3) := by decide +kernel
theorem d_Terms_addNode_197 : decode b_Terms_addNode 197 = .ok (.iload 4, 2) := by decide +kernel
theorem d_Terms_addNode_199 : decode b_Terms_addNode 199 = .ok (.iload_n 3, 1) := by decide +kernel
theorem d_Terms_addNode_200 : decode b_Terms_addNode 200 = .ok (.iastore, 1) := by decide +kernel
theorem d_Terms_addNode_201 : decode b_Terms_addNode 201 = .ok (.aload_n 0, 1) := by decide +kernel
theorem d_Terms_addNode_202 : decode b_Terms_addNode 202 = .ok (.getfield 30, 3) := by decide +kernel
theorem d_Terms_addNode_205 : decode b_Terms_addNode 205 = .ok (.iload 4, 2) := by decide +kernel
theorem d_Terms_addNode_207 : decode b_Terms_addNode 207 = .ok (.aload_n 0, 1) := by decide +kernel
theorem d_Terms_addNode_208 : decode b_Terms_addNode 208 = .ok (.getfield 45, 3) := by decide +kernel
theorem d_Terms_addNode_211 : decode b_Terms_addNode 211 = .ok (.iload_n 3, 1) := by decide +kernel
theorem d_Terms_addNode_212 : decode b_Terms_addNode 212 = .ok (.bipush (22), 2) := by decide +kernel
theorem d_Terms_addNode_214 : decode b_Terms_addNode 214 = .ok (.iushr, 1) := by decide +kernel
theorem d_Terms_addNode_215 : decode b_Terms_addNode 215 = .ok (.iaload, 1) := by decide +kernel
theorem d_Terms_addNode_216 : decode b_Terms_addNode 216 = .ok (.iastore, 1) := by decide +kernel
theorem d_Terms_addNode_217 : decode b_Terms_addNode 217 = .ok (.aload_n 0, 1) := by decide +kernel
theorem d_Terms_addNode_218 : decode b_Terms_addNode 218 = .ok (.getfield 45, 3) := by decide +kernel
theorem d_Terms_addNode_221 : decode b_Terms_addNode 221 = .ok (.iload_n 3, 1) := by decide +kernel
theorem d_Terms_addNode_222 : decode b_Terms_addNode 222 = .ok (.bipush (22), 2) := by decide +kernel
theorem d_Terms_addNode_224 : decode b_Terms_addNode 224 = .ok (.iushr, 1) := by decide +kernel
theorem d_Terms_addNode_225 : decode b_Terms_addNode 225 = .ok (.iload 4, 2) := by decide +kernel
theorem d_Terms_addNode_227 : decode b_Terms_addNode 227 = .ok (.iastore, 1) := by decide +kernel
theorem d_Terms_addNode_228 : decode b_Terms_addNode 228 = .ok (.iload 4, 2) := by decide +kernel
theorem d_Terms_addNode_230 : decode b_Terms_addNode 230 = .ok (.ireturn, 1) := by decide +kernel
section
variable {p : Program} {l : Launch} {e : Env} {R : Room} {s : State} {m : MethodId} {args : Array Value} {below : List Frame} {meth : Method} {c : Code} {D : va_G} {base : Nat} {g : Nat → ClassId} {az : Nat → Nat} {kz : Nat × Nat}
set_option maxRecDepth 100000 in
set_option maxHeartbeats 4000000 in
theorem t_Terms_addNode_185  (B : xB p R s m args meth c b_Terms_addNode 9 R_Terms (Cond.code y_Terms_addNode b_Terms_addNode 9 (some .int) :: x_T) (some .int) 1 22 D x_cl (xty g) base)  (l3 : Int32) (l4 : Int32) (M : MS)  : Sn p l e R s m args below meth c 9 D x_cl base (xwd g) cM x_g0 az kz (xfc cM) (xZ below args s D x_cl (xty g) base (xwd g) cM x_g0 az kz ovI) 185 [] [(0, .ref 2), (3, .int l3), (4, .int l4)] M (m_Terms_addNode_185 l3 l4 M) := by
  unfold m_Terms_addNode_185
  refine s_aload_n B d_Terms_addNode_185 rfl ?_
  refine s_getS (k := 7) (n := 10) B xc_Terms kd_2 (by decide) rfl rfl fl_Terms_33 sr_2_7 d_Terms_addNode_186 ?_
  refine s_iload B d_Terms_addNode_189 rfl ?_
  refine s_iconst (v := (0:Int32)) B d_Terms_addNode_191 (by decide) ?_
  refine s_iast B (Or.inr kd_10) d_Terms_addNode_192 (fun M1 _ => ?_)
  refine s_aload_n B d_Terms_addNode_193 rfl ?_
  refine s_getS (k := 5) (n := 8) B xc_Terms kd_2 (by decide) rfl rfl fl_Terms_27 sr_2_5 d_Terms_addNode_194 ?_
  refine s_iload B d_Terms_addNode_197 rfl ?_
  refine s_iload_n B d_Terms_addNode_199 rfl ?_
  refine s_iast B (Or.inr kd_8) d_Terms_addNode_200 (fun M2 _ => ?_)
  refine s_aload_n B d_Terms_addNode_201 rfl ?_
  refine s_getS (k := 6) (n := 9) B xc_Terms kd_2 (by decide) rfl rfl fl_Terms_30 sr_2_6 d_Terms_addNode_202 ?_
  refine s_iload B d_Terms_addNode_205 rfl ?_
  refine s_aload_n B d_Terms_addNode_207 rfl ?_
  refine s_getS (k := 11) (n := 14) B xc_Terms kd_2 (by decide) rfl rfl fl_Terms_45 sr_2_11 d_Terms_addNode_208 ?_
  refine s_iload_n B d_Terms_addNode_211 rfl ?_
  refine s_bipush (v := (22:Int32)) B d_Terms_addNode_212 (by decide) ?_
  refine s_iushr B d_Terms_addNode_214 ?_
  refine s_iald B (Or.inl kd_14) d_Terms_addNode_215 (fun v3 _ => ?_)
  refine s_iast B (Or.inr kd_9) d_Terms_addNode_216 (fun M4 _ => ?_)
  refine s_aload_n B d_Terms_addNode_217 rfl ?_
  refine s_getS (k := 11) (n := 14) B xc_Terms kd_2 (by decide) rfl rfl fl_Terms_45 sr_2_11 d_Terms_addNode_218 ?_
  refine s_iload_n B d_Terms_addNode_221 rfl ?_
  refine s_bipush (v := (22:Int32)) B d_Terms_addNode_222 (by decide) ?_
  refine s_iushr B d_Terms_addNode_224 ?_
  refine s_iload B d_Terms_addNode_225 rfl ?_
  refine s_iast B (Or.inl kd_14) d_Terms_addNode_227 (fun M5 _ => ?_)
  refine s_iload B d_Terms_addNode_228 rfl ?_
  exact s_iret B d_Terms_addNode_230
set_option maxRecDepth 100000 in
set_option maxHeartbeats 4000000 in
theorem t_Terms_addNode_160b {k160 : Int32 × Int32 × Int32 × MS → Option (MS × Int32)} (B : xB p R s m args meth c b_Terms_addNode 9 R_Terms (Cond.code y_Terms_addNode b_Terms_addNode 9 (some .int) :: x_T) (some .int) 1 22 D x_cl (xty g) base) (hk160 : ∀ (l3 : Int32) (l4 : Int32) (l7 : Int32) (M : MS) , Sn p l e R s m args below meth c 9 D x_cl base (xwd g) cM x_g0 az kz (xfc cM) (xZ below args s D x_cl (xty g) base (xwd g) cM x_g0 az kz ovI) 160 [] [(0, .ref 2), (3, .int l3), (4, .int l4), (7, .int l7)] M (k160 (l3, l4, l7, M))) (l3 : Int32) (l4 : Int32) (l7 : Int32) (M : MS)  : Sn p l e R s m args below meth c 9 D x_cl base (xwd g) cM x_g0 az kz (xfc cM) (xZ below args s D x_cl (xty g) base (xwd g) cM x_g0 az kz ovI) 160 [] [(0, .ref 2), (3, .int l3), (4, .int l4), (7, .int l7)] M (m_Terms_addNode_160b k160 l3 l4 l7 M) := by
  unfold m_Terms_addNode_160b
  refine s_iload B d_Terms_addNode_160 rfl ?_
  refine s_iconst (v := (4:Int32)) B d_Terms_addNode_162 (by decide) ?_
  refine s_icmp_ge B d_Terms_addNode_163 rfl (fun _ => ?_) (fun _ => ?_)
  · refine s_pick (lv1 := [(0, .ref 2), (3, .int l3), (4, .int l4)]) [0, 3, 4] rfl ?_
    exact t_Terms_addNode_185 B l3 l4 M
  · refine s_aload_n B d_Terms_addNode_166 rfl ?_
    refine s_getS (k := 9) (n := 12) B xc_Terms kd_2 (by decide) rfl rfl fl_Terms_39 sr_2_9 d_Terms_addNode_167 ?_
    refine s_iload B d_Terms_addNode_170 rfl ?_
    refine s_iconst (v := (4:Int32)) B d_Terms_addNode_172 (by decide) ?_
    refine s_imul B d_Terms_addNode_173 ?_
    refine s_iload B d_Terms_addNode_174 rfl ?_
    refine s_iadd B d_Terms_addNode_176 ?_
    refine s_iconst (v := (-1:Int32)) B d_Terms_addNode_177 (by decide) ?_
    refine s_iast B (Or.inr kd_12) d_Terms_addNode_178 (fun M1 _ => ?_)
    refine s_iinc (w := (1:Int32)) B d_Terms_addNode_179 rfl (by decide) (by decide) ?_
    refine s_goto B d_Terms_addNode_182 rfl ?_
    refine s_pick (lv1 := [(0, .ref 2), (3, .int l3), (4, .int l4), (7, .int (l7 + (1:Int32)))]) [0, 3, 4, 7] rfl ?_
    exact hk160 l3 l4 (l7 + (1:Int32)) M1
set_option maxRecDepth 100000 in
set_option maxHeartbeats 4000000 in
theorem t_Terms_addNode_160  (B : xB p R s m args meth c b_Terms_addNode 9 R_Terms (Cond.code y_Terms_addNode b_Terms_addNode 9 (some .int) :: x_T) (some .int) 1 22 D x_cl (xty g) base)  (l3 : Int32) (l4 : Int32) (l7 : Int32) (M : MS)  : Sn p l e R s m args below meth c 9 D x_cl base (xwd g) cM x_g0 az kz (xfc cM) (xZ below args s D x_cl (xty g) base (xwd g) cM x_g0 az kz ovI) 160 [] [(0, .ref 2), (3, .int l3), (4, .int l4), (7, .int l7)] M (m_Terms_addNode_160 (l3, l4, l7, M)) := by
  have q : ∀ (F : Nat) (i : Int32 × Int32 × Int32 × MS), Sn p l e R s m args below meth c 9 D x_cl base (xwd g) cM x_g0 az kz (xfc cM) (xZ below args s D x_cl (xty g) base (xwd g) cM x_g0 az kz ovI) 160 [] [(0, .ref 2), (3, .int i.1), (4, .int i.2.1), (7, .int i.2.2.1)] i.2.2.2 (fx (fun (k : Int32 × Int32 × Int32 × MS → Option (MS × Int32)) (i : Int32 × Int32 × Int32 × MS) => m_Terms_addNode_160b k i.1 i.2.1 i.2.2.1 i.2.2.2) F i) := by
    intro F
    induction F with
    | zero => intro i ; exact s_none
    | succ F ih => intro i ; exact t_Terms_addNode_160b B  (fun l3 l4 l7 M  => ih (l3, l4, l7, M) ) i.1 i.2.1 i.2.2.1 i.2.2.2 
  exact q FU (l3, l4, l7, M) 
set_option maxRecDepth 100000 in
set_option maxHeartbeats 4000000 in
theorem t_Terms_addNode_156  (B : xB p R s m args meth c b_Terms_addNode 9 R_Terms (Cond.code y_Terms_addNode b_Terms_addNode 9 (some .int) :: x_T) (some .int) 1 22 D x_cl (xty g) base)  (l3 : Int32) (l4 : Int32) (s1 : Int32) (s2 : Int32) (M : MS)  : Sn p l e R s m args below meth c 9 D x_cl base (xwd g) cM x_g0 az kz (xfc cM) (xZ below args s D x_cl (xty g) base (xwd g) cM x_g0 az kz ovI) 156 [.int s2, .int s1, .ref 5] [(0, .ref 2), (3, .int l3), (4, .int l4)] M (m_Terms_addNode_156 l3 l4 s1 s2 M) := by
  unfold m_Terms_addNode_156
  refine s_iast B (Or.inr kd_5) d_Terms_addNode_156 (fun M1 _ => ?_)
  refine s_iconst (v := (0:Int32)) B d_Terms_addNode_157 (by decide) ?_
  refine s_istore B d_Terms_addNode_158 (by decide) ?_
  refine s_pick (lv1 := [(0, .ref 2), (3, .int l3), (4, .int l4), (7, .int (0:Int32))]) [0, 3, 4, 7] rfl ?_
  exact t_Terms_addNode_160 B l3 l4 (0:Int32) M1
set_option maxRecDepth 100000 in
set_option maxHeartbeats 4000000 in
theorem t_Terms_addNode_123  (B : xB p R s m args meth c b_Terms_addNode 9 R_Terms (Cond.code y_Terms_addNode b_Terms_addNode 9 (some .int) :: x_T) (some .int) 1 22 D x_cl (xty g) base)  (l1 : Int32) (l2 : Nat) (l3 : Int32) (l4 : Int32) (l5 : Int32) (l6 : Int32) (M : MS) (hl2 : x_kd l2 = 1) : Sn p l e R s m args below meth c 9 D x_cl base (xwd g) cM x_g0 az kz (xfc cM) (xZ below args s D x_cl (xty g) base (xwd g) cM x_g0 az kz ovI) 123 [] [(0, .ref 2), (1, .int l1), (2, .ref l2), (3, .int l3), (4, .int l4), (5, .int l5), (6, .int l6)] M (m_Terms_addNode_123 l1 l2 l3 l4 l5 l6 M) := by
  unfold m_Terms_addNode_123
  refine s_aload_n B d_Terms_addNode_123 rfl ?_
  refine s_getS (k := 1) (n := 4) B xc_Terms kd_2 (by decide) rfl rfl fl_Terms_15 sr_2_1 d_Terms_addNode_124 ?_
  refine s_iload B d_Terms_addNode_127 rfl ?_
  refine s_iload B d_Terms_addNode_129 rfl ?_
  refine s_iast B (Or.inr kd_4) d_Terms_addNode_131 (fun M1 _ => ?_)
  refine s_aload_n B d_Terms_addNode_132 rfl ?_
  refine s_getS (k := 2) (n := 5) B xc_Terms kd_2 (by decide) rfl rfl fl_Terms_18 sr_2_2 d_Terms_addNode_133 ?_
  refine s_iload B d_Terms_addNode_136 rfl ?_
  refine s_iload_n B d_Terms_addNode_138 rfl ?_
  refine s_iload B d_Terms_addNode_139 rfl ?_
  refine s_aload_n B d_Terms_addNode_141 rfl ?_
  refine s_pick (lv1 := [(0, .ref 2), (3, .int l3), (4, .int l4)]) [0, 3, 4] rfl ?_
  refine s_callI (av := [.ref l2]) (rest := [.int l6, .int l1, .int l4, .ref 5]) B (lk_V B d_Terms_addNode_142 (gl_Terms_99 _) rfl hv_Row_size (by decide) (by decide)) rfl (x_rcV B xc_Row hl2) (fun _ _ => rfl) rfl rfl (by simp [Value.category]) rfl (fun r2 e9 => ct_Row_size _ _ r2 e9) (fun r2 _ => ?_)
  refine s_pick (lv1 := [(0, .ref 2), (3, .int l3), (4, .int l4)]) [0, 3, 4] rfl ?_
  refine s_callI (av := [.int l1, .int l6, .int r2.2]) (rest := [.int l4, .ref 5]) B (lk_S B d_Terms_addNode_145 (gl_Terms_162 _) (List.mem_cons_of_mem _ st_Terms_isNullableWith) (List.mem_cons_of_mem _ in_Terms) (List.mem_cons_of_mem _ ml_Terms_162) rfl hs_Terms_isNullableWith (by decide) (by decide)) rfl x_rcS (fun _ _ => rfl) rfl rfl (by simp [Value.category]) rfl (fun r3 e9 => ct_Terms_isNullableWith _ _ _ _ r3 e9) (fun r3 _ => ?_)
  refine s_if_eq B d_Terms_addNode_148 rfl (fun _ => ?_) (fun _ => ?_)
  · refine s_iconst (v := (0:Int32)) B d_Terms_addNode_155 (by decide) ?_
    refine s_pick (lv1 := [(0, .ref 2), (3, .int l3), (4, .int l4)]) [0, 3, 4] rfl ?_
    exact t_Terms_addNode_156 B l3 l4 l4 (0:Int32) r3.1
  · refine s_iconst (v := (1:Int32)) B d_Terms_addNode_151 (by decide) ?_
    refine s_goto B d_Terms_addNode_152 rfl ?_
    refine s_pick (lv1 := [(0, .ref 2), (3, .int l3), (4, .int l4)]) [0, 3, 4] rfl ?_
    exact t_Terms_addNode_156 B l3 l4 l4 (1:Int32) r3.1
set_option maxRecDepth 100000 in
set_option maxHeartbeats 4000000 in
theorem t_Terms_addNode_55b {k55 : Int32 × Nat × Int32 × Int32 × Int32 × Int32 × Int32 × MS → Option (MS × Int32)} (B : xB p R s m args meth c b_Terms_addNode 9 R_Terms (Cond.code y_Terms_addNode b_Terms_addNode 9 (some .int) :: x_T) (some .int) 1 22 D x_cl (xty g) base) (hk55 : ∀ (l1 : Int32) (l2 : Nat) (l3 : Int32) (l4 : Int32) (l5 : Int32) (l6 : Int32) (l7 : Int32) (M : MS) (hl2 : x_kd l2 = 1), Sn p l e R s m args below meth c 9 D x_cl base (xwd g) cM x_g0 az kz (xfc cM) (xZ below args s D x_cl (xty g) base (xwd g) cM x_g0 az kz ovI) 55 [] [(0, .ref 2), (1, .int l1), (2, .ref l2), (3, .int l3), (4, .int l4), (5, .int l5), (6, .int l6), (7, .int l7)] M (k55 (l1, l2, l3, l4, l5, l6, l7, M))) (l1 : Int32) (l2 : Nat) (l3 : Int32) (l4 : Int32) (l5 : Int32) (l6 : Int32) (l7 : Int32) (M : MS) (hl2 : x_kd l2 = 1) : Sn p l e R s m args below meth c 9 D x_cl base (xwd g) cM x_g0 az kz (xfc cM) (xZ below args s D x_cl (xty g) base (xwd g) cM x_g0 az kz ovI) 55 [] [(0, .ref 2), (1, .int l1), (2, .ref l2), (3, .int l3), (4, .int l4), (5, .int l5), (6, .int l6), (7, .int l7)] M (m_Terms_addNode_55b k55 l1 l2 l3 l4 l5 l6 l7 M) := by
  unfold m_Terms_addNode_55b
  refine s_iload B d_Terms_addNode_55 rfl ?_
  refine s_aload_n B d_Terms_addNode_57 rfl ?_
  refine s_pick (lv1 := [(0, .ref 2), (1, .int l1), (2, .ref l2), (3, .int l3), (4, .int l4), (5, .int l5), (6, .int l6), (7, .int l7)]) [0, 1, 2, 3, 4, 5, 6, 7] rfl ?_
  refine s_callI (av := [.ref l2]) (rest := [.int l7]) B (lk_V B d_Terms_addNode_58 (gl_Terms_99 _) rfl hv_Row_size (by decide) (by decide)) rfl (x_rcV B xc_Row hl2) (fun _ _ => rfl) rfl rfl (by simp [Value.category]) rfl (fun r1 e9 => ct_Row_size _ _ r1 e9) (fun r1 _ => ?_)
  refine s_icmp_ge B d_Terms_addNode_61 rfl (fun _ => ?_) (fun _ => ?_)
  · refine s_pick (lv1 := [(0, .ref 2), (1, .int l1), (2, .ref l2), (3, .int l3), (4, .int l4), (5, .int l5), (6, .int l6)]) [0, 1, 2, 3, 4, 5, 6] rfl ?_
    exact t_Terms_addNode_123 B l1 l2 l3 l4 l5 l6 r1.1 hl2
  · refine s_aload_n B d_Terms_addNode_64 rfl ?_
    refine s_iload B d_Terms_addNode_65 rfl ?_
    refine s_pick (lv1 := [(0, .ref 2), (1, .int l1), (2, .ref l2), (3, .int l3), (4, .int l4), (5, .int l5), (6, .int l6), (7, .int l7)]) [0, 1, 2, 3, 4, 5, 6, 7] rfl ?_
    refine s_callI (av := [.ref l2, .int l7]) (rest := []) B (lk_V B d_Terms_addNode_67 (gl_Terms_102 _) rfl hv_Row_get (by decide) (by decide)) rfl (x_rcV B xc_Row hl2) (fun _ _ => rfl) rfl rfl (by simp [Value.category]) rfl (fun r2 e9 => ct_Row_get _ _ _ r2 e9) (fun r2 _ => ?_)
    refine s_istore B d_Terms_addNode_70 (by decide) ?_
    refine s_aload_n B d_Terms_addNode_72 rfl ?_
    refine s_getS (k := 10) (n := 13) B xc_Terms kd_2 (by decide) rfl rfl fl_Terms_42 sr_2_10 d_Terms_addNode_73 ?_
    refine s_aload_n B d_Terms_addNode_76 rfl ?_
    refine s_getI (k := 17) B xc_Terms kd_2 (by decide) rfl rfl fl_Terms_72 d_Terms_addNode_77 ?_
    refine s_iload B d_Terms_addNode_80 rfl ?_
    refine s_iast B (Or.inr kd_13) d_Terms_addNode_82 (fun M3 _ => ?_)
    refine s_aload_n B d_Terms_addNode_83 rfl ?_
    refine s_dup B d_Terms_addNode_84 rfl ?_
    refine s_getI (k := 17) B xc_Terms kd_2 (by decide) rfl rfl fl_Terms_72 d_Terms_addNode_85 ?_
    refine s_iconst (v := (1:Int32)) B d_Terms_addNode_88 (by decide) ?_
    refine s_iadd B d_Terms_addNode_89 ?_
    refine s_putI (k := 17) (ty := .int) B xc_Terms kd_2 (by decide) rfl rfl fl_Terms_72 rfl rfl rfl rfl d_Terms_addNode_90 (fun M4 _ => ?_)
    refine s_iload B d_Terms_addNode_93 rfl ?_
    refine s_aload_n B d_Terms_addNode_95 rfl ?_
    refine s_getS (k := 1) (n := 4) B xc_Terms kd_2 (by decide) rfl rfl fl_Terms_15 sr_2_1 d_Terms_addNode_96 ?_
    refine s_iload B d_Terms_addNode_99 rfl ?_
    refine s_iald B (Or.inr kd_4) d_Terms_addNode_101 (fun v5 _ => ?_)
    refine s_iadd B d_Terms_addNode_102 ?_
    refine s_istore B d_Terms_addNode_103 (by decide) ?_
    refine s_iload B d_Terms_addNode_105 rfl ?_
    refine s_aload_n B d_Terms_addNode_107 rfl ?_
    refine s_getS (k := 2) (n := 5) B xc_Terms kd_2 (by decide) rfl rfl fl_Terms_18 sr_2_2 d_Terms_addNode_108 ?_
    refine s_iload B d_Terms_addNode_111 rfl ?_
    refine s_iald B (Or.inr kd_5) d_Terms_addNode_113 (fun v6 _ => ?_)
    refine s_iadd B d_Terms_addNode_114 ?_
    refine s_istore B d_Terms_addNode_115 (by decide) ?_
    refine s_iinc (w := (1:Int32)) B d_Terms_addNode_117 rfl (by decide) (by decide) ?_
    refine s_goto B d_Terms_addNode_120 rfl ?_
    refine s_pick (lv1 := [(0, .ref 2), (1, .int l1), (2, .ref l2), (3, .int l3), (4, .int l4), (5, .int (l5 + v5)), (6, .int (l6 + v6)), (7, .int (l7 + (1:Int32)))]) [0, 1, 2, 3, 4, 5, 6, 7] rfl ?_
    exact hk55 l1 l2 l3 l4 (l5 + v5) (l6 + v6) (l7 + (1:Int32)) M4 hl2
set_option maxRecDepth 100000 in
set_option maxHeartbeats 4000000 in
theorem t_Terms_addNode_55  (B : xB p R s m args meth c b_Terms_addNode 9 R_Terms (Cond.code y_Terms_addNode b_Terms_addNode 9 (some .int) :: x_T) (some .int) 1 22 D x_cl (xty g) base)  (l1 : Int32) (l2 : Nat) (l3 : Int32) (l4 : Int32) (l5 : Int32) (l6 : Int32) (l7 : Int32) (M : MS) (hl2 : x_kd l2 = 1) : Sn p l e R s m args below meth c 9 D x_cl base (xwd g) cM x_g0 az kz (xfc cM) (xZ below args s D x_cl (xty g) base (xwd g) cM x_g0 az kz ovI) 55 [] [(0, .ref 2), (1, .int l1), (2, .ref l2), (3, .int l3), (4, .int l4), (5, .int l5), (6, .int l6), (7, .int l7)] M (m_Terms_addNode_55 (l1, l2, l3, l4, l5, l6, l7, M)) := by
  have q : ∀ (F : Nat) (i : Int32 × Nat × Int32 × Int32 × Int32 × Int32 × Int32 × MS), x_kd i.2.1 = 1 → Sn p l e R s m args below meth c 9 D x_cl base (xwd g) cM x_g0 az kz (xfc cM) (xZ below args s D x_cl (xty g) base (xwd g) cM x_g0 az kz ovI) 55 [] [(0, .ref 2), (1, .int i.1), (2, .ref i.2.1), (3, .int i.2.2.1), (4, .int i.2.2.2.1), (5, .int i.2.2.2.2.1), (6, .int i.2.2.2.2.2.1), (7, .int i.2.2.2.2.2.2.1)] i.2.2.2.2.2.2.2 (fx (fun (k : Int32 × Nat × Int32 × Int32 × Int32 × Int32 × Int32 × MS → Option (MS × Int32)) (i : Int32 × Nat × Int32 × Int32 × Int32 × Int32 × Int32 × MS) => m_Terms_addNode_55b k i.1 i.2.1 i.2.2.1 i.2.2.2.1 i.2.2.2.2.1 i.2.2.2.2.2.1 i.2.2.2.2.2.2.1 i.2.2.2.2.2.2.2) F i) := by
    intro F
    induction F with
    | zero => intro i h0; exact s_none
    | succ F ih => intro i h0; exact t_Terms_addNode_55b B  (fun l1 l2 l3 l4 l5 l6 l7 M h0 => ih (l1, l2, l3, l4, l5, l6, l7, M) h0) i.1 i.2.1 i.2.2.1 i.2.2.2.1 i.2.2.2.2.1 i.2.2.2.2.2.1 i.2.2.2.2.2.2.1 i.2.2.2.2.2.2.2 h0
  exact q FU (l1, l2, l3, l4, l5, l6, l7, M) hl2
set_option maxRecDepth 100000 in
set_option maxHeartbeats 4000000 in
theorem t_Terms_addNode (B : xB p R s m args meth c b_Terms_addNode 9 R_Terms (Cond.code y_Terms_addNode b_Terms_addNode 9 (some .int) :: x_T) (some .int) 1 22 D x_cl (xty g) base) (a1 : Int32) (a2 : Nat) (a3 : Int32) (M : MS) : Sn p l e R s m args below meth c 9 D x_cl base (xwd g) cM x_g0 az kz (xfc cM) (xZ below args s D x_cl (xty g) base (xwd g) cM x_g0 az kz ovI) 0 [] [(0, .ref 2), (1, .int a1), (2, .ref a2), (3, .int a3)] M (m_Terms_addNode a1 a2 a3 M) := by
  unfold m_Terms_addNode
  refine s_guard (fun ha2 => ?_)
  refine s_aload_n B d_Terms_addNode_0 rfl ?_
  refine s_getI (k := 16) B xc_Terms kd_2 (by decide) rfl rfl fl_Terms_68 d_Terms_addNode_1 ?_
  refine s_istore B d_Terms_addNode_4 (by decide) ?_
  refine s_aload_n B d_Terms_addNode_6 rfl ?_
  refine s_dup B d_Terms_addNode_7 rfl ?_
  refine s_getI (k := 16) B xc_Terms kd_2 (by decide) rfl rfl fl_Terms_68 d_Terms_addNode_8 ?_
  refine s_iconst (v := (1:Int32)) B d_Terms_addNode_11 (by decide) ?_
  refine s_iadd B d_Terms_addNode_12 ?_
  refine s_putI (k := 16) (ty := .int) B xc_Terms kd_2 (by decide) rfl rfl fl_Terms_68 rfl rfl rfl rfl d_Terms_addNode_13 (fun M1 _ => ?_)
  refine s_aload_n B d_Terms_addNode_16 rfl ?_
  refine s_getS (k := 0) (n := 3) B xc_Terms kd_2 (by decide) rfl rfl fl_Terms_11 sr_2_0 d_Terms_addNode_17 ?_
  refine s_iload B d_Terms_addNode_20 rfl ?_
  refine s_iload_n B d_Terms_addNode_22 rfl ?_
  refine s_iast B (Or.inr kd_3) d_Terms_addNode_23 (fun M2 _ => ?_)
  refine s_aload_n B d_Terms_addNode_24 rfl ?_
  refine s_getS (k := 3) (n := 6) B xc_Terms kd_2 (by decide) rfl rfl fl_Terms_21 sr_2_3 d_Terms_addNode_25 ?_
  refine s_iload B d_Terms_addNode_28 rfl ?_
  refine s_aload_n B d_Terms_addNode_30 rfl ?_
  refine s_getI (k := 17) B xc_Terms kd_2 (by decide) rfl rfl fl_Terms_72 d_Terms_addNode_31 ?_
  refine s_iast B (Or.inr kd_6) d_Terms_addNode_34 (fun M3 _ => ?_)
  refine s_aload_n B d_Terms_addNode_35 rfl ?_
  refine s_getS (k := 4) (n := 7) B xc_Terms kd_2 (by decide) rfl rfl fl_Terms_24 sr_2_4 d_Terms_addNode_36 ?_
  refine s_iload B d_Terms_addNode_39 rfl ?_
  refine s_aload_n B d_Terms_addNode_41 rfl ?_
  refine s_pick (lv1 := [(0, .ref 2), (1, .int a1), (2, .ref a2), (3, .int a3), (4, .int (gI M 2 16))]) [0, 1, 2, 3, 4] rfl ?_
  refine s_callI (av := [.ref a2]) (rest := [.int (gI M 2 16), .ref 7]) B (lk_V B d_Terms_addNode_42 (gl_Terms_99 _) rfl hv_Row_size (by decide) (by decide)) rfl (x_rcV B xc_Row ha2) (fun _ _ => rfl) rfl rfl (by simp [Value.category]) rfl (fun r4 e9 => ct_Row_size _ _ r4 e9) (fun r4 _ => ?_)
  refine s_iast B (Or.inr kd_7) d_Terms_addNode_45 (fun M5 _ => ?_)
  refine s_iconst (v := (1:Int32)) B d_Terms_addNode_46 (by decide) ?_
  refine s_istore B d_Terms_addNode_47 (by decide) ?_
  refine s_iconst (v := (0:Int32)) B d_Terms_addNode_49 (by decide) ?_
  refine s_istore B d_Terms_addNode_50 (by decide) ?_
  refine s_iconst (v := (0:Int32)) B d_Terms_addNode_52 (by decide) ?_
  refine s_istore B d_Terms_addNode_53 (by decide) ?_
  refine s_pick (lv1 := [(0, .ref 2), (1, .int a1), (2, .ref a2), (3, .int a3), (4, .int (gI M 2 16)), (5, .int (1:Int32)), (6, .int (0:Int32)), (7, .int (0:Int32))]) [0, 1, 2, 3, 4, 5, 6, 7] rfl ?_
  exact t_Terms_addNode_55 B a1 a2 a3 (gI M 2 16) (1:Int32) (0:Int32) (0:Int32) M5 ha2
set_option maxRecDepth 100000 in
set_option maxHeartbeats 4000000 in
theorem ct_Terms_addNode {l : Launch} {D : va_G} {base : Nat} {g : Nat → ClassId} (a1 : Int32) (a2 : Nat) (a3 : Int32) (M : MS) (r : MS × Int32) (hr : m_Terms_addNode a1 a2 a3 M = some r) : Ct l y_Terms_addNode (Cond.code y_Terms_addNode b_Terms_addNode 9 (some .int) :: x_T) 1 22 D x_cl (xty g) base (xwd g) cM x_g0 [.ref 2, .int a1, .ref a2, .int a3] M r.1 (ovI r.2) :=
  x_met (ov := ovI) (by decide) (Nat.le_of_ble_eq_true rfl) (fun p e R s m args below meth c az B => t_Terms_addNode B a1 a2 a3 M) r hr
end
theorem d_Terms_node_0 : decode b_Terms_node 0 = .ok (.iload_n 1, 1) := by decide +kernel
theorem d_Terms_node_1 : decode b_Terms_node 1 = .ok (.istore_n 3, 1) := by decide +kernel
theorem d_Terms_node_2 : decode b_Terms_node 2 = .ok (.iconst (0), 1) := by decide +kernel
theorem d_Terms_node_3 : decode b_Terms_node 3 = .ok (.istore 4, 2) := by decide +kernel
theorem d_Terms_node_5 : decode b_Terms_node 5 = .ok (.iload 4, 2) := by decide +kernel
theorem d_Terms_node_7 : decode b_Terms_node 7 = .ok (.aload_n 2, 1) := by decide +kernel
theorem d_Terms_node_8 : decode b_Terms_node 8 = .ok (.invokevirtual 99, 3) := by decide +kernel
theorem d_Terms_node_11 : decode b_Terms_node 11 = .ok (.if_icmp .ge (21), 3) := by decide +kernel
theorem d_Terms_node_14 : decode b_Terms_node 14 = .ok (.iload_n 3, 1) := by decide +kernel
theorem d_Terms_node_15 : decode b_Terms_node 15 = .ok (.aload_n 2, 1) := by decide +kernel
theorem d_Terms_node_16 : decode b_Terms_node 16 = .ok (.iload 4, 2) := by decide +kernel
theorem d_Terms_node_18 : decode b_Terms_node 18 = .ok (.invokevirtual 102, 3) := by decide +kernel
theorem d_Terms_node_21 : decode b_Terms_node 21 = .ok (.iadd, 1) := by decide +kernel
theorem d_Terms_node_22 : decode b_Terms_node 22 = .ok (.ldc 150, 2) := by decide +kernel
theorem d_Terms_node_24 : decode b_Terms_node 24 = .ok (.imul, 1) := by decide +kernel
theorem d_Terms_node_25 : decode b_Terms_node 25 = .ok (.istore_n 3, 1) := by decide +kernel
theorem d_Terms_node_26 : decode b_Terms_node 26 = .ok (.iinc 4 (1), 3) := by decide +kernel
theorem d_Terms_node_29 : decode b_Terms_node 29 = .ok (.goto (-24), 3) := by decide +kernel
theorem d_Terms_node_32 : decode b_Terms_node 32 = .ok (.aload_n 0, 1) := by decide +kernel
theorem d_Terms_node_33 : decode b_Terms_node 33 = .ok (.getfield 45, 3) := by decide +kernel
theorem d_Terms_node_36 : decode b_Terms_node 36 = .ok (.iload_n 3, 1) := by decide +kernel
theorem d_Terms_node_37 : decode b_Terms_node 37 = .ok (.bipush (22), 2) := by decide +kernel
theorem d_Terms_node_39 : decode b_Terms_node 39 = .ok (.iushr, 1) := by decide +kernel
theorem d_Terms_node_40 : decode b_Terms_node 40 = .ok (.iaload, 1) := by decide +kernel
theorem d_Terms_node_41 : decode b_Terms_node 41 = .ok (.istore 4, 2) := by decide +kernel
theorem d_Terms_node_43 : decode b_Terms_node 43 = .ok (.iconst (0), 1) := by decide +kernel
theorem d_Terms_node_44 : decode b_Terms_node 44 = .ok (.istore 5, 2) := by decide +kernel
theorem d_Terms_node_46 : decode b_Terms_node 46 = .ok (.iload 5, 2) := by decide +kernel
theorem d_Terms_node_48 : decode b_Terms_node 48 = .ok (.aload_n 0, 1) := by decide +kernel
theorem d_Terms_node_49 : decode b_Terms_node 49 = .ok (.getfield 68, 3) := by decide +kernel
theorem d_Terms_node_52 : decode b_Terms_node 52 = .ok (.if_icmp .ge (59), 3) := by decide +kernel
theorem d_Terms_node_55 : decode b_Terms_node 55 = .ok (.iload 4, 2) := by decide +kernel
theorem d_Terms_node_57 : decode b_Terms_node 57 = .ok (.iconst (-1), 1) := by decide +kernel
theorem d_Terms_node_58 : decode b_Terms_node 58 = .ok (.if_icmp .eq (53), 3) := by decide +kernel
theorem d_Terms_node_61 : decode b_Terms_node 61 = .ok (.aload_n 0, 1) := by decide +kernel
theorem d_Terms_node_62 : decode b_Terms_node 62 = .ok (.getfield 27, 3) := by decide +kernel
theorem d_Terms_node_65 : decode b_Terms_node 65 = .ok (.iload 4, 2) := by decide +kernel
theorem d_Terms_node_67 : decode b_Terms_node 67 = .ok (.iaload, 1) := by decide +kernel
theorem d_Terms_node_68 : decode b_Terms_node 68 = .ok (.iload_n 3, 1) := by decide +kernel
theorem d_Terms_node_69 : decode b_Terms_node 69 = .ok (.if_icmp .ne (27), 3) := by decide +kernel
theorem d_Terms_node_72 : decode b_Terms_node 72 = .ok (.aload_n 0, 1) := by decide +kernel
theorem d_Terms_node_73 : decode b_Terms_node 73 = .ok (.getfield 11, 3) := by decide +kernel
theorem d_Terms_node_76 : decode b_Terms_node 76 = .ok (.iload 4, 2) := by decide +kernel
theorem d_Terms_node_78 : decode b_Terms_node 78 = .ok (.iaload, 1) := by decide +kernel
theorem d_Terms_node_79 : decode b_Terms_node 79 = .ok (.iload_n 1, 1) := by decide +kernel
theorem d_Terms_node_80 : decode b_Terms_node 80 = .ok (.if_icmp .ne (16), 3) := by decide +kernel
theorem d_Terms_node_83 : decode b_Terms_node 83 = .ok (.aload_n 0, 1) := by decide +kernel
theorem d_Terms_node_84 : decode b_Terms_node 84 = .ok (.iload 4, 2) := by decide +kernel
theorem d_Terms_node_86 : decode b_Terms_node 86 = .ok (.aload_n 2, 1) := by decide +kernel
theorem d_Terms_node_87 : decode b_Terms_node 87 = .ok (.invokevirtual 151, 3) := by decide +kernel
theorem d_Terms_node_90 : decode b_Terms_node 90 = .ok (.ifCond .eq (6), 3) := by decide +kernel
theorem d_Terms_node_93 : decode b_Terms_node 93 = .ok (.iload 4, 2) := by decide +kernel
theorem d_Terms_node_95 : decode b_Terms_node 95 = .ok (.ireturn, 1) := by decide +kernel
theorem d_Terms_node_96 : decode b_Terms_node 96 = .ok (.aload_n 0, 1) := by decide +kernel
theorem d_Terms_node_97 : decode b_Terms_node 97 = .ok (.getfield 30, 3) := by decide +kernel
theorem d_Terms_node_100 : decode b_Terms_node 100 = .ok (.iload 4, 2) := by decide +kernel
theorem d_Terms_node_102 : decode b_Terms_node 102 = .ok (.iaload, 1) := by decide +kernel
theorem d_Terms_node_103 : decode b_Terms_node 103 = .ok (.istore 4, 2) := by decide +kernel
theorem d_Terms_node_105 : decode b_Terms_node 105 = .ok (.iinc 5 (1), 3) := by decide +kernel
theorem d_Terms_node_108 : decode b_Terms_node 108 = .ok (.goto (-62), 3) := by decide +kernel
theorem d_Terms_node_111 : decode b_Terms_node 111 = .ok (.aload_n 0, 1) := by decide +kernel
theorem d_Terms_node_112 : decode b_Terms_node 112 = .ok (.aload_n 2, 1) := by decide +kernel
theorem d_Terms_node_113 : decode b_Terms_node 113 = .ok (.invokevirtual 99, 3) := by decide +kernel
theorem d_Terms_node_116 : decode b_Terms_node 116 = .ok (.invokevirtual 155, 3) := by decide +kernel
theorem d_Terms_node_119 : decode b_Terms_node 119 = .ok (.aload_n 0, 1) := by decide +kernel
theorem d_Terms_node_120 : decode b_Terms_node 120 = .ok (.iload_n 1, 1) := by decide +kernel
theorem d_Terms_node_121 : decode b_Terms_node 121 = .ok (.aload_n 2, 1) := by decide +kernel
theorem d_Terms_node_122 : decode b_Terms_node 122 = .ok (.iload_n 3, 1) := by decide +kernel
theorem d_Terms_node_123 : decode b_Terms_node 123 = .ok (.invokevirtual 158, 3) := by decide +kernel
theorem d_Terms_node_126 : decode b_Terms_node 126 = .ok (.ireturn, 1) := by decide +kernel
section
variable {p : Program} {l : Launch} {e : Env} {R : Room} {s : State} {m : MethodId} {args : Array Value} {below : List Frame} {meth : Method} {c : Code} {D : va_G} {base : Nat} {g : Nat → ClassId} {az : Nat → Nat} {kz : Nat × Nat}
set_option maxRecDepth 100000 in
set_option maxHeartbeats 4000000 in
theorem t_Terms_node_111  (B : xB p R s m args meth c b_Terms_node 6 R_Terms (Cond.code y_Terms_node b_Terms_node 6 (some .int) :: x_T) (some .int) 5 112 D x_cl (xty g) base)  (l1 : Int32) (l2 : Nat) (l3 : Int32) (M : MS) (hl2 : x_kd l2 = 1) : Sn p l e R s m args below meth c 6 D x_cl base (xwd g) cM x_gr az kz (xfc cM) (xZ below args s D x_cl (xty g) base (xwd g) cM x_gr az kz ovI) 111 [] [(0, .ref 2), (1, .int l1), (2, .ref l2), (3, .int l3)] M (m_Terms_node_111 l1 l2 l3 M) := by
  unfold m_Terms_node_111
  refine s_aload_n B d_Terms_node_111 rfl ?_
  refine s_aload_n B d_Terms_node_112 rfl ?_
  refine s_pick (lv1 := [(0, .ref 2), (1, .int l1), (2, .ref l2), (3, .int l3)]) [0, 1, 2, 3] rfl ?_
  refine s_callI (av := [.ref l2]) (rest := [.ref 2]) B (lk_V B d_Terms_node_113 (gl_Terms_99 _) rfl hv_Row_size (by decide) (by decide)) rfl (x_rcV B xc_Row hl2) (fun _ _ => rfl) rfl rfl (by simp [Value.category]) rfl (fun r1 e9 => ct_Row_size _ _ r1 e9) (fun r1 _ => ?_)
  refine s_pick (lv1 := [(0, .ref 2), (1, .int l1), (2, .ref l2), (3, .int l3)]) [0, 1, 2, 3] rfl ?_
  refine s_callU (av := [.ref 2, .int r1.2]) (rest := []) B (lk_V B d_Terms_node_116 (gl_Terms_155 _) rfl hv_Terms_makeRoom (by decide) (by decide)) rfl (x_rcV B xc_Terms kd_2) (fun _ h => h) rfl (by simp [xng, x_gr, hl2, kd_2]) (by simp [Value.category]) rfl (fun r2 e9 => ct_Terms_makeRoom _ _ r2 e9) (fun r2 _ => ?_)
  refine s_aload_n B d_Terms_node_119 rfl ?_
  refine s_iload_n B d_Terms_node_120 rfl ?_
  refine s_aload_n B d_Terms_node_121 rfl ?_
  refine s_iload_n B d_Terms_node_122 rfl ?_
  refine s_pick (lv1 := []) [] rfl ?_
  refine s_callI (av := [.ref 2, .int l1, .ref l2, .int l3]) (rest := []) B (lk_V B d_Terms_node_123 (gl_Terms_158 _) rfl hv_Terms_addNode (by decide) (by decide)) rfl (x_rcV B xc_Terms kd_2) (fun _ _ => rfl) rfl rfl (by simp [Value.category]) rfl (fun r3 e9 => ct_Terms_addNode _ _ _ _ r3 e9) (fun r3 _ => ?_)
  exact s_iret B d_Terms_node_126
set_option maxRecDepth 100000 in
set_option maxHeartbeats 4000000 in
theorem t_Terms_node_96 {k46 : Int32 × Nat × Int32 × Int32 × Int32 × MS → Option (MS × Int32)} (B : xB p R s m args meth c b_Terms_node 6 R_Terms (Cond.code y_Terms_node b_Terms_node 6 (some .int) :: x_T) (some .int) 5 112 D x_cl (xty g) base) (hk46 : ∀ (l1 : Int32) (l2 : Nat) (l3 : Int32) (l4 : Int32) (l5 : Int32) (M : MS) (hl2 : x_kd l2 = 1), Sn p l e R s m args below meth c 6 D x_cl base (xwd g) cM x_gr az kz (xfc cM) (xZ below args s D x_cl (xty g) base (xwd g) cM x_gr az kz ovI) 46 [] [(0, .ref 2), (1, .int l1), (2, .ref l2), (3, .int l3), (4, .int l4), (5, .int l5)] M (k46 (l1, l2, l3, l4, l5, M))) (l1 : Int32) (l2 : Nat) (l3 : Int32) (l4 : Int32) (l5 : Int32) (M : MS) (hl2 : x_kd l2 = 1) : Sn p l e R s m args below meth c 6 D x_cl base (xwd g) cM x_gr az kz (xfc cM) (xZ below args s D x_cl (xty g) base (xwd g) cM x_gr az kz ovI) 96 [] [(0, .ref 2), (1, .int l1), (2, .ref l2), (3, .int l3), (4, .int l4), (5, .int l5)] M (m_Terms_node_96 k46 l1 l2 l3 l4 l5 M) := by
  unfold m_Terms_node_96
  refine s_aload_n B d_Terms_node_96 rfl ?_
  refine s_getS (k := 6) (n := 9) B xc_Terms kd_2 (by decide) rfl rfl fl_Terms_30 sr_2_6 d_Terms_node_97 ?_
  refine s_iload B d_Terms_node_100 rfl ?_
  refine s_iald B (Or.inr kd_9) d_Terms_node_102 (fun v1 _ => ?_)
  refine s_istore B d_Terms_node_103 (by decide) ?_
  refine s_iinc (w := (1:Int32)) B d_Terms_node_105 rfl (by decide) (by decide) ?_
  refine s_goto B d_Terms_node_108 rfl ?_
  refine s_pick (lv1 := [(0, .ref 2), (1, .int l1), (2, .ref l2), (3, .int l3), (4, .int v1), (5, .int (l5 + (1:Int32)))]) [0, 1, 2, 3, 4, 5] rfl ?_
  exact hk46 l1 l2 l3 v1 (l5 + (1:Int32)) M hl2
set_option maxRecDepth 100000 in
set_option maxHeartbeats 4000000 in
theorem t_Terms_node_46b {k46 : Int32 × Nat × Int32 × Int32 × Int32 × MS → Option (MS × Int32)} (B : xB p R s m args meth c b_Terms_node 6 R_Terms (Cond.code y_Terms_node b_Terms_node 6 (some .int) :: x_T) (some .int) 5 112 D x_cl (xty g) base) (hk46 : ∀ (l1 : Int32) (l2 : Nat) (l3 : Int32) (l4 : Int32) (l5 : Int32) (M : MS) (hl2 : x_kd l2 = 1), Sn p l e R s m args below meth c 6 D x_cl base (xwd g) cM x_gr az kz (xfc cM) (xZ below args s D x_cl (xty g) base (xwd g) cM x_gr az kz ovI) 46 [] [(0, .ref 2), (1, .int l1), (2, .ref l2), (3, .int l3), (4, .int l4), (5, .int l5)] M (k46 (l1, l2, l3, l4, l5, M))) (l1 : Int32) (l2 : Nat) (l3 : Int32) (l4 : Int32) (l5 : Int32) (M : MS) (hl2 : x_kd l2 = 1) : Sn p l e R s m args below meth c 6 D x_cl base (xwd g) cM x_gr az kz (xfc cM) (xZ below args s D x_cl (xty g) base (xwd g) cM x_gr az kz ovI) 46 [] [(0, .ref 2), (1, .int l1), (2, .ref l2), (3, .int l3), (4, .int l4), (5, .int l5)] M (m_Terms_node_46b k46 l1 l2 l3 l4 l5 M) := by
  unfold m_Terms_node_46b
  refine s_iload B d_Terms_node_46 rfl ?_
  refine s_aload_n B d_Terms_node_48 rfl ?_
  refine s_getI (k := 16) B xc_Terms kd_2 (by decide) rfl rfl fl_Terms_68 d_Terms_node_49 ?_
  refine s_icmp_ge B d_Terms_node_52 rfl (fun _ => ?_) (fun _ => ?_)
  · refine s_pick (lv1 := [(0, .ref 2), (1, .int l1), (2, .ref l2), (3, .int l3)]) [0, 1, 2, 3] rfl ?_
    exact t_Terms_node_111 B l1 l2 l3 M hl2
  · refine s_iload B d_Terms_node_55 rfl ?_
    refine s_iconst (v := (-1:Int32)) B d_Terms_node_57 (by decide) ?_
    refine s_icmp_eq B d_Terms_node_58 rfl (fun _ => ?_) (fun _ => ?_)
    · refine s_pick (lv1 := [(0, .ref 2), (1, .int l1), (2, .ref l2), (3, .int l3)]) [0, 1, 2, 3] rfl ?_
      exact t_Terms_node_111 B l1 l2 l3 M hl2
    · refine s_aload_n B d_Terms_node_61 rfl ?_
      refine s_getS (k := 5) (n := 8) B xc_Terms kd_2 (by decide) rfl rfl fl_Terms_27 sr_2_5 d_Terms_node_62 ?_
      refine s_iload B d_Terms_node_65 rfl ?_
      refine s_iald B (Or.inr kd_8) d_Terms_node_67 (fun v1 _ => ?_)
      refine s_iload_n B d_Terms_node_68 rfl ?_
      refine s_icmp_ne B d_Terms_node_69 rfl (fun _ => ?_) (fun _ => ?_)
      · refine s_pick (lv1 := [(0, .ref 2), (1, .int l1), (2, .ref l2), (3, .int l3), (4, .int l4), (5, .int l5)]) [0, 1, 2, 3, 4, 5] rfl ?_
        exact t_Terms_node_96 B hk46 l1 l2 l3 l4 l5 M hl2
      · refine s_aload_n B d_Terms_node_72 rfl ?_
        refine s_getS (k := 0) (n := 3) B xc_Terms kd_2 (by decide) rfl rfl fl_Terms_11 sr_2_0 d_Terms_node_73 ?_
        refine s_iload B d_Terms_node_76 rfl ?_
        refine s_iald B (Or.inr kd_3) d_Terms_node_78 (fun v2 _ => ?_)
        refine s_iload_n B d_Terms_node_79 rfl ?_
        refine s_icmp_ne B d_Terms_node_80 rfl (fun _ => ?_) (fun _ => ?_)
        · refine s_pick (lv1 := [(0, .ref 2), (1, .int l1), (2, .ref l2), (3, .int l3), (4, .int l4), (5, .int l5)]) [0, 1, 2, 3, 4, 5] rfl ?_
          exact t_Terms_node_96 B hk46 l1 l2 l3 l4 l5 M hl2
        · refine s_aload_n B d_Terms_node_83 rfl ?_
          refine s_iload B d_Terms_node_84 rfl ?_
          refine s_aload_n B d_Terms_node_86 rfl ?_
          refine s_pick (lv1 := [(0, .ref 2), (1, .int l1), (2, .ref l2), (3, .int l3), (4, .int l4), (5, .int l5)]) [0, 1, 2, 3, 4, 5] rfl ?_
          refine s_callI (av := [.ref 2, .int l4, .ref l2]) (rest := []) B (lk_V B d_Terms_node_87 (gl_Terms_151 _) rfl hv_Terms_hasJust (by decide) (by decide)) rfl (x_rcV B xc_Terms kd_2) (fun _ _ => rfl) rfl rfl (by simp [Value.category]) rfl (fun r3 e9 => ct_Terms_hasJust _ _ _ r3 e9) (fun r3 _ => ?_)
          refine s_if_eq B d_Terms_node_90 rfl (fun _ => ?_) (fun _ => ?_)
          · refine s_pick (lv1 := [(0, .ref 2), (1, .int l1), (2, .ref l2), (3, .int l3), (4, .int l4), (5, .int l5)]) [0, 1, 2, 3, 4, 5] rfl ?_
            exact t_Terms_node_96 B hk46 l1 l2 l3 l4 l5 r3.1 hl2
          · refine s_iload B d_Terms_node_93 rfl ?_
            exact s_iret B d_Terms_node_95
set_option maxRecDepth 100000 in
set_option maxHeartbeats 4000000 in
theorem t_Terms_node_46  (B : xB p R s m args meth c b_Terms_node 6 R_Terms (Cond.code y_Terms_node b_Terms_node 6 (some .int) :: x_T) (some .int) 5 112 D x_cl (xty g) base)  (l1 : Int32) (l2 : Nat) (l3 : Int32) (l4 : Int32) (l5 : Int32) (M : MS) (hl2 : x_kd l2 = 1) : Sn p l e R s m args below meth c 6 D x_cl base (xwd g) cM x_gr az kz (xfc cM) (xZ below args s D x_cl (xty g) base (xwd g) cM x_gr az kz ovI) 46 [] [(0, .ref 2), (1, .int l1), (2, .ref l2), (3, .int l3), (4, .int l4), (5, .int l5)] M (m_Terms_node_46 (l1, l2, l3, l4, l5, M)) := by
  have q : ∀ (F : Nat) (i : Int32 × Nat × Int32 × Int32 × Int32 × MS), x_kd i.2.1 = 1 → Sn p l e R s m args below meth c 6 D x_cl base (xwd g) cM x_gr az kz (xfc cM) (xZ below args s D x_cl (xty g) base (xwd g) cM x_gr az kz ovI) 46 [] [(0, .ref 2), (1, .int i.1), (2, .ref i.2.1), (3, .int i.2.2.1), (4, .int i.2.2.2.1), (5, .int i.2.2.2.2.1)] i.2.2.2.2.2 (fx (fun (k : Int32 × Nat × Int32 × Int32 × Int32 × MS → Option (MS × Int32)) (i : Int32 × Nat × Int32 × Int32 × Int32 × MS) => m_Terms_node_46b k i.1 i.2.1 i.2.2.1 i.2.2.2.1 i.2.2.2.2.1 i.2.2.2.2.2) F i) := by
    intro F
    induction F with
    | zero => intro i h0; exact s_none
    | succ F ih => intro i h0; exact t_Terms_node_46b B  (fun l1 l2 l3 l4 l5 M h0 => ih (l1, l2, l3, l4, l5, M) h0) i.1 i.2.1 i.2.2.1 i.2.2.2.1 i.2.2.2.2.1 i.2.2.2.2.2 h0
  exact q FU (l1, l2, l3, l4, l5, M) hl2
set_option maxRecDepth 100000 in
set_option maxHeartbeats 4000000 in
theorem t_Terms_node_32  (B : xB p R s m args meth c b_Terms_node 6 R_Terms (Cond.code y_Terms_node b_Terms_node 6 (some .int) :: x_T) (some .int) 5 112 D x_cl (xty g) base)  (l1 : Int32) (l2 : Nat) (l3 : Int32) (M : MS) (hl2 : x_kd l2 = 1) : Sn p l e R s m args below meth c 6 D x_cl base (xwd g) cM x_gr az kz (xfc cM) (xZ below args s D x_cl (xty g) base (xwd g) cM x_gr az kz ovI) 32 [] [(0, .ref 2), (1, .int l1), (2, .ref l2), (3, .int l3)] M (m_Terms_node_32 l1 l2 l3 M) := by
  unfold m_Terms_node_32
  refine s_aload_n B d_Terms_node_32 rfl ?_
  refine s_getS (k := 11) (n := 14) B xc_Terms kd_2 (by decide) rfl rfl fl_Terms_45 sr_2_11 d_Terms_node_33 ?_
  refine s_iload_n B d_Terms_node_36 rfl ?_
  refine s_bipush (v := (22:Int32)) B d_Terms_node_37 (by decide) ?_
  refine s_iushr B d_Terms_node_39 ?_
  refine s_iald B (Or.inl kd_14) d_Terms_node_40 (fun v1 _ => ?_)
  refine s_istore B d_Terms_node_41 (by decide) ?_
  refine s_iconst (v := (0:Int32)) B d_Terms_node_43 (by decide) ?_
  refine s_istore B d_Terms_node_44 (by decide) ?_
  refine s_pick (lv1 := [(0, .ref 2), (1, .int l1), (2, .ref l2), (3, .int l3), (4, .int v1), (5, .int (0:Int32))]) [0, 1, 2, 3, 4, 5] rfl ?_
  exact t_Terms_node_46 B l1 l2 l3 v1 (0:Int32) M hl2
set_option maxRecDepth 100000 in
set_option maxHeartbeats 4000000 in
theorem t_Terms_node_5b {k5 : Int32 × Nat × Int32 × Int32 × MS → Option (MS × Int32)} (B : xB p R s m args meth c b_Terms_node 6 R_Terms (Cond.code y_Terms_node b_Terms_node 6 (some .int) :: x_T) (some .int) 5 112 D x_cl (xty g) base) (hk5 : ∀ (l1 : Int32) (l2 : Nat) (l3 : Int32) (l4 : Int32) (M : MS) (hl2 : x_kd l2 = 1), Sn p l e R s m args below meth c 6 D x_cl base (xwd g) cM x_gr az kz (xfc cM) (xZ below args s D x_cl (xty g) base (xwd g) cM x_gr az kz ovI) 5 [] [(0, .ref 2), (1, .int l1), (2, .ref l2), (3, .int l3), (4, .int l4)] M (k5 (l1, l2, l3, l4, M))) (l1 : Int32) (l2 : Nat) (l3 : Int32) (l4 : Int32) (M : MS) (hl2 : x_kd l2 = 1) : Sn p l e R s m args below meth c 6 D x_cl base (xwd g) cM x_gr az kz (xfc cM) (xZ below args s D x_cl (xty g) base (xwd g) cM x_gr az kz ovI) 5 [] [(0, .ref 2), (1, .int l1), (2, .ref l2), (3, .int l3), (4, .int l4)] M (m_Terms_node_5b k5 l1 l2 l3 l4 M) := by
  unfold m_Terms_node_5b
  refine s_iload B d_Terms_node_5 rfl ?_
  refine s_aload_n B d_Terms_node_7 rfl ?_
  refine s_pick (lv1 := [(0, .ref 2), (1, .int l1), (2, .ref l2), (3, .int l3), (4, .int l4)]) [0, 1, 2, 3, 4] rfl ?_
  refine s_callI (av := [.ref l2]) (rest := [.int l4]) B (lk_V B d_Terms_node_8 (gl_Terms_99 _) rfl hv_Row_size (by decide) (by decide)) rfl (x_rcV B xc_Row hl2) (fun _ _ => rfl) rfl rfl (by simp [Value.category]) rfl (fun r1 e9 => ct_Row_size _ _ r1 e9) (fun r1 _ => ?_)
  refine s_icmp_ge B d_Terms_node_11 rfl (fun _ => ?_) (fun _ => ?_)
  · refine s_pick (lv1 := [(0, .ref 2), (1, .int l1), (2, .ref l2), (3, .int l3)]) [0, 1, 2, 3] rfl ?_
    exact t_Terms_node_32 B l1 l2 l3 r1.1 hl2
  · refine s_iload_n B d_Terms_node_14 rfl ?_
    refine s_aload_n B d_Terms_node_15 rfl ?_
    refine s_iload B d_Terms_node_16 rfl ?_
    refine s_pick (lv1 := [(0, .ref 2), (1, .int l1), (2, .ref l2), (4, .int l4)]) [0, 1, 2, 4] rfl ?_
    refine s_callI (av := [.ref l2, .int l4]) (rest := [.int l3]) B (lk_V B d_Terms_node_18 (gl_Terms_102 _) rfl hv_Row_get (by decide) (by decide)) rfl (x_rcV B xc_Row hl2) (fun _ _ => rfl) rfl rfl (by simp [Value.category]) rfl (fun r2 e9 => ct_Row_get _ _ _ r2 e9) (fun r2 _ => ?_)
    refine s_iadd B d_Terms_node_21 ?_
    refine s_ldc (v := (-1640531535:Int32)) B d_Terms_node_22 (List.mem_cons_of_mem _ cs_Terms_150) ?_
    refine s_imul B d_Terms_node_24 ?_
    refine s_istore_n B d_Terms_node_25 (by decide) ?_
    refine s_iinc (w := (1:Int32)) B d_Terms_node_26 rfl (by decide) (by decide) ?_
    refine s_goto B d_Terms_node_29 rfl ?_
    refine s_pick (lv1 := [(0, .ref 2), (1, .int l1), (2, .ref l2), (3, .int ((l3 + r2.2) * (-1640531535:Int32))), (4, .int (l4 + (1:Int32)))]) [0, 1, 2, 3, 4] rfl ?_
    exact hk5 l1 l2 ((l3 + r2.2) * (-1640531535:Int32)) (l4 + (1:Int32)) r2.1 hl2
set_option maxRecDepth 100000 in
set_option maxHeartbeats 4000000 in
theorem t_Terms_node_5  (B : xB p R s m args meth c b_Terms_node 6 R_Terms (Cond.code y_Terms_node b_Terms_node 6 (some .int) :: x_T) (some .int) 5 112 D x_cl (xty g) base)  (l1 : Int32) (l2 : Nat) (l3 : Int32) (l4 : Int32) (M : MS) (hl2 : x_kd l2 = 1) : Sn p l e R s m args below meth c 6 D x_cl base (xwd g) cM x_gr az kz (xfc cM) (xZ below args s D x_cl (xty g) base (xwd g) cM x_gr az kz ovI) 5 [] [(0, .ref 2), (1, .int l1), (2, .ref l2), (3, .int l3), (4, .int l4)] M (m_Terms_node_5 (l1, l2, l3, l4, M)) := by
  have q : ∀ (F : Nat) (i : Int32 × Nat × Int32 × Int32 × MS), x_kd i.2.1 = 1 → Sn p l e R s m args below meth c 6 D x_cl base (xwd g) cM x_gr az kz (xfc cM) (xZ below args s D x_cl (xty g) base (xwd g) cM x_gr az kz ovI) 5 [] [(0, .ref 2), (1, .int i.1), (2, .ref i.2.1), (3, .int i.2.2.1), (4, .int i.2.2.2.1)] i.2.2.2.2 (fx (fun (k : Int32 × Nat × Int32 × Int32 × MS → Option (MS × Int32)) (i : Int32 × Nat × Int32 × Int32 × MS) => m_Terms_node_5b k i.1 i.2.1 i.2.2.1 i.2.2.2.1 i.2.2.2.2) F i) := by
    intro F
    induction F with
    | zero => intro i h0; exact s_none
    | succ F ih => intro i h0; exact t_Terms_node_5b B  (fun l1 l2 l3 l4 M h0 => ih (l1, l2, l3, l4, M) h0) i.1 i.2.1 i.2.2.1 i.2.2.2.1 i.2.2.2.2 h0
  exact q FU (l1, l2, l3, l4, M) hl2
set_option maxRecDepth 100000 in
set_option maxHeartbeats 4000000 in
theorem t_Terms_node (B : xB p R s m args meth c b_Terms_node 6 R_Terms (Cond.code y_Terms_node b_Terms_node 6 (some .int) :: x_T) (some .int) 5 112 D x_cl (xty g) base) (a1 : Int32) (a2 : Nat) (M : MS) : Sn p l e R s m args below meth c 6 D x_cl base (xwd g) cM x_gr az kz (xfc cM) (xZ below args s D x_cl (xty g) base (xwd g) cM x_gr az kz ovI) 0 [] [(0, .ref 2), (1, .int a1), (2, .ref a2)] M (m_Terms_node a1 a2 M) := by
  unfold m_Terms_node
  refine s_guard (fun ha2 => ?_)
  refine s_iload_n B d_Terms_node_0 rfl ?_
  refine s_istore_n B d_Terms_node_1 (by decide) ?_
  refine s_iconst (v := (0:Int32)) B d_Terms_node_2 (by decide) ?_
  refine s_istore B d_Terms_node_3 (by decide) ?_
  refine s_pick (lv1 := [(0, .ref 2), (1, .int a1), (2, .ref a2), (3, .int a1), (4, .int (0:Int32))]) [0, 1, 2, 3, 4] rfl ?_
  exact t_Terms_node_5 B a1 a2 a1 (0:Int32) M ha2
set_option maxRecDepth 100000 in
set_option maxHeartbeats 4000000 in
theorem ct_Terms_node {l : Launch} {D : va_G} {base : Nat} {g : Nat → ClassId} (a1 : Int32) (a2 : Nat) (M : MS) (r : MS × Int32) (hr : m_Terms_node a1 a2 M = some r) : Ct l y_Terms_node (Cond.code y_Terms_node b_Terms_node 6 (some .int) :: x_T) 5 112 D x_cl (xty g) base (xwd g) cM x_gr [.ref 2, .int a1, .ref a2] M r.1 (ovI r.2) :=
  x_met (ov := ovI) (by decide) (Nat.le_of_ble_eq_true rfl) (fun p e R s m args below meth c az B => t_Terms_node B a1 a2 M) r hr
end
