/-! the eleven constructors: models and walks (by program) -/
abbrev b_iRow : ByteArray := prog_6_method_1_code
abbrev y_iRow : MethodName := ⟨R_Row, "<init>", "()V"⟩
set_option maxRecDepth 100000 in
theorem cd_iRow : Cond.code y_iRow b_iRow 1 none ∈ x_T := xmem1 38 rfl rfl
theorem hi_Row : y_iRow.cls ≠ "java/lang/invoke/MethodHandle" ∧ y_iRow.cls ≠ "java/lang/invoke/VarHandle" ∧ (parseMethodDescriptor y_iRow.desc).map (fun d => d.parameters.length) = some 0 := by decide +kernel
theorem df_Row : ∀ j, j < x_Nf 1 → defaultValue (ty_Row j) = vp_V [.null, .int 0] j := by decide +kernel
theorem d_iRow_0 : decode b_iRow 0 = .ok (.aload_n 0, 1) := by decide +kernel
theorem d_iRow_1 : decode b_iRow 1 = .ok (.invokespecial 1, 3) := by decide +kernel
theorem d_iRow_4 : decode b_iRow 4 = .ok (.aload_n 0, 1) := by decide +kernel
theorem d_iRow_5 : decode b_iRow 5 = .ok (.bipush (64), 2) := by decide +kernel
theorem d_iRow_7 : decode b_iRow 7 = .ok (.newarray .int, 2) := by decide +kernel
theorem d_iRow_9 : decode b_iRow 9 = .ok (.putfield 7, 3) := by decide +kernel
theorem d_iRow_12 : decode b_iRow 12 = .ok (.aload_n 0, 1) := by decide +kernel
theorem d_iRow_13 : decode b_iRow 13 = .ok (.iconst (0), 1) := by decide +kernel
theorem d_iRow_14 : decode b_iRow 14 = .ok (.putfield 13, 3) := by decide +kernel
theorem d_iRow_17 : decode b_iRow 17 = .ok (.return_, 1) := by decide +kernel
set_option maxRecDepth 100000 in
theorem oi_Row : Cond.methodLink R_Row 1 Lib.objectInit ∈ x_T := xmem1 39 rfl rfl
set_option maxRecDepth 100000 in
theorem fi_Row_7 : Cond.fieldLink R_Row 7 R_Row (F_Row 0).2.1 (F_Row 0).2.2.1 ∈ x_T := xmem1 40 rfl rfl
set_option maxRecDepth 100000 in
theorem fi_Row_13 : Cond.fieldLink R_Row 13 R_Row (F_Row 1).2.1 (F_Row 1).2.2.1 ∈ x_T := xmem1 41 rfl rfl
def m_iRow (n0 o : Nat) (S : LW) : Option (LW × Unit) :=
  ((nwL n0 S [o] (.inl (0, 64, .inl (fun _ => 0))) 64).bind fun S1 =>
  ((ptL S1 o 1 0 (.ref S.1.length)).bind fun S2 =>
  ((ptL S2 o 1 1 (.int (0:Int32))).bind fun S3 =>
  (some (S3, ())))))
section
variable {p : Program} {l : Launch} {e : Env} {R : Room} {s : State} {m : MethodId} {args : Array Value} {below : List Frame} {meth : Method} {c : Code} {D : va_G} {base n0 : Nat} {g : Nat → ClassId} {az : Nat → Nat} {kz : Nat × Nat}
set_option maxRecDepth 100000 in
set_option maxHeartbeats 4000000 in
theorem t_iRow (B : xB p R s m args meth c b_iRow 1 R_Row (Cond.code y_iRow b_iRow 1 none :: x_T) none 1 20 D x_cl (xty g) base) (hN : xN s) (hnm : meth.name = "<init>") (o : Nat) (S : LW) : Sn p l e R s m args below meth c 1 D x_cl base (wdL g) cL (grn n0) az kz (xfc cL) (xZ below args s D x_cl (xty g) base (wdL g) cL (grn n0) az kz ovU) 0 [] [(0, .ref o)] S (m_iRow n0 o S) := by
  unfold m_iRow
  refine s_aload_n B d_iRow_0 rfl ?_
  refine s_objI B oi_Row d_iRow_1 (by decide) (by decide) ?_
  refine s_aload_n B d_iRow_4 rfl ?_
  refine s_bipush (v := (64:Int32)) B d_iRow_5 (by decide) ?_
  refine s_newI (refs := [o]) B d_iRow_7 (by decide) rfl (by decide) (by simp [xin0]) (by simp [xin0]) (fun S1 _ => ?_)
  refine s_putLg (k := 0) (ty := (.array .int)) B xc_Row (by decide) rfl fi_Row_7 (Or.inl rfl) rfl (fun _ => rfl) (fun _ => rfl) d_iRow_9 (fun S2 _ => ?_)
  refine s_aload_n B d_iRow_12 rfl ?_
  refine s_iconst (v := (0:Int32)) B d_iRow_13 (by decide) ?_
  refine s_putLg (k := 1) (ty := .int) B xc_Row (by decide) rfl fi_Row_13 (Or.inl rfl) rfl (fun _ => rfl) (fun _ => rfl) d_iRow_14 (fun S3 _ => ?_)
  exact s_vret B d_iRow_17
theorem ct_iRow {l : Launch} {D : va_G} {base : Nat} {g : Nat → ClassId} (n0 o : Nat) (S : LW) (r : LW × Unit) (hr : m_iRow n0 o S = some r) : CtN l y_iRow (Cond.code y_iRow b_iRow 1 none :: x_T) 1 20 D g base (grn n0) [.ref o] S r.1 :=
  x_metN (by decide) (Nat.le_of_ble_eq_true rfl) (fun p e R s m args below meth c az B hN hnm => t_iRow B hN hnm o S) r hr
end
abbrev b_iGathering : ByteArray := prog_4_method_1_code
abbrev y_iGathering : MethodName := ⟨R_Gathering, "<init>", "()V"⟩
set_option maxRecDepth 100000 in
theorem cd_iGathering : Cond.code y_iGathering b_iGathering 1 none ∈ x_T := xmem1 52 rfl rfl
theorem hi_Gathering : y_iGathering.cls ≠ "java/lang/invoke/MethodHandle" ∧ y_iGathering.cls ≠ "java/lang/invoke/VarHandle" ∧ (parseMethodDescriptor y_iGathering.desc).map (fun d => d.parameters.length) = some 0 := by decide +kernel
theorem df_Gathering : ∀ j, j < x_Nf 2 → defaultValue (ty_Gathering j) = vp_V [.null, .int 0, .int 0, .int 0] j := by decide +kernel
theorem d_iGathering_0 : decode b_iGathering 0 = .ok (.aload_n 0, 1) := by decide +kernel
theorem d_iGathering_1 : decode b_iGathering 1 = .ok (.invokespecial 3, 3) := by decide +kernel
theorem d_iGathering_4 : decode b_iGathering 4 = .ok (.aload_n 0, 1) := by decide +kernel
theorem d_iGathering_5 : decode b_iGathering 5 = .ok (.new 9, 3) := by decide +kernel
theorem d_iGathering_8 : decode b_iGathering 8 = .ok (.dup, 1) := by decide +kernel
theorem d_iGathering_9 : decode b_iGathering 9 = .ok (.invokespecial 11, 3) := by decide +kernel
theorem d_iGathering_12 : decode b_iGathering 12 = .ok (.putfield 12, 3) := by decide +kernel
theorem d_iGathering_15 : decode b_iGathering 15 = .ok (.aload_n 0, 1) := by decide +kernel
theorem d_iGathering_16 : decode b_iGathering 16 = .ok (.iconst (4), 1) := by decide +kernel
theorem d_iGathering_17 : decode b_iGathering 17 = .ok (.putfield 18, 3) := by decide +kernel
theorem d_iGathering_20 : decode b_iGathering 20 = .ok (.aload_n 0, 1) := by decide +kernel
theorem d_iGathering_21 : decode b_iGathering 21 = .ok (.iconst (-1), 1) := by decide +kernel
theorem d_iGathering_22 : decode b_iGathering 22 = .ok (.putfield 22, 3) := by decide +kernel
theorem d_iGathering_25 : decode b_iGathering 25 = .ok (.aload_n 0, 1) := by decide +kernel
theorem d_iGathering_26 : decode b_iGathering 26 = .ok (.iconst (0), 1) := by decide +kernel
theorem d_iGathering_27 : decode b_iGathering 27 = .ok (.putfield 25, 3) := by decide +kernel
theorem d_iGathering_30 : decode b_iGathering 30 = .ok (.return_, 1) := by decide +kernel
set_option maxRecDepth 100000 in
theorem oi_Gathering : Cond.methodLink R_Gathering 3 Lib.objectInit ∈ x_T := xmem1 53 rfl rfl
set_option maxRecDepth 100000 in
theorem cl_Gathering_9 : Cond.classLink R_Gathering 9 R_Row ∈ x_T := xmem1 54 rfl rfl
set_option maxRecDepth 100000 in
theorem it_Row : Cond.instantiable R_Row (x_Nf 1) ∈ x_T := xmem1 35 rfl rfl
set_option maxRecDepth 100000 in
theorem ii_Row : Cond.initialized R_Row ∈ x_T := xmem1 3 rfl rfl
set_option maxRecDepth 100000 in
theorem im_iRow : Cond.instanceMethod y_iRow ∈ x_T := xmem1 37 rfl rfl
set_option maxRecDepth 100000 in
theorem fi_Gathering_12 : Cond.fieldLink R_Gathering 12 R_Gathering (F_Gathering 0).2.1 (F_Gathering 0).2.2.1 ∈ x_T := xmem1 56 rfl rfl
set_option maxRecDepth 100000 in
theorem fi_Gathering_18 : Cond.fieldLink R_Gathering 18 R_Gathering (F_Gathering 1).2.1 (F_Gathering 1).2.2.1 ∈ x_T := xmem1 57 rfl rfl
set_option maxRecDepth 100000 in
theorem fi_Gathering_22 : Cond.fieldLink R_Gathering 22 R_Gathering (F_Gathering 2).2.1 (F_Gathering 2).2.2.1 ∈ x_T := xmem1 58 rfl rfl
set_option maxRecDepth 100000 in
theorem fi_Gathering_25 : Cond.fieldLink R_Gathering 25 R_Gathering (F_Gathering 3).2.1 (F_Gathering 3).2.2.1 ∈ x_T := xmem1 59 rfl rfl
def m_iGathering (n0 o : Nat) (S : LW) : Option (LW × Unit) :=
  ((nwL n0 S [o] (.inr (1, [.null, .int 0])) (x_Nf 1)).bind fun S1 => cal cL S1 (m_iRow S1.1.length S.1.length S1) fun c2 =>
  ((ptL c2.1 o 2 0 (.ref S.1.length)).bind fun S3 =>
  ((ptL S3 o 2 1 (.int (4:Int32))).bind fun S4 =>
  ((ptL S4 o 2 2 (.int (-1:Int32))).bind fun S5 =>
  ((ptL S5 o 2 3 (.int (0:Int32))).bind fun S6 =>
  (some (S6, ())))))))
section
variable {p : Program} {l : Launch} {e : Env} {R : Room} {s : State} {m : MethodId} {args : Array Value} {below : List Frame} {meth : Method} {c : Code} {D : va_G} {base n0 : Nat} {g : Nat → ClassId} {az : Nat → Nat} {kz : Nat × Nat}
set_option maxRecDepth 100000 in
set_option maxHeartbeats 4000000 in
theorem t_iGathering (B : xB p R s m args meth c b_iGathering 1 R_Gathering (Cond.code y_iGathering b_iGathering 1 none :: x_T) none 2 40 D x_cl (xty g) base) (hN : xN s) (hnm : meth.name = "<init>") (o : Nat) (S : LW) : Sn p l e R s m args below meth c 1 D x_cl base (wdL g) cL (grn n0) az kz (xfc cL) (xZ below args s D x_cl (xty g) base (wdL g) cL (grn n0) az kz ovU) 0 [] [(0, .ref o)] S (m_iGathering n0 o S) := by
  unfold m_iGathering
  refine s_aload_n B d_iGathering_0 rfl ?_
  refine s_objI B oi_Gathering d_iGathering_1 (by decide) (by decide) ?_
  refine s_aload_n B d_iGathering_4 rfl ?_
  refine s_newC (refs := [o]) (y := fun S1 => m_iRow S1.1.length S.1.length S1) B hN xc_Row cl_Gathering_9 it_Row ii_Row df_Row rfl d_iGathering_5 d_iGathering_8 (lk_IN2 (n := 0) B d_iGathering_9 (xgood cd_iRow) (List.mem_cons_of_mem _ im_iRow) (List.mem_cons_of_mem _ ii_Row) (hN.1 _ (List.mem_of_getElem? (i := 2) rfl)) rfl rfl hi_Row (by decide) (by decide)) (by simp [xin0]) (by simp [xin0]) (by simp [Value.category]) (fun S9 r9 e9 => ct_iRow _ _ S9 r9 e9) (fun c2 => ?_)
  refine s_putLg (k := 0) (ty := (.object "DerivativeDesk$Row")) B xc_Gathering (by decide) rfl fi_Gathering_12 (Or.inr ⟨rfl, hnm, rfl⟩) rfl (fun _ => rfl) (fun _ => rfl) d_iGathering_12 (fun S3 _ => ?_)
  refine s_aload_n B d_iGathering_15 rfl ?_
  refine s_iconst (v := (4:Int32)) B d_iGathering_16 (by decide) ?_
  refine s_putLg (k := 1) (ty := .int) B xc_Gathering (by decide) rfl fi_Gathering_18 (Or.inl rfl) rfl (fun _ => rfl) (fun _ => rfl) d_iGathering_17 (fun S4 _ => ?_)
  refine s_aload_n B d_iGathering_20 rfl ?_
  refine s_iconst (v := (-1:Int32)) B d_iGathering_21 (by decide) ?_
  refine s_putLg (k := 2) (ty := .int) B xc_Gathering (by decide) rfl fi_Gathering_22 (Or.inl rfl) rfl (fun _ => rfl) (fun _ => rfl) d_iGathering_22 (fun S5 _ => ?_)
  refine s_aload_n B d_iGathering_25 rfl ?_
  refine s_iconst (v := (0:Int32)) B d_iGathering_26 (by decide) ?_
  refine s_putLg (k := 3) (ty := .boolean) B xc_Gathering (by decide) rfl fi_Gathering_25 (Or.inl rfl) rfl (fun _ => rfl) (fun _ => rfl) d_iGathering_27 (fun S6 _ => ?_)
  exact s_vret B d_iGathering_30
theorem ct_iGathering {l : Launch} {D : va_G} {base : Nat} {g : Nat → ClassId} (n0 o : Nat) (S : LW) (r : LW × Unit) (hr : m_iGathering n0 o S = some r) : CtN l y_iGathering (Cond.code y_iGathering b_iGathering 1 none :: x_T) 2 40 D g base (grn n0) [.ref o] S r.1 :=
  x_metN (by decide) (Nat.le_of_ble_eq_true rfl) (fun p e R s m args below meth c az B hN hnm => t_iGathering B hN hnm o S) r hr
end
abbrev b_iTerms : ByteArray := prog_8_method_1_code
abbrev y_iTerms : MethodName := ⟨R_Terms, "<init>", "()V"⟩
set_option maxRecDepth 100000 in
theorem cd_iTerms : Cond.code y_iTerms b_iTerms 2 none ∈ x_T := xmem1 32 rfl rfl
theorem hi_Terms : y_iTerms.cls ≠ "java/lang/invoke/MethodHandle" ∧ y_iTerms.cls ≠ "java/lang/invoke/VarHandle" ∧ (parseMethodDescriptor y_iTerms.desc).map (fun d => d.parameters.length) = some 0 := by decide +kernel
theorem df_Terms : ∀ j, j < x_Nf 3 → defaultValue (ty_Terms j) = vp_V [.null, .null, .null, .null, .null, .null, .null, .null, .null, .null, .null, .null, .null, .null, .null, .null, .int 0, .int 0, .int 0, .int 0] j := by decide +kernel
theorem d_iTerms_0 : decode b_iTerms 0 = .ok (.aload_n 0, 1) := by decide +kernel
theorem d_iTerms_1 : decode b_iTerms 1 = .ok (.invokespecial 3, 3) := by decide +kernel
theorem d_iTerms_4 : decode b_iTerms 4 = .ok (.aload_n 0, 1) := by decide +kernel
theorem d_iTerms_5 : decode b_iTerms 5 = .ok (.sipush (1024), 3) := by decide +kernel
theorem d_iTerms_8 : decode b_iTerms 8 = .ok (.newarray .int, 2) := by decide +kernel
theorem d_iTerms_10 : decode b_iTerms 10 = .ok (.putfield 11, 3) := by decide +kernel
theorem d_iTerms_13 : decode b_iTerms 13 = .ok (.aload_n 0, 1) := by decide +kernel
theorem d_iTerms_14 : decode b_iTerms 14 = .ok (.sipush (1024), 3) := by decide +kernel
theorem d_iTerms_17 : decode b_iTerms 17 = .ok (.newarray .int, 2) := by decide +kernel
theorem d_iTerms_19 : decode b_iTerms 19 = .ok (.putfield 15, 3) := by decide +kernel
theorem d_iTerms_22 : decode b_iTerms 22 = .ok (.aload_n 0, 1) := by decide +kernel
theorem d_iTerms_23 : decode b_iTerms 23 = .ok (.sipush (1024), 3) := by decide +kernel
theorem d_iTerms_26 : decode b_iTerms 26 = .ok (.newarray .int, 2) := by decide +kernel
theorem d_iTerms_28 : decode b_iTerms 28 = .ok (.putfield 18, 3) := by decide +kernel
theorem d_iTerms_31 : decode b_iTerms 31 = .ok (.aload_n 0, 1) := by decide +kernel
theorem d_iTerms_32 : decode b_iTerms 32 = .ok (.sipush (1024), 3) := by decide +kernel
theorem d_iTerms_35 : decode b_iTerms 35 = .ok (.newarray .int, 2) := by decide +kernel
theorem d_iTerms_37 : decode b_iTerms 37 = .ok (.putfield 21, 3) := by decide +kernel
theorem d_iTerms_40 : decode b_iTerms 40 = .ok (.aload_n 0, 1) := by decide +kernel
theorem d_iTerms_41 : decode b_iTerms 41 = .ok (.sipush (1024), 3) := by decide +kernel
theorem d_iTerms_44 : decode b_iTerms 44 = .ok (.newarray .int, 2) := by decide +kernel
theorem d_iTerms_46 : decode b_iTerms 46 = .ok (.putfield 24, 3) := by decide +kernel
theorem d_iTerms_49 : decode b_iTerms 49 = .ok (.aload_n 0, 1) := by decide +kernel
theorem d_iTerms_50 : decode b_iTerms 50 = .ok (.sipush (1024), 3) := by decide +kernel
theorem d_iTerms_53 : decode b_iTerms 53 = .ok (.newarray .int, 2) := by decide +kernel
theorem d_iTerms_55 : decode b_iTerms 55 = .ok (.putfield 27, 3) := by decide +kernel
theorem d_iTerms_58 : decode b_iTerms 58 = .ok (.aload_n 0, 1) := by decide +kernel
theorem d_iTerms_59 : decode b_iTerms 59 = .ok (.sipush (1024), 3) := by decide +kernel
theorem d_iTerms_62 : decode b_iTerms 62 = .ok (.newarray .int, 2) := by decide +kernel
theorem d_iTerms_64 : decode b_iTerms 64 = .ok (.putfield 30, 3) := by decide +kernel
theorem d_iTerms_67 : decode b_iTerms 67 = .ok (.aload_n 0, 1) := by decide +kernel
theorem d_iTerms_68 : decode b_iTerms 68 = .ok (.sipush (1024), 3) := by decide +kernel
theorem d_iTerms_71 : decode b_iTerms 71 = .ok (.newarray .int, 2) := by decide +kernel
theorem d_iTerms_73 : decode b_iTerms 73 = .ok (.putfield 33, 3) := by decide +kernel
theorem d_iTerms_76 : decode b_iTerms 76 = .ok (.aload_n 0, 1) := by decide +kernel
theorem d_iTerms_77 : decode b_iTerms 77 = .ok (.sipush (1024), 3) := by decide +kernel
theorem d_iTerms_80 : decode b_iTerms 80 = .ok (.newarray .int, 2) := by decide +kernel
theorem d_iTerms_82 : decode b_iTerms 82 = .ok (.putfield 36, 3) := by decide +kernel
theorem d_iTerms_85 : decode b_iTerms 85 = .ok (.aload_n 0, 1) := by decide +kernel
theorem d_iTerms_86 : decode b_iTerms 86 = .ok (.sipush (4096), 3) := by decide +kernel
theorem d_iTerms_89 : decode b_iTerms 89 = .ok (.newarray .int, 2) := by decide +kernel
theorem d_iTerms_91 : decode b_iTerms 91 = .ok (.putfield 39, 3) := by decide +kernel
theorem d_iTerms_94 : decode b_iTerms 94 = .ok (.aload_n 0, 1) := by decide +kernel
theorem d_iTerms_95 : decode b_iTerms 95 = .ok (.sipush (2048), 3) := by decide +kernel
theorem d_iTerms_98 : decode b_iTerms 98 = .ok (.newarray .int, 2) := by decide +kernel
theorem d_iTerms_100 : decode b_iTerms 100 = .ok (.putfield 42, 3) := by decide +kernel
theorem d_iTerms_103 : decode b_iTerms 103 = .ok (.aload_n 0, 1) := by decide +kernel
theorem d_iTerms_104 : decode b_iTerms 104 = .ok (.sipush (1024), 3) := by decide +kernel
theorem d_iTerms_107 : decode b_iTerms 107 = .ok (.newarray .int, 2) := by decide +kernel
theorem d_iTerms_109 : decode b_iTerms 109 = .ok (.putfield 45, 3) := by decide +kernel
theorem d_iTerms_112 : decode b_iTerms 112 = .ok (.aload_n 0, 1) := by decide +kernel
theorem d_iTerms_113 : decode b_iTerms 113 = .ok (.new 48, 3) := by decide +kernel
theorem d_iTerms_116 : decode b_iTerms 116 = .ok (.dup, 1) := by decide +kernel
theorem d_iTerms_117 : decode b_iTerms 117 = .ok (.invokespecial 50, 3) := by decide +kernel
theorem d_iTerms_120 : decode b_iTerms 120 = .ok (.putfield 51, 3) := by decide +kernel
theorem d_iTerms_123 : decode b_iTerms 123 = .ok (.aload_n 0, 1) := by decide +kernel
theorem d_iTerms_124 : decode b_iTerms 124 = .ok (.new 48, 3) := by decide +kernel
theorem d_iTerms_127 : decode b_iTerms 127 = .ok (.dup, 1) := by decide +kernel
theorem d_iTerms_128 : decode b_iTerms 128 = .ok (.invokespecial 50, 3) := by decide +kernel
theorem d_iTerms_131 : decode b_iTerms 131 = .ok (.putfield 55, 3) := by decide +kernel
theorem d_iTerms_134 : decode b_iTerms 134 = .ok (.aload_n 0, 1) := by decide +kernel
theorem d_iTerms_135 : decode b_iTerms 135 = .ok (.new 48, 3) := by decide +kernel
theorem d_iTerms_138 : decode b_iTerms 138 = .ok (.dup, 1) := by decide +kernel
theorem d_iTerms_139 : decode b_iTerms 139 = .ok (.invokespecial 50, 3) := by decide +kernel
theorem d_iTerms_142 : decode b_iTerms 142 = .ok (.putfield 58, 3) := by decide +kernel
theorem d_iTerms_145 : decode b_iTerms 145 = .ok (.aload_n 0, 1) := by decide +kernel
theorem d_iTerms_146 : decode b_iTerms 146 = .ok (.new 61, 3) := by decide +kernel
theorem d_iTerms_149 : decode b_iTerms 149 = .ok (.dup, 1) := by decide +kernel
theorem d_iTerms_150 : decode b_iTerms 150 = .ok (.invokespecial 63, 3) := by decide +kernel
theorem d_iTerms_153 : decode b_iTerms 153 = .ok (.putfield 64, 3) := by decide +kernel
theorem d_iTerms_156 : decode b_iTerms 156 = .ok (.aload_n 0, 1) := by decide +kernel
theorem d_iTerms_157 : decode b_iTerms 157 = .ok (.bipush (18), 2) := by decide +kernel
theorem d_iTerms_159 : decode b_iTerms 159 = .ok (.putfield 68, 3) := by decide +kernel
theorem d_iTerms_162 : decode b_iTerms 162 = .ok (.aload_n 0, 1) := by decide +kernel
theorem d_iTerms_163 : decode b_iTerms 163 = .ok (.iconst (1), 1) := by decide +kernel
theorem d_iTerms_164 : decode b_iTerms 164 = .ok (.putfield 72, 3) := by decide +kernel
theorem d_iTerms_167 : decode b_iTerms 167 = .ok (.aload_n 0, 1) := by decide +kernel
theorem d_iTerms_168 : decode b_iTerms 168 = .ok (.sipush (768), 3) := by decide +kernel
theorem d_iTerms_171 : decode b_iTerms 171 = .ok (.putfield 75, 3) := by decide +kernel
theorem d_iTerms_174 : decode b_iTerms 174 = .ok (.aload_n 0, 1) := by decide +kernel
theorem d_iTerms_175 : decode b_iTerms 175 = .ok (.sipush (1536), 3) := by decide +kernel
theorem d_iTerms_178 : decode b_iTerms 178 = .ok (.putfield 78, 3) := by decide +kernel
theorem d_iTerms_181 : decode b_iTerms 181 = .ok (.aload_n 0, 1) := by decide +kernel
theorem d_iTerms_182 : decode b_iTerms 182 = .ok (.getfield 45, 3) := by decide +kernel
theorem d_iTerms_185 : decode b_iTerms 185 = .ok (.iconst (-1), 1) := by decide +kernel
theorem d_iTerms_186 : decode b_iTerms 186 = .ok (.invokestatic 81, 3) := by decide +kernel
theorem d_iTerms_189 : decode b_iTerms 189 = .ok (.aload_n 0, 1) := by decide +kernel
theorem d_iTerms_190 : decode b_iTerms 190 = .ok (.getfield 39, 3) := by decide +kernel
theorem d_iTerms_193 : decode b_iTerms 193 = .ok (.iconst (-1), 1) := by decide +kernel
theorem d_iTerms_194 : decode b_iTerms 194 = .ok (.invokestatic 81, 3) := by decide +kernel
theorem d_iTerms_197 : decode b_iTerms 197 = .ok (.iconst (0), 1) := by decide +kernel
theorem d_iTerms_198 : decode b_iTerms 198 = .ok (.istore_n 1, 1) := by decide +kernel
theorem d_iTerms_199 : decode b_iTerms 199 = .ok (.iload_n 1, 1) := by decide +kernel
theorem d_iTerms_200 : decode b_iTerms 200 = .ok (.bipush (18), 2) := by decide +kernel
theorem d_iTerms_202 : decode b_iTerms 202 = .ok (.if_icmp .ge (23), 3) := by decide +kernel
theorem d_iTerms_205 : decode b_iTerms 205 = .ok (.aload_n 0, 1) := by decide +kernel
theorem d_iTerms_206 : decode b_iTerms 206 = .ok (.getfield 11, 3) := by decide +kernel
theorem d_iTerms_209 : decode b_iTerms 209 = .ok (.iload_n 1, 1) := by decide +kernel
theorem d_iTerms_210 : decode b_iTerms 210 = .ok (.iconst (2), 1) := by decide +kernel
theorem d_iTerms_211 : decode b_iTerms 211 = .ok (.iastore, 1) := by decide +kernel
theorem d_iTerms_212 : decode b_iTerms 212 = .ok (.aload_n 0, 1) := by decide +kernel
theorem d_iTerms_213 : decode b_iTerms 213 = .ok (.getfield 15, 3) := by decide +kernel
theorem d_iTerms_216 : decode b_iTerms 216 = .ok (.iload_n 1, 1) := by decide +kernel
theorem d_iTerms_217 : decode b_iTerms 217 = .ok (.iconst (1), 1) := by decide +kernel
theorem d_iTerms_218 : decode b_iTerms 218 = .ok (.iastore, 1) := by decide +kernel
theorem d_iTerms_219 : decode b_iTerms 219 = .ok (.iinc 1 (1), 3) := by decide +kernel
theorem d_iTerms_222 : decode b_iTerms 222 = .ok (.goto (-23), 3) := by decide +kernel
theorem d_iTerms_225 : decode b_iTerms 225 = .ok (.aload_n 0, 1) := by decide +kernel
theorem d_iTerms_226 : decode b_iTerms 226 = .ok (.getfield 11, 3) := by decide +kernel
theorem d_iTerms_229 : decode b_iTerms 229 = .ok (.iconst (0), 1) := by decide +kernel
theorem d_iTerms_230 : decode b_iTerms 230 = .ok (.iconst (0), 1) := by decide +kernel
theorem d_iTerms_231 : decode b_iTerms 231 = .ok (.iastore, 1) := by decide +kernel
theorem d_iTerms_232 : decode b_iTerms 232 = .ok (.aload_n 0, 1) := by decide +kernel
theorem d_iTerms_233 : decode b_iTerms 233 = .ok (.getfield 11, 3) := by decide +kernel
theorem d_iTerms_236 : decode b_iTerms 236 = .ok (.bipush (16), 2) := by decide +kernel
theorem d_iTerms_238 : decode b_iTerms 238 = .ok (.iconst (1), 1) := by decide +kernel
theorem d_iTerms_239 : decode b_iTerms 239 = .ok (.iastore, 1) := by decide +kernel
theorem d_iTerms_240 : decode b_iTerms 240 = .ok (.aload_n 0, 1) := by decide +kernel
theorem d_iTerms_241 : decode b_iTerms 241 = .ok (.getfield 18, 3) := by decide +kernel
theorem d_iTerms_244 : decode b_iTerms 244 = .ok (.bipush (16), 2) := by decide +kernel
theorem d_iTerms_246 : decode b_iTerms 246 = .ok (.iconst (1), 1) := by decide +kernel
theorem d_iTerms_247 : decode b_iTerms 247 = .ok (.iastore, 1) := by decide +kernel
theorem d_iTerms_248 : decode b_iTerms 248 = .ok (.aload_n 0, 1) := by decide +kernel
theorem d_iTerms_249 : decode b_iTerms 249 = .ok (.getfield 11, 3) := by decide +kernel
theorem d_iTerms_252 : decode b_iTerms 252 = .ok (.bipush (17), 2) := by decide +kernel
theorem d_iTerms_254 : decode b_iTerms 254 = .ok (.bipush (6), 2) := by decide +kernel
theorem d_iTerms_256 : decode b_iTerms 256 = .ok (.iastore, 1) := by decide +kernel
theorem d_iTerms_257 : decode b_iTerms 257 = .ok (.aload_n 0, 1) := by decide +kernel
theorem d_iTerms_258 : decode b_iTerms 258 = .ok (.getfield 15, 3) := by decide +kernel
theorem d_iTerms_261 : decode b_iTerms 261 = .ok (.bipush (17), 2) := by decide +kernel
theorem d_iTerms_263 : decode b_iTerms 263 = .ok (.iconst (2), 1) := by decide +kernel
theorem d_iTerms_264 : decode b_iTerms 264 = .ok (.iastore, 1) := by decide +kernel
theorem d_iTerms_265 : decode b_iTerms 265 = .ok (.aload_n 0, 1) := by decide +kernel
theorem d_iTerms_266 : decode b_iTerms 266 = .ok (.getfield 18, 3) := by decide +kernel
theorem d_iTerms_269 : decode b_iTerms 269 = .ok (.bipush (17), 2) := by decide +kernel
theorem d_iTerms_271 : decode b_iTerms 271 = .ok (.iconst (1), 1) := by decide +kernel
theorem d_iTerms_272 : decode b_iTerms 272 = .ok (.iastore, 1) := by decide +kernel
theorem d_iTerms_273 : decode b_iTerms 273 = .ok (.aload_n 0, 1) := by decide +kernel
theorem d_iTerms_274 : decode b_iTerms 274 = .ok (.getfield 24, 3) := by decide +kernel
theorem d_iTerms_277 : decode b_iTerms 277 = .ok (.bipush (17), 2) := by decide +kernel
theorem d_iTerms_279 : decode b_iTerms 279 = .ok (.iconst (1), 1) := by decide +kernel
theorem d_iTerms_280 : decode b_iTerms 280 = .ok (.iastore, 1) := by decide +kernel
theorem d_iTerms_281 : decode b_iTerms 281 = .ok (.aload_n 0, 1) := by decide +kernel
theorem d_iTerms_282 : decode b_iTerms 282 = .ok (.getfield 42, 3) := by decide +kernel
theorem d_iTerms_285 : decode b_iTerms 285 = .ok (.iconst (0), 1) := by decide +kernel
theorem d_iTerms_286 : decode b_iTerms 286 = .ok (.iconst (0), 1) := by decide +kernel
theorem d_iTerms_287 : decode b_iTerms 287 = .ok (.iastore, 1) := by decide +kernel
theorem d_iTerms_288 : decode b_iTerms 288 = .ok (.return_, 1) := by decide +kernel
set_option maxRecDepth 100000 in
theorem fi_Terms_11 : Cond.fieldLink R_Terms 11 R_Terms (F_Terms 0).2.1 (F_Terms 0).2.2.1 ∈ x_T := xmem1 72 rfl rfl
set_option maxRecDepth 100000 in
theorem fi_Terms_18 : Cond.fieldLink R_Terms 18 R_Terms (F_Terms 2).2.1 (F_Terms 2).2.2.1 ∈ x_T := xmem1 74 rfl rfl
set_option maxRecDepth 100000 in
theorem fi_Terms_15 : Cond.fieldLink R_Terms 15 R_Terms (F_Terms 1).2.1 (F_Terms 1).2.2.1 ∈ x_T := xmem1 73 rfl rfl
set_option maxRecDepth 100000 in
theorem fi_Terms_24 : Cond.fieldLink R_Terms 24 R_Terms (F_Terms 4).2.1 (F_Terms 4).2.2.1 ∈ x_T := xmem1 76 rfl rfl
set_option maxRecDepth 100000 in
theorem fi_Terms_42 : Cond.fieldLink R_Terms 42 R_Terms (F_Terms 10).2.1 (F_Terms 10).2.2.1 ∈ x_T := xmem1 82 rfl rfl
def m_iTerms_199b (n0 : Nat) (k : Nat × Int32 × LW → Option (LW × Unit)) (o : Nat) (i : Int32) (S : LW) : Option (LW × Unit) :=
  (if (18:Int32) ≤ i then ((gtL S o 3 0).bind fun r1 =>
  ((stL S r1 (0:Int32) (0:Int32)).bind fun S2 =>
  ((gtL S2 o 3 0).bind fun r3 =>
  ((stL S2 r3 (16:Int32) (1:Int32)).bind fun S4 =>
  ((gtL S4 o 3 2).bind fun r5 =>
  ((stL S4 r5 (16:Int32) (1:Int32)).bind fun S6 =>
  ((gtL S6 o 3 0).bind fun r7 =>
  ((stL S6 r7 (17:Int32) (6:Int32)).bind fun S8 =>
  ((gtL S8 o 3 1).bind fun r9 =>
  ((stL S8 r9 (17:Int32) (2:Int32)).bind fun S10 =>
  ((gtL S10 o 3 2).bind fun r11 =>
  ((stL S10 r11 (17:Int32) (1:Int32)).bind fun S12 =>
  ((gtL S12 o 3 4).bind fun r13 =>
  ((stL S12 r13 (17:Int32) (1:Int32)).bind fun S14 =>
  ((gtL S14 o 3 10).bind fun r15 =>
  ((stL S14 r15 (0:Int32) (0:Int32)).bind fun S16 =>
  (some (S16, ())))))))))))))))))) else ((gtL S o 3 0).bind fun r17 =>
  ((stL S r17 i (2:Int32)).bind fun S18 =>
  ((gtL S18 o 3 1).bind fun r19 =>
  ((stL S18 r19 i (1:Int32)).bind fun S20 =>
  (k (o, (i + (1:Int32)), S20)))))))
def m_iTerms_199 (n0 : Nat) (q : Nat × Int32 × LW) : Option (LW × Unit) := fx (fun (k : Nat × Int32 × LW → Option (LW × Unit)) (q : Nat × Int32 × LW) => m_iTerms_199b n0 k q.1 q.2.1 q.2.2) FU q
set_option maxRecDepth 100000 in
theorem oi_Terms : Cond.methodLink R_Terms 3 Lib.objectInit ∈ x_T := xmem1 33 rfl rfl
set_option maxRecDepth 100000 in
theorem fi_Terms_21 : Cond.fieldLink R_Terms 21 R_Terms (F_Terms 3).2.1 (F_Terms 3).2.2.1 ∈ x_T := xmem1 75 rfl rfl
set_option maxRecDepth 100000 in
theorem fi_Terms_27 : Cond.fieldLink R_Terms 27 R_Terms (F_Terms 5).2.1 (F_Terms 5).2.2.1 ∈ x_T := xmem1 77 rfl rfl
set_option maxRecDepth 100000 in
theorem fi_Terms_30 : Cond.fieldLink R_Terms 30 R_Terms (F_Terms 6).2.1 (F_Terms 6).2.2.1 ∈ x_T := xmem1 78 rfl rfl
set_option maxRecDepth 100000 in
theorem fi_Terms_33 : Cond.fieldLink R_Terms 33 R_Terms (F_Terms 7).2.1 (F_Terms 7).2.2.1 ∈ x_T := xmem1 79 rfl rfl
set_option maxRecDepth 100000 in
theorem fi_Terms_36 : Cond.fieldLink R_Terms 36 R_Terms (F_Terms 8).2.1 (F_Terms 8).2.2.1 ∈ x_T := xmem1 80 rfl rfl
set_option maxRecDepth 100000 in
theorem fi_Terms_39 : Cond.fieldLink R_Terms 39 R_Terms (F_Terms 9).2.1 (F_Terms 9).2.2.1 ∈ x_T := xmem1 81 rfl rfl
set_option maxRecDepth 100000 in
theorem fi_Terms_45 : Cond.fieldLink R_Terms 45 R_Terms (F_Terms 11).2.1 (F_Terms 11).2.2.1 ∈ x_T := xmem1 83 rfl rfl
set_option maxRecDepth 100000 in
theorem cl_Terms_48 : Cond.classLink R_Terms 48 R_Row ∈ x_T := xmem1 34 rfl rfl
set_option maxRecDepth 100000 in
theorem fi_Terms_51 : Cond.fieldLink R_Terms 51 R_Terms (F_Terms 12).2.1 (F_Terms 12).2.2.1 ∈ x_T := xmem1 84 rfl rfl
set_option maxRecDepth 100000 in
theorem fi_Terms_55 : Cond.fieldLink R_Terms 55 R_Terms (F_Terms 13).2.1 (F_Terms 13).2.2.1 ∈ x_T := xmem1 85 rfl rfl
set_option maxRecDepth 100000 in
theorem fi_Terms_58 : Cond.fieldLink R_Terms 58 R_Terms (F_Terms 14).2.1 (F_Terms 14).2.2.1 ∈ x_T := xmem1 86 rfl rfl
set_option maxRecDepth 100000 in
theorem cl_Terms_61 : Cond.classLink R_Terms 61 R_Gathering ∈ x_T := xmem1 48 rfl rfl
set_option maxRecDepth 100000 in
theorem it_Gathering : Cond.instantiable R_Gathering (x_Nf 2) ∈ x_T := xmem1 49 rfl rfl
set_option maxRecDepth 100000 in
theorem ii_Gathering : Cond.initialized R_Gathering ∈ x_T := xmem1 4 rfl rfl
set_option maxRecDepth 100000 in
theorem im_iGathering : Cond.instanceMethod y_iGathering ∈ x_T := xmem1 51 rfl rfl
set_option maxRecDepth 100000 in
theorem fi_Terms_64 : Cond.fieldLink R_Terms 64 R_Terms (F_Terms 15).2.1 (F_Terms 15).2.2.1 ∈ x_T := xmem1 87 rfl rfl
set_option maxRecDepth 100000 in
theorem fi_Terms_68 : Cond.fieldLink R_Terms 68 R_Terms (F_Terms 16).2.1 (F_Terms 16).2.2.1 ∈ x_T := xmem1 88 rfl rfl
set_option maxRecDepth 100000 in
theorem fi_Terms_72 : Cond.fieldLink R_Terms 72 R_Terms (F_Terms 17).2.1 (F_Terms 17).2.2.1 ∈ x_T := xmem1 89 rfl rfl
set_option maxRecDepth 100000 in
theorem fi_Terms_75 : Cond.fieldLink R_Terms 75 R_Terms (F_Terms 18).2.1 (F_Terms 18).2.2.1 ∈ x_T := xmem1 90 rfl rfl
set_option maxRecDepth 100000 in
theorem fi_Terms_78 : Cond.fieldLink R_Terms 78 R_Terms (F_Terms 19).2.1 (F_Terms 19).2.2.1 ∈ x_T := xmem1 91 rfl rfl
set_option maxRecDepth 100000 in
theorem mi_Terms_81 : Cond.methodLink R_Terms 81 y_Arr_fill ∈ x_T := xmem1 69 rfl rfl
def m_iTerms (n0 o : Nat) (S : LW) : Option (LW × Unit) :=
  ((nwL n0 S [o] (.inl (0, 1024, .inl (fun _ => 0))) 1024).bind fun S1 =>
  ((ptL S1 o 3 0 (.ref S.1.length)).bind fun S2 =>
  ((nwL n0 S2 [o] (.inl (0, 1024, .inl (fun _ => 0))) 1024).bind fun S3 =>
  ((ptL S3 o 3 1 (.ref S2.1.length)).bind fun S4 =>
  ((nwL n0 S4 [o] (.inl (0, 1024, .inl (fun _ => 0))) 1024).bind fun S5 =>
  ((ptL S5 o 3 2 (.ref S4.1.length)).bind fun S6 =>
  ((nwL n0 S6 [o] (.inl (0, 1024, .inl (fun _ => 0))) 1024).bind fun S7 =>
  ((ptL S7 o 3 3 (.ref S6.1.length)).bind fun S8 =>
  ((nwL n0 S8 [o] (.inl (0, 1024, .inl (fun _ => 0))) 1024).bind fun S9 =>
  ((ptL S9 o 3 4 (.ref S8.1.length)).bind fun S10 =>
  ((nwL n0 S10 [o] (.inl (0, 1024, .inl (fun _ => 0))) 1024).bind fun S11 =>
  ((ptL S11 o 3 5 (.ref S10.1.length)).bind fun S12 =>
  ((nwL n0 S12 [o] (.inl (0, 1024, .inl (fun _ => 0))) 1024).bind fun S13 =>
  ((ptL S13 o 3 6 (.ref S12.1.length)).bind fun S14 =>
  ((nwL n0 S14 [o] (.inl (0, 1024, .inl (fun _ => 0))) 1024).bind fun S15 =>
  ((ptL S15 o 3 7 (.ref S14.1.length)).bind fun S16 =>
  ((nwL n0 S16 [o] (.inl (0, 1024, .inl (fun _ => 0))) 1024).bind fun S17 =>
  ((ptL S17 o 3 8 (.ref S16.1.length)).bind fun S18 =>
  ((nwL n0 S18 [o] (.inl (0, 4096, .inl (fun _ => 0))) 4096).bind fun S19 =>
  ((ptL S19 o 3 9 (.ref S18.1.length)).bind fun S20 =>
  ((nwL n0 S20 [o] (.inl (0, 2048, .inl (fun _ => 0))) 2048).bind fun S21 =>
  ((ptL S21 o 3 10 (.ref S20.1.length)).bind fun S22 =>
  ((nwL n0 S22 [o] (.inl (0, 1024, .inl (fun _ => 0))) 1024).bind fun S23 =>
  ((ptL S23 o 3 11 (.ref S22.1.length)).bind fun S24 =>
  ((nwL n0 S24 [o] (.inr (1, [.null, .int 0])) (x_Nf 1)).bind fun S25 => cal cL S25 (m_iRow S25.1.length S24.1.length S25) fun c26 =>
  ((ptL c26.1 o 3 12 (.ref S24.1.length)).bind fun S27 =>
  ((nwL n0 S27 [o] (.inr (1, [.null, .int 0])) (x_Nf 1)).bind fun S28 => cal cL S28 (m_iRow S28.1.length S27.1.length S28) fun c29 =>
  ((ptL c29.1 o 3 13 (.ref S27.1.length)).bind fun S30 =>
  ((nwL n0 S30 [o] (.inr (1, [.null, .int 0])) (x_Nf 1)).bind fun S31 => cal cL S31 (m_iRow S31.1.length S30.1.length S31) fun c32 =>
  ((ptL c32.1 o 3 14 (.ref S30.1.length)).bind fun S33 =>
  ((nwL n0 S33 [o] (.inr (2, [.null, .int 0, .int 0, .int 0])) (x_Nf 2)).bind fun S34 => cal cL S34 (m_iGathering S34.1.length S33.1.length S34) fun c35 =>
  ((ptL c35.1 o 3 15 (.ref S33.1.length)).bind fun S36 =>
  ((ptL S36 o 3 16 (.int (18:Int32))).bind fun S37 =>
  ((ptL S37 o 3 17 (.int (1:Int32))).bind fun S38 =>
  ((ptL S38 o 3 18 (.int (768:Int32))).bind fun S39 =>
  ((ptL S39 o 3 19 (.int (1536:Int32))).bind fun S40 =>
  ((gtL S40 o 3 11).bind fun r41 =>
  (cal cL S40 (mL_fill r41 (-1:Int32) S40) fun c42 =>
  ((gtL c42.1 o 3 9).bind fun r43 =>
  (cal cL c42.1 (mL_fill r43 (-1:Int32) c42.1) fun c44 =>
  (m_iTerms_199 n0 (o, (0:Int32), c44.1))))))))))))))))))))))))))))))))))))))))))
section
variable {p : Program} {l : Launch} {e : Env} {R : Room} {s : State} {m : MethodId} {args : Array Value} {below : List Frame} {meth : Method} {c : Code} {D : va_G} {base n0 : Nat} {g : Nat → ClassId} {az : Nat → Nat} {kz : Nat × Nat}
set_option maxRecDepth 100000 in
set_option maxHeartbeats 4000000 in
theorem t_iTerms_199b {k : Nat × Int32 × LW → Option (LW × Unit)} (B : xB p R s m args meth c b_iTerms 2 R_Terms (Cond.code y_iTerms b_iTerms 2 none :: x_T) none 3 60 D x_cl (xty g) base) (hN : xN s) (hnm : meth.name = "<init>") (hk : ∀ (o : Nat) (i : Int32) (S : LW), Sn p l e R s m args below meth c 2 D x_cl base (wdL g) cL (grn n0) az kz (xfc cL) (xZ below args s D x_cl (xty g) base (wdL g) cL (grn n0) az kz ovU) 199 [] [(0, .ref o), (1, .int i)] S (k (o, i, S))) (o : Nat) (i : Int32) (S : LW) : Sn p l e R s m args below meth c 2 D x_cl base (wdL g) cL (grn n0) az kz (xfc cL) (xZ below args s D x_cl (xty g) base (wdL g) cL (grn n0) az kz ovU) 199 [] [(0, .ref o), (1, .int i)] S (m_iTerms_199b n0 k o i S) := by
  unfold m_iTerms_199b
  refine s_iload_n B d_iTerms_199 rfl ?_
  refine s_bipush (v := (18:Int32)) B d_iTerms_200 (by decide) ?_
  refine s_icmp_ge B d_iTerms_202 rfl (fun _ => ?_) (fun _ => ?_)
  · refine s_aload_n B d_iTerms_225 rfl ?_
    refine s_getLr (k := 0) B xc_Terms (by decide) rfl fi_Terms_11 d_iTerms_226 (fun r1 _ => ?_)
    refine s_iconst (v := (0:Int32)) B d_iTerms_229 (by decide) ?_
    refine s_iconst (v := (0:Int32)) B d_iTerms_230 (by decide) ?_
    refine s_iastL B d_iTerms_231 (fun S2 _ => ?_)
    refine s_aload_n B d_iTerms_232 rfl ?_
    refine s_getLr (k := 0) B xc_Terms (by decide) rfl fi_Terms_11 d_iTerms_233 (fun r3 _ => ?_)
    refine s_bipush (v := (16:Int32)) B d_iTerms_236 (by decide) ?_
    refine s_iconst (v := (1:Int32)) B d_iTerms_238 (by decide) ?_
    refine s_iastL B d_iTerms_239 (fun S4 _ => ?_)
    refine s_aload_n B d_iTerms_240 rfl ?_
    refine s_getLr (k := 2) B xc_Terms (by decide) rfl fi_Terms_18 d_iTerms_241 (fun r5 _ => ?_)
    refine s_bipush (v := (16:Int32)) B d_iTerms_244 (by decide) ?_
    refine s_iconst (v := (1:Int32)) B d_iTerms_246 (by decide) ?_
    refine s_iastL B d_iTerms_247 (fun S6 _ => ?_)
    refine s_aload_n B d_iTerms_248 rfl ?_
    refine s_getLr (k := 0) B xc_Terms (by decide) rfl fi_Terms_11 d_iTerms_249 (fun r7 _ => ?_)
    refine s_bipush (v := (17:Int32)) B d_iTerms_252 (by decide) ?_
    refine s_bipush (v := (6:Int32)) B d_iTerms_254 (by decide) ?_
    refine s_iastL B d_iTerms_256 (fun S8 _ => ?_)
    refine s_aload_n B d_iTerms_257 rfl ?_
    refine s_getLr (k := 1) B xc_Terms (by decide) rfl fi_Terms_15 d_iTerms_258 (fun r9 _ => ?_)
    refine s_bipush (v := (17:Int32)) B d_iTerms_261 (by decide) ?_
    refine s_iconst (v := (2:Int32)) B d_iTerms_263 (by decide) ?_
    refine s_iastL B d_iTerms_264 (fun S10 _ => ?_)
    refine s_aload_n B d_iTerms_265 rfl ?_
    refine s_getLr (k := 2) B xc_Terms (by decide) rfl fi_Terms_18 d_iTerms_266 (fun r11 _ => ?_)
    refine s_bipush (v := (17:Int32)) B d_iTerms_269 (by decide) ?_
    refine s_iconst (v := (1:Int32)) B d_iTerms_271 (by decide) ?_
    refine s_iastL B d_iTerms_272 (fun S12 _ => ?_)
    refine s_aload_n B d_iTerms_273 rfl ?_
    refine s_getLr (k := 4) B xc_Terms (by decide) rfl fi_Terms_24 d_iTerms_274 (fun r13 _ => ?_)
    refine s_bipush (v := (17:Int32)) B d_iTerms_277 (by decide) ?_
    refine s_iconst (v := (1:Int32)) B d_iTerms_279 (by decide) ?_
    refine s_iastL B d_iTerms_280 (fun S14 _ => ?_)
    refine s_aload_n B d_iTerms_281 rfl ?_
    refine s_getLr (k := 10) B xc_Terms (by decide) rfl fi_Terms_42 d_iTerms_282 (fun r15 _ => ?_)
    refine s_iconst (v := (0:Int32)) B d_iTerms_285 (by decide) ?_
    refine s_iconst (v := (0:Int32)) B d_iTerms_286 (by decide) ?_
    refine s_iastL B d_iTerms_287 (fun S16 _ => ?_)
    exact s_vret B d_iTerms_288
  · refine s_aload_n B d_iTerms_205 rfl ?_
    refine s_getLr (k := 0) B xc_Terms (by decide) rfl fi_Terms_11 d_iTerms_206 (fun r17 _ => ?_)
    refine s_iload_n B d_iTerms_209 rfl ?_
    refine s_iconst (v := (2:Int32)) B d_iTerms_210 (by decide) ?_
    refine s_iastL B d_iTerms_211 (fun S18 _ => ?_)
    refine s_aload_n B d_iTerms_212 rfl ?_
    refine s_getLr (k := 1) B xc_Terms (by decide) rfl fi_Terms_15 d_iTerms_213 (fun r19 _ => ?_)
    refine s_iload_n B d_iTerms_216 rfl ?_
    refine s_iconst (v := (1:Int32)) B d_iTerms_217 (by decide) ?_
    refine s_iastL B d_iTerms_218 (fun S20 _ => ?_)
    refine s_iinc (w := (1:Int32)) B d_iTerms_219 rfl (by decide) (by decide) ?_
    refine s_goto B d_iTerms_222 rfl ?_
    refine s_pick (lv1 := [(0, .ref o), (1, .int (i + (1:Int32)))]) [0, 1] rfl ?_
    exact hk (o) ((i + (1:Int32))) S20
theorem t_iTerms_199 (B : xB p R s m args meth c b_iTerms 2 R_Terms (Cond.code y_iTerms b_iTerms 2 none :: x_T) none 3 60 D x_cl (xty g) base) (hN : xN s) (hnm : meth.name = "<init>") (o : Nat) (i : Int32) (S : LW) : Sn p l e R s m args below meth c 2 D x_cl base (wdL g) cL (grn n0) az kz (xfc cL) (xZ below args s D x_cl (xty g) base (wdL g) cL (grn n0) az kz ovU) 199 [] [(0, .ref o), (1, .int i)] S (m_iTerms_199 n0 (o, i, S)) := by
  have q : ∀ (F : Nat) (q : Nat × Int32 × LW), Sn p l e R s m args below meth c 2 D x_cl base (wdL g) cL (grn n0) az kz (xfc cL) (xZ below args s D x_cl (xty g) base (wdL g) cL (grn n0) az kz ovU) 199 [] [(0, .ref q.1), (1, .int q.2.1)] q.2.2 (fx (fun (k : Nat × Int32 × LW → Option (LW × Unit)) (q : Nat × Int32 × LW) => m_iTerms_199b n0 k q.1 q.2.1 q.2.2) F q) := by
    intro F
    induction F with
    | zero => intro i; exact s_none
    | succ F ih => intro q; exact t_iTerms_199b B hN hnm (fun o i S => ih (o, i, S)) q.1 q.2.1 q.2.2
  exact q FU (o, i, S)
set_option maxRecDepth 100000 in
set_option maxHeartbeats 4000000 in
theorem t_iTerms (B : xB p R s m args meth c b_iTerms 2 R_Terms (Cond.code y_iTerms b_iTerms 2 none :: x_T) none 3 60 D x_cl (xty g) base) (hN : xN s) (hnm : meth.name = "<init>") (o : Nat) (S : LW) : Sn p l e R s m args below meth c 2 D x_cl base (wdL g) cL (grn n0) az kz (xfc cL) (xZ below args s D x_cl (xty g) base (wdL g) cL (grn n0) az kz ovU) 0 [] [(0, .ref o)] S (m_iTerms n0 o S) := by
  unfold m_iTerms
  refine s_aload_n B d_iTerms_0 rfl ?_
  refine s_objI B oi_Terms d_iTerms_1 (by decide) (by decide) ?_
  refine s_aload_n B d_iTerms_4 rfl ?_
  refine s_sipush (v := (1024:Int32)) B d_iTerms_5 (by decide) ?_
  refine s_newI (refs := [o]) B d_iTerms_8 (by decide) rfl (by decide) (by simp [xin0]) (by simp [xin0]) (fun S1 _ => ?_)
  refine s_putLg (k := 0) (ty := (.array .int)) B xc_Terms (by decide) rfl fi_Terms_11 (Or.inl rfl) rfl (fun _ => rfl) (fun _ => rfl) d_iTerms_10 (fun S2 _ => ?_)
  refine s_aload_n B d_iTerms_13 rfl ?_
  refine s_sipush (v := (1024:Int32)) B d_iTerms_14 (by decide) ?_
  refine s_newI (refs := [o]) B d_iTerms_17 (by decide) rfl (by decide) (by simp [xin0]) (by simp [xin0]) (fun S3 _ => ?_)
  refine s_putLg (k := 1) (ty := (.array .int)) B xc_Terms (by decide) rfl fi_Terms_15 (Or.inl rfl) rfl (fun _ => rfl) (fun _ => rfl) d_iTerms_19 (fun S4 _ => ?_)
  refine s_aload_n B d_iTerms_22 rfl ?_
  refine s_sipush (v := (1024:Int32)) B d_iTerms_23 (by decide) ?_
  refine s_newI (refs := [o]) B d_iTerms_26 (by decide) rfl (by decide) (by simp [xin0]) (by simp [xin0]) (fun S5 _ => ?_)
  refine s_putLg (k := 2) (ty := (.array .int)) B xc_Terms (by decide) rfl fi_Terms_18 (Or.inl rfl) rfl (fun _ => rfl) (fun _ => rfl) d_iTerms_28 (fun S6 _ => ?_)
  refine s_aload_n B d_iTerms_31 rfl ?_
  refine s_sipush (v := (1024:Int32)) B d_iTerms_32 (by decide) ?_
  refine s_newI (refs := [o]) B d_iTerms_35 (by decide) rfl (by decide) (by simp [xin0]) (by simp [xin0]) (fun S7 _ => ?_)
  refine s_putLg (k := 3) (ty := (.array .int)) B xc_Terms (by decide) rfl fi_Terms_21 (Or.inl rfl) rfl (fun _ => rfl) (fun _ => rfl) d_iTerms_37 (fun S8 _ => ?_)
  refine s_aload_n B d_iTerms_40 rfl ?_
  refine s_sipush (v := (1024:Int32)) B d_iTerms_41 (by decide) ?_
  refine s_newI (refs := [o]) B d_iTerms_44 (by decide) rfl (by decide) (by simp [xin0]) (by simp [xin0]) (fun S9 _ => ?_)
  refine s_putLg (k := 4) (ty := (.array .int)) B xc_Terms (by decide) rfl fi_Terms_24 (Or.inl rfl) rfl (fun _ => rfl) (fun _ => rfl) d_iTerms_46 (fun S10 _ => ?_)
  refine s_aload_n B d_iTerms_49 rfl ?_
  refine s_sipush (v := (1024:Int32)) B d_iTerms_50 (by decide) ?_
  refine s_newI (refs := [o]) B d_iTerms_53 (by decide) rfl (by decide) (by simp [xin0]) (by simp [xin0]) (fun S11 _ => ?_)
  refine s_putLg (k := 5) (ty := (.array .int)) B xc_Terms (by decide) rfl fi_Terms_27 (Or.inl rfl) rfl (fun _ => rfl) (fun _ => rfl) d_iTerms_55 (fun S12 _ => ?_)
  refine s_aload_n B d_iTerms_58 rfl ?_
  refine s_sipush (v := (1024:Int32)) B d_iTerms_59 (by decide) ?_
  refine s_newI (refs := [o]) B d_iTerms_62 (by decide) rfl (by decide) (by simp [xin0]) (by simp [xin0]) (fun S13 _ => ?_)
  refine s_putLg (k := 6) (ty := (.array .int)) B xc_Terms (by decide) rfl fi_Terms_30 (Or.inl rfl) rfl (fun _ => rfl) (fun _ => rfl) d_iTerms_64 (fun S14 _ => ?_)
  refine s_aload_n B d_iTerms_67 rfl ?_
  refine s_sipush (v := (1024:Int32)) B d_iTerms_68 (by decide) ?_
  refine s_newI (refs := [o]) B d_iTerms_71 (by decide) rfl (by decide) (by simp [xin0]) (by simp [xin0]) (fun S15 _ => ?_)
  refine s_putLg (k := 7) (ty := (.array .int)) B xc_Terms (by decide) rfl fi_Terms_33 (Or.inl rfl) rfl (fun _ => rfl) (fun _ => rfl) d_iTerms_73 (fun S16 _ => ?_)
  refine s_aload_n B d_iTerms_76 rfl ?_
  refine s_sipush (v := (1024:Int32)) B d_iTerms_77 (by decide) ?_
  refine s_newI (refs := [o]) B d_iTerms_80 (by decide) rfl (by decide) (by simp [xin0]) (by simp [xin0]) (fun S17 _ => ?_)
  refine s_putLg (k := 8) (ty := (.array .int)) B xc_Terms (by decide) rfl fi_Terms_36 (Or.inl rfl) rfl (fun _ => rfl) (fun _ => rfl) d_iTerms_82 (fun S18 _ => ?_)
  refine s_aload_n B d_iTerms_85 rfl ?_
  refine s_sipush (v := (4096:Int32)) B d_iTerms_86 (by decide) ?_
  refine s_newI (refs := [o]) B d_iTerms_89 (by decide) rfl (by decide) (by simp [xin0]) (by simp [xin0]) (fun S19 _ => ?_)
  refine s_putLg (k := 9) (ty := (.array .int)) B xc_Terms (by decide) rfl fi_Terms_39 (Or.inl rfl) rfl (fun _ => rfl) (fun _ => rfl) d_iTerms_91 (fun S20 _ => ?_)
  refine s_aload_n B d_iTerms_94 rfl ?_
  refine s_sipush (v := (2048:Int32)) B d_iTerms_95 (by decide) ?_
  refine s_newI (refs := [o]) B d_iTerms_98 (by decide) rfl (by decide) (by simp [xin0]) (by simp [xin0]) (fun S21 _ => ?_)
  refine s_putLg (k := 10) (ty := (.array .int)) B xc_Terms (by decide) rfl fi_Terms_42 (Or.inl rfl) rfl (fun _ => rfl) (fun _ => rfl) d_iTerms_100 (fun S22 _ => ?_)
  refine s_aload_n B d_iTerms_103 rfl ?_
  refine s_sipush (v := (1024:Int32)) B d_iTerms_104 (by decide) ?_
  refine s_newI (refs := [o]) B d_iTerms_107 (by decide) rfl (by decide) (by simp [xin0]) (by simp [xin0]) (fun S23 _ => ?_)
  refine s_putLg (k := 11) (ty := (.array .int)) B xc_Terms (by decide) rfl fi_Terms_45 (Or.inr ⟨rfl, hnm, rfl⟩) rfl (fun _ => rfl) (fun _ => rfl) d_iTerms_109 (fun S24 _ => ?_)
  refine s_aload_n B d_iTerms_112 rfl ?_
  refine s_newC (refs := [o]) (y := fun S25 => m_iRow S25.1.length S24.1.length S25) B hN xc_Row cl_Terms_48 it_Row ii_Row df_Row rfl d_iTerms_113 d_iTerms_116 (lk_IN2 (n := 0) B d_iTerms_117 (xgood cd_iRow) (List.mem_cons_of_mem _ im_iRow) (List.mem_cons_of_mem _ ii_Row) (hN.1 _ (List.mem_of_getElem? (i := 0) rfl)) rfl rfl hi_Row (by decide) (by decide)) (by simp [xin0]) (by simp [xin0]) (by simp [Value.category]) (fun S9 r9 e9 => ct_iRow _ _ S9 r9 e9) (fun c26 => ?_)
  refine s_putLg (k := 12) (ty := (.object "DerivativeDesk$Row")) B xc_Terms (by decide) rfl fi_Terms_51 (Or.inr ⟨rfl, hnm, rfl⟩) rfl (fun _ => rfl) (fun _ => rfl) d_iTerms_120 (fun S27 _ => ?_)
  refine s_aload_n B d_iTerms_123 rfl ?_
  refine s_newC (refs := [o]) (y := fun S28 => m_iRow S28.1.length S27.1.length S28) B hN xc_Row cl_Terms_48 it_Row ii_Row df_Row rfl d_iTerms_124 d_iTerms_127 (lk_IN2 (n := 0) B d_iTerms_128 (xgood cd_iRow) (List.mem_cons_of_mem _ im_iRow) (List.mem_cons_of_mem _ ii_Row) (hN.1 _ (List.mem_of_getElem? (i := 0) rfl)) rfl rfl hi_Row (by decide) (by decide)) (by simp [xin0]) (by simp [xin0]) (by simp [Value.category]) (fun S9 r9 e9 => ct_iRow _ _ S9 r9 e9) (fun c29 => ?_)
  refine s_putLg (k := 13) (ty := (.object "DerivativeDesk$Row")) B xc_Terms (by decide) rfl fi_Terms_55 (Or.inr ⟨rfl, hnm, rfl⟩) rfl (fun _ => rfl) (fun _ => rfl) d_iTerms_131 (fun S30 _ => ?_)
  refine s_aload_n B d_iTerms_134 rfl ?_
  refine s_newC (refs := [o]) (y := fun S31 => m_iRow S31.1.length S30.1.length S31) B hN xc_Row cl_Terms_48 it_Row ii_Row df_Row rfl d_iTerms_135 d_iTerms_138 (lk_IN2 (n := 0) B d_iTerms_139 (xgood cd_iRow) (List.mem_cons_of_mem _ im_iRow) (List.mem_cons_of_mem _ ii_Row) (hN.1 _ (List.mem_of_getElem? (i := 0) rfl)) rfl rfl hi_Row (by decide) (by decide)) (by simp [xin0]) (by simp [xin0]) (by simp [Value.category]) (fun S9 r9 e9 => ct_iRow _ _ S9 r9 e9) (fun c32 => ?_)
  refine s_putLg (k := 14) (ty := (.object "DerivativeDesk$Row")) B xc_Terms (by decide) rfl fi_Terms_58 (Or.inr ⟨rfl, hnm, rfl⟩) rfl (fun _ => rfl) (fun _ => rfl) d_iTerms_142 (fun S33 _ => ?_)
  refine s_aload_n B d_iTerms_145 rfl ?_
  refine s_newC (refs := [o]) (y := fun S34 => m_iGathering S34.1.length S33.1.length S34) B hN xc_Gathering cl_Terms_61 it_Gathering ii_Gathering df_Gathering rfl d_iTerms_146 d_iTerms_149 (lk_IN2 (n := 0) B d_iTerms_150 (xgood cd_iGathering) (List.mem_cons_of_mem _ im_iGathering) (List.mem_cons_of_mem _ ii_Gathering) (hN.1 _ (List.mem_of_getElem? (i := 1) rfl)) rfl rfl hi_Gathering (by decide) (by decide)) (by simp [xin0]) (by simp [xin0]) (by simp [Value.category]) (fun S9 r9 e9 => ct_iGathering _ _ S9 r9 e9) (fun c35 => ?_)
  refine s_putLg (k := 15) (ty := (.object "DerivativeDesk$Gathering")) B xc_Terms (by decide) rfl fi_Terms_64 (Or.inr ⟨rfl, hnm, rfl⟩) rfl (fun _ => rfl) (fun _ => rfl) d_iTerms_153 (fun S36 _ => ?_)
  refine s_aload_n B d_iTerms_156 rfl ?_
  refine s_bipush (v := (18:Int32)) B d_iTerms_157 (by decide) ?_
  refine s_putLg (k := 16) (ty := .int) B xc_Terms (by decide) rfl fi_Terms_68 (Or.inl rfl) rfl (fun _ => rfl) (fun _ => rfl) d_iTerms_159 (fun S37 _ => ?_)
  refine s_aload_n B d_iTerms_162 rfl ?_
  refine s_iconst (v := (1:Int32)) B d_iTerms_163 (by decide) ?_
  refine s_putLg (k := 17) (ty := .int) B xc_Terms (by decide) rfl fi_Terms_72 (Or.inl rfl) rfl (fun _ => rfl) (fun _ => rfl) d_iTerms_164 (fun S38 _ => ?_)
  refine s_aload_n B d_iTerms_167 rfl ?_
  refine s_sipush (v := (768:Int32)) B d_iTerms_168 (by decide) ?_
  refine s_putLg (k := 18) (ty := .int) B xc_Terms (by decide) rfl fi_Terms_75 (Or.inl rfl) rfl (fun _ => rfl) (fun _ => rfl) d_iTerms_171 (fun S39 _ => ?_)
  refine s_aload_n B d_iTerms_174 rfl ?_
  refine s_sipush (v := (1536:Int32)) B d_iTerms_175 (by decide) ?_
  refine s_putLg (k := 19) (ty := .int) B xc_Terms (by decide) rfl fi_Terms_78 (Or.inl rfl) rfl (fun _ => rfl) (fun _ => rfl) d_iTerms_178 (fun S40 _ => ?_)
  refine s_aload_n B d_iTerms_181 rfl ?_
  refine s_getLr (k := 11) B xc_Terms (by decide) rfl fi_Terms_45 d_iTerms_182 (fun r41 _ => ?_)
  refine s_iconst (v := (-1:Int32)) B d_iTerms_185 (by decide) ?_
  refine s_callU (gr1 := grn 500) (av := [.ref r41, .int (-1:Int32)]) (rest := []) B (lk_S B d_iTerms_186 (xgood cd_Arr_fill) (List.mem_cons_of_mem _ st_Arr_fill) (List.mem_cons_of_mem _ in_Arr) (List.mem_cons_of_mem _ mi_Terms_81) rfl hs_Arr_fill (by decide) (by decide)) rfl (fun _ _ _ => trivial) (fun q _ => grn5 q) rfl (List.all_eq_true.mpr (fun v _ => xng5 v.2)) (by simp) rfl (fun r9 e9 => ctL_fill _ _ _ r9 e9) (fun c42 _ => ?_)
  refine s_aload_n B d_iTerms_189 rfl ?_
  refine s_getLr (k := 9) B xc_Terms (by decide) rfl fi_Terms_39 d_iTerms_190 (fun r43 _ => ?_)
  refine s_iconst (v := (-1:Int32)) B d_iTerms_193 (by decide) ?_
  refine s_callU (gr1 := grn 500) (av := [.ref r43, .int (-1:Int32)]) (rest := []) B (lk_S B d_iTerms_194 (xgood cd_Arr_fill) (List.mem_cons_of_mem _ st_Arr_fill) (List.mem_cons_of_mem _ in_Arr) (List.mem_cons_of_mem _ mi_Terms_81) rfl hs_Arr_fill (by decide) (by decide)) rfl (fun _ _ _ => trivial) (fun q _ => grn5 q) rfl (List.all_eq_true.mpr (fun v _ => xng5 v.2)) (by simp) rfl (fun r9 e9 => ctL_fill _ _ _ r9 e9) (fun c44 _ => ?_)
  refine s_iconst (v := (0:Int32)) B d_iTerms_197 (by decide) ?_
  refine s_istore_n B d_iTerms_198 (by decide) ?_
  refine s_pick (lv1 := [(0, .ref o), (1, .int (0:Int32))]) [0, 1] rfl ?_
  exact t_iTerms_199 B hN hnm (o) ((0:Int32)) c44.1
theorem ct_iTerms {l : Launch} {D : va_G} {base : Nat} {g : Nat → ClassId} (n0 o : Nat) (S : LW) (r : LW × Unit) (hr : m_iTerms n0 o S = some r) : CtN l y_iTerms (Cond.code y_iTerms b_iTerms 2 none :: x_T) 3 60 D g base (grn n0) [.ref o] S r.1 :=
  x_metN (by decide) (Nat.le_of_ble_eq_true rfl) (fun p e R s m args below meth c az B hN hnm => t_iTerms B hN hnm o S) r hr
end
abbrev b_iMachine : ByteArray := prog_5_method_1_code
abbrev y_iMachine : MethodName := ⟨R_Machine, "<init>", "()V"⟩
set_option maxRecDepth 100000 in
theorem cd_iMachine : Cond.code y_iMachine b_iMachine 1 none ∈ x_T := xmem1 144 rfl rfl
theorem hi_Machine : y_iMachine.cls ≠ "java/lang/invoke/MethodHandle" ∧ y_iMachine.cls ≠ "java/lang/invoke/VarHandle" ∧ (parseMethodDescriptor y_iMachine.desc).map (fun d => d.parameters.length) = some 0 := by decide +kernel
theorem df_Machine : ∀ j, j < x_Nf 4 → defaultValue (ty_Machine j) = vp_V [.null, .null, .int 0] j := by decide +kernel
theorem d_iMachine_0 : decode b_iMachine 0 = .ok (.aload_n 0, 1) := by decide +kernel
theorem d_iMachine_1 : decode b_iMachine 1 = .ok (.invokespecial 3, 3) := by decide +kernel
theorem d_iMachine_4 : decode b_iMachine 4 = .ok (.aload_n 0, 1) := by decide +kernel
theorem d_iMachine_5 : decode b_iMachine 5 = .ok (.sipush (600), 3) := by decide +kernel
theorem d_iMachine_8 : decode b_iMachine 8 = .ok (.newarray .int, 2) := by decide +kernel
theorem d_iMachine_10 : decode b_iMachine 10 = .ok (.putfield 9, 3) := by decide +kernel
theorem d_iMachine_13 : decode b_iMachine 13 = .ok (.aload_n 0, 1) := by decide +kernel
theorem d_iMachine_14 : decode b_iMachine 14 = .ok (.sipush (150), 3) := by decide +kernel
theorem d_iMachine_17 : decode b_iMachine 17 = .ok (.newarray .boolean, 2) := by decide +kernel
theorem d_iMachine_19 : decode b_iMachine 19 = .ok (.putfield 15, 3) := by decide +kernel
theorem d_iMachine_22 : decode b_iMachine 22 = .ok (.aload_n 0, 1) := by decide +kernel
theorem d_iMachine_23 : decode b_iMachine 23 = .ok (.iconst (0), 1) := by decide +kernel
theorem d_iMachine_24 : decode b_iMachine 24 = .ok (.putfield 19, 3) := by decide +kernel
theorem d_iMachine_27 : decode b_iMachine 27 = .ok (.return_, 1) := by decide +kernel
set_option maxRecDepth 100000 in
theorem oi_Machine : Cond.methodLink R_Machine 3 Lib.objectInit ∈ x_T := xmem1 145 rfl rfl
set_option maxRecDepth 100000 in
theorem fi_Machine_9 : Cond.fieldLink R_Machine 9 R_Machine (F_Machine 0).2.1 (F_Machine 0).2.2.1 ∈ x_T := xmem1 146 rfl rfl
set_option maxRecDepth 100000 in
theorem fi_Machine_15 : Cond.fieldLink R_Machine 15 R_Machine (F_Machine 1).2.1 (F_Machine 1).2.2.1 ∈ x_T := xmem1 147 rfl rfl
set_option maxRecDepth 100000 in
theorem fi_Machine_19 : Cond.fieldLink R_Machine 19 R_Machine (F_Machine 2).2.1 (F_Machine 2).2.2.1 ∈ x_T := xmem1 148 rfl rfl
def m_iMachine (n0 o : Nat) (S : LW) : Option (LW × Unit) :=
  ((nwL n0 S [o] (.inl (0, 600, .inl (fun _ => 0))) 600).bind fun S1 =>
  ((ptL S1 o 4 0 (.ref S.1.length)).bind fun S2 =>
  ((nwL n0 S2 [o] (.inl (1, 150, .inl (fun _ => 0))) 150).bind fun S3 =>
  ((ptL S3 o 4 1 (.ref S2.1.length)).bind fun S4 =>
  ((ptL S4 o 4 2 (.int (0:Int32))).bind fun S5 =>
  (some (S5, ())))))))
section
variable {p : Program} {l : Launch} {e : Env} {R : Room} {s : State} {m : MethodId} {args : Array Value} {below : List Frame} {meth : Method} {c : Code} {D : va_G} {base n0 : Nat} {g : Nat → ClassId} {az : Nat → Nat} {kz : Nat × Nat}
set_option maxRecDepth 100000 in
set_option maxHeartbeats 4000000 in
theorem t_iMachine (B : xB p R s m args meth c b_iMachine 1 R_Machine (Cond.code y_iMachine b_iMachine 1 none :: x_T) none 1 20 D x_cl (xty g) base) (hN : xN s) (hnm : meth.name = "<init>") (o : Nat) (S : LW) : Sn p l e R s m args below meth c 1 D x_cl base (wdL g) cL (grn n0) az kz (xfc cL) (xZ below args s D x_cl (xty g) base (wdL g) cL (grn n0) az kz ovU) 0 [] [(0, .ref o)] S (m_iMachine n0 o S) := by
  unfold m_iMachine
  refine s_aload_n B d_iMachine_0 rfl ?_
  refine s_objI B oi_Machine d_iMachine_1 (by decide) (by decide) ?_
  refine s_aload_n B d_iMachine_4 rfl ?_
  refine s_sipush (v := (600:Int32)) B d_iMachine_5 (by decide) ?_
  refine s_newI (refs := [o]) B d_iMachine_8 (by decide) rfl (by decide) (by simp [xin0]) (by simp [xin0]) (fun S1 _ => ?_)
  refine s_putLg (k := 0) (ty := (.array .int)) B xc_Machine (by decide) rfl fi_Machine_9 (Or.inr ⟨rfl, hnm, rfl⟩) rfl (fun _ => rfl) (fun _ => rfl) d_iMachine_10 (fun S2 _ => ?_)
  refine s_aload_n B d_iMachine_13 rfl ?_
  refine s_sipush (v := (150:Int32)) B d_iMachine_14 (by decide) ?_
  refine s_newZ (refs := [o]) B d_iMachine_17 (by decide) rfl (by decide) (by simp [xin0]) (by simp [xin0]) (fun S3 _ => ?_)
  refine s_putLg (k := 1) (ty := (.array .boolean)) B xc_Machine (by decide) rfl fi_Machine_15 (Or.inr ⟨rfl, hnm, rfl⟩) rfl (fun _ => rfl) (fun _ => rfl) d_iMachine_19 (fun S4 _ => ?_)
  refine s_aload_n B d_iMachine_22 rfl ?_
  refine s_iconst (v := (0:Int32)) B d_iMachine_23 (by decide) ?_
  refine s_putLg (k := 2) (ty := .int) B xc_Machine (by decide) rfl fi_Machine_19 (Or.inl rfl) rfl (fun _ => rfl) (fun _ => rfl) d_iMachine_24 (fun S5 _ => ?_)
  exact s_vret B d_iMachine_27
theorem ct_iMachine {l : Launch} {D : va_G} {base : Nat} {g : Nat → ClassId} (n0 o : Nat) (S : LW) (r : LW × Unit) (hr : m_iMachine n0 o S = some r) : CtN l y_iMachine (Cond.code y_iMachine b_iMachine 1 none :: x_T) 1 20 D g base (grn n0) [.ref o] S r.1 :=
  x_metN (by decide) (Nat.le_of_ble_eq_true rfl) (fun p e R s m args below meth c az B hN hnm => t_iMachine B hN hnm o S) r hr
end
abbrev b_iExplorer : ByteArray := prog_3_method_1_code
abbrev y_iExplorer : MethodName := ⟨R_Explorer, "<init>", "()V"⟩
set_option maxRecDepth 100000 in
theorem cd_iExplorer : Cond.code y_iExplorer b_iExplorer 2 none ∈ x_T := xmem1 137 rfl rfl
theorem hi_Explorer : y_iExplorer.cls ≠ "java/lang/invoke/MethodHandle" ∧ y_iExplorer.cls ≠ "java/lang/invoke/VarHandle" ∧ (parseMethodDescriptor y_iExplorer.desc).map (fun d => d.parameters.length) = some 0 := by decide +kernel
theorem df_Explorer : ∀ j, j < x_Nf 5 → defaultValue (ty_Explorer j) = vp_V [.null, .null] j := by decide +kernel
theorem d_iExplorer_0 : decode b_iExplorer 0 = .ok (.aload_n 0, 1) := by decide +kernel
theorem d_iExplorer_1 : decode b_iExplorer 1 = .ok (.invokespecial 3, 3) := by decide +kernel
theorem d_iExplorer_4 : decode b_iExplorer 4 = .ok (.aload_n 0, 1) := by decide +kernel
theorem d_iExplorer_5 : decode b_iExplorer 5 = .ok (.bipush (16), 2) := by decide +kernel
theorem d_iExplorer_7 : decode b_iExplorer 7 = .ok (.anewarray 9, 3) := by decide +kernel
theorem d_iExplorer_10 : decode b_iExplorer 10 = .ok (.putfield 11, 3) := by decide +kernel
theorem d_iExplorer_13 : decode b_iExplorer 13 = .ok (.aload_n 0, 1) := by decide +kernel
theorem d_iExplorer_14 : decode b_iExplorer 14 = .ok (.sipush (150), 3) := by decide +kernel
theorem d_iExplorer_17 : decode b_iExplorer 17 = .ok (.newarray .int, 2) := by decide +kernel
theorem d_iExplorer_19 : decode b_iExplorer 19 = .ok (.putfield 17, 3) := by decide +kernel
theorem d_iExplorer_22 : decode b_iExplorer 22 = .ok (.iconst (0), 1) := by decide +kernel
theorem d_iExplorer_23 : decode b_iExplorer 23 = .ok (.istore_n 1, 1) := by decide +kernel
theorem d_iExplorer_24 : decode b_iExplorer 24 = .ok (.iload_n 1, 1) := by decide +kernel
theorem d_iExplorer_25 : decode b_iExplorer 25 = .ok (.bipush (16), 2) := by decide +kernel
theorem d_iExplorer_27 : decode b_iExplorer 27 = .ok (.if_icmp .ge (22), 3) := by decide +kernel
theorem d_iExplorer_30 : decode b_iExplorer 30 = .ok (.aload_n 0, 1) := by decide +kernel
theorem d_iExplorer_31 : decode b_iExplorer 31 = .ok (.getfield 11, 3) := by decide +kernel
theorem d_iExplorer_34 : decode b_iExplorer 34 = .ok (.iload_n 1, 1) := by decide +kernel
theorem d_iExplorer_35 : decode b_iExplorer 35 = .ok (.new 9, 3) := by decide +kernel
theorem d_iExplorer_38 : decode b_iExplorer 38 = .ok (.dup, 1) := by decide +kernel
theorem d_iExplorer_39 : decode b_iExplorer 39 = .ok (.invokespecial 21, 3) := by decide +kernel
theorem d_iExplorer_42 : decode b_iExplorer 42 = .ok (.aastore, 1) := by decide +kernel
theorem d_iExplorer_43 : decode b_iExplorer 43 = .ok (.iinc 1 (1), 3) := by decide +kernel
theorem d_iExplorer_46 : decode b_iExplorer 46 = .ok (.goto (-22), 3) := by decide +kernel
theorem d_iExplorer_49 : decode b_iExplorer 49 = .ok (.return_, 1) := by decide +kernel
set_option maxRecDepth 100000 in
theorem fi_Explorer_11 : Cond.fieldLink R_Explorer 11 R_Explorer (F_Explorer 0).2.1 (F_Explorer 0).2.2.1 ∈ x_T := xmem1 157 rfl rfl
set_option maxRecDepth 100000 in
theorem cl_Explorer_9 : Cond.classLink R_Explorer 9 R_Machine ∈ x_T := xmem1 139 rfl rfl
set_option maxRecDepth 100000 in
theorem it_Machine : Cond.instantiable R_Machine (x_Nf 4) ∈ x_T := xmem1 141 rfl rfl
set_option maxRecDepth 100000 in
theorem ii_Machine : Cond.initialized R_Machine ∈ x_T := xmem1 7 rfl rfl
set_option maxRecDepth 100000 in
theorem im_iMachine : Cond.instanceMethod y_iMachine ∈ x_T := xmem1 143 rfl rfl
def m_iExplorer_24b (n0 : Nat) (k : Nat × Int32 × LW → Option (LW × Unit)) (o : Nat) (i : Int32) (S : LW) : Option (LW × Unit) :=
  (if (16:Int32) ≤ i then (some (S, ())) else ((gtL S o 5 0).bind fun r1 =>
  ((nwL n0 S [r1, o] (.inr (4, [.null, .null, .int 0])) (x_Nf 4)).bind fun S2 => cal cL S2 (m_iMachine S2.1.length S.1.length S2) fun c3 =>
  ((sqL c3.1 r1 i S.1.length).bind fun S4 =>
  (k (o, (i + (1:Int32)), S4))))))
def m_iExplorer_24 (n0 : Nat) (q : Nat × Int32 × LW) : Option (LW × Unit) := fx (fun (k : Nat × Int32 × LW → Option (LW × Unit)) (q : Nat × Int32 × LW) => m_iExplorer_24b n0 k q.1 q.2.1 q.2.2) FU q
set_option maxRecDepth 100000 in
theorem oi_Explorer : Cond.methodLink R_Explorer 3 Lib.objectInit ∈ x_T := xmem1 138 rfl rfl
set_option maxRecDepth 100000 in
theorem fi_Explorer_17 : Cond.fieldLink R_Explorer 17 R_Explorer (F_Explorer 1).2.1 (F_Explorer 1).2.2.1 ∈ x_T := xmem1 158 rfl rfl
def m_iExplorer (n0 o : Nat) (S : LW) : Option (LW × Unit) :=
  ((nwL n0 S [o] (.inl (3, 16, .inr (.inr (List.replicate 16 none)))) 16).bind fun S1 =>
  ((ptL S1 o 5 0 (.ref S.1.length)).bind fun S2 =>
  ((nwL n0 S2 [o] (.inl (0, 150, .inl (fun _ => 0))) 150).bind fun S3 =>
  ((ptL S3 o 5 1 (.ref S2.1.length)).bind fun S4 =>
  (m_iExplorer_24 n0 (o, (0:Int32), S4))))))
section
variable {p : Program} {l : Launch} {e : Env} {R : Room} {s : State} {m : MethodId} {args : Array Value} {below : List Frame} {meth : Method} {c : Code} {D : va_G} {base n0 : Nat} {g : Nat → ClassId} {az : Nat → Nat} {kz : Nat × Nat}
set_option maxRecDepth 100000 in
set_option maxHeartbeats 4000000 in
theorem t_iExplorer_24b {k : Nat × Int32 × LW → Option (LW × Unit)} (B : xB p R s m args meth c b_iExplorer 2 R_Explorer (Cond.code y_iExplorer b_iExplorer 2 none :: x_T) none 2 40 D x_cl (xty g) base) (hN : xN s) (hnm : meth.name = "<init>") (hk : ∀ (o : Nat) (i : Int32) (S : LW), Sn p l e R s m args below meth c 2 D x_cl base (wdL g) cL (grn n0) az kz (xfc cL) (xZ below args s D x_cl (xty g) base (wdL g) cL (grn n0) az kz ovU) 24 [] [(0, .ref o), (1, .int i)] S (k (o, i, S))) (o : Nat) (i : Int32) (S : LW) : Sn p l e R s m args below meth c 2 D x_cl base (wdL g) cL (grn n0) az kz (xfc cL) (xZ below args s D x_cl (xty g) base (wdL g) cL (grn n0) az kz ovU) 24 [] [(0, .ref o), (1, .int i)] S (m_iExplorer_24b n0 k o i S) := by
  unfold m_iExplorer_24b
  refine s_iload_n B d_iExplorer_24 rfl ?_
  refine s_bipush (v := (16:Int32)) B d_iExplorer_25 (by decide) ?_
  refine s_icmp_ge B d_iExplorer_27 rfl (fun _ => ?_) (fun _ => ?_)
  · exact s_vret B d_iExplorer_49
  · refine s_aload_n B d_iExplorer_30 rfl ?_
    refine s_getLr (k := 0) B xc_Explorer (by decide) rfl fi_Explorer_11 d_iExplorer_31 (fun r1 _ => ?_)
    refine s_iload_n B d_iExplorer_34 rfl ?_
    refine s_newC (refs := [r1, o]) (y := fun S2 => m_iMachine S2.1.length S.1.length S2) B hN xc_Machine cl_Explorer_9 it_Machine ii_Machine df_Machine rfl d_iExplorer_35 d_iExplorer_38 (lk_IN2 (n := 0) B d_iExplorer_39 (xgood cd_iMachine) (List.mem_cons_of_mem _ im_iMachine) (List.mem_cons_of_mem _ ii_Machine) (hN.1 _ (List.mem_of_getElem? (i := 3) rfl)) rfl rfl hi_Machine (by decide) (by decide)) (by simp [xin0]) (by simp [xin0]) (by simp [Value.category]) (fun S9 r9 e9 => ct_iMachine _ _ S9 r9 e9) (fun c3 => ?_)
    refine s_aastL B d_iExplorer_42 (fun S4 _ => ?_)
    refine s_iinc (w := (1:Int32)) B d_iExplorer_43 rfl (by decide) (by decide) ?_
    refine s_goto B d_iExplorer_46 rfl ?_
    refine s_pick (lv1 := [(0, .ref o), (1, .int (i + (1:Int32)))]) [0, 1] rfl ?_
    exact hk (o) ((i + (1:Int32))) S4
theorem t_iExplorer_24 (B : xB p R s m args meth c b_iExplorer 2 R_Explorer (Cond.code y_iExplorer b_iExplorer 2 none :: x_T) none 2 40 D x_cl (xty g) base) (hN : xN s) (hnm : meth.name = "<init>") (o : Nat) (i : Int32) (S : LW) : Sn p l e R s m args below meth c 2 D x_cl base (wdL g) cL (grn n0) az kz (xfc cL) (xZ below args s D x_cl (xty g) base (wdL g) cL (grn n0) az kz ovU) 24 [] [(0, .ref o), (1, .int i)] S (m_iExplorer_24 n0 (o, i, S)) := by
  have q : ∀ (F : Nat) (q : Nat × Int32 × LW), Sn p l e R s m args below meth c 2 D x_cl base (wdL g) cL (grn n0) az kz (xfc cL) (xZ below args s D x_cl (xty g) base (wdL g) cL (grn n0) az kz ovU) 24 [] [(0, .ref q.1), (1, .int q.2.1)] q.2.2 (fx (fun (k : Nat × Int32 × LW → Option (LW × Unit)) (q : Nat × Int32 × LW) => m_iExplorer_24b n0 k q.1 q.2.1 q.2.2) F q) := by
    intro F
    induction F with
    | zero => intro i; exact s_none
    | succ F ih => intro q; exact t_iExplorer_24b B hN hnm (fun o i S => ih (o, i, S)) q.1 q.2.1 q.2.2
  exact q FU (o, i, S)
set_option maxRecDepth 100000 in
set_option maxHeartbeats 4000000 in
theorem t_iExplorer (B : xB p R s m args meth c b_iExplorer 2 R_Explorer (Cond.code y_iExplorer b_iExplorer 2 none :: x_T) none 2 40 D x_cl (xty g) base) (hN : xN s) (hnm : meth.name = "<init>") (o : Nat) (S : LW) : Sn p l e R s m args below meth c 2 D x_cl base (wdL g) cL (grn n0) az kz (xfc cL) (xZ below args s D x_cl (xty g) base (wdL g) cL (grn n0) az kz ovU) 0 [] [(0, .ref o)] S (m_iExplorer n0 o S) := by
  unfold m_iExplorer
  refine s_aload_n B d_iExplorer_0 rfl ?_
  refine s_objI B oi_Explorer d_iExplorer_1 (by decide) (by decide) ?_
  refine s_aload_n B d_iExplorer_4 rfl ?_
  refine s_bipush (v := (16:Int32)) B d_iExplorer_5 (by decide) ?_
  refine s_newQ (refs := [o]) B hN.2 cl_Explorer_9 d_iExplorer_7 (by decide) rfl (by decide) (by simp [xin0]) (by simp [xin0]) (fun S1 _ => ?_)
  refine s_putLg (k := 0) (ty := (.array (.object "DerivativeDesk$Machine"))) B xc_Explorer (by decide) rfl fi_Explorer_11 (Or.inr ⟨rfl, hnm, rfl⟩) rfl (fun _ => rfl) (fun _ => rfl) d_iExplorer_10 (fun S2 _ => ?_)
  refine s_aload_n B d_iExplorer_13 rfl ?_
  refine s_sipush (v := (150:Int32)) B d_iExplorer_14 (by decide) ?_
  refine s_newI (refs := [o]) B d_iExplorer_17 (by decide) rfl (by decide) (by simp [xin0]) (by simp [xin0]) (fun S3 _ => ?_)
  refine s_putLg (k := 1) (ty := (.array .int)) B xc_Explorer (by decide) rfl fi_Explorer_17 (Or.inr ⟨rfl, hnm, rfl⟩) rfl (fun _ => rfl) (fun _ => rfl) d_iExplorer_19 (fun S4 _ => ?_)
  refine s_iconst (v := (0:Int32)) B d_iExplorer_22 (by decide) ?_
  refine s_istore_n B d_iExplorer_23 (by decide) ?_
  refine s_pick (lv1 := [(0, .ref o), (1, .int (0:Int32))]) [0, 1] rfl ?_
  exact t_iExplorer_24 B hN hnm (o) ((0:Int32)) S4
theorem ct_iExplorer {l : Launch} {D : va_G} {base : Nat} {g : Nat → ClassId} (n0 o : Nat) (S : LW) (r : LW × Unit) (hr : m_iExplorer n0 o S = some r) : CtN l y_iExplorer (Cond.code y_iExplorer b_iExplorer 2 none :: x_T) 2 40 D g base (grn n0) [.ref o] S r.1 :=
  x_metN (by decide) (Nat.le_of_ble_eq_true rfl) (fun p e R s m args below meth c az B hN hnm => t_iExplorer B hN hnm o S) r hr
end
abbrev b_iWordCheck : ByteArray := prog_9_method_1_code
abbrev y_iWordCheck : MethodName := ⟨R_WordCheck, "<init>", "()V"⟩
set_option maxRecDepth 100000 in
theorem cd_iWordCheck : Cond.code y_iWordCheck b_iWordCheck 1 none ∈ x_T := xmem1 168 rfl rfl
theorem hi_WordCheck : y_iWordCheck.cls ≠ "java/lang/invoke/MethodHandle" ∧ y_iWordCheck.cls ≠ "java/lang/invoke/VarHandle" ∧ (parseMethodDescriptor y_iWordCheck.desc).map (fun d => d.parameters.length) = some 0 := by decide +kernel
theorem df_WordCheck : ∀ j, j < x_Nf 6 → defaultValue (ty_WordCheck j) = vp_V [.null, .null, .null, .int 0, .int 0, .int 0] j := by decide +kernel
theorem d_iWordCheck_0 : decode b_iWordCheck 0 = .ok (.aload_n 0, 1) := by decide +kernel
theorem d_iWordCheck_1 : decode b_iWordCheck 1 = .ok (.invokespecial 3, 3) := by decide +kernel
theorem d_iWordCheck_4 : decode b_iWordCheck 4 = .ok (.aload_n 0, 1) := by decide +kernel
theorem d_iWordCheck_5 : decode b_iWordCheck 5 = .ok (.bipush (100), 2) := by decide +kernel
theorem d_iWordCheck_7 : decode b_iWordCheck 7 = .ok (.newarray .int, 2) := by decide +kernel
theorem d_iWordCheck_9 : decode b_iWordCheck 9 = .ok (.putfield 9, 3) := by decide +kernel
theorem d_iWordCheck_12 : decode b_iWordCheck 12 = .ok (.aload_n 0, 1) := by decide +kernel
theorem d_iWordCheck_13 : decode b_iWordCheck 13 = .ok (.sipush (1700), 3) := by decide +kernel
theorem d_iWordCheck_16 : decode b_iWordCheck 16 = .ok (.newarray .int, 2) := by decide +kernel
theorem d_iWordCheck_18 : decode b_iWordCheck 18 = .ok (.putfield 15, 3) := by decide +kernel
theorem d_iWordCheck_21 : decode b_iWordCheck 21 = .ok (.aload_n 0, 1) := by decide +kernel
theorem d_iWordCheck_22 : decode b_iWordCheck 22 = .ok (.new 18, 3) := by decide +kernel
theorem d_iWordCheck_25 : decode b_iWordCheck 25 = .ok (.dup, 1) := by decide +kernel
theorem d_iWordCheck_26 : decode b_iWordCheck 26 = .ok (.invokespecial 20, 3) := by decide +kernel
theorem d_iWordCheck_29 : decode b_iWordCheck 29 = .ok (.putfield 21, 3) := by decide +kernel
theorem d_iWordCheck_32 : decode b_iWordCheck 32 = .ok (.aload_n 0, 1) := by decide +kernel
theorem d_iWordCheck_33 : decode b_iWordCheck 33 = .ok (.iconst (0), 1) := by decide +kernel
theorem d_iWordCheck_34 : decode b_iWordCheck 34 = .ok (.putfield 25, 3) := by decide +kernel
theorem d_iWordCheck_37 : decode b_iWordCheck 37 = .ok (.aload_n 0, 1) := by decide +kernel
theorem d_iWordCheck_38 : decode b_iWordCheck 38 = .ok (.iconst (0), 1) := by decide +kernel
theorem d_iWordCheck_39 : decode b_iWordCheck 39 = .ok (.putfield 29, 3) := by decide +kernel
theorem d_iWordCheck_42 : decode b_iWordCheck 42 = .ok (.aload_n 0, 1) := by decide +kernel
theorem d_iWordCheck_43 : decode b_iWordCheck 43 = .ok (.iconst (0), 1) := by decide +kernel
theorem d_iWordCheck_44 : decode b_iWordCheck 44 = .ok (.putfield 32, 3) := by decide +kernel
theorem d_iWordCheck_47 : decode b_iWordCheck 47 = .ok (.return_, 1) := by decide +kernel
set_option maxRecDepth 100000 in
theorem oi_WordCheck : Cond.methodLink R_WordCheck 3 Lib.objectInit ∈ x_T := xmem1 169 rfl rfl
set_option maxRecDepth 100000 in
theorem fi_WordCheck_9 : Cond.fieldLink R_WordCheck 9 R_WordCheck (F_WordCheck 0).2.1 (F_WordCheck 0).2.2.1 ∈ x_T := xmem1 172 rfl rfl
set_option maxRecDepth 100000 in
theorem fi_WordCheck_15 : Cond.fieldLink R_WordCheck 15 R_WordCheck (F_WordCheck 1).2.1 (F_WordCheck 1).2.2.1 ∈ x_T := xmem1 173 rfl rfl
set_option maxRecDepth 100000 in
theorem cl_WordCheck_18 : Cond.classLink R_WordCheck 18 R_Row ∈ x_T := xmem1 170 rfl rfl
set_option maxRecDepth 100000 in
theorem fi_WordCheck_21 : Cond.fieldLink R_WordCheck 21 R_WordCheck (F_WordCheck 2).2.1 (F_WordCheck 2).2.2.1 ∈ x_T := xmem1 174 rfl rfl
set_option maxRecDepth 100000 in
theorem fi_WordCheck_25 : Cond.fieldLink R_WordCheck 25 R_WordCheck (F_WordCheck 3).2.1 (F_WordCheck 3).2.2.1 ∈ x_T := xmem1 175 rfl rfl
set_option maxRecDepth 100000 in
theorem fi_WordCheck_29 : Cond.fieldLink R_WordCheck 29 R_WordCheck (F_WordCheck 4).2.1 (F_WordCheck 4).2.2.1 ∈ x_T := xmem1 176 rfl rfl
set_option maxRecDepth 100000 in
theorem fi_WordCheck_32 : Cond.fieldLink R_WordCheck 32 R_WordCheck (F_WordCheck 5).2.1 (F_WordCheck 5).2.2.1 ∈ x_T := xmem1 177 rfl rfl
def m_iWordCheck (n0 o : Nat) (S : LW) : Option (LW × Unit) :=
  ((nwL n0 S [o] (.inl (0, 100, .inl (fun _ => 0))) 100).bind fun S1 =>
  ((ptL S1 o 6 0 (.ref S.1.length)).bind fun S2 =>
  ((nwL n0 S2 [o] (.inl (0, 1700, .inl (fun _ => 0))) 1700).bind fun S3 =>
  ((ptL S3 o 6 1 (.ref S2.1.length)).bind fun S4 =>
  ((nwL n0 S4 [o] (.inr (1, [.null, .int 0])) (x_Nf 1)).bind fun S5 => cal cL S5 (m_iRow S5.1.length S4.1.length S5) fun c6 =>
  ((ptL c6.1 o 6 2 (.ref S4.1.length)).bind fun S7 =>
  ((ptL S7 o 6 3 (.int (0:Int32))).bind fun S8 =>
  ((ptL S8 o 6 4 (.int (0:Int32))).bind fun S9 =>
  ((ptL S9 o 6 5 (.int (0:Int32))).bind fun S10 =>
  (some (S10, ())))))))))))
section
variable {p : Program} {l : Launch} {e : Env} {R : Room} {s : State} {m : MethodId} {args : Array Value} {below : List Frame} {meth : Method} {c : Code} {D : va_G} {base n0 : Nat} {g : Nat → ClassId} {az : Nat → Nat} {kz : Nat × Nat}
set_option maxRecDepth 100000 in
set_option maxHeartbeats 4000000 in
theorem t_iWordCheck (B : xB p R s m args meth c b_iWordCheck 1 R_WordCheck (Cond.code y_iWordCheck b_iWordCheck 1 none :: x_T) none 2 40 D x_cl (xty g) base) (hN : xN s) (hnm : meth.name = "<init>") (o : Nat) (S : LW) : Sn p l e R s m args below meth c 1 D x_cl base (wdL g) cL (grn n0) az kz (xfc cL) (xZ below args s D x_cl (xty g) base (wdL g) cL (grn n0) az kz ovU) 0 [] [(0, .ref o)] S (m_iWordCheck n0 o S) := by
  unfold m_iWordCheck
  refine s_aload_n B d_iWordCheck_0 rfl ?_
  refine s_objI B oi_WordCheck d_iWordCheck_1 (by decide) (by decide) ?_
  refine s_aload_n B d_iWordCheck_4 rfl ?_
  refine s_bipush (v := (100:Int32)) B d_iWordCheck_5 (by decide) ?_
  refine s_newI (refs := [o]) B d_iWordCheck_7 (by decide) rfl (by decide) (by simp [xin0]) (by simp [xin0]) (fun S1 _ => ?_)
  refine s_putLg (k := 0) (ty := (.array .int)) B xc_WordCheck (by decide) rfl fi_WordCheck_9 (Or.inr ⟨rfl, hnm, rfl⟩) rfl (fun _ => rfl) (fun _ => rfl) d_iWordCheck_9 (fun S2 _ => ?_)
  refine s_aload_n B d_iWordCheck_12 rfl ?_
  refine s_sipush (v := (1700:Int32)) B d_iWordCheck_13 (by decide) ?_
  refine s_newI (refs := [o]) B d_iWordCheck_16 (by decide) rfl (by decide) (by simp [xin0]) (by simp [xin0]) (fun S3 _ => ?_)
  refine s_putLg (k := 1) (ty := (.array .int)) B xc_WordCheck (by decide) rfl fi_WordCheck_15 (Or.inr ⟨rfl, hnm, rfl⟩) rfl (fun _ => rfl) (fun _ => rfl) d_iWordCheck_18 (fun S4 _ => ?_)
  refine s_aload_n B d_iWordCheck_21 rfl ?_
  refine s_newC (refs := [o]) (y := fun S5 => m_iRow S5.1.length S4.1.length S5) B hN xc_Row cl_WordCheck_18 it_Row ii_Row df_Row rfl d_iWordCheck_22 d_iWordCheck_25 (lk_IN2 (n := 0) B d_iWordCheck_26 (xgood cd_iRow) (List.mem_cons_of_mem _ im_iRow) (List.mem_cons_of_mem _ ii_Row) (hN.1 _ (List.mem_of_getElem? (i := 5) rfl)) rfl rfl hi_Row (by decide) (by decide)) (by simp [xin0]) (by simp [xin0]) (by simp [Value.category]) (fun S9 r9 e9 => ct_iRow _ _ S9 r9 e9) (fun c6 => ?_)
  refine s_putLg (k := 2) (ty := (.object "DerivativeDesk$Row")) B xc_WordCheck (by decide) rfl fi_WordCheck_21 (Or.inr ⟨rfl, hnm, rfl⟩) rfl (fun _ => rfl) (fun _ => rfl) d_iWordCheck_29 (fun S7 _ => ?_)
  refine s_aload_n B d_iWordCheck_32 rfl ?_
  refine s_iconst (v := (0:Int32)) B d_iWordCheck_33 (by decide) ?_
  refine s_putLg (k := 3) (ty := .int) B xc_WordCheck (by decide) rfl fi_WordCheck_25 (Or.inl rfl) rfl (fun _ => rfl) (fun _ => rfl) d_iWordCheck_34 (fun S8 _ => ?_)
  refine s_aload_n B d_iWordCheck_37 rfl ?_
  refine s_iconst (v := (0:Int32)) B d_iWordCheck_38 (by decide) ?_
  refine s_putLg (k := 4) (ty := .int) B xc_WordCheck (by decide) rfl fi_WordCheck_29 (Or.inl rfl) rfl (fun _ => rfl) (fun _ => rfl) d_iWordCheck_39 (fun S9 _ => ?_)
  refine s_aload_n B d_iWordCheck_42 rfl ?_
  refine s_iconst (v := (0:Int32)) B d_iWordCheck_43 (by decide) ?_
  refine s_putLg (k := 5) (ty := .int) B xc_WordCheck (by decide) rfl fi_WordCheck_32 (Or.inl rfl) rfl (fun _ => rfl) (fun _ => rfl) d_iWordCheck_44 (fun S10 _ => ?_)
  exact s_vret B d_iWordCheck_47
theorem ct_iWordCheck {l : Launch} {D : va_G} {base : Nat} {g : Nat → ClassId} (n0 o : Nat) (S : LW) (r : LW × Unit) (hr : m_iWordCheck n0 o S = some r) : CtN l y_iWordCheck (Cond.code y_iWordCheck b_iWordCheck 1 none :: x_T) 2 40 D g base (grn n0) [.ref o] S r.1 :=
  x_metN (by decide) (Nat.le_of_ble_eq_true rfl) (fun p e R s m args below meth c az B hN hnm => t_iWordCheck B hN hnm o S) r hr
end
abbrev b_iSplitter : ByteArray := prog_7_method_1_code
abbrev y_iSplitter : MethodName := ⟨R_Splitter, "<init>", "()V"⟩
set_option maxRecDepth 100000 in
theorem cd_iSplitter : Cond.code y_iSplitter b_iSplitter 1 none ∈ x_T := xmem1 195 rfl rfl
theorem hi_Splitter : y_iSplitter.cls ≠ "java/lang/invoke/MethodHandle" ∧ y_iSplitter.cls ≠ "java/lang/invoke/VarHandle" ∧ (parseMethodDescriptor y_iSplitter.desc).map (fun d => d.parameters.length) = some 0 := by decide +kernel
theorem df_Splitter : ∀ j, j < x_Nf 7 → defaultValue (ty_Splitter j) = vp_V [.null, .null, .null, .null, .null] j := by decide +kernel
theorem d_iSplitter_0 : decode b_iSplitter 0 = .ok (.aload_n 0, 1) := by decide +kernel
theorem d_iSplitter_1 : decode b_iSplitter 1 = .ok (.invokespecial 3, 3) := by decide +kernel
theorem d_iSplitter_4 : decode b_iSplitter 4 = .ok (.aload_n 0, 1) := by decide +kernel
theorem d_iSplitter_5 : decode b_iSplitter 5 = .ok (.sipush (150), 3) := by decide +kernel
theorem d_iSplitter_8 : decode b_iSplitter 8 = .ok (.newarray .int, 2) := by decide +kernel
theorem d_iSplitter_10 : decode b_iSplitter 10 = .ok (.putfield 9, 3) := by decide +kernel
theorem d_iSplitter_13 : decode b_iSplitter 13 = .ok (.aload_n 0, 1) := by decide +kernel
theorem d_iSplitter_14 : decode b_iSplitter 14 = .ok (.sipush (150), 3) := by decide +kernel
theorem d_iSplitter_17 : decode b_iSplitter 17 = .ok (.newarray .int, 2) := by decide +kernel
theorem d_iSplitter_19 : decode b_iSplitter 19 = .ok (.putfield 15, 3) := by decide +kernel
theorem d_iSplitter_22 : decode b_iSplitter 22 = .ok (.aload_n 0, 1) := by decide +kernel
theorem d_iSplitter_23 : decode b_iSplitter 23 = .ok (.sipush (150), 3) := by decide +kernel
theorem d_iSplitter_26 : decode b_iSplitter 26 = .ok (.newarray .int, 2) := by decide +kernel
theorem d_iSplitter_28 : decode b_iSplitter 28 = .ok (.putfield 18, 3) := by decide +kernel
theorem d_iSplitter_31 : decode b_iSplitter 31 = .ok (.aload_n 0, 1) := by decide +kernel
theorem d_iSplitter_32 : decode b_iSplitter 32 = .ok (.sipush (150), 3) := by decide +kernel
theorem d_iSplitter_35 : decode b_iSplitter 35 = .ok (.newarray .int, 2) := by decide +kernel
theorem d_iSplitter_37 : decode b_iSplitter 37 = .ok (.putfield 21, 3) := by decide +kernel
theorem d_iSplitter_40 : decode b_iSplitter 40 = .ok (.aload_n 0, 1) := by decide +kernel
theorem d_iSplitter_41 : decode b_iSplitter 41 = .ok (.sipush (150), 3) := by decide +kernel
theorem d_iSplitter_44 : decode b_iSplitter 44 = .ok (.newarray .int, 2) := by decide +kernel
theorem d_iSplitter_46 : decode b_iSplitter 46 = .ok (.putfield 24, 3) := by decide +kernel
theorem d_iSplitter_49 : decode b_iSplitter 49 = .ok (.return_, 1) := by decide +kernel
set_option maxRecDepth 100000 in
theorem oi_Splitter : Cond.methodLink R_Splitter 3 Lib.objectInit ∈ x_T := xmem1 196 rfl rfl
set_option maxRecDepth 100000 in
theorem fi_Splitter_9 : Cond.fieldLink R_Splitter 9 R_Splitter (F_Splitter 0).2.1 (F_Splitter 0).2.2.1 ∈ x_T := xmem1 197 rfl rfl
set_option maxRecDepth 100000 in
theorem fi_Splitter_15 : Cond.fieldLink R_Splitter 15 R_Splitter (F_Splitter 1).2.1 (F_Splitter 1).2.2.1 ∈ x_T := xmem1 198 rfl rfl
set_option maxRecDepth 100000 in
theorem fi_Splitter_18 : Cond.fieldLink R_Splitter 18 R_Splitter (F_Splitter 2).2.1 (F_Splitter 2).2.2.1 ∈ x_T := xmem1 199 rfl rfl
set_option maxRecDepth 100000 in
theorem fi_Splitter_21 : Cond.fieldLink R_Splitter 21 R_Splitter (F_Splitter 3).2.1 (F_Splitter 3).2.2.1 ∈ x_T := xmem1 200 rfl rfl
set_option maxRecDepth 100000 in
theorem fi_Splitter_24 : Cond.fieldLink R_Splitter 24 R_Splitter (F_Splitter 4).2.1 (F_Splitter 4).2.2.1 ∈ x_T := xmem1 201 rfl rfl
def m_iSplitter (n0 o : Nat) (S : LW) : Option (LW × Unit) :=
  ((nwL n0 S [o] (.inl (0, 150, .inl (fun _ => 0))) 150).bind fun S1 =>
  ((ptL S1 o 7 0 (.ref S.1.length)).bind fun S2 =>
  ((nwL n0 S2 [o] (.inl (0, 150, .inl (fun _ => 0))) 150).bind fun S3 =>
  ((ptL S3 o 7 1 (.ref S2.1.length)).bind fun S4 =>
  ((nwL n0 S4 [o] (.inl (0, 150, .inl (fun _ => 0))) 150).bind fun S5 =>
  ((ptL S5 o 7 2 (.ref S4.1.length)).bind fun S6 =>
  ((nwL n0 S6 [o] (.inl (0, 150, .inl (fun _ => 0))) 150).bind fun S7 =>
  ((ptL S7 o 7 3 (.ref S6.1.length)).bind fun S8 =>
  ((nwL n0 S8 [o] (.inl (0, 150, .inl (fun _ => 0))) 150).bind fun S9 =>
  ((ptL S9 o 7 4 (.ref S8.1.length)).bind fun S10 =>
  (some (S10, ()))))))))))))
section
variable {p : Program} {l : Launch} {e : Env} {R : Room} {s : State} {m : MethodId} {args : Array Value} {below : List Frame} {meth : Method} {c : Code} {D : va_G} {base n0 : Nat} {g : Nat → ClassId} {az : Nat → Nat} {kz : Nat × Nat}
set_option maxRecDepth 100000 in
set_option maxHeartbeats 4000000 in
theorem t_iSplitter (B : xB p R s m args meth c b_iSplitter 1 R_Splitter (Cond.code y_iSplitter b_iSplitter 1 none :: x_T) none 1 20 D x_cl (xty g) base) (hN : xN s) (hnm : meth.name = "<init>") (o : Nat) (S : LW) : Sn p l e R s m args below meth c 1 D x_cl base (wdL g) cL (grn n0) az kz (xfc cL) (xZ below args s D x_cl (xty g) base (wdL g) cL (grn n0) az kz ovU) 0 [] [(0, .ref o)] S (m_iSplitter n0 o S) := by
  unfold m_iSplitter
  refine s_aload_n B d_iSplitter_0 rfl ?_
  refine s_objI B oi_Splitter d_iSplitter_1 (by decide) (by decide) ?_
  refine s_aload_n B d_iSplitter_4 rfl ?_
  refine s_sipush (v := (150:Int32)) B d_iSplitter_5 (by decide) ?_
  refine s_newI (refs := [o]) B d_iSplitter_8 (by decide) rfl (by decide) (by simp [xin0]) (by simp [xin0]) (fun S1 _ => ?_)
  refine s_putLg (k := 0) (ty := (.array .int)) B xc_Splitter (by decide) rfl fi_Splitter_9 (Or.inr ⟨rfl, hnm, rfl⟩) rfl (fun _ => rfl) (fun _ => rfl) d_iSplitter_10 (fun S2 _ => ?_)
  refine s_aload_n B d_iSplitter_13 rfl ?_
  refine s_sipush (v := (150:Int32)) B d_iSplitter_14 (by decide) ?_
  refine s_newI (refs := [o]) B d_iSplitter_17 (by decide) rfl (by decide) (by simp [xin0]) (by simp [xin0]) (fun S3 _ => ?_)
  refine s_putLg (k := 1) (ty := (.array .int)) B xc_Splitter (by decide) rfl fi_Splitter_15 (Or.inr ⟨rfl, hnm, rfl⟩) rfl (fun _ => rfl) (fun _ => rfl) d_iSplitter_19 (fun S4 _ => ?_)
  refine s_aload_n B d_iSplitter_22 rfl ?_
  refine s_sipush (v := (150:Int32)) B d_iSplitter_23 (by decide) ?_
  refine s_newI (refs := [o]) B d_iSplitter_26 (by decide) rfl (by decide) (by simp [xin0]) (by simp [xin0]) (fun S5 _ => ?_)
  refine s_putLg (k := 2) (ty := (.array .int)) B xc_Splitter (by decide) rfl fi_Splitter_18 (Or.inr ⟨rfl, hnm, rfl⟩) rfl (fun _ => rfl) (fun _ => rfl) d_iSplitter_28 (fun S6 _ => ?_)
  refine s_aload_n B d_iSplitter_31 rfl ?_
  refine s_sipush (v := (150:Int32)) B d_iSplitter_32 (by decide) ?_
  refine s_newI (refs := [o]) B d_iSplitter_35 (by decide) rfl (by decide) (by simp [xin0]) (by simp [xin0]) (fun S7 _ => ?_)
  refine s_putLg (k := 3) (ty := (.array .int)) B xc_Splitter (by decide) rfl fi_Splitter_21 (Or.inr ⟨rfl, hnm, rfl⟩) rfl (fun _ => rfl) (fun _ => rfl) d_iSplitter_37 (fun S8 _ => ?_)
  refine s_aload_n B d_iSplitter_40 rfl ?_
  refine s_sipush (v := (150:Int32)) B d_iSplitter_41 (by decide) ?_
  refine s_newI (refs := [o]) B d_iSplitter_44 (by decide) rfl (by decide) (by simp [xin0]) (by simp [xin0]) (fun S9 _ => ?_)
  refine s_putLg (k := 4) (ty := (.array .int)) B xc_Splitter (by decide) rfl fi_Splitter_24 (Or.inr ⟨rfl, hnm, rfl⟩) rfl (fun _ => rfl) (fun _ => rfl) d_iSplitter_46 (fun S10 _ => ?_)
  exact s_vret B d_iSplitter_49
theorem ct_iSplitter {l : Launch} {D : va_G} {base : Nat} {g : Nat → ClassId} (n0 o : Nat) (S : LW) (r : LW × Unit) (hr : m_iSplitter n0 o S = some r) : CtN l y_iSplitter (Cond.code y_iSplitter b_iSplitter 1 none :: x_T) 1 20 D g base (grn n0) [.ref o] S r.1 :=
  x_metN (by decide) (Nat.le_of_ble_eq_true rfl) (fun p e R s m args below meth c az B hN hnm => t_iSplitter B hN hnm o S) r hr
end
abbrev b_iComparison : ByteArray := prog_2_method_1_code
abbrev y_iComparison : MethodName := ⟨R_Comparison, "<init>", "()V"⟩
set_option maxRecDepth 100000 in
theorem cd_iComparison : Cond.code y_iComparison b_iComparison 1 none ∈ x_T := xmem1 217 rfl rfl
theorem hi_Comparison : y_iComparison.cls ≠ "java/lang/invoke/MethodHandle" ∧ y_iComparison.cls ≠ "java/lang/invoke/VarHandle" ∧ (parseMethodDescriptor y_iComparison.desc).map (fun d => d.parameters.length) = some 0 := by decide +kernel
theorem df_Comparison : ∀ j, j < x_Nf 8 → defaultValue (ty_Comparison j) = vp_V [.null, .null, .null, .null, .null, .null, .int 0, .int 0] j := by decide +kernel
theorem d_iComparison_0 : decode b_iComparison 0 = .ok (.aload_n 0, 1) := by decide +kernel
theorem d_iComparison_1 : decode b_iComparison 1 = .ok (.invokespecial 3, 3) := by decide +kernel
theorem d_iComparison_4 : decode b_iComparison 4 = .ok (.aload_n 0, 1) := by decide +kernel
theorem d_iComparison_5 : decode b_iComparison 5 = .ok (.sipush (300), 3) := by decide +kernel
theorem d_iComparison_8 : decode b_iComparison 8 = .ok (.newarray .int, 2) := by decide +kernel
theorem d_iComparison_10 : decode b_iComparison 10 = .ok (.putfield 11, 3) := by decide +kernel
theorem d_iComparison_13 : decode b_iComparison 13 = .ok (.aload_n 0, 1) := by decide +kernel
theorem d_iComparison_14 : decode b_iComparison 14 = .ok (.sipush (300), 3) := by decide +kernel
theorem d_iComparison_17 : decode b_iComparison 17 = .ok (.newarray .int, 2) := by decide +kernel
theorem d_iComparison_19 : decode b_iComparison 19 = .ok (.putfield 15, 3) := by decide +kernel
theorem d_iComparison_22 : decode b_iComparison 22 = .ok (.aload_n 0, 1) := by decide +kernel
theorem d_iComparison_23 : decode b_iComparison 23 = .ok (.sipush (300), 3) := by decide +kernel
theorem d_iComparison_26 : decode b_iComparison 26 = .ok (.newarray .int, 2) := by decide +kernel
theorem d_iComparison_28 : decode b_iComparison 28 = .ok (.putfield 18, 3) := by decide +kernel
theorem d_iComparison_31 : decode b_iComparison 31 = .ok (.aload_n 0, 1) := by decide +kernel
theorem d_iComparison_32 : decode b_iComparison 32 = .ok (.sipush (300), 3) := by decide +kernel
theorem d_iComparison_35 : decode b_iComparison 35 = .ok (.newarray .int, 2) := by decide +kernel
theorem d_iComparison_37 : decode b_iComparison 37 = .ok (.putfield 21, 3) := by decide +kernel
theorem d_iComparison_40 : decode b_iComparison 40 = .ok (.aload_n 0, 1) := by decide +kernel
theorem d_iComparison_41 : decode b_iComparison 41 = .ok (.sipush (300), 3) := by decide +kernel
theorem d_iComparison_44 : decode b_iComparison 44 = .ok (.newarray .int, 2) := by decide +kernel
theorem d_iComparison_46 : decode b_iComparison 46 = .ok (.putfield 24, 3) := by decide +kernel
theorem d_iComparison_49 : decode b_iComparison 49 = .ok (.aload_n 0, 1) := by decide +kernel
theorem d_iComparison_50 : decode b_iComparison 50 = .ok (.sipush (300), 3) := by decide +kernel
theorem d_iComparison_53 : decode b_iComparison 53 = .ok (.newarray .int, 2) := by decide +kernel
theorem d_iComparison_55 : decode b_iComparison 55 = .ok (.putfield 27, 3) := by decide +kernel
theorem d_iComparison_58 : decode b_iComparison 58 = .ok (.aload_n 0, 1) := by decide +kernel
theorem d_iComparison_59 : decode b_iComparison 59 = .ok (.iconst (0), 1) := by decide +kernel
theorem d_iComparison_60 : decode b_iComparison 60 = .ok (.putfield 30, 3) := by decide +kernel
theorem d_iComparison_63 : decode b_iComparison 63 = .ok (.aload_n 0, 1) := by decide +kernel
theorem d_iComparison_64 : decode b_iComparison 64 = .ok (.iconst (-1), 1) := by decide +kernel
theorem d_iComparison_65 : decode b_iComparison 65 = .ok (.putfield 34, 3) := by decide +kernel
theorem d_iComparison_68 : decode b_iComparison 68 = .ok (.return_, 1) := by decide +kernel
set_option maxRecDepth 100000 in
theorem oi_Comparison : Cond.methodLink R_Comparison 3 Lib.objectInit ∈ x_T := xmem1 218 rfl rfl
set_option maxRecDepth 100000 in
theorem fi_Comparison_11 : Cond.fieldLink R_Comparison 11 R_Comparison (F_Comparison 0).2.1 (F_Comparison 0).2.2.1 ∈ x_T := xmem1 219 rfl rfl
set_option maxRecDepth 100000 in
theorem fi_Comparison_15 : Cond.fieldLink R_Comparison 15 R_Comparison (F_Comparison 1).2.1 (F_Comparison 1).2.2.1 ∈ x_T := xmem1 220 rfl rfl
set_option maxRecDepth 100000 in
theorem fi_Comparison_18 : Cond.fieldLink R_Comparison 18 R_Comparison (F_Comparison 2).2.1 (F_Comparison 2).2.2.1 ∈ x_T := xmem1 221 rfl rfl
set_option maxRecDepth 100000 in
theorem fi_Comparison_21 : Cond.fieldLink R_Comparison 21 R_Comparison (F_Comparison 3).2.1 (F_Comparison 3).2.2.1 ∈ x_T := xmem1 222 rfl rfl
set_option maxRecDepth 100000 in
theorem fi_Comparison_24 : Cond.fieldLink R_Comparison 24 R_Comparison (F_Comparison 4).2.1 (F_Comparison 4).2.2.1 ∈ x_T := xmem1 223 rfl rfl
set_option maxRecDepth 100000 in
theorem fi_Comparison_27 : Cond.fieldLink R_Comparison 27 R_Comparison (F_Comparison 5).2.1 (F_Comparison 5).2.2.1 ∈ x_T := xmem1 224 rfl rfl
set_option maxRecDepth 100000 in
theorem fi_Comparison_30 : Cond.fieldLink R_Comparison 30 R_Comparison (F_Comparison 6).2.1 (F_Comparison 6).2.2.1 ∈ x_T := xmem1 225 rfl rfl
set_option maxRecDepth 100000 in
theorem fi_Comparison_34 : Cond.fieldLink R_Comparison 34 R_Comparison (F_Comparison 7).2.1 (F_Comparison 7).2.2.1 ∈ x_T := xmem1 226 rfl rfl
def m_iComparison (n0 o : Nat) (S : LW) : Option (LW × Unit) :=
  ((nwL n0 S [o] (.inl (0, 300, .inl (fun _ => 0))) 300).bind fun S1 =>
  ((ptL S1 o 8 0 (.ref S.1.length)).bind fun S2 =>
  ((nwL n0 S2 [o] (.inl (0, 300, .inl (fun _ => 0))) 300).bind fun S3 =>
  ((ptL S3 o 8 1 (.ref S2.1.length)).bind fun S4 =>
  ((nwL n0 S4 [o] (.inl (0, 300, .inl (fun _ => 0))) 300).bind fun S5 =>
  ((ptL S5 o 8 2 (.ref S4.1.length)).bind fun S6 =>
  ((nwL n0 S6 [o] (.inl (0, 300, .inl (fun _ => 0))) 300).bind fun S7 =>
  ((ptL S7 o 8 3 (.ref S6.1.length)).bind fun S8 =>
  ((nwL n0 S8 [o] (.inl (0, 300, .inl (fun _ => 0))) 300).bind fun S9 =>
  ((ptL S9 o 8 4 (.ref S8.1.length)).bind fun S10 =>
  ((nwL n0 S10 [o] (.inl (0, 300, .inl (fun _ => 0))) 300).bind fun S11 =>
  ((ptL S11 o 8 5 (.ref S10.1.length)).bind fun S12 =>
  ((ptL S12 o 8 6 (.int (0:Int32))).bind fun S13 =>
  ((ptL S13 o 8 7 (.int (-1:Int32))).bind fun S14 =>
  (some (S14, ()))))))))))))))))
section
variable {p : Program} {l : Launch} {e : Env} {R : Room} {s : State} {m : MethodId} {args : Array Value} {below : List Frame} {meth : Method} {c : Code} {D : va_G} {base n0 : Nat} {g : Nat → ClassId} {az : Nat → Nat} {kz : Nat × Nat}
set_option maxRecDepth 100000 in
set_option maxHeartbeats 4000000 in
theorem t_iComparison (B : xB p R s m args meth c b_iComparison 1 R_Comparison (Cond.code y_iComparison b_iComparison 1 none :: x_T) none 1 20 D x_cl (xty g) base) (hN : xN s) (hnm : meth.name = "<init>") (o : Nat) (S : LW) : Sn p l e R s m args below meth c 1 D x_cl base (wdL g) cL (grn n0) az kz (xfc cL) (xZ below args s D x_cl (xty g) base (wdL g) cL (grn n0) az kz ovU) 0 [] [(0, .ref o)] S (m_iComparison n0 o S) := by
  unfold m_iComparison
  refine s_aload_n B d_iComparison_0 rfl ?_
  refine s_objI B oi_Comparison d_iComparison_1 (by decide) (by decide) ?_
  refine s_aload_n B d_iComparison_4 rfl ?_
  refine s_sipush (v := (300:Int32)) B d_iComparison_5 (by decide) ?_
  refine s_newI (refs := [o]) B d_iComparison_8 (by decide) rfl (by decide) (by simp [xin0]) (by simp [xin0]) (fun S1 _ => ?_)
  refine s_putLg (k := 0) (ty := (.array .int)) B xc_Comparison (by decide) rfl fi_Comparison_11 (Or.inr ⟨rfl, hnm, rfl⟩) rfl (fun _ => rfl) (fun _ => rfl) d_iComparison_10 (fun S2 _ => ?_)
  refine s_aload_n B d_iComparison_13 rfl ?_
  refine s_sipush (v := (300:Int32)) B d_iComparison_14 (by decide) ?_
  refine s_newI (refs := [o]) B d_iComparison_17 (by decide) rfl (by decide) (by simp [xin0]) (by simp [xin0]) (fun S3 _ => ?_)
  refine s_putLg (k := 1) (ty := (.array .int)) B xc_Comparison (by decide) rfl fi_Comparison_15 (Or.inr ⟨rfl, hnm, rfl⟩) rfl (fun _ => rfl) (fun _ => rfl) d_iComparison_19 (fun S4 _ => ?_)
  refine s_aload_n B d_iComparison_22 rfl ?_
  refine s_sipush (v := (300:Int32)) B d_iComparison_23 (by decide) ?_
  refine s_newI (refs := [o]) B d_iComparison_26 (by decide) rfl (by decide) (by simp [xin0]) (by simp [xin0]) (fun S5 _ => ?_)
  refine s_putLg (k := 2) (ty := (.array .int)) B xc_Comparison (by decide) rfl fi_Comparison_18 (Or.inr ⟨rfl, hnm, rfl⟩) rfl (fun _ => rfl) (fun _ => rfl) d_iComparison_28 (fun S6 _ => ?_)
  refine s_aload_n B d_iComparison_31 rfl ?_
  refine s_sipush (v := (300:Int32)) B d_iComparison_32 (by decide) ?_
  refine s_newI (refs := [o]) B d_iComparison_35 (by decide) rfl (by decide) (by simp [xin0]) (by simp [xin0]) (fun S7 _ => ?_)
  refine s_putLg (k := 3) (ty := (.array .int)) B xc_Comparison (by decide) rfl fi_Comparison_21 (Or.inr ⟨rfl, hnm, rfl⟩) rfl (fun _ => rfl) (fun _ => rfl) d_iComparison_37 (fun S8 _ => ?_)
  refine s_aload_n B d_iComparison_40 rfl ?_
  refine s_sipush (v := (300:Int32)) B d_iComparison_41 (by decide) ?_
  refine s_newI (refs := [o]) B d_iComparison_44 (by decide) rfl (by decide) (by simp [xin0]) (by simp [xin0]) (fun S9 _ => ?_)
  refine s_putLg (k := 4) (ty := (.array .int)) B xc_Comparison (by decide) rfl fi_Comparison_24 (Or.inr ⟨rfl, hnm, rfl⟩) rfl (fun _ => rfl) (fun _ => rfl) d_iComparison_46 (fun S10 _ => ?_)
  refine s_aload_n B d_iComparison_49 rfl ?_
  refine s_sipush (v := (300:Int32)) B d_iComparison_50 (by decide) ?_
  refine s_newI (refs := [o]) B d_iComparison_53 (by decide) rfl (by decide) (by simp [xin0]) (by simp [xin0]) (fun S11 _ => ?_)
  refine s_putLg (k := 5) (ty := (.array .int)) B xc_Comparison (by decide) rfl fi_Comparison_27 (Or.inr ⟨rfl, hnm, rfl⟩) rfl (fun _ => rfl) (fun _ => rfl) d_iComparison_55 (fun S12 _ => ?_)
  refine s_aload_n B d_iComparison_58 rfl ?_
  refine s_iconst (v := (0:Int32)) B d_iComparison_59 (by decide) ?_
  refine s_putLg (k := 6) (ty := .int) B xc_Comparison (by decide) rfl fi_Comparison_30 (Or.inl rfl) rfl (fun _ => rfl) (fun _ => rfl) d_iComparison_60 (fun S13 _ => ?_)
  refine s_aload_n B d_iComparison_63 rfl ?_
  refine s_iconst (v := (-1:Int32)) B d_iComparison_64 (by decide) ?_
  refine s_putLg (k := 7) (ty := .int) B xc_Comparison (by decide) rfl fi_Comparison_34 (Or.inl rfl) rfl (fun _ => rfl) (fun _ => rfl) d_iComparison_65 (fun S14 _ => ?_)
  exact s_vret B d_iComparison_68
theorem ct_iComparison {l : Launch} {D : va_G} {base : Nat} {g : Nat → ClassId} (n0 o : Nat) (S : LW) (r : LW × Unit) (hr : m_iComparison n0 o S = some r) : CtN l y_iComparison (Cond.code y_iComparison b_iComparison 1 none :: x_T) 1 20 D g base (grn n0) [.ref o] S r.1 :=
  x_metN (by decide) (Nat.le_of_ble_eq_true rfl) (fun p e R s m args below meth c az B hN hnm => t_iComparison B hN hnm o S) r hr
end
abbrev b_iWordCounts : ByteArray := prog_10_method_1_code
abbrev y_iWordCounts : MethodName := ⟨R_WordCounts, "<init>", "()V"⟩
set_option maxRecDepth 100000 in
theorem cd_iWordCounts : Cond.code y_iWordCounts b_iWordCounts 1 none ∈ x_T := xmem2 8 rfl rfl
theorem hi_WordCounts : y_iWordCounts.cls ≠ "java/lang/invoke/MethodHandle" ∧ y_iWordCounts.cls ≠ "java/lang/invoke/VarHandle" ∧ (parseMethodDescriptor y_iWordCounts.desc).map (fun d => d.parameters.length) = some 0 := by decide +kernel
theorem df_WordCounts : ∀ j, j < x_Nf 9 → defaultValue (ty_WordCounts j) = vp_V [.null, .null, .null] j := by decide +kernel
theorem d_iWordCounts_0 : decode b_iWordCounts 0 = .ok (.aload_n 0, 1) := by decide +kernel
theorem d_iWordCounts_1 : decode b_iWordCounts 1 = .ok (.invokespecial 3, 3) := by decide +kernel
theorem d_iWordCounts_4 : decode b_iWordCounts 4 = .ok (.aload_n 0, 1) := by decide +kernel
theorem d_iWordCounts_5 : decode b_iWordCounts 5 = .ok (.sipush (2550), 3) := by decide +kernel
theorem d_iWordCounts_8 : decode b_iWordCounts 8 = .ok (.newarray .long, 2) := by decide +kernel
theorem d_iWordCounts_10 : decode b_iWordCounts 10 = .ok (.putfield 9, 3) := by decide +kernel
theorem d_iWordCounts_13 : decode b_iWordCounts 13 = .ok (.aload_n 0, 1) := by decide +kernel
theorem d_iWordCounts_14 : decode b_iWordCounts 14 = .ok (.sipush (150), 3) := by decide +kernel
theorem d_iWordCounts_17 : decode b_iWordCounts 17 = .ok (.newarray .boolean, 2) := by decide +kernel
theorem d_iWordCounts_19 : decode b_iWordCounts 19 = .ok (.putfield 15, 3) := by decide +kernel
theorem d_iWordCounts_22 : decode b_iWordCounts 22 = .ok (.aload_n 0, 1) := by decide +kernel
theorem d_iWordCounts_23 : decode b_iWordCounts 23 = .ok (.sipush (150), 3) := by decide +kernel
theorem d_iWordCounts_26 : decode b_iWordCounts 26 = .ok (.newarray .boolean, 2) := by decide +kernel
theorem d_iWordCounts_28 : decode b_iWordCounts 28 = .ok (.putfield 19, 3) := by decide +kernel
theorem d_iWordCounts_31 : decode b_iWordCounts 31 = .ok (.return_, 1) := by decide +kernel
set_option maxRecDepth 100000 in
theorem oi_WordCounts : Cond.methodLink R_WordCounts 3 Lib.objectInit ∈ x_T := xmem2 9 rfl rfl
set_option maxRecDepth 100000 in
theorem fi_WordCounts_9 : Cond.fieldLink R_WordCounts 9 R_WordCounts (F_WordCounts 0).2.1 (F_WordCounts 0).2.2.1 ∈ x_T := xmem2 10 rfl rfl
set_option maxRecDepth 100000 in
theorem fi_WordCounts_15 : Cond.fieldLink R_WordCounts 15 R_WordCounts (F_WordCounts 1).2.1 (F_WordCounts 1).2.2.1 ∈ x_T := xmem2 11 rfl rfl
set_option maxRecDepth 100000 in
theorem fi_WordCounts_19 : Cond.fieldLink R_WordCounts 19 R_WordCounts (F_WordCounts 2).2.1 (F_WordCounts 2).2.2.1 ∈ x_T := xmem2 12 rfl rfl
def m_iWordCounts (n0 o : Nat) (S : LW) : Option (LW × Unit) :=
  ((nwL n0 S [o] (.inl (2, 2550, .inr (.inl (fun _ => 0)))) 2550).bind fun S1 =>
  ((ptL S1 o 9 0 (.ref S.1.length)).bind fun S2 =>
  ((nwL n0 S2 [o] (.inl (1, 150, .inl (fun _ => 0))) 150).bind fun S3 =>
  ((ptL S3 o 9 1 (.ref S2.1.length)).bind fun S4 =>
  ((nwL n0 S4 [o] (.inl (1, 150, .inl (fun _ => 0))) 150).bind fun S5 =>
  ((ptL S5 o 9 2 (.ref S4.1.length)).bind fun S6 =>
  (some (S6, ()))))))))
section
variable {p : Program} {l : Launch} {e : Env} {R : Room} {s : State} {m : MethodId} {args : Array Value} {below : List Frame} {meth : Method} {c : Code} {D : va_G} {base n0 : Nat} {g : Nat → ClassId} {az : Nat → Nat} {kz : Nat × Nat}
set_option maxRecDepth 100000 in
set_option maxHeartbeats 4000000 in
theorem t_iWordCounts (B : xB p R s m args meth c b_iWordCounts 1 R_WordCounts (Cond.code y_iWordCounts b_iWordCounts 1 none :: x_T) none 1 20 D x_cl (xty g) base) (hN : xN s) (hnm : meth.name = "<init>") (o : Nat) (S : LW) : Sn p l e R s m args below meth c 1 D x_cl base (wdL g) cL (grn n0) az kz (xfc cL) (xZ below args s D x_cl (xty g) base (wdL g) cL (grn n0) az kz ovU) 0 [] [(0, .ref o)] S (m_iWordCounts n0 o S) := by
  unfold m_iWordCounts
  refine s_aload_n B d_iWordCounts_0 rfl ?_
  refine s_objI B oi_WordCounts d_iWordCounts_1 (by decide) (by decide) ?_
  refine s_aload_n B d_iWordCounts_4 rfl ?_
  refine s_sipush (v := (2550:Int32)) B d_iWordCounts_5 (by decide) ?_
  refine s_newJ (refs := [o]) B d_iWordCounts_8 (by decide) rfl (by decide) (by simp [xin0]) (by simp [xin0]) (fun S1 _ => ?_)
  refine s_putLg (k := 0) (ty := (.array .long)) B xc_WordCounts (by decide) rfl fi_WordCounts_9 (Or.inr ⟨rfl, hnm, rfl⟩) rfl (fun _ => rfl) (fun _ => rfl) d_iWordCounts_10 (fun S2 _ => ?_)
  refine s_aload_n B d_iWordCounts_13 rfl ?_
  refine s_sipush (v := (150:Int32)) B d_iWordCounts_14 (by decide) ?_
  refine s_newZ (refs := [o]) B d_iWordCounts_17 (by decide) rfl (by decide) (by simp [xin0]) (by simp [xin0]) (fun S3 _ => ?_)
  refine s_putLg (k := 1) (ty := (.array .boolean)) B xc_WordCounts (by decide) rfl fi_WordCounts_15 (Or.inl rfl) rfl (fun _ => rfl) (fun _ => rfl) d_iWordCounts_19 (fun S4 _ => ?_)
  refine s_aload_n B d_iWordCounts_22 rfl ?_
  refine s_sipush (v := (150:Int32)) B d_iWordCounts_23 (by decide) ?_
  refine s_newZ (refs := [o]) B d_iWordCounts_26 (by decide) rfl (by decide) (by simp [xin0]) (by simp [xin0]) (fun S5 _ => ?_)
  refine s_putLg (k := 2) (ty := (.array .boolean)) B xc_WordCounts (by decide) rfl fi_WordCounts_19 (Or.inl rfl) rfl (fun _ => rfl) (fun _ => rfl) d_iWordCounts_28 (fun S6 _ => ?_)
  exact s_vret B d_iWordCounts_31
theorem ct_iWordCounts {l : Launch} {D : va_G} {base : Nat} {g : Nat → ClassId} (n0 o : Nat) (S : LW) (r : LW × Unit) (hr : m_iWordCounts n0 o S = some r) : CtN l y_iWordCounts (Cond.code y_iWordCounts b_iWordCounts 1 none :: x_T) 1 20 D g base (grn n0) [.ref o] S r.1 :=
  x_metN (by decide) (Nat.le_of_ble_eq_true rfl) (fun p e R s m args below meth c az B hN hnm => t_iWordCounts B hN hnm o S) r hr
end
abbrev b_iD : ByteArray := prog_1_method_1_code
abbrev y_iD : MethodName := ⟨R_D, "<init>", "()V"⟩
set_option maxRecDepth 100000 in
theorem cd_iD : Cond.code y_iD b_iD 1 none ∈ x_T := xmem1 24 rfl rfl
theorem hi_D : y_iD.cls ≠ "java/lang/invoke/MethodHandle" ∧ y_iD.cls ≠ "java/lang/invoke/VarHandle" ∧ (parseMethodDescriptor y_iD.desc).map (fun d => d.parameters.length) = some 0 := by decide +kernel
theorem df_D : ∀ j, j < x_Nf 0 → defaultValue (ty_D j) = vp_V [.null, .null, .null, .null, .null, .null, .null] j := by decide +kernel
theorem d_iD_0 : decode b_iD 0 = .ok (.aload_n 0, 1) := by decide +kernel
theorem d_iD_1 : decode b_iD 1 = .ok (.invokespecial 1, 3) := by decide +kernel
theorem d_iD_4 : decode b_iD 4 = .ok (.aload_n 0, 1) := by decide +kernel
theorem d_iD_5 : decode b_iD 5 = .ok (.bipush (16), 2) := by decide +kernel
theorem d_iD_7 : decode b_iD 7 = .ok (.newarray .int, 2) := by decide +kernel
theorem d_iD_9 : decode b_iD 9 = .ok (.putfield 9, 3) := by decide +kernel
theorem d_iD_12 : decode b_iD 12 = .ok (.aload_n 0, 1) := by decide +kernel
theorem d_iD_13 : decode b_iD 13 = .ok (.new 13, 3) := by decide +kernel
theorem d_iD_16 : decode b_iD 16 = .ok (.dup, 1) := by decide +kernel
theorem d_iD_17 : decode b_iD 17 = .ok (.invokespecial 15, 3) := by decide +kernel
theorem d_iD_20 : decode b_iD 20 = .ok (.putfield 16, 3) := by decide +kernel
theorem d_iD_23 : decode b_iD 23 = .ok (.aload_n 0, 1) := by decide +kernel
theorem d_iD_24 : decode b_iD 24 = .ok (.new 20, 3) := by decide +kernel
theorem d_iD_27 : decode b_iD 27 = .ok (.dup, 1) := by decide +kernel
theorem d_iD_28 : decode b_iD 28 = .ok (.invokespecial 22, 3) := by decide +kernel
theorem d_iD_31 : decode b_iD 31 = .ok (.putfield 23, 3) := by decide +kernel
theorem d_iD_34 : decode b_iD 34 = .ok (.aload_n 0, 1) := by decide +kernel
theorem d_iD_35 : decode b_iD 35 = .ok (.new 27, 3) := by decide +kernel
theorem d_iD_38 : decode b_iD 38 = .ok (.dup, 1) := by decide +kernel
theorem d_iD_39 : decode b_iD 39 = .ok (.invokespecial 29, 3) := by decide +kernel
theorem d_iD_42 : decode b_iD 42 = .ok (.putfield 30, 3) := by decide +kernel
theorem d_iD_45 : decode b_iD 45 = .ok (.aload_n 0, 1) := by decide +kernel
theorem d_iD_46 : decode b_iD 46 = .ok (.new 34, 3) := by decide +kernel
theorem d_iD_49 : decode b_iD 49 = .ok (.dup, 1) := by decide +kernel
theorem d_iD_50 : decode b_iD 50 = .ok (.invokespecial 36, 3) := by decide +kernel
theorem d_iD_53 : decode b_iD 53 = .ok (.putfield 37, 3) := by decide +kernel
theorem d_iD_56 : decode b_iD 56 = .ok (.aload_n 0, 1) := by decide +kernel
theorem d_iD_57 : decode b_iD 57 = .ok (.new 41, 3) := by decide +kernel
theorem d_iD_60 : decode b_iD 60 = .ok (.dup, 1) := by decide +kernel
theorem d_iD_61 : decode b_iD 61 = .ok (.invokespecial 43, 3) := by decide +kernel
theorem d_iD_64 : decode b_iD 64 = .ok (.putfield 44, 3) := by decide +kernel
theorem d_iD_67 : decode b_iD 67 = .ok (.aload_n 0, 1) := by decide +kernel
theorem d_iD_68 : decode b_iD 68 = .ok (.new 48, 3) := by decide +kernel
theorem d_iD_71 : decode b_iD 71 = .ok (.dup, 1) := by decide +kernel
theorem d_iD_72 : decode b_iD 72 = .ok (.invokespecial 50, 3) := by decide +kernel
theorem d_iD_75 : decode b_iD 75 = .ok (.putfield 51, 3) := by decide +kernel
theorem d_iD_78 : decode b_iD 78 = .ok (.aload_n 0, 1) := by decide +kernel
theorem d_iD_79 : decode b_iD 79 = .ok (.getfield 9, 3) := by decide +kernel
theorem d_iD_82 : decode b_iD 82 = .ok (.iconst (0), 1) := by decide +kernel
theorem d_iD_83 : decode b_iD 83 = .ok (.invokestatic 55, 3) := by decide +kernel
theorem d_iD_86 : decode b_iD 86 = .ok (.return_, 1) := by decide +kernel
set_option maxRecDepth 100000 in
theorem oi_D : Cond.methodLink R_D 1 Lib.objectInit ∈ x_T := xmem1 25 rfl rfl
set_option maxRecDepth 100000 in
theorem fi_D_9 : Cond.fieldLink R_D 9 R_D (F_D 0).2.1 (F_D 0).2.2.1 ∈ x_T := xmem2 22 rfl rfl
set_option maxRecDepth 100000 in
theorem cl_D_13 : Cond.classLink R_D 13 R_Terms ∈ x_T := xmem1 28 rfl rfl
set_option maxRecDepth 100000 in
theorem it_Terms : Cond.instantiable R_Terms (x_Nf 3) ∈ x_T := xmem1 29 rfl rfl
set_option maxRecDepth 100000 in
theorem ii_Terms : Cond.initialized R_Terms ∈ x_T := xmem1 2 rfl rfl
set_option maxRecDepth 100000 in
theorem im_iTerms : Cond.instanceMethod y_iTerms ∈ x_T := xmem1 31 rfl rfl
set_option maxRecDepth 100000 in
theorem mi_D_15 : Cond.methodLink R_D 15 y_iTerms ∈ x_T := xmem1 30 rfl rfl
set_option maxRecDepth 100000 in
theorem fi_D_16 : Cond.fieldLink R_D 16 R_D (F_D 1).2.1 (F_D 1).2.2.1 ∈ x_T := xmem2 23 rfl rfl
set_option maxRecDepth 100000 in
theorem cl_D_20 : Cond.classLink R_D 20 R_Explorer ∈ x_T := xmem1 133 rfl rfl
set_option maxRecDepth 100000 in
theorem it_Explorer : Cond.instantiable R_Explorer (x_Nf 5) ∈ x_T := xmem1 134 rfl rfl
set_option maxRecDepth 100000 in
theorem ii_Explorer : Cond.initialized R_Explorer ∈ x_T := xmem1 6 rfl rfl
set_option maxRecDepth 100000 in
theorem im_iExplorer : Cond.instanceMethod y_iExplorer ∈ x_T := xmem1 136 rfl rfl
set_option maxRecDepth 100000 in
theorem mi_D_22 : Cond.methodLink R_D 22 y_iExplorer ∈ x_T := xmem1 135 rfl rfl
set_option maxRecDepth 100000 in
theorem fi_D_23 : Cond.fieldLink R_D 23 R_D (F_D 2).2.1 (F_D 2).2.2.1 ∈ x_T := xmem2 24 rfl rfl
set_option maxRecDepth 100000 in
theorem cl_D_27 : Cond.classLink R_D 27 R_WordCheck ∈ x_T := xmem1 164 rfl rfl
set_option maxRecDepth 100000 in
theorem it_WordCheck : Cond.instantiable R_WordCheck (x_Nf 6) ∈ x_T := xmem1 165 rfl rfl
set_option maxRecDepth 100000 in
theorem ii_WordCheck : Cond.initialized R_WordCheck ∈ x_T := xmem1 8 rfl rfl
set_option maxRecDepth 100000 in
theorem im_iWordCheck : Cond.instanceMethod y_iWordCheck ∈ x_T := xmem1 167 rfl rfl
set_option maxRecDepth 100000 in
theorem fi_D_30 : Cond.fieldLink R_D 30 R_D (F_D 3).2.1 (F_D 3).2.2.1 ∈ x_T := xmem2 25 rfl rfl
set_option maxRecDepth 100000 in
theorem cl_D_34 : Cond.classLink R_D 34 R_Splitter ∈ x_T := xmem1 191 rfl rfl
set_option maxRecDepth 100000 in
theorem it_Splitter : Cond.instantiable R_Splitter (x_Nf 7) ∈ x_T := xmem1 192 rfl rfl
set_option maxRecDepth 100000 in
theorem ii_Splitter : Cond.initialized R_Splitter ∈ x_T := xmem1 9 rfl rfl
set_option maxRecDepth 100000 in
theorem im_iSplitter : Cond.instanceMethod y_iSplitter ∈ x_T := xmem1 194 rfl rfl
set_option maxRecDepth 100000 in
theorem fi_D_37 : Cond.fieldLink R_D 37 R_D (F_D 4).2.1 (F_D 4).2.2.1 ∈ x_T := xmem2 26 rfl rfl
set_option maxRecDepth 100000 in
theorem cl_D_41 : Cond.classLink R_D 41 R_Comparison ∈ x_T := xmem1 213 rfl rfl
set_option maxRecDepth 100000 in
theorem it_Comparison : Cond.instantiable R_Comparison (x_Nf 8) ∈ x_T := xmem1 214 rfl rfl
set_option maxRecDepth 100000 in
theorem ii_Comparison : Cond.initialized R_Comparison ∈ x_T := xmem1 10 rfl rfl
set_option maxRecDepth 100000 in
theorem im_iComparison : Cond.instanceMethod y_iComparison ∈ x_T := xmem1 216 rfl rfl
set_option maxRecDepth 100000 in
theorem fi_D_44 : Cond.fieldLink R_D 44 R_D (F_D 5).2.1 (F_D 5).2.2.1 ∈ x_T := xmem2 27 rfl rfl
set_option maxRecDepth 100000 in
theorem cl_D_48 : Cond.classLink R_D 48 R_WordCounts ∈ x_T := xmem2 4 rfl rfl
set_option maxRecDepth 100000 in
theorem it_WordCounts : Cond.instantiable R_WordCounts (x_Nf 9) ∈ x_T := xmem2 5 rfl rfl
set_option maxRecDepth 100000 in
theorem ii_WordCounts : Cond.initialized R_WordCounts ∈ x_T := xmem1 11 rfl rfl
set_option maxRecDepth 100000 in
theorem im_iWordCounts : Cond.instanceMethod y_iWordCounts ∈ x_T := xmem2 7 rfl rfl
set_option maxRecDepth 100000 in
theorem fi_D_51 : Cond.fieldLink R_D 51 R_D (F_D 6).2.1 (F_D 6).2.2.1 ∈ x_T := xmem2 28 rfl rfl
set_option maxRecDepth 100000 in
theorem mi_D_55 : Cond.methodLink R_D 55 y_Arr_fill ∈ x_T := xmem2 21 rfl rfl
def m_iD (n0 o : Nat) (S : LW) : Option (LW × Unit) :=
  ((nwL n0 S [o] (.inl (0, 16, .inl (fun _ => 0))) 16).bind fun S1 =>
  ((ptL S1 o 0 0 (.ref S.1.length)).bind fun S2 =>
  ((nwL n0 S2 [o] (.inr (3, [.null, .null, .null, .null, .null, .null, .null, .null, .null, .null, .null, .null, .null, .null, .null, .null, .int 0, .int 0, .int 0, .int 0])) (x_Nf 3)).bind fun S3 => cal cL S3 (m_iTerms S3.1.length S2.1.length S3) fun c4 =>
  ((ptL c4.1 o 0 1 (.ref S2.1.length)).bind fun S5 =>
  ((nwL n0 S5 [o] (.inr (5, [.null, .null])) (x_Nf 5)).bind fun S6 => cal cL S6 (m_iExplorer S6.1.length S5.1.length S6) fun c7 =>
  ((ptL c7.1 o 0 2 (.ref S5.1.length)).bind fun S8 =>
  ((nwL n0 S8 [o] (.inr (6, [.null, .null, .null, .int 0, .int 0, .int 0])) (x_Nf 6)).bind fun S9 => cal cL S9 (m_iWordCheck S9.1.length S8.1.length S9) fun c10 =>
  ((ptL c10.1 o 0 3 (.ref S8.1.length)).bind fun S11 =>
  ((nwL n0 S11 [o] (.inr (7, [.null, .null, .null, .null, .null])) (x_Nf 7)).bind fun S12 => cal cL S12 (m_iSplitter S12.1.length S11.1.length S12) fun c13 =>
  ((ptL c13.1 o 0 4 (.ref S11.1.length)).bind fun S14 =>
  ((nwL n0 S14 [o] (.inr (8, [.null, .null, .null, .null, .null, .null, .int 0, .int 0])) (x_Nf 8)).bind fun S15 => cal cL S15 (m_iComparison S15.1.length S14.1.length S15) fun c16 =>
  ((ptL c16.1 o 0 5 (.ref S14.1.length)).bind fun S17 =>
  ((nwL n0 S17 [o] (.inr (9, [.null, .null, .null])) (x_Nf 9)).bind fun S18 => cal cL S18 (m_iWordCounts S18.1.length S17.1.length S18) fun c19 =>
  ((ptL c19.1 o 0 6 (.ref S17.1.length)).bind fun S20 =>
  ((gtL S20 o 0 0).bind fun r21 =>
  (cal cL S20 (mL_fill r21 (0:Int32) S20) fun c22 =>
  (some (c22.1, ()))))))))))))))))))
section
variable {p : Program} {l : Launch} {e : Env} {R : Room} {s : State} {m : MethodId} {args : Array Value} {below : List Frame} {meth : Method} {c : Code} {D : va_G} {base n0 : Nat} {g : Nat → ClassId} {az : Nat → Nat} {kz : Nat × Nat}
set_option maxRecDepth 100000 in
set_option maxHeartbeats 4000000 in
theorem t_iD (B : xB p R s m args meth c b_iD 1 R_D (Cond.code y_iD b_iD 1 none :: x_T) none 4 81 D x_cl (xty g) base) (hN : xN s) (hnm : meth.name = "<init>") (o : Nat) (S : LW) : Sn p l e R s m args below meth c 1 D x_cl base (wdL g) cL (grn n0) az kz (xfc cL) (xZ below args s D x_cl (xty g) base (wdL g) cL (grn n0) az kz ovU) 0 [] [(0, .ref o)] S (m_iD n0 o S) := by
  unfold m_iD
  refine s_aload_n B d_iD_0 rfl ?_
  refine s_objI B oi_D d_iD_1 (by decide) (by decide) ?_
  refine s_aload_n B d_iD_4 rfl ?_
  refine s_bipush (v := (16:Int32)) B d_iD_5 (by decide) ?_
  refine s_newI (refs := [o]) B d_iD_7 (by decide) rfl (by decide) (by simp [xin0]) (by simp [xin0]) (fun S1 _ => ?_)
  refine s_putLg (k := 0) (ty := (.array .int)) B xc_D (by decide) rfl fi_D_9 (Or.inr ⟨rfl, hnm, rfl⟩) rfl (fun _ => rfl) (fun _ => rfl) d_iD_9 (fun S2 _ => ?_)
  refine s_aload_n B d_iD_12 rfl ?_
  refine s_newC (refs := [o]) (y := fun S3 => m_iTerms S3.1.length S2.1.length S3) B hN xc_Terms cl_D_13 it_Terms ii_Terms df_Terms rfl d_iD_13 d_iD_16 (lk_I (n := 0) B d_iD_17 (xgood cd_iTerms) (List.mem_cons_of_mem _ im_iTerms) (List.mem_cons_of_mem _ ii_Terms) (List.mem_cons_of_mem _ mi_D_15) rfl rfl hi_Terms (by decide) (by decide)) (by simp [xin0]) (by simp [xin0]) (by simp [Value.category]) (fun S9 r9 e9 => ct_iTerms _ _ S9 r9 e9) (fun c4 => ?_)
  refine s_putLg (k := 1) (ty := (.object "DerivativeDesk$Terms")) B xc_D (by decide) rfl fi_D_16 (Or.inr ⟨rfl, hnm, rfl⟩) rfl (fun _ => rfl) (fun _ => rfl) d_iD_20 (fun S5 _ => ?_)
  refine s_aload_n B d_iD_23 rfl ?_
  refine s_newC (refs := [o]) (y := fun S6 => m_iExplorer S6.1.length S5.1.length S6) B hN xc_Explorer cl_D_20 it_Explorer ii_Explorer df_Explorer rfl d_iD_24 d_iD_27 (lk_I (n := 0) B d_iD_28 (xgood cd_iExplorer) (List.mem_cons_of_mem _ im_iExplorer) (List.mem_cons_of_mem _ ii_Explorer) (List.mem_cons_of_mem _ mi_D_22) rfl rfl hi_Explorer (by decide) (by decide)) (by simp [xin0]) (by simp [xin0]) (by simp [Value.category]) (fun S9 r9 e9 => ct_iExplorer _ _ S9 r9 e9) (fun c7 => ?_)
  refine s_putLg (k := 2) (ty := (.object "DerivativeDesk$Explorer")) B xc_D (by decide) rfl fi_D_23 (Or.inr ⟨rfl, hnm, rfl⟩) rfl (fun _ => rfl) (fun _ => rfl) d_iD_31 (fun S8 _ => ?_)
  refine s_aload_n B d_iD_34 rfl ?_
  refine s_newC (refs := [o]) (y := fun S9 => m_iWordCheck S9.1.length S8.1.length S9) B hN xc_WordCheck cl_D_27 it_WordCheck ii_WordCheck df_WordCheck rfl d_iD_35 d_iD_38 (lk_IN2 (n := 0) B d_iD_39 (xgood cd_iWordCheck) (List.mem_cons_of_mem _ im_iWordCheck) (List.mem_cons_of_mem _ ii_WordCheck) (hN.1 _ (List.mem_of_getElem? (i := 4) rfl)) rfl rfl hi_WordCheck (by decide) (by decide)) (by simp [xin0]) (by simp [xin0]) (by simp [Value.category]) (fun S9 r9 e9 => ct_iWordCheck _ _ S9 r9 e9) (fun c10 => ?_)
  refine s_putLg (k := 3) (ty := (.object "DerivativeDesk$WordCheck")) B xc_D (by decide) rfl fi_D_30 (Or.inr ⟨rfl, hnm, rfl⟩) rfl (fun _ => rfl) (fun _ => rfl) d_iD_42 (fun S11 _ => ?_)
  refine s_aload_n B d_iD_45 rfl ?_
  refine s_newC (refs := [o]) (y := fun S12 => m_iSplitter S12.1.length S11.1.length S12) B hN xc_Splitter cl_D_34 it_Splitter ii_Splitter df_Splitter rfl d_iD_46 d_iD_49 (lk_IN2 (n := 0) B d_iD_50 (xgood cd_iSplitter) (List.mem_cons_of_mem _ im_iSplitter) (List.mem_cons_of_mem _ ii_Splitter) (hN.1 _ (List.mem_of_getElem? (i := 6) rfl)) rfl rfl hi_Splitter (by decide) (by decide)) (by simp [xin0]) (by simp [xin0]) (by simp [Value.category]) (fun S9 r9 e9 => ct_iSplitter _ _ S9 r9 e9) (fun c13 => ?_)
  refine s_putLg (k := 4) (ty := (.object "DerivativeDesk$Splitter")) B xc_D (by decide) rfl fi_D_37 (Or.inr ⟨rfl, hnm, rfl⟩) rfl (fun _ => rfl) (fun _ => rfl) d_iD_53 (fun S14 _ => ?_)
  refine s_aload_n B d_iD_56 rfl ?_
  refine s_newC (refs := [o]) (y := fun S15 => m_iComparison S15.1.length S14.1.length S15) B hN xc_Comparison cl_D_41 it_Comparison ii_Comparison df_Comparison rfl d_iD_57 d_iD_60 (lk_IN2 (n := 0) B d_iD_61 (xgood cd_iComparison) (List.mem_cons_of_mem _ im_iComparison) (List.mem_cons_of_mem _ ii_Comparison) (hN.1 _ (List.mem_of_getElem? (i := 7) rfl)) rfl rfl hi_Comparison (by decide) (by decide)) (by simp [xin0]) (by simp [xin0]) (by simp [Value.category]) (fun S9 r9 e9 => ct_iComparison _ _ S9 r9 e9) (fun c16 => ?_)
  refine s_putLg (k := 5) (ty := (.object "DerivativeDesk$Comparison")) B xc_D (by decide) rfl fi_D_44 (Or.inr ⟨rfl, hnm, rfl⟩) rfl (fun _ => rfl) (fun _ => rfl) d_iD_64 (fun S17 _ => ?_)
  refine s_aload_n B d_iD_67 rfl ?_
  refine s_newC (refs := [o]) (y := fun S18 => m_iWordCounts S18.1.length S17.1.length S18) B hN xc_WordCounts cl_D_48 it_WordCounts ii_WordCounts df_WordCounts rfl d_iD_68 d_iD_71 (lk_IN2 (n := 0) B d_iD_72 (xgood cd_iWordCounts) (List.mem_cons_of_mem _ im_iWordCounts) (List.mem_cons_of_mem _ ii_WordCounts) (hN.1 _ (List.mem_of_getElem? (i := 8) rfl)) rfl rfl hi_WordCounts (by decide) (by decide)) (by simp [xin0]) (by simp [xin0]) (by simp [Value.category]) (fun S9 r9 e9 => ct_iWordCounts _ _ S9 r9 e9) (fun c19 => ?_)
  refine s_putLg (k := 6) (ty := (.object "DerivativeDesk$WordCounts")) B xc_D (by decide) rfl fi_D_51 (Or.inr ⟨rfl, hnm, rfl⟩) rfl (fun _ => rfl) (fun _ => rfl) d_iD_75 (fun S20 _ => ?_)
  refine s_aload_n B d_iD_78 rfl ?_
  refine s_getLr (k := 0) B xc_D (by decide) rfl fi_D_9 d_iD_79 (fun r21 _ => ?_)
  refine s_iconst (v := (0:Int32)) B d_iD_82 (by decide) ?_
  refine s_callU (gr1 := grn 500) (av := [.ref r21, .int (0:Int32)]) (rest := []) B (lk_S B d_iD_83 (xgood cd_Arr_fill) (List.mem_cons_of_mem _ st_Arr_fill) (List.mem_cons_of_mem _ in_Arr) (List.mem_cons_of_mem _ mi_D_55) rfl hs_Arr_fill (by decide) (by decide)) rfl (fun _ _ _ => trivial) (fun q _ => grn5 q) rfl (List.all_eq_true.mpr (fun v _ => xng5 v.2)) (by simp) rfl (fun r9 e9 => ctL_fill _ _ _ r9 e9) (fun c22 _ => ?_)
  exact s_vret B d_iD_86
theorem ct_iD {l : Launch} {D : va_G} {base : Nat} {g : Nat → ClassId} (n0 o : Nat) (S : LW) (r : LW × Unit) (hr : m_iD n0 o S = some r) : CtN l y_iD (Cond.code y_iD b_iD 1 none :: x_T) 4 81 D g base (grn n0) [.ref o] S r.1 :=
  x_metN (by decide) (Nat.le_of_ble_eq_true rfl) (fun p e R s m args below meth c az B hN hnm => t_iD B hN hnm o S) r hr
end
abbrev b_iMo : ByteArray := prog_12_method_1_code
abbrev y_iMo : MethodName := ⟨R_Mo, "<init>", "()V"⟩
set_option maxRecDepth 100000 in
theorem cd_iMo : Cond.code y_iMo b_iMo 2 none ∈ x_T := xmem4 131 rfl rfl
theorem hi_Mo : y_iMo.cls ≠ "java/lang/invoke/MethodHandle" ∧ y_iMo.cls ≠ "java/lang/invoke/VarHandle" ∧ (parseMethodDescriptor y_iMo.desc).map (fun d => d.parameters.length) = some 0 := by decide +kernel
theorem df_Mo : ∀ j, j < x_Nf 10 → defaultValue (ty_Mo j) = vp_V [.int 0, .null, .null, .null, .null, .null, .null, .null, .null, .int 0, .int 0, .null, .null, .int 0, .null, .null, .null, .null, .null, .null, .null, .null, .null, .null, .null, .null, .null, .int 0, .null, .null] j := by decide +kernel
theorem d_iMo_0 : decode b_iMo 0 = .ok (.aload_n 0, 1) := by decide +kernel
theorem d_iMo_1 : decode b_iMo 1 = .ok (.invokespecial 1, 3) := by decide +kernel
theorem d_iMo_4 : decode b_iMo 4 = .ok (.aload_n 0, 1) := by decide +kernel
theorem d_iMo_5 : decode b_iMo 5 = .ok (.sipush (1600), 3) := by decide +kernel
theorem d_iMo_8 : decode b_iMo 8 = .ok (.newarray .int, 2) := by decide +kernel
theorem d_iMo_10 : decode b_iMo 10 = .ok (.putfield 7, 3) := by decide +kernel
theorem d_iMo_13 : decode b_iMo 13 = .ok (.aload_n 0, 1) := by decide +kernel
theorem d_iMo_14 : decode b_iMo 14 = .ok (.bipush (16), 2) := by decide +kernel
theorem d_iMo_16 : decode b_iMo 16 = .ok (.newarray .int, 2) := by decide +kernel
theorem d_iMo_18 : decode b_iMo 18 = .ok (.putfield 13, 3) := by decide +kernel
theorem d_iMo_21 : decode b_iMo 21 = .ok (.aload_n 0, 1) := by decide +kernel
theorem d_iMo_22 : decode b_iMo 22 = .ok (.ldc 16, 2) := by decide +kernel
theorem d_iMo_24 : decode b_iMo 24 = .ok (.newarray .int, 2) := by decide +kernel
theorem d_iMo_26 : decode b_iMo 26 = .ok (.putfield 17, 3) := by decide +kernel
theorem d_iMo_29 : decode b_iMo 29 = .ok (.aload_n 0, 1) := by decide +kernel
theorem d_iMo_30 : decode b_iMo 30 = .ok (.ldc 16, 2) := by decide +kernel
theorem d_iMo_32 : decode b_iMo 32 = .ok (.newarray .int, 2) := by decide +kernel
theorem d_iMo_34 : decode b_iMo 34 = .ok (.putfield 20, 3) := by decide +kernel
theorem d_iMo_37 : decode b_iMo 37 = .ok (.aload_n 0, 1) := by decide +kernel
theorem d_iMo_38 : decode b_iMo 38 = .ok (.sipush (400), 3) := by decide +kernel
theorem d_iMo_41 : decode b_iMo 41 = .ok (.newarray .int, 2) := by decide +kernel
theorem d_iMo_43 : decode b_iMo 43 = .ok (.putfield 23, 3) := by decide +kernel
theorem d_iMo_46 : decode b_iMo 46 = .ok (.aload_n 0, 1) := by decide +kernel
theorem d_iMo_47 : decode b_iMo 47 = .ok (.sipush (400), 3) := by decide +kernel
theorem d_iMo_50 : decode b_iMo 50 = .ok (.newarray .int, 2) := by decide +kernel
theorem d_iMo_52 : decode b_iMo 52 = .ok (.putfield 26, 3) := by decide +kernel
theorem d_iMo_55 : decode b_iMo 55 = .ok (.aload_n 0, 1) := by decide +kernel
theorem d_iMo_56 : decode b_iMo 56 = .ok (.sipush (400), 3) := by decide +kernel
theorem d_iMo_59 : decode b_iMo 59 = .ok (.newarray .int, 2) := by decide +kernel
theorem d_iMo_61 : decode b_iMo 61 = .ok (.putfield 29, 3) := by decide +kernel
theorem d_iMo_64 : decode b_iMo 64 = .ok (.aload_n 0, 1) := by decide +kernel
theorem d_iMo_65 : decode b_iMo 65 = .ok (.sipush (400), 3) := by decide +kernel
theorem d_iMo_68 : decode b_iMo 68 = .ok (.newarray .boolean, 2) := by decide +kernel
theorem d_iMo_70 : decode b_iMo 70 = .ok (.putfield 32, 3) := by decide +kernel
theorem d_iMo_73 : decode b_iMo 73 = .ok (.aload_n 0, 1) := by decide +kernel
theorem d_iMo_74 : decode b_iMo 74 = .ok (.sipush (4000), 3) := by decide +kernel
theorem d_iMo_77 : decode b_iMo 77 = .ok (.newarray .int, 2) := by decide +kernel
theorem d_iMo_79 : decode b_iMo 79 = .ok (.putfield 36, 3) := by decide +kernel
theorem d_iMo_82 : decode b_iMo 82 = .ok (.aload_n 0, 1) := by decide +kernel
theorem d_iMo_83 : decode b_iMo 83 = .ok (.sipush (4000), 3) := by decide +kernel
theorem d_iMo_86 : decode b_iMo 86 = .ok (.newarray .int, 2) := by decide +kernel
theorem d_iMo_88 : decode b_iMo 88 = .ok (.putfield 39, 3) := by decide +kernel
theorem d_iMo_91 : decode b_iMo 91 = .ok (.aload_n 0, 1) := by decide +kernel
theorem d_iMo_92 : decode b_iMo 92 = .ok (.ldc 42, 2) := by decide +kernel
theorem d_iMo_94 : decode b_iMo 94 = .ok (.newarray .int, 2) := by decide +kernel
theorem d_iMo_96 : decode b_iMo 96 = .ok (.putfield 43, 3) := by decide +kernel
theorem d_iMo_99 : decode b_iMo 99 = .ok (.aload_n 0, 1) := by decide +kernel
theorem d_iMo_100 : decode b_iMo 100 = .ok (.sipush (150), 3) := by decide +kernel
theorem d_iMo_103 : decode b_iMo 103 = .ok (.newarray .int, 2) := by decide +kernel
theorem d_iMo_105 : decode b_iMo 105 = .ok (.putfield 46, 3) := by decide +kernel
theorem d_iMo_108 : decode b_iMo 108 = .ok (.aload_n 0, 1) := by decide +kernel
theorem d_iMo_109 : decode b_iMo 109 = .ok (.sipush (600), 3) := by decide +kernel
theorem d_iMo_112 : decode b_iMo 112 = .ok (.newarray .int, 2) := by decide +kernel
theorem d_iMo_114 : decode b_iMo 114 = .ok (.putfield 49, 3) := by decide +kernel
theorem d_iMo_117 : decode b_iMo 117 = .ok (.aload_n 0, 1) := by decide +kernel
theorem d_iMo_118 : decode b_iMo 118 = .ok (.sipush (600), 3) := by decide +kernel
theorem d_iMo_121 : decode b_iMo 121 = .ok (.newarray .int, 2) := by decide +kernel
theorem d_iMo_123 : decode b_iMo 123 = .ok (.putfield 52, 3) := by decide +kernel
theorem d_iMo_126 : decode b_iMo 126 = .ok (.aload_n 0, 1) := by decide +kernel
theorem d_iMo_127 : decode b_iMo 127 = .ok (.sipush (150), 3) := by decide +kernel
theorem d_iMo_130 : decode b_iMo 130 = .ok (.newarray .int, 2) := by decide +kernel
theorem d_iMo_132 : decode b_iMo 132 = .ok (.putfield 55, 3) := by decide +kernel
theorem d_iMo_135 : decode b_iMo 135 = .ok (.aload_n 0, 1) := by decide +kernel
theorem d_iMo_136 : decode b_iMo 136 = .ok (.sipush (150), 3) := by decide +kernel
theorem d_iMo_139 : decode b_iMo 139 = .ok (.newarray .int, 2) := by decide +kernel
theorem d_iMo_141 : decode b_iMo 141 = .ok (.putfield 58, 3) := by decide +kernel
theorem d_iMo_144 : decode b_iMo 144 = .ok (.aload_n 0, 1) := by decide +kernel
theorem d_iMo_145 : decode b_iMo 145 = .ok (.sipush (150), 3) := by decide +kernel
theorem d_iMo_148 : decode b_iMo 148 = .ok (.newarray .boolean, 2) := by decide +kernel
theorem d_iMo_150 : decode b_iMo 150 = .ok (.putfield 61, 3) := by decide +kernel
theorem d_iMo_153 : decode b_iMo 153 = .ok (.aload_n 0, 1) := by decide +kernel
theorem d_iMo_154 : decode b_iMo 154 = .ok (.sipush (150), 3) := by decide +kernel
theorem d_iMo_157 : decode b_iMo 157 = .ok (.newarray .boolean, 2) := by decide +kernel
theorem d_iMo_159 : decode b_iMo 159 = .ok (.putfield 64, 3) := by decide +kernel
theorem d_iMo_162 : decode b_iMo 162 = .ok (.aload_n 0, 1) := by decide +kernel
theorem d_iMo_163 : decode b_iMo 163 = .ok (.sipush (2700), 3) := by decide +kernel
theorem d_iMo_166 : decode b_iMo 166 = .ok (.newarray .long, 2) := by decide +kernel
theorem d_iMo_168 : decode b_iMo 168 = .ok (.putfield 67, 3) := by decide +kernel
theorem d_iMo_171 : decode b_iMo 171 = .ok (.aload_n 0, 1) := by decide +kernel
theorem d_iMo_172 : decode b_iMo 172 = .ok (.sipush (22500), 3) := by decide +kernel
theorem d_iMo_175 : decode b_iMo 175 = .ok (.newarray .int, 2) := by decide +kernel
theorem d_iMo_177 : decode b_iMo 177 = .ok (.putfield 71, 3) := by decide +kernel
theorem d_iMo_180 : decode b_iMo 180 = .ok (.aload_n 0, 1) := by decide +kernel
theorem d_iMo_181 : decode b_iMo 181 = .ok (.sipush (22500), 3) := by decide +kernel
theorem d_iMo_184 : decode b_iMo 184 = .ok (.newarray .int, 2) := by decide +kernel
theorem d_iMo_186 : decode b_iMo 186 = .ok (.putfield 74, 3) := by decide +kernel
theorem d_iMo_189 : decode b_iMo 189 = .ok (.aload_n 0, 1) := by decide +kernel
theorem d_iMo_190 : decode b_iMo 190 = .ok (.sipush (22600), 3) := by decide +kernel
theorem d_iMo_193 : decode b_iMo 193 = .ok (.newarray .int, 2) := by decide +kernel
theorem d_iMo_195 : decode b_iMo 195 = .ok (.putfield 77, 3) := by decide +kernel
theorem d_iMo_198 : decode b_iMo 198 = .ok (.aload_n 0, 1) := by decide +kernel
theorem d_iMo_199 : decode b_iMo 199 = .ok (.sipush (22500), 3) := by decide +kernel
theorem d_iMo_202 : decode b_iMo 202 = .ok (.newarray .boolean, 2) := by decide +kernel
theorem d_iMo_204 : decode b_iMo 204 = .ok (.putfield 80, 3) := by decide +kernel
theorem d_iMo_207 : decode b_iMo 207 = .ok (.aload_n 0, 1) := by decide +kernel
theorem d_iMo_208 : decode b_iMo 208 = .ok (.iconst (-1), 1) := by decide +kernel
theorem d_iMo_209 : decode b_iMo 209 = .ok (.putfield 83, 3) := by decide +kernel
theorem d_iMo_212 : decode b_iMo 212 = .ok (.aload_n 0, 1) := by decide +kernel
theorem d_iMo_213 : decode b_iMo 213 = .ok (.sipush (1700), 3) := by decide +kernel
theorem d_iMo_216 : decode b_iMo 216 = .ok (.newarray .int, 2) := by decide +kernel
theorem d_iMo_218 : decode b_iMo 218 = .ok (.putfield 87, 3) := by decide +kernel
theorem d_iMo_221 : decode b_iMo 221 = .ok (.aload_n 0, 1) := by decide +kernel
theorem d_iMo_222 : decode b_iMo 222 = .ok (.bipush (100), 2) := by decide +kernel
theorem d_iMo_224 : decode b_iMo 224 = .ok (.newarray .int, 2) := by decide +kernel
theorem d_iMo_226 : decode b_iMo 226 = .ok (.putfield 90, 3) := by decide +kernel
theorem d_iMo_229 : decode b_iMo 229 = .ok (.iconst (0), 1) := by decide +kernel
theorem d_iMo_230 : decode b_iMo 230 = .ok (.istore_n 1, 1) := by decide +kernel
theorem d_iMo_231 : decode b_iMo 231 = .ok (.iload_n 1, 1) := by decide +kernel
theorem d_iMo_232 : decode b_iMo 232 = .ok (.bipush (16), 2) := by decide +kernel
theorem d_iMo_234 : decode b_iMo 234 = .ok (.if_icmp .ge (16), 3) := by decide +kernel
theorem d_iMo_237 : decode b_iMo 237 = .ok (.aload_n 0, 1) := by decide +kernel
theorem d_iMo_238 : decode b_iMo 238 = .ok (.getfield 13, 3) := by decide +kernel
theorem d_iMo_241 : decode b_iMo 241 = .ok (.iload_n 1, 1) := by decide +kernel
theorem d_iMo_242 : decode b_iMo 242 = .ok (.iconst (1), 1) := by decide +kernel
theorem d_iMo_243 : decode b_iMo 243 = .ok (.iastore, 1) := by decide +kernel
theorem d_iMo_244 : decode b_iMo 244 = .ok (.iinc 1 (1), 3) := by decide +kernel
theorem d_iMo_247 : decode b_iMo 247 = .ok (.goto (-16), 3) := by decide +kernel
theorem d_iMo_250 : decode b_iMo 250 = .ok (.return_, 1) := by decide +kernel
set_option maxRecDepth 100000 in
theorem fi_Mo_13 : Cond.fieldLink R_Mo 13 R_Mo (F_Mo 2).2.1 (F_Mo 2).2.2.1 ∈ x_T := xmem4 137 rfl rfl
def m_iMo_231b (n0 : Nat) (k : Nat × Int32 × LW → Option (LW × Unit)) (o : Nat) (i : Int32) (S : LW) : Option (LW × Unit) :=
  (if (16:Int32) ≤ i then (some (S, ())) else ((gtL S o 10 2).bind fun r1 =>
  ((stL S r1 i (1:Int32)).bind fun S2 =>
  (k (o, (i + (1:Int32)), S2)))))
def m_iMo_231 (n0 : Nat) (q : Nat × Int32 × LW) : Option (LW × Unit) := fx (fun (k : Nat × Int32 × LW → Option (LW × Unit)) (q : Nat × Int32 × LW) => m_iMo_231b n0 k q.1 q.2.1 q.2.2) FU q
set_option maxRecDepth 100000 in
theorem oi_Mo : Cond.methodLink R_Mo 1 Lib.objectInit ∈ x_T := xmem4 132 rfl rfl
set_option maxRecDepth 100000 in
theorem fi_Mo_7 : Cond.fieldLink R_Mo 7 R_Mo (F_Mo 1).2.1 (F_Mo 1).2.2.1 ∈ x_T := xmem4 136 rfl rfl
set_option maxRecDepth 100000 in
theorem ck_Mo_16 : Jvm.Cond.constant R_Mo 16 (130000 : Int32) ∈ x_T := xmem4 133 rfl rfl
set_option maxRecDepth 100000 in
theorem fi_Mo_17 : Cond.fieldLink R_Mo 17 R_Mo (F_Mo 3).2.1 (F_Mo 3).2.2.1 ∈ x_T := xmem4 138 rfl rfl
set_option maxRecDepth 100000 in
theorem fi_Mo_20 : Cond.fieldLink R_Mo 20 R_Mo (F_Mo 4).2.1 (F_Mo 4).2.2.1 ∈ x_T := xmem4 139 rfl rfl
set_option maxRecDepth 100000 in
theorem fi_Mo_23 : Cond.fieldLink R_Mo 23 R_Mo (F_Mo 5).2.1 (F_Mo 5).2.2.1 ∈ x_T := xmem4 140 rfl rfl
set_option maxRecDepth 100000 in
theorem fi_Mo_26 : Cond.fieldLink R_Mo 26 R_Mo (F_Mo 6).2.1 (F_Mo 6).2.2.1 ∈ x_T := xmem4 141 rfl rfl
set_option maxRecDepth 100000 in
theorem fi_Mo_29 : Cond.fieldLink R_Mo 29 R_Mo (F_Mo 7).2.1 (F_Mo 7).2.2.1 ∈ x_T := xmem4 142 rfl rfl
set_option maxRecDepth 100000 in
theorem fi_Mo_32 : Cond.fieldLink R_Mo 32 R_Mo (F_Mo 8).2.1 (F_Mo 8).2.2.1 ∈ x_T := xmem4 143 rfl rfl
set_option maxRecDepth 100000 in
theorem fi_Mo_36 : Cond.fieldLink R_Mo 36 R_Mo (F_Mo 11).2.1 (F_Mo 11).2.2.1 ∈ x_T := xmem4 146 rfl rfl
set_option maxRecDepth 100000 in
theorem fi_Mo_39 : Cond.fieldLink R_Mo 39 R_Mo (F_Mo 12).2.1 (F_Mo 12).2.2.1 ∈ x_T := xmem4 147 rfl rfl
set_option maxRecDepth 100000 in
theorem ck_Mo_42 : Jvm.Cond.constant R_Mo 42 (45000 : Int32) ∈ x_T := xmem4 134 rfl rfl
set_option maxRecDepth 100000 in
theorem fi_Mo_43 : Cond.fieldLink R_Mo 43 R_Mo (F_Mo 14).2.1 (F_Mo 14).2.2.1 ∈ x_T := xmem4 149 rfl rfl
set_option maxRecDepth 100000 in
theorem fi_Mo_46 : Cond.fieldLink R_Mo 46 R_Mo (F_Mo 15).2.1 (F_Mo 15).2.2.1 ∈ x_T := xmem4 150 rfl rfl
set_option maxRecDepth 100000 in
theorem fi_Mo_49 : Cond.fieldLink R_Mo 49 R_Mo (F_Mo 16).2.1 (F_Mo 16).2.2.1 ∈ x_T := xmem4 151 rfl rfl
set_option maxRecDepth 100000 in
theorem fi_Mo_52 : Cond.fieldLink R_Mo 52 R_Mo (F_Mo 17).2.1 (F_Mo 17).2.2.1 ∈ x_T := xmem4 152 rfl rfl
set_option maxRecDepth 100000 in
theorem fi_Mo_55 : Cond.fieldLink R_Mo 55 R_Mo (F_Mo 18).2.1 (F_Mo 18).2.2.1 ∈ x_T := xmem4 153 rfl rfl
set_option maxRecDepth 100000 in
theorem fi_Mo_58 : Cond.fieldLink R_Mo 58 R_Mo (F_Mo 19).2.1 (F_Mo 19).2.2.1 ∈ x_T := xmem4 154 rfl rfl
set_option maxRecDepth 100000 in
theorem fi_Mo_61 : Cond.fieldLink R_Mo 61 R_Mo (F_Mo 20).2.1 (F_Mo 20).2.2.1 ∈ x_T := xmem4 155 rfl rfl
set_option maxRecDepth 100000 in
theorem fi_Mo_64 : Cond.fieldLink R_Mo 64 R_Mo (F_Mo 21).2.1 (F_Mo 21).2.2.1 ∈ x_T := xmem4 156 rfl rfl
set_option maxRecDepth 100000 in
theorem fi_Mo_67 : Cond.fieldLink R_Mo 67 R_Mo (F_Mo 22).2.1 (F_Mo 22).2.2.1 ∈ x_T := xmem4 157 rfl rfl
set_option maxRecDepth 100000 in
theorem fi_Mo_71 : Cond.fieldLink R_Mo 71 R_Mo (F_Mo 23).2.1 (F_Mo 23).2.2.1 ∈ x_T := xmem4 158 rfl rfl
set_option maxRecDepth 100000 in
theorem fi_Mo_74 : Cond.fieldLink R_Mo 74 R_Mo (F_Mo 24).2.1 (F_Mo 24).2.2.1 ∈ x_T := xmem4 159 rfl rfl
set_option maxRecDepth 100000 in
theorem fi_Mo_77 : Cond.fieldLink R_Mo 77 R_Mo (F_Mo 25).2.1 (F_Mo 25).2.2.1 ∈ x_T := xmem4 160 rfl rfl
set_option maxRecDepth 100000 in
theorem fi_Mo_80 : Cond.fieldLink R_Mo 80 R_Mo (F_Mo 26).2.1 (F_Mo 26).2.2.1 ∈ x_T := xmem4 161 rfl rfl
set_option maxRecDepth 100000 in
theorem fi_Mo_83 : Cond.fieldLink R_Mo 83 R_Mo (F_Mo 27).2.1 (F_Mo 27).2.2.1 ∈ x_T := xmem4 162 rfl rfl
set_option maxRecDepth 100000 in
theorem fi_Mo_87 : Cond.fieldLink R_Mo 87 R_Mo (F_Mo 28).2.1 (F_Mo 28).2.2.1 ∈ x_T := xmem4 163 rfl rfl
set_option maxRecDepth 100000 in
theorem fi_Mo_90 : Cond.fieldLink R_Mo 90 R_Mo (F_Mo 29).2.1 (F_Mo 29).2.2.1 ∈ x_T := xmem4 164 rfl rfl
def m_iMo (n0 o : Nat) (S : LW) : Option (LW × Unit) :=
  ((nwL n0 S [o] (.inl (0, 1600, .inl (fun _ => 0))) 1600).bind fun S1 =>
  ((ptL S1 o 10 1 (.ref S.1.length)).bind fun S2 =>
  ((nwL n0 S2 [o] (.inl (0, 16, .inl (fun _ => 0))) 16).bind fun S3 =>
  ((ptL S3 o 10 2 (.ref S2.1.length)).bind fun S4 =>
  ((nwL n0 S4 [o] (.inl (0, 130000, .inl (fun _ => 0))) 130000).bind fun S5 =>
  ((ptL S5 o 10 3 (.ref S4.1.length)).bind fun S6 =>
  ((nwL n0 S6 [o] (.inl (0, 130000, .inl (fun _ => 0))) 130000).bind fun S7 =>
  ((ptL S7 o 10 4 (.ref S6.1.length)).bind fun S8 =>
  ((nwL n0 S8 [o] (.inl (0, 400, .inl (fun _ => 0))) 400).bind fun S9 =>
  ((ptL S9 o 10 5 (.ref S8.1.length)).bind fun S10 =>
  ((nwL n0 S10 [o] (.inl (0, 400, .inl (fun _ => 0))) 400).bind fun S11 =>
  ((ptL S11 o 10 6 (.ref S10.1.length)).bind fun S12 =>
  ((nwL n0 S12 [o] (.inl (0, 400, .inl (fun _ => 0))) 400).bind fun S13 =>
  ((ptL S13 o 10 7 (.ref S12.1.length)).bind fun S14 =>
  ((nwL n0 S14 [o] (.inl (1, 400, .inl (fun _ => 0))) 400).bind fun S15 =>
  ((ptL S15 o 10 8 (.ref S14.1.length)).bind fun S16 =>
  ((nwL n0 S16 [o] (.inl (0, 4000, .inl (fun _ => 0))) 4000).bind fun S17 =>
  ((ptL S17 o 10 11 (.ref S16.1.length)).bind fun S18 =>
  ((nwL n0 S18 [o] (.inl (0, 4000, .inl (fun _ => 0))) 4000).bind fun S19 =>
  ((ptL S19 o 10 12 (.ref S18.1.length)).bind fun S20 =>
  ((nwL n0 S20 [o] (.inl (0, 45000, .inl (fun _ => 0))) 45000).bind fun S21 =>
  ((ptL S21 o 10 14 (.ref S20.1.length)).bind fun S22 =>
  ((nwL n0 S22 [o] (.inl (0, 150, .inl (fun _ => 0))) 150).bind fun S23 =>
  ((ptL S23 o 10 15 (.ref S22.1.length)).bind fun S24 =>
  ((nwL n0 S24 [o] (.inl (0, 600, .inl (fun _ => 0))) 600).bind fun S25 =>
  ((ptL S25 o 10 16 (.ref S24.1.length)).bind fun S26 =>
  ((nwL n0 S26 [o] (.inl (0, 600, .inl (fun _ => 0))) 600).bind fun S27 =>
  ((ptL S27 o 10 17 (.ref S26.1.length)).bind fun S28 =>
  ((nwL n0 S28 [o] (.inl (0, 150, .inl (fun _ => 0))) 150).bind fun S29 =>
  ((ptL S29 o 10 18 (.ref S28.1.length)).bind fun S30 =>
  ((nwL n0 S30 [o] (.inl (0, 150, .inl (fun _ => 0))) 150).bind fun S31 =>
  ((ptL S31 o 10 19 (.ref S30.1.length)).bind fun S32 =>
  ((nwL n0 S32 [o] (.inl (1, 150, .inl (fun _ => 0))) 150).bind fun S33 =>
  ((ptL S33 o 10 20 (.ref S32.1.length)).bind fun S34 =>
  ((nwL n0 S34 [o] (.inl (1, 150, .inl (fun _ => 0))) 150).bind fun S35 =>
  ((ptL S35 o 10 21 (.ref S34.1.length)).bind fun S36 =>
  ((nwL n0 S36 [o] (.inl (2, 2700, .inr (.inl (fun _ => 0)))) 2700).bind fun S37 =>
  ((ptL S37 o 10 22 (.ref S36.1.length)).bind fun S38 =>
  ((nwL n0 S38 [o] (.inl (0, 22500, .inl (fun _ => 0))) 22500).bind fun S39 =>
  ((ptL S39 o 10 23 (.ref S38.1.length)).bind fun S40 =>
  ((nwL n0 S40 [o] (.inl (0, 22500, .inl (fun _ => 0))) 22500).bind fun S41 =>
  ((ptL S41 o 10 24 (.ref S40.1.length)).bind fun S42 =>
  ((nwL n0 S42 [o] (.inl (0, 22600, .inl (fun _ => 0))) 22600).bind fun S43 =>
  ((ptL S43 o 10 25 (.ref S42.1.length)).bind fun S44 =>
  ((nwL n0 S44 [o] (.inl (1, 22500, .inl (fun _ => 0))) 22500).bind fun S45 =>
  ((ptL S45 o 10 26 (.ref S44.1.length)).bind fun S46 =>
  ((ptL S46 o 10 27 (.int (-1:Int32))).bind fun S47 =>
  ((nwL n0 S47 [o] (.inl (0, 1700, .inl (fun _ => 0))) 1700).bind fun S48 =>
  ((ptL S48 o 10 28 (.ref S47.1.length)).bind fun S49 =>
  ((nwL n0 S49 [o] (.inl (0, 100, .inl (fun _ => 0))) 100).bind fun S50 =>
  ((ptL S50 o 10 29 (.ref S49.1.length)).bind fun S51 =>
  (m_iMo_231 n0 (o, (0:Int32), S51)))))))))))))))))))))))))))))))))))))))))))))))))))))
section
variable {p : Program} {l : Launch} {e : Env} {R : Room} {s : State} {m : MethodId} {args : Array Value} {below : List Frame} {meth : Method} {c : Code} {D : va_G} {base n0 : Nat} {g : Nat → ClassId} {az : Nat → Nat} {kz : Nat × Nat}
set_option maxRecDepth 100000 in
set_option maxHeartbeats 4000000 in
theorem t_iMo_231b {k : Nat × Int32 × LW → Option (LW × Unit)} (B : xB p R s m args meth c b_iMo 2 R_Mo (Cond.code y_iMo b_iMo 2 none :: x_T) none 1 20 D x_cl (xty g) base) (hN : xN s) (hnm : meth.name = "<init>") (hk : ∀ (o : Nat) (i : Int32) (S : LW), Sn p l e R s m args below meth c 2 D x_cl base (wdL g) cL (grn n0) az kz (xfc cL) (xZ below args s D x_cl (xty g) base (wdL g) cL (grn n0) az kz ovU) 231 [] [(0, .ref o), (1, .int i)] S (k (o, i, S))) (o : Nat) (i : Int32) (S : LW) : Sn p l e R s m args below meth c 2 D x_cl base (wdL g) cL (grn n0) az kz (xfc cL) (xZ below args s D x_cl (xty g) base (wdL g) cL (grn n0) az kz ovU) 231 [] [(0, .ref o), (1, .int i)] S (m_iMo_231b n0 k o i S) := by
  unfold m_iMo_231b
  refine s_iload_n B d_iMo_231 rfl ?_
  refine s_bipush (v := (16:Int32)) B d_iMo_232 (by decide) ?_
  refine s_icmp_ge B d_iMo_234 rfl (fun _ => ?_) (fun _ => ?_)
  · exact s_vret B d_iMo_250
  · refine s_aload_n B d_iMo_237 rfl ?_
    refine s_getLr (k := 2) B xc_Mo (by decide) rfl fi_Mo_13 d_iMo_238 (fun r1 _ => ?_)
    refine s_iload_n B d_iMo_241 rfl ?_
    refine s_iconst (v := (1:Int32)) B d_iMo_242 (by decide) ?_
    refine s_iastL B d_iMo_243 (fun S2 _ => ?_)
    refine s_iinc (w := (1:Int32)) B d_iMo_244 rfl (by decide) (by decide) ?_
    refine s_goto B d_iMo_247 rfl ?_
    refine s_pick (lv1 := [(0, .ref o), (1, .int (i + (1:Int32)))]) [0, 1] rfl ?_
    exact hk (o) ((i + (1:Int32))) S2
theorem t_iMo_231 (B : xB p R s m args meth c b_iMo 2 R_Mo (Cond.code y_iMo b_iMo 2 none :: x_T) none 1 20 D x_cl (xty g) base) (hN : xN s) (hnm : meth.name = "<init>") (o : Nat) (i : Int32) (S : LW) : Sn p l e R s m args below meth c 2 D x_cl base (wdL g) cL (grn n0) az kz (xfc cL) (xZ below args s D x_cl (xty g) base (wdL g) cL (grn n0) az kz ovU) 231 [] [(0, .ref o), (1, .int i)] S (m_iMo_231 n0 (o, i, S)) := by
  have q : ∀ (F : Nat) (q : Nat × Int32 × LW), Sn p l e R s m args below meth c 2 D x_cl base (wdL g) cL (grn n0) az kz (xfc cL) (xZ below args s D x_cl (xty g) base (wdL g) cL (grn n0) az kz ovU) 231 [] [(0, .ref q.1), (1, .int q.2.1)] q.2.2 (fx (fun (k : Nat × Int32 × LW → Option (LW × Unit)) (q : Nat × Int32 × LW) => m_iMo_231b n0 k q.1 q.2.1 q.2.2) F q) := by
    intro F
    induction F with
    | zero => intro i; exact s_none
    | succ F ih => intro q; exact t_iMo_231b B hN hnm (fun o i S => ih (o, i, S)) q.1 q.2.1 q.2.2
  exact q FU (o, i, S)
set_option maxRecDepth 100000 in
set_option maxHeartbeats 4000000 in
theorem t_iMo (B : xB p R s m args meth c b_iMo 2 R_Mo (Cond.code y_iMo b_iMo 2 none :: x_T) none 1 20 D x_cl (xty g) base) (hN : xN s) (hnm : meth.name = "<init>") (o : Nat) (S : LW) : Sn p l e R s m args below meth c 2 D x_cl base (wdL g) cL (grn n0) az kz (xfc cL) (xZ below args s D x_cl (xty g) base (wdL g) cL (grn n0) az kz ovU) 0 [] [(0, .ref o)] S (m_iMo n0 o S) := by
  unfold m_iMo
  refine s_aload_n B d_iMo_0 rfl ?_
  refine s_objI B oi_Mo d_iMo_1 (by decide) (by decide) ?_
  refine s_aload_n B d_iMo_4 rfl ?_
  refine s_sipush (v := (1600:Int32)) B d_iMo_5 (by decide) ?_
  refine s_newI (refs := [o]) B d_iMo_8 (by decide) rfl (by decide) (by simp [xin0]) (by simp [xin0]) (fun S1 _ => ?_)
  refine s_putLg (k := 1) (ty := (.array .int)) B xc_Mo (by decide) rfl fi_Mo_7 (Or.inr ⟨rfl, hnm, rfl⟩) rfl (fun _ => rfl) (fun _ => rfl) d_iMo_10 (fun S2 _ => ?_)
  refine s_aload_n B d_iMo_13 rfl ?_
  refine s_bipush (v := (16:Int32)) B d_iMo_14 (by decide) ?_
  refine s_newI (refs := [o]) B d_iMo_16 (by decide) rfl (by decide) (by simp [xin0]) (by simp [xin0]) (fun S3 _ => ?_)
  refine s_putLg (k := 2) (ty := (.array .int)) B xc_Mo (by decide) rfl fi_Mo_13 (Or.inr ⟨rfl, hnm, rfl⟩) rfl (fun _ => rfl) (fun _ => rfl) d_iMo_18 (fun S4 _ => ?_)
  refine s_aload_n B d_iMo_21 rfl ?_
  refine s_ldc (v := (130000:Int32)) B d_iMo_22 (List.mem_cons_of_mem _ ck_Mo_16) ?_
  refine s_newI (refs := [o]) B d_iMo_24 (by decide) rfl (by decide) (by simp [xin0]) (by simp [xin0]) (fun S5 _ => ?_)
  refine s_putLg (k := 3) (ty := (.array .int)) B xc_Mo (by decide) rfl fi_Mo_17 (Or.inr ⟨rfl, hnm, rfl⟩) rfl (fun _ => rfl) (fun _ => rfl) d_iMo_26 (fun S6 _ => ?_)
  refine s_aload_n B d_iMo_29 rfl ?_
  refine s_ldc (v := (130000:Int32)) B d_iMo_30 (List.mem_cons_of_mem _ ck_Mo_16) ?_
  refine s_newI (refs := [o]) B d_iMo_32 (by decide) rfl (by decide) (by simp [xin0]) (by simp [xin0]) (fun S7 _ => ?_)
  refine s_putLg (k := 4) (ty := (.array .int)) B xc_Mo (by decide) rfl fi_Mo_20 (Or.inr ⟨rfl, hnm, rfl⟩) rfl (fun _ => rfl) (fun _ => rfl) d_iMo_34 (fun S8 _ => ?_)
  refine s_aload_n B d_iMo_37 rfl ?_
  refine s_sipush (v := (400:Int32)) B d_iMo_38 (by decide) ?_
  refine s_newI (refs := [o]) B d_iMo_41 (by decide) rfl (by decide) (by simp [xin0]) (by simp [xin0]) (fun S9 _ => ?_)
  refine s_putLg (k := 5) (ty := (.array .int)) B xc_Mo (by decide) rfl fi_Mo_23 (Or.inr ⟨rfl, hnm, rfl⟩) rfl (fun _ => rfl) (fun _ => rfl) d_iMo_43 (fun S10 _ => ?_)
  refine s_aload_n B d_iMo_46 rfl ?_
  refine s_sipush (v := (400:Int32)) B d_iMo_47 (by decide) ?_
  refine s_newI (refs := [o]) B d_iMo_50 (by decide) rfl (by decide) (by simp [xin0]) (by simp [xin0]) (fun S11 _ => ?_)
  refine s_putLg (k := 6) (ty := (.array .int)) B xc_Mo (by decide) rfl fi_Mo_26 (Or.inr ⟨rfl, hnm, rfl⟩) rfl (fun _ => rfl) (fun _ => rfl) d_iMo_52 (fun S12 _ => ?_)
  refine s_aload_n B d_iMo_55 rfl ?_
  refine s_sipush (v := (400:Int32)) B d_iMo_56 (by decide) ?_
  refine s_newI (refs := [o]) B d_iMo_59 (by decide) rfl (by decide) (by simp [xin0]) (by simp [xin0]) (fun S13 _ => ?_)
  refine s_putLg (k := 7) (ty := (.array .int)) B xc_Mo (by decide) rfl fi_Mo_29 (Or.inr ⟨rfl, hnm, rfl⟩) rfl (fun _ => rfl) (fun _ => rfl) d_iMo_61 (fun S14 _ => ?_)
  refine s_aload_n B d_iMo_64 rfl ?_
  refine s_sipush (v := (400:Int32)) B d_iMo_65 (by decide) ?_
  refine s_newZ (refs := [o]) B d_iMo_68 (by decide) rfl (by decide) (by simp [xin0]) (by simp [xin0]) (fun S15 _ => ?_)
  refine s_putLg (k := 8) (ty := (.array .boolean)) B xc_Mo (by decide) rfl fi_Mo_32 (Or.inr ⟨rfl, hnm, rfl⟩) rfl (fun _ => rfl) (fun _ => rfl) d_iMo_70 (fun S16 _ => ?_)
  refine s_aload_n B d_iMo_73 rfl ?_
  refine s_sipush (v := (4000:Int32)) B d_iMo_74 (by decide) ?_
  refine s_newI (refs := [o]) B d_iMo_77 (by decide) rfl (by decide) (by simp [xin0]) (by simp [xin0]) (fun S17 _ => ?_)
  refine s_putLg (k := 11) (ty := (.array .int)) B xc_Mo (by decide) rfl fi_Mo_36 (Or.inr ⟨rfl, hnm, rfl⟩) rfl (fun _ => rfl) (fun _ => rfl) d_iMo_79 (fun S18 _ => ?_)
  refine s_aload_n B d_iMo_82 rfl ?_
  refine s_sipush (v := (4000:Int32)) B d_iMo_83 (by decide) ?_
  refine s_newI (refs := [o]) B d_iMo_86 (by decide) rfl (by decide) (by simp [xin0]) (by simp [xin0]) (fun S19 _ => ?_)
  refine s_putLg (k := 12) (ty := (.array .int)) B xc_Mo (by decide) rfl fi_Mo_39 (Or.inr ⟨rfl, hnm, rfl⟩) rfl (fun _ => rfl) (fun _ => rfl) d_iMo_88 (fun S20 _ => ?_)
  refine s_aload_n B d_iMo_91 rfl ?_
  refine s_ldc (v := (45000:Int32)) B d_iMo_92 (List.mem_cons_of_mem _ ck_Mo_42) ?_
  refine s_newI (refs := [o]) B d_iMo_94 (by decide) rfl (by decide) (by simp [xin0]) (by simp [xin0]) (fun S21 _ => ?_)
  refine s_putLg (k := 14) (ty := (.array .int)) B xc_Mo (by decide) rfl fi_Mo_43 (Or.inr ⟨rfl, hnm, rfl⟩) rfl (fun _ => rfl) (fun _ => rfl) d_iMo_96 (fun S22 _ => ?_)
  refine s_aload_n B d_iMo_99 rfl ?_
  refine s_sipush (v := (150:Int32)) B d_iMo_100 (by decide) ?_
  refine s_newI (refs := [o]) B d_iMo_103 (by decide) rfl (by decide) (by simp [xin0]) (by simp [xin0]) (fun S23 _ => ?_)
  refine s_putLg (k := 15) (ty := (.array .int)) B xc_Mo (by decide) rfl fi_Mo_46 (Or.inr ⟨rfl, hnm, rfl⟩) rfl (fun _ => rfl) (fun _ => rfl) d_iMo_105 (fun S24 _ => ?_)
  refine s_aload_n B d_iMo_108 rfl ?_
  refine s_sipush (v := (600:Int32)) B d_iMo_109 (by decide) ?_
  refine s_newI (refs := [o]) B d_iMo_112 (by decide) rfl (by decide) (by simp [xin0]) (by simp [xin0]) (fun S25 _ => ?_)
  refine s_putLg (k := 16) (ty := (.array .int)) B xc_Mo (by decide) rfl fi_Mo_49 (Or.inr ⟨rfl, hnm, rfl⟩) rfl (fun _ => rfl) (fun _ => rfl) d_iMo_114 (fun S26 _ => ?_)
  refine s_aload_n B d_iMo_117 rfl ?_
  refine s_sipush (v := (600:Int32)) B d_iMo_118 (by decide) ?_
  refine s_newI (refs := [o]) B d_iMo_121 (by decide) rfl (by decide) (by simp [xin0]) (by simp [xin0]) (fun S27 _ => ?_)
  refine s_putLg (k := 17) (ty := (.array .int)) B xc_Mo (by decide) rfl fi_Mo_52 (Or.inr ⟨rfl, hnm, rfl⟩) rfl (fun _ => rfl) (fun _ => rfl) d_iMo_123 (fun S28 _ => ?_)
  refine s_aload_n B d_iMo_126 rfl ?_
  refine s_sipush (v := (150:Int32)) B d_iMo_127 (by decide) ?_
  refine s_newI (refs := [o]) B d_iMo_130 (by decide) rfl (by decide) (by simp [xin0]) (by simp [xin0]) (fun S29 _ => ?_)
  refine s_putLg (k := 18) (ty := (.array .int)) B xc_Mo (by decide) rfl fi_Mo_55 (Or.inr ⟨rfl, hnm, rfl⟩) rfl (fun _ => rfl) (fun _ => rfl) d_iMo_132 (fun S30 _ => ?_)
  refine s_aload_n B d_iMo_135 rfl ?_
  refine s_sipush (v := (150:Int32)) B d_iMo_136 (by decide) ?_
  refine s_newI (refs := [o]) B d_iMo_139 (by decide) rfl (by decide) (by simp [xin0]) (by simp [xin0]) (fun S31 _ => ?_)
  refine s_putLg (k := 19) (ty := (.array .int)) B xc_Mo (by decide) rfl fi_Mo_58 (Or.inr ⟨rfl, hnm, rfl⟩) rfl (fun _ => rfl) (fun _ => rfl) d_iMo_141 (fun S32 _ => ?_)
  refine s_aload_n B d_iMo_144 rfl ?_
  refine s_sipush (v := (150:Int32)) B d_iMo_145 (by decide) ?_
  refine s_newZ (refs := [o]) B d_iMo_148 (by decide) rfl (by decide) (by simp [xin0]) (by simp [xin0]) (fun S33 _ => ?_)
  refine s_putLg (k := 20) (ty := (.array .boolean)) B xc_Mo (by decide) rfl fi_Mo_61 (Or.inr ⟨rfl, hnm, rfl⟩) rfl (fun _ => rfl) (fun _ => rfl) d_iMo_150 (fun S34 _ => ?_)
  refine s_aload_n B d_iMo_153 rfl ?_
  refine s_sipush (v := (150:Int32)) B d_iMo_154 (by decide) ?_
  refine s_newZ (refs := [o]) B d_iMo_157 (by decide) rfl (by decide) (by simp [xin0]) (by simp [xin0]) (fun S35 _ => ?_)
  refine s_putLg (k := 21) (ty := (.array .boolean)) B xc_Mo (by decide) rfl fi_Mo_64 (Or.inr ⟨rfl, hnm, rfl⟩) rfl (fun _ => rfl) (fun _ => rfl) d_iMo_159 (fun S36 _ => ?_)
  refine s_aload_n B d_iMo_162 rfl ?_
  refine s_sipush (v := (2700:Int32)) B d_iMo_163 (by decide) ?_
  refine s_newJ (refs := [o]) B d_iMo_166 (by decide) rfl (by decide) (by simp [xin0]) (by simp [xin0]) (fun S37 _ => ?_)
  refine s_putLg (k := 22) (ty := (.array .long)) B xc_Mo (by decide) rfl fi_Mo_67 (Or.inr ⟨rfl, hnm, rfl⟩) rfl (fun _ => rfl) (fun _ => rfl) d_iMo_168 (fun S38 _ => ?_)
  refine s_aload_n B d_iMo_171 rfl ?_
  refine s_sipush (v := (22500:Int32)) B d_iMo_172 (by decide) ?_
  refine s_newI (refs := [o]) B d_iMo_175 (by decide) rfl (by decide) (by simp [xin0]) (by simp [xin0]) (fun S39 _ => ?_)
  refine s_putLg (k := 23) (ty := (.array .int)) B xc_Mo (by decide) rfl fi_Mo_71 (Or.inr ⟨rfl, hnm, rfl⟩) rfl (fun _ => rfl) (fun _ => rfl) d_iMo_177 (fun S40 _ => ?_)
  refine s_aload_n B d_iMo_180 rfl ?_
  refine s_sipush (v := (22500:Int32)) B d_iMo_181 (by decide) ?_
  refine s_newI (refs := [o]) B d_iMo_184 (by decide) rfl (by decide) (by simp [xin0]) (by simp [xin0]) (fun S41 _ => ?_)
  refine s_putLg (k := 24) (ty := (.array .int)) B xc_Mo (by decide) rfl fi_Mo_74 (Or.inr ⟨rfl, hnm, rfl⟩) rfl (fun _ => rfl) (fun _ => rfl) d_iMo_186 (fun S42 _ => ?_)
  refine s_aload_n B d_iMo_189 rfl ?_
  refine s_sipush (v := (22600:Int32)) B d_iMo_190 (by decide) ?_
  refine s_newI (refs := [o]) B d_iMo_193 (by decide) rfl (by decide) (by simp [xin0]) (by simp [xin0]) (fun S43 _ => ?_)
  refine s_putLg (k := 25) (ty := (.array .int)) B xc_Mo (by decide) rfl fi_Mo_77 (Or.inr ⟨rfl, hnm, rfl⟩) rfl (fun _ => rfl) (fun _ => rfl) d_iMo_195 (fun S44 _ => ?_)
  refine s_aload_n B d_iMo_198 rfl ?_
  refine s_sipush (v := (22500:Int32)) B d_iMo_199 (by decide) ?_
  refine s_newZ (refs := [o]) B d_iMo_202 (by decide) rfl (by decide) (by simp [xin0]) (by simp [xin0]) (fun S45 _ => ?_)
  refine s_putLg (k := 26) (ty := (.array .boolean)) B xc_Mo (by decide) rfl fi_Mo_80 (Or.inr ⟨rfl, hnm, rfl⟩) rfl (fun _ => rfl) (fun _ => rfl) d_iMo_204 (fun S46 _ => ?_)
  refine s_aload_n B d_iMo_207 rfl ?_
  refine s_iconst (v := (-1:Int32)) B d_iMo_208 (by decide) ?_
  refine s_putLg (k := 27) (ty := .int) B xc_Mo (by decide) rfl fi_Mo_83 (Or.inl rfl) rfl (fun _ => rfl) (fun _ => rfl) d_iMo_209 (fun S47 _ => ?_)
  refine s_aload_n B d_iMo_212 rfl ?_
  refine s_sipush (v := (1700:Int32)) B d_iMo_213 (by decide) ?_
  refine s_newI (refs := [o]) B d_iMo_216 (by decide) rfl (by decide) (by simp [xin0]) (by simp [xin0]) (fun S48 _ => ?_)
  refine s_putLg (k := 28) (ty := (.array .int)) B xc_Mo (by decide) rfl fi_Mo_87 (Or.inr ⟨rfl, hnm, rfl⟩) rfl (fun _ => rfl) (fun _ => rfl) d_iMo_218 (fun S49 _ => ?_)
  refine s_aload_n B d_iMo_221 rfl ?_
  refine s_bipush (v := (100:Int32)) B d_iMo_222 (by decide) ?_
  refine s_newI (refs := [o]) B d_iMo_224 (by decide) rfl (by decide) (by simp [xin0]) (by simp [xin0]) (fun S50 _ => ?_)
  refine s_putLg (k := 29) (ty := (.array .int)) B xc_Mo (by decide) rfl fi_Mo_90 (Or.inr ⟨rfl, hnm, rfl⟩) rfl (fun _ => rfl) (fun _ => rfl) d_iMo_226 (fun S51 _ => ?_)
  refine s_iconst (v := (0:Int32)) B d_iMo_229 (by decide) ?_
  refine s_istore_n B d_iMo_230 (by decide) ?_
  refine s_pick (lv1 := [(0, .ref o), (1, .int (0:Int32))]) [0, 1] rfl ?_
  exact t_iMo_231 B hN hnm (o) ((0:Int32)) S51
theorem ct_iMo {l : Launch} {D : va_G} {base : Nat} {g : Nat → ClassId} (n0 o : Nat) (S : LW) (r : LW × Unit) (hr : m_iMo n0 o S = some r) : CtN l y_iMo (Cond.code y_iMo b_iMo 2 none :: x_T) 1 20 D g base (grn n0) [.ref o] S r.1 :=
  x_metN (by decide) (Nat.le_of_ble_eq_true rfl) (fun p e R s m args below meth c az B hN hnm => t_iMo B hN hnm o S) r hr
end
