/-! the law from its first byte: constructors, then its loop -/
theorem d_Ls_0 : decode code 0 = .ok (.new 8, 3) := by decide +kernel
theorem d_Ls_3 : decode code 3 = .ok (.dup, 1) := by decide +kernel
theorem d_Ls_4 : decode code 4 = .ok (.invokespecial 60, 3) := by decide +kernel
theorem d_Ls_7 : decode code 7 = .ok (.astore_n 1, 1) := by decide +kernel
theorem d_Ls_8 : decode code 8 = .ok (.new 61, 3) := by decide +kernel
theorem d_Ls_11 : decode code 11 = .ok (.dup, 1) := by decide +kernel
theorem d_Ls_12 : decode code 12 = .ok (.invokespecial 63, 3) := by decide +kernel
theorem d_Ls_15 : decode code 15 = .ok (.astore_n 2, 1) := by decide +kernel
theorem d_Ls_16 : decode code 16 = .ok (.iconst (1), 1) := by decide +kernel
theorem d_Ls_17 : decode code 17 = .ok (.newarray .long, 2) := by decide +kernel
theorem d_Ls_19 : decode code 19 = .ok (.astore_n 3, 1) := by decide +kernel
set_option maxRecDepth 100000 in
theorem cl_Law_8 : Cond.classLink R_Law 8 R_D ∈ x_T := xmem1 20 rfl rfl
set_option maxRecDepth 100000 in
theorem cl_Law_61 : Cond.classLink R_Law 61 R_Mo ∈ x_T := xmem4 127 rfl rfl
set_option maxRecDepth 100000 in
theorem mi_Law_60 : Cond.methodLink R_Law 60 y_iD ∈ x_T := xmem1 22 rfl rfl
set_option maxRecDepth 100000 in
theorem mi_Law_63 : Cond.methodLink R_Law 63 y_iMo ∈ x_T := xmem4 129 rfl rfl
set_option maxRecDepth 100000 in
theorem it_D : Cond.instantiable R_D (x_Nf 0) ∈ x_T := xmem1 21 rfl rfl
set_option maxRecDepth 100000 in
theorem ii_D : Cond.initialized R_D ∈ x_T := xmem1 1 rfl rfl
set_option maxRecDepth 100000 in
theorem im_iD : Cond.instanceMethod y_iD ∈ x_T := xmem1 23 rfl rfl
set_option maxRecDepth 100000 in
theorem it_Mo : Cond.instantiable R_Mo (x_Nf 10) ∈ x_T := xmem4 128 rfl rfl
set_option maxRecDepth 100000 in
theorem ii_Mo : Cond.initialized R_Mo ∈ x_T := xmem1 12 rfl rfl
set_option maxRecDepth 100000 in
theorem im_iMo : Cond.instanceMethod y_iMo ∈ x_T := xmem4 130 rfl rfl
def x_S0 : LW := ([], (0, 0))
def m_Law_all (xs : Nat → Int32) (L : Nat) : Option Unit :=
  (nwL 0 x_S0 [999] (.inr (0, [.null, .null, .null, .null, .null, .null, .null])) (x_Nf 0)).bind fun S1 => cal cL S1 (m_iD S1.1.length x_S0.1.length S1) fun c1 =>
  ((nwL 0 c1.1 [999, x_S0.1.length] (.inr (10, [.int 0, .null, .null, .null, .null, .null, .null, .null, .null, .int 0, .int 0, .null, .null, .int 0, .null, .null, .null, .null, .null, .null, .null, .null, .null, .null, .null, .null, .null, .int 0, .null, .null])) (x_Nf 10)).bind fun S2 => cal cL S2 (m_iMo S2.1.length c1.1.1.length S2) fun c2 =>
  ((nwL 0 c2.1 [999, x_S0.1.length, c1.1.1.length] (.inl (2, 1, .inr (.inl (fun _ => 0)))) 1).bind fun S3 =>
  (if c1.1.1.length = 97 ∧ c2.1.1.length = 123 ∧ chL S3 = true then m_Law_law xs L (MofL S3) else none)))
section
variable {p : Program} {l : Launch} {e : Env} {s : State} {m : MethodId} {below : List Frame} {meth : Method} {c : Code} {D : va_G} {g : Nat → ClassId} {az : Nat → Nat} {b L : Nat} {xs : Nat → Int32}
set_option maxRecDepth 100000 in
set_option maxHeartbeats 4000000 in
theorem t_Law_all (htr : l.stackTraces = false) (B : xB p room_1 s m #[Value.ref b] meth c code 8 R_Law (Cond.tt :: x_T) ret 12 490 D x_cl (xty g) s.heap.size) (hN : xN s) (hho : x_ho s.heap.size s) (hX : va_X b L xs s s.heap) (hbl : b < s.heap.size) (h0 : az 999 = b) : Sn p l e room_1 s m #[Value.ref b] below meth c 8 D x_cl s.heap.size (wdL g) cL (grn 0) az (0, 0) x_lf (x_lZ below b s) 0 [] [(0, .ref 999)] x_S0 (m_Law_all xs L) := by
  unfold m_Law_all
  refine s_newC (refs := [999]) (y := fun S9 => m_iD S9.1.length x_S0.1.length S9) B hN xc_D cl_Law_8 it_D ii_D df_D rfl d_Ls_0 d_Ls_3 (lk_I (n := 0) B d_Ls_4 (xgood cd_iD) (List.mem_cons_of_mem _ im_iD) (List.mem_cons_of_mem _ ii_D) (List.mem_cons_of_mem _ mi_Law_60) rfl rfl hi_D (by decide) (by decide)) (by simp [xin0]) (by simp [xset1, xin0]) (by simp [Value.category]) (fun S8 r9 e9 => ct_iD _ _ S8 r9 e9) (fun c1 => ?_)
  refine s_astore_n B d_Ls_7 (by decide) ?_
  refine s_newC (refs := [999, x_S0.1.length]) (y := fun S9 => m_iMo S9.1.length c1.1.1.length S9) B hN xc_Mo cl_Law_61 it_Mo ii_Mo df_Mo rfl d_Ls_8 d_Ls_11 (lk_I (n := 0) B d_Ls_12 (xgood cd_iMo) (List.mem_cons_of_mem _ im_iMo) (List.mem_cons_of_mem _ ii_Mo) (List.mem_cons_of_mem _ mi_Law_63) rfl rfl hi_Mo (by decide) (by decide)) (by simp [xin0]) (by simp [xset1, xin0]) (by simp [Value.category]) (fun S8 r9 e9 => ct_iMo _ _ S8 r9 e9) (fun c2 => ?_)
  refine s_astore_n B d_Ls_15 (by decide) ?_
  refine s_iconst (v := (1:Int32)) B d_Ls_16 (by decide) ?_
  refine s_newJ (refs := [999, x_S0.1.length, c1.1.1.length]) B d_Ls_17 (by decide) rfl (by decide) (by simp [xin0]) (by simp [xset1, xin0]) (fun S3 _ => ?_)
  refine s_astore_n B d_Ls_19 (by decide) ?_
  refine s_guard (fun hg => ?_)
  obtain ⟨e1, e2, e3⟩ := hg
  refine s_pick (lv1 := [(0, .ref 999), (1, .ref 0), (2, .ref 97), (3, .ref 123)]) [0, 1, 2, 3] ?_ ?_
  · rw [e1, e2]; rfl
  · exact s_turn e3 h0 (fun az h => t_Law_law htr B hho hX hbl h (MofL S3))
end
def x_St : Option LW :=
  (nwL 0 x_S0 [999] (.inr (0, [.null, .null, .null, .null, .null, .null, .null])) (x_Nf 0)).bind fun S1 => cal cL S1 (m_iD S1.1.length x_S0.1.length S1) fun c1 =>
  ((nwL 0 c1.1 [999, x_S0.1.length] (.inr (10, [.int 0, .null, .null, .null, .null, .null, .null, .null, .null, .int 0, .int 0, .null, .null, .int 0, .null, .null, .null, .null, .null, .null, .null, .null, .null, .null, .null, .null, .null, .int 0, .null, .null])) (x_Nf 10)).bind fun S2 => cal cL S2 (m_iMo S2.1.length c1.1.1.length S2) fun c2 =>
  ((nwL 0 c2.1 [999, x_S0.1.length, c1.1.1.length] (.inl (2, 1, .inr (.inl (fun _ => 0)))) 1).bind fun S3 =>
  (if c1.1.1.length = 97 ∧ c2.1.1.length = 123 ∧ chL S3 = true then some S3 else none)))
theorem m_Law_all_eq (xs : Nat → Int32) (L : Nat) : m_Law_all xs L = x_St.bind fun S => m_Law_law xs L (MofL S) := by
  unfold m_Law_all x_St
  cases nwL 0 x_S0 [999] (.inr (0, [.null, .null, .null, .null, .null, .null, .null])) (x_Nf 0) with
  | none => rfl
  | some S1 =>
    simp only [Option.bind_some]
    unfold cal
    cases m_iD S1.1.length x_S0.1.length S1 with
    | none => rfl
    | some c1 =>
      simp only [Option.bind_some]
      split
      · cases nwL 0 c1.1 [999, x_S0.1.length] (.inr (10, [.int 0, .null, .null, .null, .null, .null, .null, .null, .null, .int 0, .int 0, .null, .null, .int 0, .null, .null, .null, .null, .null, .null, .null, .null, .null, .null, .null, .null, .null, .int 0, .null, .null])) (x_Nf 10) with
        | none => rfl
        | some S2 =>
          simp only [Option.bind_some]
          cases m_iMo S2.1.length c1.1.1.length S2 with
          | none => rfl
          | some c2 =>
            simp only [Option.bind_some]
            split
            · cases nwL 0 c2.1 [999, x_S0.1.length, c1.1.1.length] (.inl (2, 1, .inr (.inl (fun _ => 0)))) 1 with
              | none => rfl
              | some S3 =>
                simp only [Option.bind_some]
                split <;> rfl
            · rfl
      · rfl
