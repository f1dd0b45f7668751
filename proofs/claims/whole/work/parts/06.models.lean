def m_D_checkSlot (a0 : Int32) (M : MS) : Option (MS × Unit) :=
  if a0 < 0 then (none) else (if a0 < (16:Int32) then (some (M, ())) else (none))
def m_D_checkRange (a0 : Int32) (a1 : Int32) (M : MS) : Option (MS × Unit) :=
  if a0 < 0 then (none) else (if a0 ≤ a1 then (some (M, ())) else (none))
def m_Terms_sizeOf (a1 : Int32) (M : MS) : Option (MS × Int32) :=
  (ldA M 4 a1).bind fun v1 =>
  some (M, v1)
def m_Machine_setCount (a0 : Nat) (a1 : Int32) (M : MS) : Option (MS × Unit) :=
  if x_kd a0 = 4 then ((some (sI M a0 2 a1)).bind fun M1 =>
  some (M1, ())) else none
def m_Explorer_forget (a1 : Int32) (M : MS) : Option (MS × Unit) :=
  (ldQ M 25 a1).bind fun v1 => if x_kd v1 = 4 then (cal cM M (m_Machine_setCount v1 (0:Int32) M) fun r3 =>
  some (r3.1, ())) else none
def m_D_put (a1 : Int32) (a2 : Int32) (M : MS) : Option (MS × Int32) :=
  cal cM M (m_Terms_sizeOf a2 M) fun r1 =>
  if r1.2 ≤ (100:Int32) then ((ldA r1.1 1 a1).bind fun v2 =>
  if v2 = a2 then (some (r1.1, r1.2)) else ((stA r1.1 1 a1 a2).bind fun M3 =>
  cal cM M3 (m_Explorer_forget a1 M3) fun r4 =>
  some (r4.1, r1.2))) else (some (r1.1, (-1:Int32)))
def m_D_letters (a1 : Int32) (a2 : Int32) (M : MS) : Option (MS × Int32) :=
  cal cM M (m_D_checkSlot a1 M) fun r1 =>
  cal cM r1.1 (m_D_checkRange a2 (16:Int32) r1.1) fun r2 =>
  cal cM r2.1 (m_D_put a1 a2 r2.1) fun r3 =>
  some (r3.1, r3.2)
def m_Arr_fill_5b (k5 : Nat × Int32 × Int32 × Int32 × MS → Option (MS × Unit)) (l0 : Nat) (l1 : Int32) (l2 : Int32) (l3 : Int32) (M : MS) : Option (MS × Unit) :=
  if l3 ≤ l2 then (some (M, ())) else ((stA M l0 l2 l1).bind fun M1 =>
  k5 (l0, l1, (l2 + (1:Int32)), l3, M1))
def m_Arr_fill_5  (i : Nat × Int32 × Int32 × Int32 × MS) : Option (MS × Unit) := fx (fun (k : Nat × Int32 × Int32 × Int32 × MS → Option (MS × Unit)) (i : Nat × Int32 × Int32 × Int32 × MS) => m_Arr_fill_5b k i.1 i.2.1 i.2.2.1 i.2.2.2.1 i.2.2.2.2) FU i
def m_Arr_fill (a0 : Nat) (a1 : Int32) (M : MS) : Option (MS × Unit) :=
  if x_kd a0 = 20 ∨ x_kd a0 = 21 then (m_Arr_fill_5 (a0, a1, (0:Int32), (Int32.ofNat (gL M a0)), M)) else none
def m_Terms_markRow_2b (k2 : Nat × Int32 × Int32 × MS → Option (MS × Unit)) (l1 : Nat) (l2 : Int32) (l3 : Int32) (M : MS) : Option (MS × Unit) :=
  if l2 ≤ l3 then (some (M, ())) else ((ldA M l1 l3).bind fun v1 =>
  (ldA M l1 l3).bind fun v2 =>
  (stA M 11 v1 v2).bind fun M3 =>
  k2 (l1, l2, (l3 + (1:Int32)), M3))
def m_Terms_markRow_2  (i : Nat × Int32 × Int32 × MS) : Option (MS × Unit) := fx (fun (k : Nat × Int32 × Int32 × MS → Option (MS × Unit)) (i : Nat × Int32 × Int32 × MS) => m_Terms_markRow_2b k i.1 i.2.1 i.2.2.1 i.2.2.2) FU i
def m_Terms_markRow (a1 : Nat) (a2 : Int32) (M : MS) : Option (MS × Unit) :=
  if x_kd a1 = 20 then (m_Terms_markRow_2 (a1, a2, (0:Int32), M)) else none
def m_Terms_kid (a1 : Int32) (a2 : Int32) (M : MS) : Option (MS × Int32) :=
  (ldA M 6 a1).bind fun v1 =>
  (ldA M 13 (v1 + a2)).bind fun v2 =>
  some (M, v2)
def m_Terms_markKids_15b (k7 : Int32 × MS → Option (MS × Unit)) (k15 : Int32 × Int32 × MS → Option (MS × Unit)) (l1 : Int32) (l2 : Int32) (M : MS) : Option (MS × Unit) :=
  (ldA M 11 l1).bind fun v1 =>
  if v1 = (-1:Int32) then (k7 ((l1 + (-1:Int32)), M)) else ((ldA M 7 l1).bind fun v2 =>
  if v2 ≤ l2 then (k7 ((l1 + (-1:Int32)), M)) else (cal cM M (m_Terms_kid l1 l2 M) fun r3 =>
  (stA r3.1 11 r3.2 l1).bind fun M4 =>
  k15 (l1, (l2 + (1:Int32)), M4)))
def m_Terms_markKids_15 (k7 : Int32 × MS → Option (MS × Unit)) (i : Int32 × Int32 × MS) : Option (MS × Unit) := fx (fun (k : Int32 × Int32 × MS → Option (MS × Unit)) (i : Int32 × Int32 × MS) => m_Terms_markKids_15b k7 k i.1 i.2.1 i.2.2) FU i
def m_Terms_markKids_7b (k7 : Int32 × MS → Option (MS × Unit)) (l1 : Int32) (M : MS) : Option (MS × Unit) :=
  if l1 < (18:Int32) then (some (M, ())) else (m_Terms_markKids_15 k7 (l1, (0:Int32), M))
def m_Terms_markKids_7  (i : Int32 × MS) : Option (MS × Unit) := fx (fun (k : Int32 × MS → Option (MS × Unit)) (i : Int32 × MS) => m_Terms_markKids_7b k i.1 i.2) FU i
def m_Terms_markKids  (M : MS) : Option (MS × Unit) :=
  m_Terms_markKids_7 (((gI M 2 16) - (1:Int32)), M)
def m_Terms_numberMarked_28 (k4 : Int32 × Int32 × MS → Option (MS × Unit)) (l1 : Int32) (l2 : Int32) (M : MS) : Option (MS × Unit) :=
  (stA M 11 l2 l1).bind fun M1 =>
  k4 ((l1 + (1:Int32)), (l2 + (1:Int32)), M1)
def m_Terms_numberMarked_4b (k4 : Int32 × Int32 × MS → Option (MS × Unit)) (l1 : Int32) (l2 : Int32) (M : MS) : Option (MS × Unit) :=
  if (gI M 2 16) ≤ l2 then (some (M, ())) else (if l2 < (18:Int32) then (m_Terms_numberMarked_28 k4 l1 l2 M) else ((ldA M 11 l2).bind fun v1 =>
  if v1 = (-1:Int32) then (k4 (l1, (l2 + (1:Int32)), M)) else (m_Terms_numberMarked_28 k4 l1 l2 M)))
def m_Terms_numberMarked_4  (i : Int32 × Int32 × MS) : Option (MS × Unit) := fx (fun (k : Int32 × Int32 × MS → Option (MS × Unit)) (i : Int32 × Int32 × MS) => m_Terms_numberMarked_4b k i.1 i.2.1 i.2.2) FU i
def m_Terms_numberMarked  (M : MS) : Option (MS × Unit) :=
  m_Terms_numberMarked_4 ((0:Int32), (0:Int32), M)
def m_Terms_move_250 (k204 : Int32 × Int32 × Int32 × MS → Option (MS × Unit)) (l1 : Int32) (l2 : Int32) (l5 : Int32) (s1 : Int32) (s2 : Int32) (M : MS) : Option (MS × Unit) :=
  (stA M 12 s1 s2).bind fun M1 =>
  k204 (l1, l2, (l5 + (1:Int32)), M1)
def m_Terms_move_204b (k204 : Int32 × Int32 × Int32 × MS → Option (MS × Unit)) (l1 : Int32) (l2 : Int32) (l5 : Int32) (M : MS) : Option (MS × Unit) :=
  if (4:Int32) ≤ l5 then (some (M, ())) else ((ldA M 12 ((l1 * (4:Int32)) + l5)).bind fun v1 =>
  if ¬ v1 = (-1:Int32) then ((ldA M 11 v1).bind fun v2 =>
  m_Terms_move_250 k204 l1 l2 l5 ((l2 * (4:Int32)) + l5) v2 M) else (m_Terms_move_250 k204 l1 l2 l5 ((l2 * (4:Int32)) + l5) (-1:Int32) M))
def m_Terms_move_204  (i : Int32 × Int32 × Int32 × MS) : Option (MS × Unit) := fx (fun (k : Int32 × Int32 × Int32 × MS → Option (MS × Unit)) (i : Int32 × Int32 × Int32 × MS) => m_Terms_move_204b k i.1 i.2.1 i.2.2.1 i.2.2.2) FU i
def m_Terms_move_166  (l1 : Int32) (l2 : Int32) (l4 : Int32) (M : MS) : Option (MS × Unit) :=
  (stA M 8 l2 l4).bind fun M1 =>
  (ldA M1 14 (xushr l4 (22:Int32))).bind fun v2 =>
  (stA M1 9 l2 v2).bind fun M3 =>
  (stA M3 14 (xushr l4 (22:Int32)) l2).bind fun M4 =>
  m_Terms_move_204 (l1, l2, (0:Int32), M4)
def m_Terms_move_134b (k134 : Int32 × Int32 × Int32 × Int32 × MS → Option (MS × Unit)) (l1 : Int32) (l2 : Int32) (l4 : Int32) (l5 : Int32) (M : MS) : Option (MS × Unit) :=
  (ldA M 7 l2).bind fun v1 =>
  if v1 ≤ l5 then (m_Terms_move_166 l1 l2 l4 M) else (cal cM M (m_Terms_kid l2 l5 M) fun r2 =>
  k134 (l1, l2, ((l4 + r2.2) * (-1640531535:Int32)), (l5 + (1:Int32)), r2.1))
def m_Terms_move_134  (i : Int32 × Int32 × Int32 × Int32 × MS) : Option (MS × Unit) := fx (fun (k : Int32 × Int32 × Int32 × Int32 × MS → Option (MS × Unit)) (i : Int32 × Int32 × Int32 × Int32 × MS) => m_Terms_move_134b k i.1 i.2.1 i.2.2.1 i.2.2.2.1 i.2.2.2.2) FU i
def m_Terms_move_56  (l1 : Int32) (l2 : Int32) (l3 : Int32) (M : MS) : Option (MS × Unit) :=
  (stA M 6 l2 l3).bind fun M1 =>
  (ldA M1 7 l1).bind fun v2 =>
  (stA M1 7 l2 v2).bind fun M3 =>
  (ldA M3 3 l1).bind fun v4 =>
  (stA M3 3 l2 v4).bind fun M5 =>
  (ldA M5 4 l1).bind fun v6 =>
  (stA M5 4 l2 v6).bind fun M7 =>
  (ldA M7 5 l1).bind fun v8 =>
  (stA M7 5 l2 v8).bind fun M9 =>
  (ldA M9 10 l1).bind fun v10 =>
  (stA M9 10 l2 v10).bind fun M11 =>
  (ldA M11 3 l2).bind fun v12 =>
  m_Terms_move_134 (l1, l2, v12, (0:Int32), M11)
def m_Terms_move_8b (k8 : Int32 × Int32 × Int32 × Int32 × MS → Option (MS × Unit)) (l1 : Int32) (l2 : Int32) (l3 : Int32) (l4 : Int32) (M : MS) : Option (MS × Unit) :=
  (ldA M 7 l1).bind fun v1 =>
  if v1 ≤ l4 then (m_Terms_move_56 l1 l2 l3 M) else (cal cM M (m_Terms_kid l1 l4 M) fun r2 =>
  (ldA r2.1 11 r2.2).bind fun v3 =>
  (stA r2.1 13 (gI M 2 17) v3).bind fun M4 =>
  (some (sI M4 2 17 ((gI M4 2 17) + (1:Int32)))).bind fun M5 =>
  k8 (l1, l2, l3, (l4 + (1:Int32)), M5))
def m_Terms_move_8  (i : Int32 × Int32 × Int32 × Int32 × MS) : Option (MS × Unit) := fx (fun (k : Int32 × Int32 × Int32 × Int32 × MS → Option (MS × Unit)) (i : Int32 × Int32 × Int32 × Int32 × MS) => m_Terms_move_8b k i.1 i.2.1 i.2.2.1 i.2.2.2.1 i.2.2.2.2) FU i
def m_Terms_move (a1 : Int32) (a2 : Int32) (M : MS) : Option (MS × Unit) :=
  m_Terms_move_8 (a1, a2, (gI M 2 17), (0:Int32), M)
def m_Terms_moveMarked_27b (k27 : Int32 × Int32 × MS → Option (MS × Unit)) (l1 : Int32) (l2 : Int32) (M : MS) : Option (MS × Unit) :=
  if l1 ≤ l2 then (some (M, ())) else ((ldA M 11 l2).bind fun v1 =>
  if v1 = (-1:Int32) then (k27 (l1, (l2 + (1:Int32)), M)) else (cal cM M (m_Terms_move l2 (gI M 2 16) M) fun r2 =>
  (some (sI r2.1 2 16 ((gI r2.1 2 16) + (1:Int32)))).bind fun M3 =>
  k27 (l1, (l2 + (1:Int32)), M3)))
def m_Terms_moveMarked_27  (i : Int32 × Int32 × MS) : Option (MS × Unit) := fx (fun (k : Int32 × Int32 × MS → Option (MS × Unit)) (i : Int32 × Int32 × MS) => m_Terms_moveMarked_27b k i.1 i.2.1 i.2.2) FU i
def m_Terms_moveMarked  (M : MS) : Option (MS × Unit) :=
  cal cM M (m_Arr_fill 14 (-1:Int32) M) fun r1 =>
  (some (sI r1.1 2 16 (18:Int32))).bind fun M2 =>
  (some (sI M2 2 17 (1:Int32))).bind fun M3 =>
  m_Terms_moveMarked_27 ((gI r1.1 2 16), (18:Int32), M3)
def m_Terms_renumber_2b (k2 : Nat × Int32 × Int32 × MS → Option (MS × Unit)) (l1 : Nat) (l2 : Int32) (l3 : Int32) (M : MS) : Option (MS × Unit) :=
  if l2 ≤ l3 then (some (M, ())) else ((ldA M l1 l3).bind fun v1 =>
  (ldA M 11 v1).bind fun v2 =>
  (stA M l1 l3 v2).bind fun M3 =>
  k2 (l1, l2, (l3 + (1:Int32)), M3))
def m_Terms_renumber_2  (i : Nat × Int32 × Int32 × MS) : Option (MS × Unit) := fx (fun (k : Nat × Int32 × Int32 × MS → Option (MS × Unit)) (i : Nat × Int32 × Int32 × MS) => m_Terms_renumber_2b k i.1 i.2.1 i.2.2.1 i.2.2.2) FU i
def m_Terms_renumber (a1 : Nat) (a2 : Int32) (M : MS) : Option (MS × Unit) :=
  if x_kd a1 = 20 then (m_Terms_renumber_2 (a1, a2, (0:Int32), M)) else none
def m_Terms_tidy_23  (l3 : Int32) (M : MS) : Option (MS × Unit) :=
  cal cM M (m_Arr_fill 11 (-1:Int32) M) fun r1 =>
  cal cM r1.1 (m_Terms_markRow 1 (Int32.ofNat (gL r1.1 1)) r1.1) fun r2 =>
  cal cM r2.1 (m_Terms_markRow 26 l3 r2.1) fun r3 =>
  cal cM r3.1 (m_Terms_markKids r3.1) fun r4 =>
  cal cM r4.1 (m_Terms_numberMarked r4.1) fun r5 =>
  cal cM r5.1 (m_Terms_moveMarked r5.1) fun r6 =>
  cal cM r6.1 (m_Terms_renumber 1 (Int32.ofNat (gL r6.1 1)) r6.1) fun r7 =>
  cal cM r7.1 (m_Terms_renumber 26 l3 r7.1) fun r8 =>
  (some (sI r8.1 2 18 (if (768:Int32) < ((gI r8.1 2 16) * (2:Int32)) then ((gI r8.1 2 16) * (2:Int32)) else (768:Int32)))).bind fun M9 =>
  (some (sI M9 2 19 (if (1536:Int32) < ((gI M9 2 17) * (2:Int32)) then ((gI M9 2 17) * (2:Int32)) else (1536:Int32)))).bind fun M10 =>
  some (M10, ())
def m_Terms_tidy (a3 : Int32) (M : MS) : Option (MS × Unit) :=
  if (gI M 2 18) < (gI M 2 16) then (m_Terms_tidy_23 a3 M) else (if (gI M 2 19) < (gI M 2 17) then (m_Terms_tidy_23 a3 M) else (some (M, ())))
def m_Explorer_tidy  (M : MS) : Option (MS × Unit) :=
  cal cM M (m_Terms_tidy (0:Int32) M) fun r1 =>
  some (r1.1, ())
def m_Row_clear (a0 : Nat) (M : MS) : Option (MS × Unit) :=
  if x_kd a0 = 1 then ((some (sI M a0 1 (0:Int32))).bind fun M1 =>
  some (M1, ())) else none
def m_Row_add_29  (l0 : Nat) (l1 : Int32) (M : MS) : Option (MS × Unit) :=
  (stA M (x_sr l0 0) (gI M l0 1) l1).bind fun M1 =>
  (some (sI M1 l0 1 ((gI M1 l0 1) + (1:Int32)))).bind fun M2 =>
  some (M2, ())
def m_Row_add (a0 : Nat) (a1 : Int32) (M : MS) : Option (MS × Unit) :=
  if x_kd a0 = 1 then (if ¬ (gI M a0 1) = (Int32.ofNat (gL M (x_sr a0 0))) then (m_Row_add_29 a0 a1 M) else ((stG M (x_sr a0 0) ((gI M a0 1) * (2:Int32))).bind fun M1 =>
  m_Row_add_29 a0 a1 M1)) else none
def m_Row_size (a0 : Nat) (M : MS) : Option (MS × Int32) :=
  if x_kd a0 = 1 then (some (M, (gI M a0 1))) else none
def m_Row_get (a0 : Nat) (a1 : Int32) (M : MS) : Option (MS × Int32) :=
  if x_kd a0 = 1 then ((ldA M (x_sr a0 0) a1).bind fun v1 =>
  some (M, v1)) else none
def m_Terms_hasJust_17b (k17 : Int32 × Nat × Int32 × MS → Option (MS × Int32)) (l1 : Int32) (l2 : Nat) (l3 : Int32) (M : MS) : Option (MS × Int32) :=
  cal cM M (m_Row_size l2 M) fun r1 =>
  if r1.2 ≤ l3 then (some (r1.1, (1:Int32))) else (cal cM r1.1 (m_Terms_kid l1 l3 r1.1) fun r2 =>
  cal cM r2.1 (m_Row_get l2 l3 r2.1) fun r3 =>
  if r2.2 = r3.2 then (k17 (l1, l2, (l3 + (1:Int32)), r3.1)) else (some (r3.1, (0:Int32))))
def m_Terms_hasJust_17  (i : Int32 × Nat × Int32 × MS) : Option (MS × Int32) := fx (fun (k : Int32 × Nat × Int32 × MS → Option (MS × Int32)) (i : Int32 × Nat × Int32 × MS) => m_Terms_hasJust_17b k i.1 i.2.1 i.2.2.1 i.2.2.2) FU i
def m_Terms_hasJust (a1 : Int32) (a2 : Nat) (M : MS) : Option (MS × Int32) :=
  if x_kd a2 = 1 then ((ldA M 7 a1).bind fun v1 =>
  cal cM M (m_Row_size a2 M) fun r2 =>
  if v1 = r2.2 then (m_Terms_hasJust_17 (a1, a2, (0:Int32), r2.1)) else (some (r2.1, (0:Int32)))) else none
def m_Terms_makeRoom_33   (M : MS) : Option (MS × Unit) :=
  if (Int32.ofNat (gL M 3)) ≤ (gI M 2 16) then ((stG M 3 ((gI M 2 16) * (2:Int32))).bind fun M1 =>
  (stG M1 4 ((gI M 2 16) * (2:Int32))).bind fun M2 =>
  (stG M2 5 ((gI M 2 16) * (2:Int32))).bind fun M3 =>
  (stG M3 6 ((gI M 2 16) * (2:Int32))).bind fun M4 =>
  (stG M4 7 ((gI M 2 16) * (2:Int32))).bind fun M5 =>
  (stG M5 8 ((gI M 2 16) * (2:Int32))).bind fun M6 =>
  (stG M6 9 ((gI M 2 16) * (2:Int32))).bind fun M7 =>
  (stG M7 10 ((gI M 2 16) * (2:Int32))).bind fun M8 =>
  (stG M8 11 ((gI M 2 16) * (2:Int32))).bind fun M9 =>
  (stG M9 12 (((gI M 2 16) * (2:Int32)) * (4:Int32))).bind fun M10 =>
  some (M10, ())) else (some (M, ()))
def m_Terms_makeRoom (a1 : Int32) (M : MS) : Option (MS × Unit) :=
  if ((gI M 2 17) + a1) ≤ (Int32.ofNat (gL M 13)) then (m_Terms_makeRoom_33 M) else ((stG M 13 (((gI M 2 17) + a1) * (2:Int32))).bind fun M1 =>
  m_Terms_makeRoom_33 M1)
def m_Terms_isNullableWith (a0 : Int32) (a1 : Int32) (a2 : Int32) (M : MS) : Option (MS × Int32) :=
  if a0 = (4:Int32) then (if a1 ≤ 0 then (some (M, (0:Int32))) else (some (M, (1:Int32)))) else (if a0 = (5:Int32) then (if ¬ a1 = a2 then (some (M, (0:Int32))) else (some (M, (1:Int32)))) else (if a0 = (6:Int32) then (if ¬ a1 = 0 then (some (M, (0:Int32))) else (some (M, (1:Int32)))) else (if a0 = (7:Int32) then (some (M, (1:Int32))) else (if ¬ a1 = a2 then (some (M, (0:Int32))) else (some (M, (1:Int32)))))))
def m_Terms_addNode_185  (l3 : Int32) (l4 : Int32) (M : MS) : Option (MS × Int32) :=
  (stA M 10 l4 (0:Int32)).bind fun M1 =>
  (stA M1 8 l4 l3).bind fun M2 =>
  (ldA M2 14 (xushr l3 (22:Int32))).bind fun v3 =>
  (stA M2 9 l4 v3).bind fun M4 =>
  (stA M4 14 (xushr l3 (22:Int32)) l4).bind fun M5 =>
  some (M5, l4)
def m_Terms_addNode_160b (k160 : Int32 × Int32 × Int32 × MS → Option (MS × Int32)) (l3 : Int32) (l4 : Int32) (l7 : Int32) (M : MS) : Option (MS × Int32) :=
  if (4:Int32) ≤ l7 then (m_Terms_addNode_185 l3 l4 M) else ((stA M 12 ((l4 * (4:Int32)) + l7) (-1:Int32)).bind fun M1 =>
  k160 (l3, l4, (l7 + (1:Int32)), M1))
def m_Terms_addNode_160  (i : Int32 × Int32 × Int32 × MS) : Option (MS × Int32) := fx (fun (k : Int32 × Int32 × Int32 × MS → Option (MS × Int32)) (i : Int32 × Int32 × Int32 × MS) => m_Terms_addNode_160b k i.1 i.2.1 i.2.2.1 i.2.2.2) FU i
def m_Terms_addNode_156  (l3 : Int32) (l4 : Int32) (s1 : Int32) (s2 : Int32) (M : MS) : Option (MS × Int32) :=
  (stA M 5 s1 s2).bind fun M1 =>
  m_Terms_addNode_160 (l3, l4, (0:Int32), M1)
def m_Terms_addNode_123  (l1 : Int32) (l2 : Nat) (l3 : Int32) (l4 : Int32) (l5 : Int32) (l6 : Int32) (M : MS) : Option (MS × Int32) :=
  (stA M 4 l4 l5).bind fun M1 =>
  cal cM M1 (m_Row_size l2 M1) fun r2 =>
  cal cM r2.1 (m_Terms_isNullableWith l1 l6 r2.2 r2.1) fun r3 =>
  if r3.2 = 0 then (m_Terms_addNode_156 l3 l4 l4 (0:Int32) r3.1) else (m_Terms_addNode_156 l3 l4 l4 (1:Int32) r3.1)
def m_Terms_addNode_55b (k55 : Int32 × Nat × Int32 × Int32 × Int32 × Int32 × Int32 × MS → Option (MS × Int32)) (l1 : Int32) (l2 : Nat) (l3 : Int32) (l4 : Int32) (l5 : Int32) (l6 : Int32) (l7 : Int32) (M : MS) : Option (MS × Int32) :=
  cal cM M (m_Row_size l2 M) fun r1 =>
  if r1.2 ≤ l7 then (m_Terms_addNode_123 l1 l2 l3 l4 l5 l6 r1.1) else (cal cM r1.1 (m_Row_get l2 l7 r1.1) fun r2 =>
  (stA r2.1 13 (gI r2.1 2 17) r2.2).bind fun M3 =>
  (some (sI M3 2 17 ((gI M3 2 17) + (1:Int32)))).bind fun M4 =>
  (ldA M4 4 r2.2).bind fun v5 =>
  (ldA M4 5 r2.2).bind fun v6 =>
  k55 (l1, l2, l3, l4, (l5 + v5), (l6 + v6), (l7 + (1:Int32)), M4))
def m_Terms_addNode_55  (i : Int32 × Nat × Int32 × Int32 × Int32 × Int32 × Int32 × MS) : Option (MS × Int32) := fx (fun (k : Int32 × Nat × Int32 × Int32 × Int32 × Int32 × Int32 × MS → Option (MS × Int32)) (i : Int32 × Nat × Int32 × Int32 × Int32 × Int32 × Int32 × MS) => m_Terms_addNode_55b k i.1 i.2.1 i.2.2.1 i.2.2.2.1 i.2.2.2.2.1 i.2.2.2.2.2.1 i.2.2.2.2.2.2.1 i.2.2.2.2.2.2.2) FU i
def m_Terms_addNode (a1 : Int32) (a2 : Nat) (a3 : Int32) (M : MS) : Option (MS × Int32) :=
  if x_kd a2 = 1 then ((some (sI M 2 16 ((gI M 2 16) + (1:Int32)))).bind fun M1 =>
  (stA M1 3 (gI M 2 16) a1).bind fun M2 =>
  (stA M2 6 (gI M 2 16) (gI M2 2 17)).bind fun M3 =>
  cal cM M3 (m_Row_size a2 M3) fun r4 =>
  (stA r4.1 7 (gI M 2 16) r4.2).bind fun M5 =>
  m_Terms_addNode_55 (a1, a2, a3, (gI M 2 16), (1:Int32), (0:Int32), (0:Int32), M5)) else none
def m_Terms_node_111  (l1 : Int32) (l2 : Nat) (l3 : Int32) (M : MS) : Option (MS × Int32) :=
  cal cM M (m_Row_size l2 M) fun r1 =>
  cal cM r1.1 (m_Terms_makeRoom r1.2 r1.1) fun r2 =>
  cal cM r2.1 (m_Terms_addNode l1 l2 l3 r2.1) fun r3 =>
  some (r3.1, r3.2)
def m_Terms_node_96 (k46 : Int32 × Nat × Int32 × Int32 × Int32 × MS → Option (MS × Int32)) (l1 : Int32) (l2 : Nat) (l3 : Int32) (l4 : Int32) (l5 : Int32) (M : MS) : Option (MS × Int32) :=
  (ldA M 9 l4).bind fun v1 =>
  k46 (l1, l2, l3, v1, (l5 + (1:Int32)), M)
def m_Terms_node_46b (k46 : Int32 × Nat × Int32 × Int32 × Int32 × MS → Option (MS × Int32)) (l1 : Int32) (l2 : Nat) (l3 : Int32) (l4 : Int32) (l5 : Int32) (M : MS) : Option (MS × Int32) :=
  if (gI M 2 16) ≤ l5 then (m_Terms_node_111 l1 l2 l3 M) else (if l4 = (-1:Int32) then (m_Terms_node_111 l1 l2 l3 M) else ((ldA M 8 l4).bind fun v1 =>
  if ¬ v1 = l3 then (m_Terms_node_96 k46 l1 l2 l3 l4 l5 M) else ((ldA M 3 l4).bind fun v2 =>
  if ¬ v2 = l1 then (m_Terms_node_96 k46 l1 l2 l3 l4 l5 M) else (cal cM M (m_Terms_hasJust l4 l2 M) fun r3 =>
  if r3.2 = 0 then (m_Terms_node_96 k46 l1 l2 l3 l4 l5 r3.1) else (some (r3.1, l4))))))
def m_Terms_node_46  (i : Int32 × Nat × Int32 × Int32 × Int32 × MS) : Option (MS × Int32) := fx (fun (k : Int32 × Nat × Int32 × Int32 × Int32 × MS → Option (MS × Int32)) (i : Int32 × Nat × Int32 × Int32 × Int32 × MS) => m_Terms_node_46b k i.1 i.2.1 i.2.2.1 i.2.2.2.1 i.2.2.2.2.1 i.2.2.2.2.2) FU i
def m_Terms_node_32  (l1 : Int32) (l2 : Nat) (l3 : Int32) (M : MS) : Option (MS × Int32) :=
  (ldA M 14 (xushr l3 (22:Int32))).bind fun v1 =>
  m_Terms_node_46 (l1, l2, l3, v1, (0:Int32), M)
def m_Terms_node_5b (k5 : Int32 × Nat × Int32 × Int32 × MS → Option (MS × Int32)) (l1 : Int32) (l2 : Nat) (l3 : Int32) (l4 : Int32) (M : MS) : Option (MS × Int32) :=
  cal cM M (m_Row_size l2 M) fun r1 =>
  if r1.2 ≤ l4 then (m_Terms_node_32 l1 l2 l3 r1.1) else (cal cM r1.1 (m_Row_get l2 l4 r1.1) fun r2 =>
  k5 (l1, l2, ((l3 + r2.2) * (-1640531535:Int32)), (l4 + (1:Int32)), r2.1))
def m_Terms_node_5  (i : Int32 × Nat × Int32 × Int32 × MS) : Option (MS × Int32) := fx (fun (k : Int32 × Nat × Int32 × Int32 × MS → Option (MS × Int32)) (i : Int32 × Nat × Int32 × Int32 × MS) => m_Terms_node_5b k i.1 i.2.1 i.2.2.1 i.2.2.2.1 i.2.2.2.2) FU i
def m_Terms_node (a1 : Int32) (a2 : Nat) (M : MS) : Option (MS × Int32) :=
  if x_kd a2 = 1 then (m_Terms_node_5 (a1, a2, a1, (0:Int32), M)) else none
def m_Terms_cat_103b (k103 : Int32 × Int32 × MS → Option (MS × Int32)) (l4 : Int32) (l5 : Int32) (M : MS) : Option (MS × Int32) :=
  if l5 < 0 then (some (M, l4)) else (cal cM M (m_Row_clear 15 M) fun r1 =>
  cal cM r1.1 (m_Row_get 17 l5 r1.1) fun r2 =>
  cal cM r2.1 (m_Row_add 15 r2.2 r2.1) fun r3 =>
  cal cM r3.1 (m_Row_add 15 l4 r3.1) fun r4 =>
  cal cM r4.1 (m_Terms_node (3:Int32) 15 r4.1) fun r5 =>
  k103 (r5.2, (l5 + (-1:Int32)), r5.1))
def m_Terms_cat_103  (i : Int32 × Int32 × MS) : Option (MS × Int32) := fx (fun (k : Int32 × Int32 × MS → Option (MS × Int32)) (i : Int32 × Int32 × MS) => m_Terms_cat_103b k i.1 i.2.1 i.2.2) FU i
def m_Terms_cat_81  (l2 : Int32) (l3 : Int32) (M : MS) : Option (MS × Int32) :=
  cal cM M (m_Row_add 17 l3 M) fun r1 =>
  cal cM r1.1 (m_Row_size 17 r1.1) fun r2 =>
  m_Terms_cat_103 (l2, (r2.2 - (1:Int32)), r2.1)
def m_Terms_cat_38b (k38 : Int32 × Int32 × Int32 × MS → Option (MS × Int32)) (l2 : Int32) (l3 : Int32) (l4 : Int32) (M : MS) : Option (MS × Int32) :=
  if (1000000:Int32) ≤ l4 then (m_Terms_cat_81 l2 l3 M) else ((ldA M 3 l3).bind fun v1 =>
  if ¬ v1 = (3:Int32) then (m_Terms_cat_81 l2 l3 M) else (cal cM M (m_Terms_kid l3 (0:Int32) M) fun r2 =>
  cal cM r2.1 (m_Row_add 17 r2.2 r2.1) fun r3 =>
  cal cM r3.1 (m_Terms_kid l3 (1:Int32) r3.1) fun r4 =>
  k38 (l2, r4.2, (l4 + (1:Int32)), r4.1)))
def m_Terms_cat_38  (i : Int32 × Int32 × Int32 × MS) : Option (MS × Int32) := fx (fun (k : Int32 × Int32 × Int32 × MS → Option (MS × Int32)) (i : Int32 × Int32 × Int32 × MS) => m_Terms_cat_38b k i.1 i.2.1 i.2.2.1 i.2.2.2) FU i
def m_Terms_cat (a1 : Int32) (a2 : Int32) (M : MS) : Option (MS × Int32) :=
  if a1 = 0 then (some (M, (0:Int32))) else (if ¬ a2 = 0 then (if ¬ a1 = (16:Int32) then (if ¬ a2 = (16:Int32) then (cal cM M (m_Row_clear 17 M) fun r1 =>
  m_Terms_cat_38 (a2, a1, (0:Int32), r1.1)) else (some (M, a1))) else (some (M, a2))) else (some (M, (0:Int32))))
def m_Gathering_begin (a1 : Int32) (M : MS) : Option (MS × Unit) :=
  cal cM M (m_Row_clear 22 M) fun r1 =>
  (some (sI r1.1 21 1 a1)).bind fun M2 =>
  (some (sI M2 21 2 (-1:Int32))).bind fun M3 =>
  (some (sI M3 21 3 (0:Int32))).bind fun M4 =>
  some (M4, ())
def m_Gathering_swallower  (M : MS) : Option (MS × Int32) :=
  if ¬ (gI M 21 1) = (4:Int32) then (some (M, (0:Int32))) else (some (M, (17:Int32)))
def m_Gathering_takeClass_40  (s1 : Int32) (M : MS) : Option (MS × Unit) :=
  (some (sI M 21 2 s1)).bind fun M1 =>
  some (M1, ())
def m_Gathering_takeClass (a1 : Int32) (M : MS) : Option (MS × Unit) :=
  if ¬ (gI M 21 2) = (-1:Int32) then (if ¬ (gI M 21 1) = (4:Int32) then (m_Gathering_takeClass_40 ((gI M 21 2) &&& a1) M) else (m_Gathering_takeClass_40 ((gI M 21 2) ||| a1) M)) else ((some (sI M 21 2 a1)).bind fun M1 =>
  some (M1, ()))
def m_Gathering_neutral  (M : MS) : Option (MS × Int32) :=
  if ¬ (gI M 21 1) = (4:Int32) then (some (M, (17:Int32))) else (some (M, (0:Int32)))
def m_Row_addInOrder_103  (l1 : Int32) (l2 : Int32) (M : MS) : Option (MS × Unit) :=
  (stA M 23 l2 l1).bind fun M1 =>
  (some (sI M1 22 1 ((gI M1 22 1) + (1:Int32)))).bind fun M2 =>
  some (M2, ())
def m_Row_addInOrder_78b (k78 : Int32 × Int32 × Int32 × MS → Option (MS × Unit)) (l1 : Int32) (l2 : Int32) (l3 : Int32) (M : MS) : Option (MS × Unit) :=
  if l3 ≤ l2 then (m_Row_addInOrder_103 l1 l2 M) else ((ldA M 23 (l3 - (1:Int32))).bind fun v1 =>
  (stA M 23 l3 v1).bind fun M2 =>
  k78 (l1, l2, (l3 + (-1:Int32)), M2))
def m_Row_addInOrder_78  (i : Int32 × Int32 × Int32 × MS) : Option (MS × Unit) := fx (fun (k : Int32 × Int32 × Int32 × MS → Option (MS × Unit)) (i : Int32 × Int32 × Int32 × MS) => m_Row_addInOrder_78b k i.1 i.2.1 i.2.2.1 i.2.2.2) FU i
def m_Row_addInOrder_44  (l1 : Int32) (l2 : Int32) (M : MS) : Option (MS × Unit) :=
  if ¬ (gI M 22 1) = (Int32.ofNat (gL M 23)) then (m_Row_addInOrder_78 (l1, l2, (gI M 22 1), M)) else ((stG M 23 ((gI M 22 1) * (2:Int32))).bind fun M1 =>
  m_Row_addInOrder_78 (l1, l2, (gI M1 22 1), M1))
def m_Row_addInOrder_27  (l1 : Int32) (l2 : Int32) (M : MS) : Option (MS × Unit) :=
  if l2 ≤ 0 then (m_Row_addInOrder_44 l1 l2 M) else ((ldA M 23 (l2 - (1:Int32))).bind fun v1 =>
  if ¬ v1 = l1 then (m_Row_addInOrder_44 l1 l2 M) else (some (M, ())))
def m_Row_addInOrder_5b (k5 : Int32 × Int32 × MS → Option (MS × Unit)) (l1 : Int32) (l2 : Int32) (M : MS) : Option (MS × Unit) :=
  if l2 ≤ 0 then (m_Row_addInOrder_27 l1 l2 M) else ((ldA M 23 (l2 - (1:Int32))).bind fun v1 =>
  if v1 ≤ l1 then (m_Row_addInOrder_27 l1 l2 M) else (k5 (l1, (l2 + (-1:Int32)), M)))
def m_Row_addInOrder_5  (i : Int32 × Int32 × MS) : Option (MS × Unit) := fx (fun (k : Int32 × Int32 × MS → Option (MS × Unit)) (i : Int32 × Int32 × MS) => m_Row_addInOrder_5b k i.1 i.2.1 i.2.2) FU i
def m_Row_addInOrder (a1 : Int32) (M : MS) : Option (MS × Unit) :=
  m_Row_addInOrder_5 (a1, (gI M 22 1), M)
def m_Gathering_take_34  (l1 : Int32) (M : MS) : Option (MS × Unit) :=
  cal cM M (m_Gathering_neutral M) fun r1 =>
  if l1 = r1.2 then (some (r1.1, ())) else (cal cM r1.1 (m_Row_addInOrder l1 r1.1) fun r2 =>
  some (r2.1, ()))
def m_Gathering_take (a1 : Int32) (M : MS) : Option (MS × Unit) :=
  cal cM M (m_Gathering_swallower M) fun r1 =>
  if ¬ a1 = r1.2 then (if (16:Int32) ≤ a1 then (m_Gathering_take_34 a1 r1.1) else (if a1 = 0 then (m_Gathering_take_34 a1 r1.1) else (cal cM r1.1 (m_Gathering_takeClass a1 r1.1) fun r2 =>
  some (r2.1, ())))) else ((some (sI r1.1 21 3 (1:Int32))).bind fun M3 =>
  some (M3, ()))
def m_Terms_gather_21b (k21 : Int32 × Int32 × MS → Option (MS × Unit)) (l2 : Int32) (l3 : Int32) (M : MS) : Option (MS × Unit) :=
  (ldA M 7 l2).bind fun v1 =>
  if v1 ≤ l3 then (some (M, ())) else (cal cM M (m_Terms_kid l2 l3 M) fun r2 =>
  cal cM r2.1 (m_Gathering_take r2.2 r2.1) fun r3 =>
  k21 (l2, (l3 + (1:Int32)), r3.1))
def m_Terms_gather_21  (i : Int32 × Int32 × MS) : Option (MS × Unit) := fx (fun (k : Int32 × Int32 × MS → Option (MS × Unit)) (i : Int32 × Int32 × MS) => m_Terms_gather_21b k i.1 i.2.1 i.2.2) FU i
def m_Terms_gather (a1 : Int32) (a2 : Int32) (M : MS) : Option (MS × Unit) :=
  (ldA M 3 a2).bind fun v1 =>
  if v1 = a1 then (m_Terms_gather_21 (a2, (0:Int32), M)) else (cal cM M (m_Gathering_take a2 M) fun r2 =>
  some (r2.1, ()))
def m_Gathering_single_14   (M : MS) : Option (MS × Int32) :=
  cal cM M (m_Gathering_swallower M) fun r1 =>
  some (r1.1, r1.2)
def m_Gathering_single_38   (M : MS) : Option (MS × Int32) :=
  cal cM M (m_Row_size 22 M) fun r1 =>
  if ¬ r1.2 = 0 then (cal cM r1.1 (m_Row_size 22 r1.1) fun r2 =>
  if ¬ r2.2 = (1:Int32) then (some (r2.1, (-1:Int32))) else (cal cM r2.1 (m_Row_get 22 (0:Int32) r2.1) fun r3 =>
  some (r3.1, r3.2))) else (cal cM r1.1 (m_Gathering_neutral r1.1) fun r4 =>
  some (r4.1, r4.2))
def m_Gathering_single  (M : MS) : Option (MS × Int32) :=
  if ¬ (gI M 21 3) = 0 then (m_Gathering_single_14 M) else (if ¬ (gI M 21 2) = 0 then (if (gI M 21 2) = (-1:Int32) then (m_Gathering_single_38 M) else (cal cM M (m_Row_addInOrder (gI M 21 2) M) fun r1 =>
  m_Gathering_single_38 r1.1)) else (m_Gathering_single_14 M))
def m_Gathering_own  (M : MS) : Option (MS × Nat) :=
  some (M, 22)
def m_Terms_gathered (a1 : Int32) (M : MS) : Option (MS × Int32) :=
  cal cM M (m_Gathering_single M) fun r1 =>
  if ¬ r1.2 = (-1:Int32) then (some (r1.1, r1.2)) else (cal cM r1.1 (m_Gathering_own r1.1) fun r2 =>
  if x_kd r2.2 = 1 then (cal cM r2.1 (m_Terms_node a1 r2.2 r2.1) fun r4 =>
  some (r4.1, r4.2)) else none)
def m_Terms_both (a1 : Int32) (a2 : Int32) (a3 : Int32) (M : MS) : Option (MS × Int32) :=
  cal cM M (m_Gathering_begin a1 M) fun r1 =>
  cal cM r1.1 (m_Terms_gather a1 a2 r1.1) fun r2 =>
  cal cM r2.1 (m_Terms_gather a1 a3 r2.1) fun r3 =>
  cal cM r3.1 (m_Terms_gathered a1 r3.1) fun r4 =>
  some (r4.1, r4.2)
def m_D_join_80  (l2 : Int32) (l3 : Int32) (s1 : Int32) (s3 : Int32) (M : MS) : Option (MS × Int32) :=
  (ldA M 1 l2).bind fun v1 =>
  (ldA M 1 l3).bind fun v2 =>
  cal cM M (m_Terms_both s3 v1 v2 M) fun r3 =>
  cal cM r3.1 (m_D_put s1 r3.2 r3.1) fun r4 =>
  some (r4.1, r4.2)
def m_D_join (a1 : Int32) (a2 : Int32) (a3 : Int32) (a4 : Int32) (M : MS) : Option (MS × Int32) :=
  cal cM M (m_D_checkSlot a1 M) fun r1 =>
  cal cM r1.1 (m_D_checkSlot a2 r1.1) fun r2 =>
  cal cM r2.1 (m_D_checkSlot a3 r2.1) fun r3 =>
  cal cM r3.1 (m_D_checkRange a4 (2:Int32) r3.1) fun r4 =>
  cal cM r4.1 (m_Explorer_tidy r4.1) fun r5 =>
  if ¬ a4 = 0 then (if ¬ a4 = (1:Int32) then (m_D_join_80 a2 a3 a1 (5:Int32) r5.1) else (m_D_join_80 a2 a3 a1 (4:Int32) r5.1)) else ((ldA r5.1 1 a2).bind fun v6 =>
  (ldA r5.1 1 a3).bind fun v7 =>
  cal cM r5.1 (m_Terms_cat v6 v7 r5.1) fun r8 =>
  cal cM r8.1 (m_D_put a1 r8.2 r8.1) fun r9 =>
  some (r9.1, r9.2))
def m_Terms_not (a1 : Int32) (M : MS) : Option (MS × Int32) :=
  if ¬ a1 = 0 then ((ldA M 3 a1).bind fun v1 =>
  if ¬ v1 = (6:Int32) then (cal cM M (m_Row_clear 15 M) fun r2 =>
  cal cM r2.1 (m_Row_add 15 a1 r2.1) fun r3 =>
  cal cM r3.1 (m_Terms_node (6:Int32) 15 r3.1) fun r4 =>
  some (r4.1, r4.2)) else (cal cM M (m_Terms_kid a1 (0:Int32) M) fun r5 =>
  some (r5.1, r5.2))) else (some (M, (17:Int32)))
def m_Terms_star (a1 : Int32) (M : MS) : Option (MS × Int32) :=
  if a1 = 0 then (some (M, (16:Int32))) else (if ¬ a1 = (16:Int32) then ((ldA M 3 a1).bind fun v1 =>
  if ¬ v1 = (7:Int32) then (cal cM M (m_Row_clear 15 M) fun r2 =>
  cal cM r2.1 (m_Row_add 15 a1 r2.1) fun r3 =>
  cal cM r3.1 (m_Terms_node (7:Int32) 15 r3.1) fun r4 =>
  some (r4.1, r4.2)) else (some (M, a1))) else (some (M, (16:Int32))))
def m_D_turn_63  (s1 : Int32) (s2 : Int32) (M : MS) : Option (MS × Int32) :=
  cal cM M (m_D_put s1 s2 M) fun r1 =>
  some (r1.1, r1.2)
def m_D_turn (a1 : Int32) (a2 : Int32) (a3 : Int32) (M : MS) : Option (MS × Int32) :=
  cal cM M (m_D_checkSlot a1 M) fun r1 =>
  cal cM r1.1 (m_D_checkSlot a2 r1.1) fun r2 =>
  cal cM r2.1 (m_D_checkRange a3 (1:Int32) r2.1) fun r3 =>
  cal cM r3.1 (m_Explorer_tidy r3.1) fun r4 =>
  if ¬ a3 = 0 then ((ldA r4.1 1 a2).bind fun v5 =>
  cal cM r4.1 (m_Terms_star v5 r4.1) fun r6 =>
  m_D_turn_63 a1 r6.2 r6.1) else ((ldA r4.1 1 a2).bind fun v7 =>
  cal cM r4.1 (m_Terms_not v7 r4.1) fun r8 =>
  m_D_turn_63 a1 r8.2 r8.1)
def m_Row_dropLast (a0 : Nat) (M : MS) : Option (MS × Unit) :=
  if x_kd a0 = 1 then (if (gI M a0 1) ≤ 0 then (some (M, ())) else ((some (sI M a0 1 ((gI M a0 1) - (1:Int32)))).bind fun M1 =>
  some (M1, ()))) else none
def m_Terms_asksForMore_105  (l3 : Int32) (M : MS) : Option (MS × Int32) :=
  cal cM M (m_Row_size 19 M) fun r1 =>
  if r1.2 ≤ l3 then (some (r1.1, (0:Int32))) else (some (r1.1, (1:Int32)))
def m_Terms_asksForMore_59b (k59 : Int32 × Int32 × Int32 × Int32 × Int32 × MS → Option (MS × Int32)) (l1 : Int32) (l2 : Int32) (l3 : Int32) (l5 : Int32) (l6 : Int32) (M : MS) : Option (MS × Int32) :=
  if l5 ≤ l6 then (m_Terms_asksForMore_105 l3 M) else (cal cM M (m_Terms_kid l1 l6 M) fun r1 =>
  (ldA r1.1 12 ((r1.2 * (4:Int32)) + l2)).bind fun v2 =>
  if ¬ v2 = (-1:Int32) then (k59 (l1, l2, l3, l5, (l6 + (1:Int32)), r1.1)) else (cal cM r1.1 (m_Row_add 19 r1.2 r1.1) fun r3 =>
  k59 (l1, l2, l3, l5, (l6 + (1:Int32)), r3.1)))
def m_Terms_asksForMore_59  (i : Int32 × Int32 × Int32 × Int32 × Int32 × MS) : Option (MS × Int32) := fx (fun (k : Int32 × Int32 × Int32 × Int32 × Int32 × MS → Option (MS × Int32)) (i : Int32 × Int32 × Int32 × Int32 × Int32 × MS) => m_Terms_asksForMore_59b k i.1 i.2.1 i.2.2.1 i.2.2.2.1 i.2.2.2.2.1 i.2.2.2.2.2) FU i
def m_Terms_asksForMore_37  (l1 : Int32) (l2 : Int32) (l3 : Int32) (s0 : Int32) (M : MS) : Option (MS × Int32) :=
  if s0 = 0 then ((ldA M 7 l1).bind fun v1 =>
  m_Terms_asksForMore_59 (l1, l2, l3, v1, (0:Int32), M)) else (m_Terms_asksForMore_59 (l1, l2, l3, (1:Int32), (0:Int32), M))
def m_Terms_asksForMore_36  (l1 : Int32) (l2 : Int32) (l3 : Int32) (M : MS) : Option (MS × Int32) :=
  m_Terms_asksForMore_37 l1 l2 l3 (0:Int32) M
def m_Terms_asksForMore (a1 : Int32) (a2 : Int32) (M : MS) : Option (MS × Int32) :=
  cal cM M (m_Row_size 19 M) fun r1 =>
  (ldA r1.1 3 a1).bind fun v2 =>
  if ¬ v2 = (3:Int32) then (m_Terms_asksForMore_36 a1 a2 r1.2 r1.1) else (cal cM r1.1 (m_Terms_kid a1 (0:Int32) r1.1) fun r3 =>
  (ldA r3.1 5 r3.2).bind fun v4 =>
  if ¬ v4 = 0 then (m_Terms_asksForMore_36 a1 a2 r1.2 r3.1) else (m_Terms_asksForMore_37 a1 a2 r1.2 (1:Int32) r3.1))
def m_Terms_kidAfter (a1 : Int32) (a2 : Int32) (a3 : Int32) (M : MS) : Option (MS × Int32) :=
  cal cM M (m_Terms_kid a1 a2 M) fun r1 =>
  (ldA r1.1 12 ((r1.2 * (4:Int32)) + a3)).bind fun v2 =>
  some (r1.1, v2)
def m_Terms_combined_177  (l1 : Int32) (M : MS) : Option (MS × Int32) :=
  (ldA M 3 l1).bind fun v1 =>
  cal cM M (m_Terms_gathered v1 M) fun r2 =>
  some (r2.1, r2.2)
def m_Terms_combined_142b (k142 : Int32 × Int32 × Int32 × MS → Option (MS × Int32)) (l1 : Int32) (l2 : Int32) (l4 : Int32) (M : MS) : Option (MS × Int32) :=
  (ldA M 7 l1).bind fun v1 =>
  if v1 ≤ l4 then (m_Terms_combined_177 l1 M) else ((ldA M 3 l1).bind fun v2 =>
  cal cM M (m_Terms_kidAfter l1 l4 l2 M) fun r3 =>
  cal cM r3.1 (m_Terms_gather v2 r3.2 r3.1) fun r4 =>
  k142 (l1, l2, (l4 + (1:Int32)), r4.1))
def m_Terms_combined_142  (i : Int32 × Int32 × Int32 × MS) : Option (MS × Int32) := fx (fun (k : Int32 × Int32 × Int32 × MS → Option (MS × Int32)) (i : Int32 × Int32 × Int32 × MS) => m_Terms_combined_142b k i.1 i.2.1 i.2.2.1 i.2.2.2) FU i
def m_Terms_combined (a1 : Int32) (a2 : Int32) (M : MS) : Option (MS × Int32) :=
  (ldA M 3 a1).bind fun v1 =>
  if v1 = (2:Int32) then (if ¬ ((a1 >>> (a2 &&& 31)) &&& (1:Int32)) = (1:Int32) then (some (M, (0:Int32))) else (some (M, (16:Int32)))) else (if v1 = (3:Int32) then (cal cM M (m_Terms_kidAfter a1 (0:Int32) a2 M) fun r2 =>
  cal cM r2.1 (m_Terms_kid a1 (1:Int32) r2.1) fun r3 =>
  cal cM r3.1 (m_Terms_cat r2.2 r3.2 r3.1) fun r4 =>
  cal cM r4.1 (m_Terms_kid a1 (0:Int32) r4.1) fun r5 =>
  (ldA r5.1 5 r5.2).bind fun v6 =>
  if ¬ v6 = 0 then (cal cM r5.1 (m_Gathering_begin (4:Int32) r5.1) fun r7 =>
  cal cM r7.1 (m_Terms_gather (4:Int32) r4.2 r7.1) fun r8 =>
  cal cM r8.1 (m_Terms_kidAfter a1 (1:Int32) a2 r8.1) fun r9 =>
  cal cM r9.1 (m_Terms_gather (4:Int32) r9.2 r9.1) fun r10 =>
  cal cM r10.1 (m_Terms_gathered (4:Int32) r10.1) fun r11 =>
  some (r11.1, r11.2)) else (some (r5.1, r4.2))) else (if v1 = (4:Int32) then ((ldA M 3 a1).bind fun v12 =>
  cal cM M (m_Gathering_begin v12 M) fun r13 =>
  m_Terms_combined_142 (a1, a2, (0:Int32), r13.1)) else (if v1 = (5:Int32) then ((ldA M 3 a1).bind fun v14 =>
  cal cM M (m_Gathering_begin v14 M) fun r15 =>
  m_Terms_combined_142 (a1, a2, (0:Int32), r15.1)) else (if v1 = (6:Int32) then (cal cM M (m_Terms_kidAfter a1 (0:Int32) a2 M) fun r16 =>
  cal cM r16.1 (m_Terms_not r16.2 r16.1) fun r17 =>
  some (r17.1, r17.2)) else (if v1 = (7:Int32) then (cal cM M (m_Terms_kidAfter a1 (0:Int32) a2 M) fun r18 =>
  cal cM r18.1 (m_Terms_cat r18.2 a1 r18.1) fun r19 =>
  some (r19.1, r19.2)) else (some (M, (0:Int32))))))))
def m_Terms_derivative_121  (l1 : Int32) (l2 : Int32) (M : MS) : Option (MS × Int32) :=
  (ldA M 12 ((l1 * (4:Int32)) + l2)).bind fun v1 =>
  some (M, v1)
def m_Terms_derivative_17b (k17 : Int32 × Int32 × Int32 × MS → Option (MS × Int32)) (l1 : Int32) (l2 : Int32) (l3 : Int32) (M : MS) : Option (MS × Int32) :=
  if (1000000:Int32) ≤ l3 then (m_Terms_derivative_121 l1 l2 M) else (cal cM M (m_Row_size 19 M) fun r1 =>
  if r1.2 ≤ 0 then (m_Terms_derivative_121 l1 l2 r1.1) else (cal cM r1.1 (m_Row_size 19 r1.1) fun r2 =>
  cal cM r2.1 (m_Row_get 19 (r2.2 - (1:Int32)) r2.1) fun r3 =>
  (ldA r3.1 12 ((r3.2 * (4:Int32)) + l2)).bind fun v4 =>
  if v4 = (-1:Int32) then (cal cM r3.1 (m_Terms_asksForMore r3.2 l2 r3.1) fun r5 =>
  if ¬ r5.2 = 0 then (k17 (l1, l2, (l3 + (1:Int32)), r5.1)) else (cal cM r5.1 (m_Terms_combined r3.2 l2 r5.1) fun r6 =>
  (stA r6.1 12 ((r3.2 * (4:Int32)) + l2) r6.2).bind fun M7 =>
  cal cM M7 (m_Row_dropLast 19 M7) fun r8 =>
  k17 (l1, l2, (l3 + (1:Int32)), r8.1))) else (cal cM r3.1 (m_Row_dropLast 19 r3.1) fun r9 =>
  k17 (l1, l2, (l3 + (1:Int32)), r9.1))))
def m_Terms_derivative_17  (i : Int32 × Int32 × Int32 × MS) : Option (MS × Int32) := fx (fun (k : Int32 × Int32 × Int32 × MS → Option (MS × Int32)) (i : Int32 × Int32 × Int32 × MS) => m_Terms_derivative_17b k i.1 i.2.1 i.2.2.1 i.2.2.2) FU i
def m_Terms_derivative (a1 : Int32) (a2 : Int32) (M : MS) : Option (MS × Int32) :=
  cal cM M (m_Row_clear 19 M) fun r1 =>
  cal cM r1.1 (m_Row_add 19 a1 r1.1) fun r2 =>
  m_Terms_derivative_17 (a1, a2, (0:Int32), r2.1)
def m_D_derive (a1 : Int32) (a2 : Int32) (a3 : Int32) (M : MS) : Option (MS × Int32) :=
  cal cM M (m_D_checkSlot a1 M) fun r1 =>
  cal cM r1.1 (m_D_checkSlot a2 r1.1) fun r2 =>
  cal cM r2.1 (m_D_checkRange a3 (3:Int32) r2.1) fun r3 =>
  cal cM r3.1 (m_Explorer_tidy r3.1) fun r4 =>
  (ldA r4.1 1 a2).bind fun v5 =>
  cal cM r4.1 (m_Terms_derivative v5 a3 r4.1) fun r6 =>
  cal cM r6.1 (m_D_put a1 r6.2 r6.1) fun r7 =>
  some (r7.1, r7.2)
def m_D_similar (a1 : Int32) (a2 : Int32) (M : MS) : Option (MS × Int32) :=
  cal cM M (m_D_checkSlot a1 M) fun r1 =>
  cal cM r1.1 (m_D_checkSlot a2 r1.1) fun r2 =>
  (ldA r2.1 1 a1).bind fun v3 =>
  (ldA r2.1 1 a2).bind fun v4 =>
  if ¬ v3 = v4 then (some (r2.1, (0:Int32))) else (some (r2.1, (1:Int32)))
def m_Terms_tagOf (a1 : Int32) (M : MS) : Option (MS × Int32) :=
  (ldA M 10 a1).bind fun v1 =>
  some (M, v1)
def m_WordCheck_isArranged (a2 : Int32) (M : MS) : Option (MS × Int32) :=
  cal cM M (m_Terms_tagOf a2 M) fun r1 =>
  if (gI r1.1 75 3) ≤ r1.2 then (some (r1.1, (0:Int32))) else ((ldA r1.1 76 r1.2).bind fun v2 =>
  if ¬ v2 = a2 then (some (r1.1, (0:Int32))) else (some (r1.1, (1:Int32))))
def m_Terms_countOf (a1 : Int32) (M : MS) : Option (MS × Int32) :=
  (ldA M 7 a1).bind fun v1 =>
  some (M, v1)
def m_WordCheck_asksForMore_56  (l3 : Int32) (M : MS) : Option (MS × Int32) :=
  cal cM M (m_Row_size 78 M) fun r1 =>
  if r1.2 ≤ l3 then (some (r1.1, (0:Int32))) else (some (r1.1, (1:Int32)))
def m_WordCheck_asksForMore_11b (k11 : Int32 × Int32 × Int32 × MS → Option (MS × Int32)) (l2 : Int32) (l3 : Int32) (l4 : Int32) (M : MS) : Option (MS × Int32) :=
  cal cM M (m_Terms_countOf l2 M) fun r1 =>
  if r1.2 ≤ l4 then (m_WordCheck_asksForMore_56 l3 r1.1) else (cal cM r1.1 (m_Terms_kid l2 l4 r1.1) fun r2 =>
  cal cM r2.1 (m_WordCheck_isArranged r2.2 r2.1) fun r3 =>
  if ¬ r3.2 = 0 then (k11 (l2, l3, (l4 + (1:Int32)), r3.1)) else (cal cM r3.1 (m_Terms_kid l2 l4 r3.1) fun r4 =>
  cal cM r4.1 (m_Row_add 78 r4.2 r4.1) fun r5 =>
  k11 (l2, l3, (l4 + (1:Int32)), r5.1)))
def m_WordCheck_asksForMore_11  (i : Int32 × Int32 × Int32 × MS) : Option (MS × Int32) := fx (fun (k : Int32 × Int32 × Int32 × MS → Option (MS × Int32)) (i : Int32 × Int32 × Int32 × MS) => m_WordCheck_asksForMore_11b k i.1 i.2.1 i.2.2.1 i.2.2.2) FU i
def m_WordCheck_asksForMore (a2 : Int32) (M : MS) : Option (MS × Int32) :=
  cal cM M (m_Row_size 78 M) fun r1 =>
  m_WordCheck_asksForMore_11 (a2, r1.2, (0:Int32), r1.1)
def m_Terms_setTag (a1 : Int32) (a2 : Int32) (M : MS) : Option (MS × Unit) :=
  (stA M 10 a1 a2).bind fun M1 =>
  some (M1, ())
def m_WordCheck_arrange_22b (k22 : Int32 × MS → Option (MS × Unit)) (l3 : Int32) (M : MS) : Option (MS × Unit) :=
  if (1000000:Int32) ≤ l3 then (some (M, ())) else (cal cM M (m_Row_size 78 M) fun r1 =>
  if r1.2 ≤ 0 then (some (r1.1, ())) else (cal cM r1.1 (m_Row_size 78 r1.1) fun r2 =>
  cal cM r2.1 (m_Row_get 78 (r2.2 - (1:Int32)) r2.1) fun r3 =>
  cal cM r3.1 (m_WordCheck_isArranged r3.2 r3.1) fun r4 =>
  if r4.2 = 0 then (cal cM r4.1 (m_WordCheck_asksForMore r3.2 r4.1) fun r5 =>
  if ¬ r5.2 = 0 then (k22 ((l3 + (1:Int32)), r5.1)) else (if (100:Int32) ≤ (gI r5.1 75 3) then (k22 ((l3 + (1:Int32)), r5.1)) else ((stA r5.1 76 (gI r5.1 75 3) r3.2).bind fun M6 =>
  cal cM M6 (m_Terms_setTag r3.2 (gI M6 75 3) M6) fun r7 =>
  (some (sI r7.1 75 3 ((gI r7.1 75 3) + (1:Int32)))).bind fun M8 =>
  cal cM M8 (m_Row_dropLast 78 M8) fun r9 =>
  k22 ((l3 + (1:Int32)), r9.1)))) else (cal cM r4.1 (m_Row_dropLast 78 r4.1) fun r10 =>
  k22 ((l3 + (1:Int32)), r10.1))))
def m_WordCheck_arrange_22  (i : Int32 × MS) : Option (MS × Unit) := fx (fun (k : Int32 × MS → Option (MS × Unit)) (i : Int32 × MS) => m_WordCheck_arrange_22b k i.1 i.2) FU i
def m_WordCheck_arrange (a2 : Int32) (M : MS) : Option (MS × Unit) :=
  (some (sI M 75 3 (0:Int32))).bind fun M1 =>
  cal cM M1 (m_Row_clear 78 M1) fun r2 =>
  cal cM r2.1 (m_Row_add 78 a2 r2.1) fun r3 =>
  m_WordCheck_arrange_22 ((0:Int32), r3.1)
def m_Terms_sortOf (a1 : Int32) (M : MS) : Option (MS × Int32) :=
  (ldA M 3 a1).bind fun v1 =>
  some (M, v1)
def m_WordCheck_letterAt (a1 : Int32) (M : MS) : Option (MS × Int32) :=
  some (M, ((xushr (gI M 75 4) ((2:Int32) * (((gI M 75 5) - (1:Int32)) - a1))) &&& (3:Int32)))
def m_WordCheck_endBitsOf (a2 : Int32) (a3 : Int32) (M : MS) : Option (MS × Int32) :=
  cal cM M (m_Terms_tagOf a2 M) fun r1 =>
  (ldA r1.1 77 ((r1.2 * (17:Int32)) + a3)).bind fun v2 =>
  some (r1.1, v2)
def m_WordCheck_goneOn_6b (k6 : Int32 × Int32 × Int32 × Int32 × MS → Option (MS × Int32)) (l2 : Int32) (l3 : Int32) (l4 : Int32) (l5 : Int32) (M : MS) : Option (MS × Int32) :=
  if (gI M 75 5) < l5 then (some (M, l4)) else (if ¬ ((l2 >>> (l5 &&& 31)) &&& (1:Int32)) = (1:Int32) then (k6 (l2, l3, l4, (l5 + (1:Int32)), M)) else (cal cM M (m_WordCheck_endBitsOf l3 l5 M) fun r1 =>
  k6 (l2, l3, (l4 ||| r1.2), (l5 + (1:Int32)), r1.1)))
def m_WordCheck_goneOn_6  (i : Int32 × Int32 × Int32 × Int32 × MS) : Option (MS × Int32) := fx (fun (k : Int32 × Int32 × Int32 × Int32 × MS → Option (MS × Int32)) (i : Int32 × Int32 × Int32 × Int32 × MS) => m_WordCheck_goneOn_6b k i.1 i.2.1 i.2.2.1 i.2.2.2.1 i.2.2.2.2) FU i
def m_WordCheck_goneOn (a2 : Int32) (a3 : Int32) (M : MS) : Option (MS × Int32) :=
  m_WordCheck_goneOn_6 (a2, a3, (0:Int32), (0:Int32), M)
def m_WordCheck_merged_17b (k17 : Int32 × Int32 × Int32 × Int32 × MS → Option (MS × Int32)) (l2 : Int32) (l3 : Int32) (l4 : Int32) (l5 : Int32) (M : MS) : Option (MS × Int32) :=
  cal cM M (m_Terms_countOf l2 M) fun r1 =>
  if r1.2 ≤ l5 then (some (r1.1, l4)) else (cal cM r1.1 (m_Terms_kid l2 l5 r1.1) fun r2 =>
  cal cM r2.1 (m_WordCheck_endBitsOf r2.2 l3 r2.1) fun r3 =>
  cal cM r3.1 (m_Terms_sortOf l2 r3.1) fun r4 =>
  if ¬ r4.2 = (4:Int32) then (k17 (l2, l3, (l4 &&& r3.2), (l5 + (1:Int32)), r4.1)) else (k17 (l2, l3, (l4 ||| r3.2), (l5 + (1:Int32)), r4.1)))
def m_WordCheck_merged_17  (i : Int32 × Int32 × Int32 × Int32 × MS) : Option (MS × Int32) := fx (fun (k : Int32 × Int32 × Int32 × Int32 × MS → Option (MS × Int32)) (i : Int32 × Int32 × Int32 × Int32 × MS) => m_WordCheck_merged_17b k i.1 i.2.1 i.2.2.1 i.2.2.2.1 i.2.2.2.2) FU i
def m_WordCheck_merged (a2 : Int32) (a3 : Int32) (M : MS) : Option (MS × Int32) :=
  cal cM M (m_Terms_kid a2 (0:Int32) M) fun r1 =>
  cal cM r1.1 (m_WordCheck_endBitsOf r1.2 a3 r1.1) fun r2 =>
  m_WordCheck_merged_17 (a2, a3, r2.2, (1:Int32), r2.1)
def m_WordCheck_endsFrom (a2 : Int32) (a3 : Int32) (M : MS) : Option (MS × Int32) :=
  (ldA M 76 a2).bind fun v1 =>
  cal cM M (m_Terms_sortOf v1 M) fun r2 =>
  if r2.2 = (1:Int32) then (some (r2.1, ((1:Int32) <<< (a3 &&& 31)))) else (if r2.2 = (2:Int32) then (if (gI r2.1 75 5) ≤ a3 then (some (r2.1, (0:Int32))) else (cal cM r2.1 (m_WordCheck_letterAt a3 r2.1) fun r3 =>
  if ¬ ((v1 >>> (r3.2 &&& 31)) &&& (1:Int32)) = (1:Int32) then (some (r3.1, (0:Int32))) else (some (r3.1, (((1:Int32) <<< (a3 &&& 31)) <<< ((1:Int32) &&& 31)))))) else (if r2.2 = (3:Int32) then (cal cM r2.1 (m_Terms_kid v1 (0:Int32) r2.1) fun r4 =>
  cal cM r4.1 (m_WordCheck_endBitsOf r4.2 a3 r4.1) fun r5 =>
  cal cM r5.1 (m_Terms_kid v1 (1:Int32) r5.1) fun r6 =>
  cal cM r6.1 (m_WordCheck_goneOn r5.2 r6.2 r6.1) fun r7 =>
  some (r7.1, r7.2)) else (if r2.2 = (4:Int32) then (cal cM r2.1 (m_WordCheck_merged v1 a3 r2.1) fun r8 =>
  some (r8.1, r8.2)) else (if r2.2 = (5:Int32) then (cal cM r2.1 (m_WordCheck_merged v1 a3 r2.1) fun r9 =>
  some (r9.1, r9.2)) else (if r2.2 = (6:Int32) then (cal cM r2.1 (m_Terms_kid v1 (0:Int32) r2.1) fun r10 =>
  cal cM r10.1 (m_WordCheck_endBitsOf r10.2 a3 r10.1) fun r11 =>
  some (r11.1, ((((1:Int32) <<< (((gI r2.1 75 5) + (1:Int32)) &&& 31)) - ((1:Int32) <<< (a3 &&& 31))) &&& (r11.2 ^^^ (-1:Int32))))) else (if r2.2 = (7:Int32) then (cal cM r2.1 (m_Terms_kid v1 (0:Int32) r2.1) fun r12 =>
  cal cM r12.1 (m_WordCheck_endBitsOf r12.2 a3 r12.1) fun r13 =>
  cal cM r13.1 (m_WordCheck_goneOn (r13.2 &&& (((1:Int32) <<< (a3 &&& 31)) ^^^ (-1:Int32))) v1 r13.1) fun r14 =>
  some (r14.1, (((1:Int32) <<< (a3 &&& 31)) ||| r14.2))) else (some (r2.1, (0:Int32)))))))))
def m_WordCheck_accepts_74  (l2 : Int32) (M : MS) : Option (MS × Int32) :=
  cal cM M (m_WordCheck_endBitsOf l2 (0:Int32) M) fun r1 =>
  if ¬ ((r1.2 >>> ((gI r1.1 75 5) &&& 31)) &&& (1:Int32)) = (1:Int32) then (some (r1.1, (0:Int32))) else (some (r1.1, (1:Int32)))
def m_WordCheck_accepts_35b (k20 : Int32 × Int32 × MS → Option (MS × Int32)) (k35 : Int32 × Int32 × Int32 × MS → Option (MS × Int32)) (l2 : Int32) (l5 : Int32) (l6 : Int32) (M : MS) : Option (MS × Int32) :=
  if l6 < 0 then (k20 (l2, (l5 + (1:Int32)), M)) else (cal cM M (m_WordCheck_endsFrom l5 l6 M) fun r1 =>
  (stA r1.1 77 ((l5 * (17:Int32)) + l6) r1.2).bind fun M2 =>
  k35 (l2, l5, (l6 + (-1:Int32)), M2))
def m_WordCheck_accepts_35 (k20 : Int32 × Int32 × MS → Option (MS × Int32)) (i : Int32 × Int32 × Int32 × MS) : Option (MS × Int32) := fx (fun (k : Int32 × Int32 × Int32 × MS → Option (MS × Int32)) (i : Int32 × Int32 × Int32 × MS) => m_WordCheck_accepts_35b k20 k i.1 i.2.1 i.2.2.1 i.2.2.2) FU i
def m_WordCheck_accepts_20b (k20 : Int32 × Int32 × MS → Option (MS × Int32)) (l2 : Int32) (l5 : Int32) (M : MS) : Option (MS × Int32) :=
  if (gI M 75 3) ≤ l5 then (m_WordCheck_accepts_74 l2 M) else (m_WordCheck_accepts_35 k20 (l2, l5, (gI M 75 5), M))
def m_WordCheck_accepts_20  (i : Int32 × Int32 × MS) : Option (MS × Int32) := fx (fun (k : Int32 × Int32 × MS → Option (MS × Int32)) (i : Int32 × Int32 × MS) => m_WordCheck_accepts_20b k i.1 i.2.1 i.2.2) FU i
def m_WordCheck_accepts (a2 : Int32) (a3 : Int32) (a4 : Int32) (M : MS) : Option (MS × Int32) :=
  (some (sI M 75 4 a3)).bind fun M1 =>
  (some (sI M1 75 5 a4)).bind fun M2 =>
  cal cM M2 (m_WordCheck_arrange a2 M2) fun r3 =>
  m_WordCheck_accepts_20 (a2, (0:Int32), r3.1)
def m_D_has (a1 : Int32) (a2 : Int32) (a3 : Int32) (M : MS) : Option (MS × Int32) :=
  cal cM M (m_D_checkSlot a1 M) fun r1 =>
  cal cM r1.1 (m_D_checkRange a3 (16:Int32) r1.1) fun r2 =>
  (ldA r2.1 1 a1).bind fun v3 =>
  cal cM r2.1 (m_WordCheck_accepts v3 a2 a3 r2.1) fun r4 =>
  some (r4.1, nb r4.2)
def m_Machine_isKnown (a0 : Nat) (M : MS) : Option (MS × Int32) :=
  if x_kd a0 = 4 then (if (gI M a0 2) = 0 then (some (M, (0:Int32))) else (some (M, (1:Int32)))) else none
def m_Terms_isNullable (a1 : Int32) (M : MS) : Option (MS × Int32) :=
  (ldA M 5 a1).bind fun v1 =>
  if ¬ v1 = (1:Int32) then (some (M, (0:Int32))) else (some (M, (1:Int32)))
def m_Machine_setAccepting (a0 : Nat) (a1 : Int32) (a2 : Int32) (M : MS) : Option (MS × Unit) :=
  if x_kd a0 = 4 then ((stZ M (x_sr a0 1) a1 a2).bind fun M1 =>
  some (M1, ())) else none
def m_Explorer_placeOf (a1 : Int32) (a2 : Int32) (M : MS) : Option (MS × Int32) :=
  cal cM M (m_Terms_tagOf a1 M) fun r1 =>
  if a2 ≤ r1.2 then (some (r1.1, a2)) else ((ldA r1.1 26 r1.2).bind fun v2 =>
  if ¬ v2 = a1 then (some (r1.1, a2)) else (some (r1.1, r1.2)))
def m_Machine_setNext (a0 : Nat) (a1 : Int32) (a2 : Int32) (a3 : Int32) (M : MS) : Option (MS × Unit) :=
  if x_kd a0 = 4 then ((stA M (x_sr a0 0) ((a1 * (4:Int32)) + a2) a3).bind fun M1 =>
  some (M1, ())) else none
def m_Explorer_machineOf_203  (l4 : Nat) (l5 : Int32) (M : MS) : Option (MS × Nat) :=
  cal cM M (m_Machine_setCount l4 l5 M) fun r1 =>
  some (r1.1, l4)
def m_Explorer_machineOf_180 (k45 : Nat × Int32 × Int32 × MS → Option (MS × Nat)) (k81 : Nat × Int32 × Int32 × Int32 × MS → Option (MS × Nat)) (l4 : Nat) (l5 : Int32) (l6 : Int32) (l7 : Int32) (l9 : Int32) (M : MS) : Option (MS × Nat) :=
  cal cM M (m_Machine_setNext l4 l6 l7 l9 M) fun r1 =>
  k81 (l4, l5, l6, (l7 + (1:Int32)), r1.1)
def m_Explorer_machineOf_151  (l4 : Nat) (M : MS) : Option (MS × Nat) :=
  cal cM M (m_Machine_setCount l4 (-1:Int32) M) fun r1 =>
  some (r1.1, l4)
def m_Explorer_machineOf_81b (k45 : Nat × Int32 × Int32 × MS → Option (MS × Nat)) (k81 : Nat × Int32 × Int32 × Int32 × MS → Option (MS × Nat)) (l4 : Nat) (l5 : Int32) (l6 : Int32) (l7 : Int32) (M : MS) : Option (MS × Nat) :=
  if (4:Int32) ≤ l7 then (k45 (l4, l5, (l6 + (1:Int32)), M)) else (cal cM M (m_Terms_tidy l5 M) fun r1 =>
  (ldA r1.1 26 l6).bind fun v2 =>
  cal cM r1.1 (m_Terms_derivative v2 l7 r1.1) fun r3 =>
  cal cM r3.1 (m_Explorer_placeOf r3.2 l5 r3.1) fun r4 =>
  if ¬ r4.2 = l5 then (m_Explorer_machineOf_180 k45 k81 l4 l5 l6 l7 r4.2 r4.1) else (if l5 = (150:Int32) then (m_Explorer_machineOf_151 l4 r4.1) else (cal cM r4.1 (m_Terms_sizeOf r3.2 r4.1) fun r5 =>
  if r5.2 ≤ (300:Int32) then ((stA r5.1 26 l5 r3.2).bind fun M6 =>
  cal cM M6 (m_Terms_setTag r3.2 l5 M6) fun r7 =>
  m_Explorer_machineOf_180 k45 k81 l4 (l5 + (1:Int32)) l6 l7 r4.2 r7.1) else (m_Explorer_machineOf_151 l4 r5.1))))
def m_Explorer_machineOf_81 (k45 : Nat × Int32 × Int32 × MS → Option (MS × Nat)) (i : Nat × Int32 × Int32 × Int32 × MS) : Option (MS × Nat) := fx (fun (k : Nat × Int32 × Int32 × Int32 × MS → Option (MS × Nat)) (i : Nat × Int32 × Int32 × Int32 × MS) => m_Explorer_machineOf_81b k45 k i.1 i.2.1 i.2.2.1 i.2.2.2.1 i.2.2.2.2) FU i
def m_Explorer_machineOf_45b (k45 : Nat × Int32 × Int32 × MS → Option (MS × Nat)) (l4 : Nat) (l5 : Int32) (l6 : Int32) (M : MS) : Option (MS × Nat) :=
  if l5 ≤ l6 then (m_Explorer_machineOf_203 l4 l5 M) else (if (150:Int32) ≤ l6 then (m_Explorer_machineOf_203 l4 l5 M) else ((ldA M 26 l6).bind fun v1 =>
  cal cM M (m_Terms_isNullable v1 M) fun r2 =>
  cal cM r2.1 (m_Machine_setAccepting l4 l6 r2.2 r2.1) fun r3 =>
  m_Explorer_machineOf_81 k45 (l4, l5, l6, (0:Int32), r3.1)))
def m_Explorer_machineOf_45  (i : Nat × Int32 × Int32 × MS) : Option (MS × Nat) := fx (fun (k : Nat × Int32 × Int32 × MS → Option (MS × Nat)) (i : Nat × Int32 × Int32 × MS) => m_Explorer_machineOf_45b k i.1 i.2.1 i.2.2.1 i.2.2.2) FU i
def m_Explorer_machineOf (a1 : Int32) (M : MS) : Option (MS × Nat) :=
  (ldQ M 25 a1).bind fun v1 => if x_kd v1 = 4 then (cal cM M (m_Machine_isKnown v1 M) fun r3 =>
  if r3.2 = 0 then ((ldA r3.1 1 a1).bind fun v4 =>
  (stA r3.1 26 (0:Int32) v4).bind fun M5 =>
  (ldA M5 26 (0:Int32)).bind fun v6 =>
  cal cM M5 (m_Terms_setTag v6 (0:Int32) M5) fun r7 =>
  m_Explorer_machineOf_45 (v1, (1:Int32), (0:Int32), r7.1)) else (some (r3.1, v1))) else none
def m_Machine_count (a0 : Nat) (M : MS) : Option (MS × Int32) :=
  if x_kd a0 = 4 then (some (M, (gI M a0 2))) else none
def m_D_states (a1 : Int32) (M : MS) : Option (MS × Int32) :=
  cal cM M (m_D_checkSlot a1 M) fun r1 =>
  cal cM r1.1 (m_Explorer_machineOf a1 r1.1) fun r2 =>
  if x_kd r2.2 = 4 then (cal cM r2.1 (m_Machine_count r2.2 r2.1) fun r4 =>
  some (r4.1, r4.2)) else none
def m_Machine_isTooLarge (a0 : Nat) (M : MS) : Option (MS × Int32) :=
  if x_kd a0 = 4 then (if ¬ (gI M a0 2) = (-1:Int32) then (some (M, (0:Int32))) else (some (M, (1:Int32)))) else none
def m_Machine_isAccepting (a0 : Nat) (a1 : Int32) (M : MS) : Option (MS × Int32) :=
  if x_kd a0 = 4 then ((ldA M (x_sr a0 1) a1).bind fun v1 =>
  some (M, nb v1)) else none
def m_Splitter_splitByEmptyWord_47 (k4 : Nat × Int32 × Int32 × MS → Option (MS × Int32)) (l1 : Nat) (l2 : Int32) (l3 : Int32) (l4 : Int32) (s1 : Int32) (s2 : Int32) (M : MS) : Option (MS × Int32) :=
  (stA M 81 s1 s2).bind fun M1 =>
  if l4 = 0 then (k4 (l1, (2:Int32), (l3 + (1:Int32)), M1)) else (k4 (l1, l2, (l3 + (1:Int32)), M1))
def m_Splitter_splitByEmptyWord_30 (k4 : Nat × Int32 × Int32 × MS → Option (MS × Int32)) (l1 : Nat) (l2 : Int32) (l3 : Int32) (s0 : Int32) (M : MS) : Option (MS × Int32) :=
  if s0 = 0 then (m_Splitter_splitByEmptyWord_47 k4 l1 l2 l3 s0 l3 (1:Int32) M) else (m_Splitter_splitByEmptyWord_47 k4 l1 l2 l3 s0 l3 (0:Int32) M)
def m_Splitter_splitByEmptyWord_4b (k4 : Nat × Int32 × Int32 × MS → Option (MS × Int32)) (l1 : Nat) (l2 : Int32) (l3 : Int32) (M : MS) : Option (MS × Int32) :=
  cal cM M (m_Machine_count l1 M) fun r1 =>
  if r1.2 ≤ l3 then (some (r1.1, l2)) else (cal cM r1.1 (m_Machine_isAccepting l1 l3 r1.1) fun r2 =>
  cal cM r2.1 (m_Machine_isAccepting l1 (0:Int32) r2.1) fun r3 =>
  if ¬ r2.2 = r3.2 then (m_Splitter_splitByEmptyWord_30 k4 l1 l2 l3 (0:Int32) r3.1) else (m_Splitter_splitByEmptyWord_30 k4 l1 l2 l3 (1:Int32) r3.1))
def m_Splitter_splitByEmptyWord_4  (i : Nat × Int32 × Int32 × MS) : Option (MS × Int32) := fx (fun (k : Nat × Int32 × Int32 × MS → Option (MS × Int32)) (i : Nat × Int32 × Int32 × MS) => m_Splitter_splitByEmptyWord_4b k i.1 i.2.1 i.2.2.1 i.2.2.2) FU i
def m_Splitter_splitByEmptyWord (a1 : Nat) (M : MS) : Option (MS × Int32) :=
  if x_kd a1 = 4 then (m_Splitter_splitByEmptyWord_4 (a1, (1:Int32), (0:Int32), M)) else none
def m_Machine_next (a0 : Nat) (a1 : Int32) (a2 : Int32) (M : MS) : Option (MS × Int32) :=
  if x_kd a0 = 4 then ((ldA M (x_sr a0 0) ((a1 * (4:Int32)) + a2)).bind fun v1 =>
  some (M, v1)) else none
def m_Splitter_entryFor_11b (k11 : Int32 × Int32 × Int32 × Int32 × MS → Option (MS × Int32)) (l2 : Int32) (l3 : Int32) (l4 : Int32) (l5 : Int32) (M : MS) : Option (MS × Int32) :=
  if l3 ≤ l5 then (some (M, l3)) else (if l4 = (-1:Int32) then (some (M, l3)) else ((ldA M 85 l4).bind fun v1 =>
  if ¬ v1 = l2 then ((ldA M 84 l4).bind fun v2 =>
  k11 (l2, l3, v2, (l5 + (1:Int32)), M)) else (some (M, l4))))
def m_Splitter_entryFor_11  (i : Int32 × Int32 × Int32 × Int32 × MS) : Option (MS × Int32) := fx (fun (k : Int32 × Int32 × Int32 × Int32 × MS → Option (MS × Int32)) (i : Int32 × Int32 × Int32 × Int32 × MS) => m_Splitter_entryFor_11b k i.1 i.2.1 i.2.2.1 i.2.2.2.1 i.2.2.2.2) FU i
def m_Splitter_entryFor (a1 : Int32) (a2 : Int32) (a3 : Int32) (M : MS) : Option (MS × Int32) :=
  (ldA M 83 a1).bind fun v1 =>
  m_Splitter_entryFor_11 (a2, a3, v1, (0:Int32), M)
def m_Splitter_splitByLetter_136  (l1 : Nat) (l4 : Int32) (M : MS) : Option (MS × Int32) :=
  cal cM M (m_Machine_count l1 M) fun r1 =>
  (stC r1.1 82 (0:Int32) 81 (0:Int32) r1.2).bind fun M2 =>
  some (M2, l4)
def m_Splitter_splitByLetter_121 (k29 : Nat × Int32 × Int32 × Int32 × MS → Option (MS × Int32)) (l1 : Nat) (l2 : Int32) (l4 : Int32) (l5 : Int32) (l7 : Int32) (M : MS) : Option (MS × Int32) :=
  (stA M 82 l5 l7).bind fun M1 =>
  k29 (l1, l2, l4, (l5 + (1:Int32)), M1)
def m_Splitter_splitByLetter_29b (k29 : Nat × Int32 × Int32 × Int32 × MS → Option (MS × Int32)) (l1 : Nat) (l2 : Int32) (l4 : Int32) (l5 : Int32) (M : MS) : Option (MS × Int32) :=
  cal cM M (m_Machine_count l1 M) fun r1 =>
  if r1.2 ≤ l5 then (m_Splitter_splitByLetter_136 l1 l4 r1.1) else (cal cM r1.1 (m_Machine_next l1 l5 l2 r1.1) fun r2 =>
  (ldA r2.1 81 r2.2).bind fun v3 =>
  (ldA r2.1 81 l5).bind fun v4 =>
  cal cM r2.1 (m_Splitter_entryFor v4 v3 l4 r2.1) fun r5 =>
  if ¬ r5.2 = l4 then (m_Splitter_splitByLetter_121 k29 l1 l2 l4 l5 r5.2 r5.1) else ((stA r5.1 85 l4 v3).bind fun M6 =>
  (ldA M6 81 l5).bind fun v7 =>
  (ldA M6 83 v7).bind fun v8 =>
  (stA M6 84 l4 v8).bind fun M9 =>
  (ldA M9 81 l5).bind fun v10 =>
  (stA M9 83 v10 l4).bind fun M11 =>
  m_Splitter_splitByLetter_121 k29 l1 l2 (l4 + (1:Int32)) l5 r5.2 M11))
def m_Splitter_splitByLetter_29  (i : Nat × Int32 × Int32 × Int32 × MS) : Option (MS × Int32) := fx (fun (k : Nat × Int32 × Int32 × Int32 × MS → Option (MS × Int32)) (i : Nat × Int32 × Int32 × Int32 × MS) => m_Splitter_splitByLetter_29b k i.1 i.2.1 i.2.2.1 i.2.2.2.1 i.2.2.2.2) FU i
def m_Splitter_splitByLetter_3b (k3 : Nat × Int32 × Int32 × Int32 × MS → Option (MS × Int32)) (l1 : Nat) (l2 : Int32) (l3 : Int32) (l4 : Int32) (M : MS) : Option (MS × Int32) :=
  if l3 ≤ l4 then (m_Splitter_splitByLetter_29 (l1, l2, (0:Int32), (0:Int32), M)) else ((stA M 83 l4 (-1:Int32)).bind fun M1 =>
  k3 (l1, l2, l3, (l4 + (1:Int32)), M1))
def m_Splitter_splitByLetter_3  (i : Nat × Int32 × Int32 × Int32 × MS) : Option (MS × Int32) := fx (fun (k : Nat × Int32 × Int32 × Int32 × MS → Option (MS × Int32)) (i : Nat × Int32 × Int32 × Int32 × MS) => m_Splitter_splitByLetter_3b k i.1 i.2.1 i.2.2.1 i.2.2.2.1 i.2.2.2.2) FU i
def m_Splitter_splitByLetter (a1 : Nat) (a2 : Int32) (a3 : Int32) (M : MS) : Option (MS × Int32) :=
  if x_kd a1 = 4 then (m_Splitter_splitByLetter_3 (a1, a2, a3, (0:Int32), M)) else none
def m_Splitter_countParts_42 (k8 : Nat × Int32 × Int32 × MS → Option (MS × Int32)) (l1 : Nat) (l2 : Int32) (l3 : Int32) (l4 : Int32) (M : MS) : Option (MS × Int32) :=
  if ¬ l2 = l4 then (k8 (l1, l2, (l3 + (1:Int32)), M)) else (some (M, l2))
def m_Splitter_countParts_21b (k8 : Nat × Int32 × Int32 × MS → Option (MS × Int32)) (k21 : Nat × Int32 × Int32 × Int32 × Int32 × MS → Option (MS × Int32)) (l1 : Nat) (l2 : Int32) (l3 : Int32) (l4 : Int32) (l5 : Int32) (M : MS) : Option (MS × Int32) :=
  if (4:Int32) ≤ l5 then (m_Splitter_countParts_42 k8 l1 l2 l3 l4 M) else (cal cM M (m_Splitter_splitByLetter l1 l5 l2 M) fun r1 =>
  k21 (l1, r1.2, l3, l4, (l5 + (1:Int32)), r1.1))
def m_Splitter_countParts_21 (k8 : Nat × Int32 × Int32 × MS → Option (MS × Int32)) (i : Nat × Int32 × Int32 × Int32 × Int32 × MS) : Option (MS × Int32) := fx (fun (k : Nat × Int32 × Int32 × Int32 × Int32 × MS → Option (MS × Int32)) (i : Nat × Int32 × Int32 × Int32 × Int32 × MS) => m_Splitter_countParts_21b k8 k i.1 i.2.1 i.2.2.1 i.2.2.2.1 i.2.2.2.2.1 i.2.2.2.2.2) FU i
def m_Splitter_countParts_8b (k8 : Nat × Int32 × Int32 × MS → Option (MS × Int32)) (l1 : Nat) (l2 : Int32) (l3 : Int32) (M : MS) : Option (MS × Int32) :=
  if (150:Int32) ≤ l3 then (some (M, l2)) else (m_Splitter_countParts_21 k8 (l1, l2, l3, l2, (0:Int32), M))
def m_Splitter_countParts_8  (i : Nat × Int32 × Int32 × MS) : Option (MS × Int32) := fx (fun (k : Nat × Int32 × Int32 × MS → Option (MS × Int32)) (i : Nat × Int32 × Int32 × MS) => m_Splitter_countParts_8b k i.1 i.2.1 i.2.2.1 i.2.2.2) FU i
def m_Splitter_countParts (a1 : Nat) (M : MS) : Option (MS × Int32) :=
  if x_kd a1 = 4 then (cal cM M (m_Splitter_splitByEmptyWord a1 M) fun r1 =>
  m_Splitter_countParts_8 (a1, r1.2, (0:Int32), r1.1)) else none
def m_D_languages (a1 : Int32) (M : MS) : Option (MS × Int32) :=
  cal cM M (m_D_checkSlot a1 M) fun r1 =>
  cal cM r1.1 (m_Explorer_machineOf a1 r1.1) fun r2 =>
  if x_kd r2.2 = 4 then (cal cM r2.1 (m_Machine_isTooLarge r2.2 r2.1) fun r4 =>
  if r4.2 = 0 then (cal cM r4.1 (m_Splitter_countParts r2.2 r4.1) fun r5 =>
  some (r5.1, r5.2)) else (some (r4.1, (-1:Int32)))) else none
def m_Comparison_forget  (M : MS) : Option (MS × Unit) :=
  (some (sI M 86 7 (-1:Int32))).bind fun M1 =>
  some (M1, ())
def m_Comparison_begin_7b (k7 : Int32 × Int32 × MS → Option (MS × Unit)) (l1 : Int32) (l2 : Int32) (M : MS) : Option (MS × Unit) :=
  if l1 ≤ l2 then (some (M, ())) else ((stA M 87 l2 l2).bind fun M1 =>
  k7 (l1, (l2 + (1:Int32)), M1))
def m_Comparison_begin_7  (i : Int32 × Int32 × MS) : Option (MS × Unit) := fx (fun (k : Int32 × Int32 × MS → Option (MS × Unit)) (i : Int32 × Int32 × MS) => m_Comparison_begin_7b k i.1 i.2.1 i.2.2) FU i
def m_Comparison_begin (a1 : Int32) (M : MS) : Option (MS × Unit) :=
  (some (sI M 86 6 (0:Int32))).bind fun M1 =>
  m_Comparison_begin_7 (a1, (0:Int32), M1)
def m_Comparison_leaderOf_4b (k4 : Int32 × Int32 × MS → Option (MS × Int32)) (l2 : Int32) (l3 : Int32) (M : MS) : Option (MS × Int32) :=
  if (300:Int32) ≤ l3 then (some (M, l2)) else ((ldA M 87 l2).bind fun v1 =>
  if v1 = l2 then (some (M, l2)) else ((ldA M 87 l2).bind fun v2 =>
  (ldA M 87 v2).bind fun v3 =>
  (stA M 87 l2 v3).bind fun M4 =>
  (ldA M4 87 l2).bind fun v5 =>
  k4 (v5, (l3 + (1:Int32)), M4)))
def m_Comparison_leaderOf_4  (i : Int32 × Int32 × MS) : Option (MS × Int32) := fx (fun (k : Int32 × Int32 × MS → Option (MS × Int32)) (i : Int32 × Int32 × MS) => m_Comparison_leaderOf_4b k i.1 i.2.1 i.2.2) FU i
def m_Comparison_leaderOf (a1 : Int32) (M : MS) : Option (MS × Int32) :=
  m_Comparison_leaderOf_4 (a1, (0:Int32), M)
def m_Comparison_isNewPair (a1 : Int32) (a2 : Int32) (a3 : Int32) (M : MS) : Option (MS × Int32) :=
  cal cM M (m_Comparison_leaderOf a1 M) fun r1 =>
  cal cM r1.1 (m_Comparison_leaderOf (a3 + a2) r1.1) fun r2 =>
  if r1.2 = r2.2 then (some (r2.1, (0:Int32))) else (if ¬ (gI r2.1 86 6) = (300:Int32) then ((stA r2.1 87 r1.2 r2.2).bind fun M3 =>
  (stA M3 88 (gI M3 86 6) a1).bind fun M4 =>
  (stA M4 89 (gI M4 86 6) a2).bind fun M5 =>
  some (M5, (1:Int32))) else (some (r2.1, (0:Int32))))
def m_Comparison_keepWordTo_56b (k56 : Int32 × Int32 × MS → Option (MS × Unit)) (l2 : Int32) (l3 : Int32) (M : MS) : Option (MS × Unit) :=
  if l3 < 0 then (some (M, ())) else ((ldA M 91 l2).bind fun v1 =>
  (stA M 92 l3 v1).bind fun M2 =>
  (ldA M2 90 l2).bind fun v3 =>
  k56 (v3, (l3 + (-1:Int32)), M2))
def m_Comparison_keepWordTo_56  (i : Int32 × Int32 × MS) : Option (MS × Unit) := fx (fun (k : Int32 × Int32 × MS → Option (MS × Unit)) (i : Int32 × Int32 × MS) => m_Comparison_keepWordTo_56b k i.1 i.2.1 i.2.2) FU i
def m_Comparison_keepWordTo_47  (l1 : Int32) (M : MS) : Option (MS × Unit) :=
  m_Comparison_keepWordTo_56 (l1, ((gI M 86 7) - (1:Int32)), M)
def m_Comparison_keepWordTo_7b (k7 : Int32 × Int32 × MS → Option (MS × Unit)) (l1 : Int32) (l2 : Int32) (M : MS) : Option (MS × Unit) :=
  (ldA M 90 l2).bind fun v1 =>
  if v1 = (-1:Int32) then (m_Comparison_keepWordTo_47 l1 M) else (if (300:Int32) ≤ (gI M 86 7) then (m_Comparison_keepWordTo_47 l1 M) else ((some (sI M 86 7 ((gI M 86 7) + (1:Int32)))).bind fun M2 =>
  (ldA M2 90 l2).bind fun v3 =>
  k7 (l1, v3, M2)))
def m_Comparison_keepWordTo_7  (i : Int32 × Int32 × MS) : Option (MS × Unit) := fx (fun (k : Int32 × Int32 × MS → Option (MS × Unit)) (i : Int32 × Int32 × MS) => m_Comparison_keepWordTo_7b k i.1 i.2.1 i.2.2) FU i
def m_Comparison_keepWordTo (a1 : Int32) (M : MS) : Option (MS × Unit) :=
  (some (sI M 86 7 (0:Int32))).bind fun M1 =>
  m_Comparison_keepWordTo_7 (a1, a1, M1)
def m_Comparison_isSplit (a1 : Nat) (a2 : Nat) (a3 : Int32) (a4 : Int32) (M : MS) : Option (MS × Int32) :=
  if x_kd a1 = 4 then (if x_kd a2 = 4 then ((stA M 90 (gI M 86 6) a3).bind fun M1 =>
  (stA M1 91 (gI M 86 6) a4).bind fun M2 =>
  (some (sI M2 86 6 ((gI M2 86 6) + (1:Int32)))).bind fun M3 =>
  (ldA M3 88 (gI M 86 6)).bind fun v4 =>
  cal cM M3 (m_Machine_isAccepting a1 v4 M3) fun r5 =>
  (ldA r5.1 89 (gI M 86 6)).bind fun v6 =>
  cal cM r5.1 (m_Machine_isAccepting a2 v6 r5.1) fun r7 =>
  if ¬ r5.2 = r7.2 then (cal cM r7.1 (m_Comparison_keepWordTo (gI M 86 6) r7.1) fun r8 =>
  some (r8.1, (1:Int32))) else (some (r7.1, (0:Int32)))) else none) else none
def m_Comparison_differ_59b (k41 : Nat × Nat × Int32 × MS → Option (MS × Int32)) (k59 : Nat × Nat × Int32 × Int32 × MS → Option (MS × Int32)) (l1 : Nat) (l2 : Nat) (l3 : Int32) (l4 : Int32) (M : MS) : Option (MS × Int32) :=
  if (4:Int32) ≤ l4 then (k41 (l1, l2, (l3 + (1:Int32)), M)) else ((ldA M 88 l3).bind fun v1 =>
  cal cM M (m_Machine_next l1 v1 l4 M) fun r2 =>
  (ldA r2.1 89 l3).bind fun v3 =>
  cal cM r2.1 (m_Machine_next l2 v3 l4 r2.1) fun r4 =>
  cal cM r4.1 (m_Machine_count l1 r4.1) fun r5 =>
  cal cM r5.1 (m_Comparison_isNewPair r2.2 r4.2 r5.2 r5.1) fun r6 =>
  if r6.2 = 0 then (k59 (l1, l2, l3, (l4 + (1:Int32)), r6.1)) else (cal cM r6.1 (m_Comparison_isSplit l1 l2 l3 l4 r6.1) fun r7 =>
  if r7.2 = 0 then (k59 (l1, l2, l3, (l4 + (1:Int32)), r7.1)) else (some (r7.1, (1:Int32)))))
def m_Comparison_differ_59 (k41 : Nat × Nat × Int32 × MS → Option (MS × Int32)) (i : Nat × Nat × Int32 × Int32 × MS) : Option (MS × Int32) := fx (fun (k : Nat × Nat × Int32 × Int32 × MS → Option (MS × Int32)) (i : Nat × Nat × Int32 × Int32 × MS) => m_Comparison_differ_59b k41 k i.1 i.2.1 i.2.2.1 i.2.2.2.1 i.2.2.2.2) FU i
def m_Comparison_differ_41b (k41 : Nat × Nat × Int32 × MS → Option (MS × Int32)) (l1 : Nat) (l2 : Nat) (l3 : Int32) (M : MS) : Option (MS × Int32) :=
  if (gI M 86 6) ≤ l3 then (some (M, (0:Int32))) else (if (300:Int32) ≤ l3 then (some (M, (0:Int32))) else (m_Comparison_differ_59 k41 (l1, l2, l3, (0:Int32), M)))
def m_Comparison_differ_41  (i : Nat × Nat × Int32 × MS) : Option (MS × Int32) := fx (fun (k : Nat × Nat × Int32 × MS → Option (MS × Int32)) (i : Nat × Nat × Int32 × MS) => m_Comparison_differ_41b k i.1 i.2.1 i.2.2.1 i.2.2.2) FU i
def m_Comparison_differ (a1 : Nat) (a2 : Nat) (M : MS) : Option (MS × Int32) :=
  if x_kd a1 = 4 then (if x_kd a2 = 4 then (cal cM M (m_Machine_count a1 M) fun r1 =>
  cal cM r1.1 (m_Machine_count a2 r1.1) fun r2 =>
  cal cM r2.1 (m_Comparison_begin (r1.2 + r2.2) r2.1) fun r3 =>
  cal cM r3.1 (m_Machine_count a1 r3.1) fun r4 =>
  cal cM r4.1 (m_Comparison_isNewPair (0:Int32) (0:Int32) r4.2 r4.1) fun r5 =>
  if r5.2 = 0 then (m_Comparison_differ_41 (a1, a2, (0:Int32), r5.1)) else (cal cM r5.1 (m_Comparison_isSplit a1 a2 (-1:Int32) (-1:Int32) r5.1) fun r6 =>
  if r6.2 = 0 then (m_Comparison_differ_41 (a1, a2, (0:Int32), r6.1)) else (some (r6.1, (1:Int32))))) else none) else none
def m_D_equal (a1 : Int32) (a2 : Int32) (M : MS) : Option (MS × Int32) :=
  cal cM M (m_D_checkSlot a1 M) fun r1 =>
  cal cM r1.1 (m_D_checkSlot a2 r1.1) fun r2 =>
  cal cM r2.1 (m_Comparison_forget r2.1) fun r3 =>
  cal cM r3.1 (m_Explorer_machineOf a1 r3.1) fun r4 =>
  if x_kd r4.2 = 4 then (cal cM r4.1 (m_Explorer_machineOf a2 r4.1) fun r6 =>
  if x_kd r6.2 = 4 then (cal cM r6.1 (m_Machine_isTooLarge r4.2 r6.1) fun r8 =>
  if ¬ r8.2 = 0 then (some (r8.1, (-1:Int32))) else (cal cM r8.1 (m_Machine_isTooLarge r6.2 r8.1) fun r9 =>
  if r9.2 = 0 then (cal cM r9.1 (m_Comparison_differ r4.2 r6.2 r9.1) fun r10 =>
  if r10.2 = 0 then (some (r10.1, (1:Int32))) else (some (r10.1, (0:Int32)))) else (some (r9.1, (-1:Int32))))) else none) else none
def m_Comparison_length  (M : MS) : Option (MS × Int32) :=
  some (M, (gI M 86 7))
def m_Comparison_letter (a1 : Int32) (M : MS) : Option (MS × Int32) :=
  if a1 < 0 then (some (M, (-1:Int32))) else (if (gI M 86 7) ≤ a1 then (some (M, (-1:Int32))) else ((ldA M 92 a1).bind fun v1 =>
  some (M, v1)))
def m_D_witness (a1 : Int32) (M : MS) : Option (MS × Int32) :=
  if ¬ a1 = (-1:Int32) then (cal cM M (m_Comparison_letter a1 M) fun r1 =>
  some (r1.1, r1.2)) else (cal cM M (m_Comparison_length M) fun r2 =>
  some (r2.1, r2.2))
def m_WordCounts_fill_98 (k37 : Nat × Int32 × Int32 × MS → Option (MS × Unit)) (k45 : Nat × Int32 × Int32 × Int32 × MS → Option (MS × Unit)) (l1 : Nat) (l2 : Int32) (l3 : Int32) (l4 : Int32) (l5 : Int64) (M : MS) : Option (MS × Unit) :=
  (stJ M 94 ((l3 * (150:Int32)) + l4) l5).bind fun M1 =>
  k45 (l1, l2, l3, (l4 + (1:Int32)), M1)
def m_WordCounts_fill_60b (k37 : Nat × Int32 × Int32 × MS → Option (MS × Unit)) (k45 : Nat × Int32 × Int32 × Int32 × MS → Option (MS × Unit)) (k60 : Nat × Int32 × Int32 × Int32 × Int64 × Int32 × MS → Option (MS × Unit)) (l1 : Nat) (l2 : Int32) (l3 : Int32) (l4 : Int32) (l5 : Int64) (l7 : Int32) (M : MS) : Option (MS × Unit) :=
  if (4:Int32) ≤ l7 then (m_WordCounts_fill_98 k37 k45 l1 l2 l3 l4 l5 M) else (cal cM M (m_Machine_next l1 l4 l7 M) fun r1 =>
  (ldJ r1.1 94 (((l3 - (1:Int32)) * (150:Int32)) + r1.2)).bind fun v2 =>
  k60 (l1, l2, l3, l4, (l5 + v2), (l7 + (1:Int32)), r1.1))
def m_WordCounts_fill_60 (k37 : Nat × Int32 × Int32 × MS → Option (MS × Unit)) (k45 : Nat × Int32 × Int32 × Int32 × MS → Option (MS × Unit)) (i : Nat × Int32 × Int32 × Int32 × Int64 × Int32 × MS) : Option (MS × Unit) := fx (fun (k : Nat × Int32 × Int32 × Int32 × Int64 × Int32 × MS → Option (MS × Unit)) (i : Nat × Int32 × Int32 × Int32 × Int64 × Int32 × MS) => m_WordCounts_fill_60b k37 k45 k i.1 i.2.1 i.2.2.1 i.2.2.2.1 i.2.2.2.2.1 i.2.2.2.2.2.1 i.2.2.2.2.2.2) FU i
def m_WordCounts_fill_45b (k37 : Nat × Int32 × Int32 × MS → Option (MS × Unit)) (k45 : Nat × Int32 × Int32 × Int32 × MS → Option (MS × Unit)) (l1 : Nat) (l2 : Int32) (l3 : Int32) (l4 : Int32) (M : MS) : Option (MS × Unit) :=
  cal cM M (m_Machine_count l1 M) fun r1 =>
  if r1.2 ≤ l4 then (k37 (l1, l2, (l3 + (1:Int32)), r1.1)) else (m_WordCounts_fill_60 k37 k45 (l1, l2, l3, l4, (0:Int64), (0:Int32), r1.1))
def m_WordCounts_fill_45 (k37 : Nat × Int32 × Int32 × MS → Option (MS × Unit)) (i : Nat × Int32 × Int32 × Int32 × MS) : Option (MS × Unit) := fx (fun (k : Nat × Int32 × Int32 × Int32 × MS → Option (MS × Unit)) (i : Nat × Int32 × Int32 × Int32 × MS) => m_WordCounts_fill_45b k37 k i.1 i.2.1 i.2.2.1 i.2.2.2.1 i.2.2.2.2) FU i
def m_WordCounts_fill_37b (k37 : Nat × Int32 × Int32 × MS → Option (MS × Unit)) (l1 : Nat) (l2 : Int32) (l3 : Int32) (M : MS) : Option (MS × Unit) :=
  if l2 < l3 then (some (M, ())) else (m_WordCounts_fill_45 k37 (l1, l2, l3, (0:Int32), M))
def m_WordCounts_fill_37  (i : Nat × Int32 × Int32 × MS) : Option (MS × Unit) := fx (fun (k : Nat × Int32 × Int32 × MS → Option (MS × Unit)) (i : Nat × Int32 × Int32 × MS) => m_WordCounts_fill_37b k i.1 i.2.1 i.2.2.1 i.2.2.2) FU i
def m_WordCounts_fill_28 (k2 : Nat × Int32 × Int32 × MS → Option (MS × Unit)) (l1 : Nat) (l2 : Int32) (l3 : Int32) (s1 : Int32) (s2 : Int64) (M : MS) : Option (MS × Unit) :=
  (stJ M 94 s1 s2).bind fun M1 =>
  k2 (l1, l2, (l3 + (1:Int32)), M1)
def m_WordCounts_fill_2b (k2 : Nat × Int32 × Int32 × MS → Option (MS × Unit)) (l1 : Nat) (l2 : Int32) (l3 : Int32) (M : MS) : Option (MS × Unit) :=
  cal cM M (m_Machine_count l1 M) fun r1 =>
  if r1.2 ≤ l3 then (m_WordCounts_fill_37 (l1, l2, (1:Int32), r1.1)) else (cal cM r1.1 (m_Machine_isAccepting l1 l3 r1.1) fun r2 =>
  if r2.2 = 0 then (m_WordCounts_fill_28 k2 l1 l2 l3 l3 (0:Int64) r2.1) else (m_WordCounts_fill_28 k2 l1 l2 l3 l3 (1:Int64) r2.1))
def m_WordCounts_fill_2  (i : Nat × Int32 × Int32 × MS) : Option (MS × Unit) := fx (fun (k : Nat × Int32 × Int32 × MS → Option (MS × Unit)) (i : Nat × Int32 × Int32 × MS) => m_WordCounts_fill_2b k i.1 i.2.1 i.2.2.1 i.2.2.2) FU i
def m_WordCounts_fill (a1 : Nat) (a2 : Int32) (M : MS) : Option (MS × Unit) :=
  if x_kd a1 = 4 then (m_WordCounts_fill_2 (a1, a2, (0:Int32), M)) else none
def m_WordCounts_ofLength (a1 : Nat) (a2 : Int32) (M : MS) : Option (MS × Int64) :=
  if x_kd a1 = 4 then (cal cM M (m_WordCounts_fill a1 a2 M) fun r1 =>
  (ldJ r1.1 94 (a2 * (150:Int32))).bind fun v2 =>
  some (r1.1, v2)) else none
def m_D_words (a1 : Int32) (a2 : Int32) (M : MS) : Option (MS × Int64) :=
  cal cM M (m_D_checkSlot a1 M) fun r1 =>
  cal cM r1.1 (m_D_checkRange a2 (16:Int32) r1.1) fun r2 =>
  cal cM r2.1 (m_Explorer_machineOf a1 r2.1) fun r3 =>
  if x_kd r3.2 = 4 then (cal cM r3.1 (m_Machine_isTooLarge r3.2 r3.1) fun r5 =>
  if r5.2 = 0 then (cal cM r5.1 (m_WordCounts_ofLength r3.2 a2 r5.1) fun r6 =>
  some (r6.1, r6.2)) else (some (r5.1, (-1:Int64)))) else none
def m_WordCounts_stepBack_86  (l2 : Int32) (M : MS) : Option (MS × Int32) :=
  if x_kd (gD M 93 1) = 22 then (if x_kd (gD M 93 2) = 22 then ((some (sD M 93 1 (gD M 93 2))).bind fun M3 =>
  (some (sD M3 93 2 (gD M 93 1))).bind fun M4 =>
  some (M4, nb l2)) else none) else none
def m_WordCounts_stepBack_57 (k4 : Nat × Int32 × Int32 × MS → Option (MS × Int32)) (l1 : Nat) (l2 : Int32) (l3 : Int32) (l4 : Int32) (M : MS) : Option (MS × Int32) :=
  if x_kd (gD M 93 2) = 22 then ((stZ M (gD M 93 2) l3 l4).bind fun M2 =>
  if ¬ l2 = 0 then (k4 (l1, (1:Int32), (l3 + (1:Int32)), M2)) else (if l4 = 0 then (k4 (l1, (0:Int32), (l3 + (1:Int32)), M2)) else (k4 (l1, (1:Int32), (l3 + (1:Int32)), M2)))) else none
def m_WordCounts_stepBack_18b (k4 : Nat × Int32 × Int32 × MS → Option (MS × Int32)) (k18 : Nat × Int32 × Int32 × Int32 × Int32 × MS → Option (MS × Int32)) (l1 : Nat) (l2 : Int32) (l3 : Int32) (l4 : Int32) (l5 : Int32) (M : MS) : Option (MS × Int32) :=
  if (4:Int32) ≤ l5 then (m_WordCounts_stepBack_57 k4 l1 l2 l3 l4 M) else (if ¬ l4 = 0 then (k18 (l1, l2, l3, (1:Int32), (l5 + (1:Int32)), M)) else (if x_kd (gD M 93 1) = 22 then (cal cM M (m_Machine_next l1 l3 l5 M) fun r2 =>
  (ldA r2.1 (gD M 93 1) r2.2).bind fun v3 =>
  if v3 = 0 then (k18 (l1, l2, l3, (0:Int32), (l5 + (1:Int32)), r2.1)) else (k18 (l1, l2, l3, (1:Int32), (l5 + (1:Int32)), r2.1))) else none))
def m_WordCounts_stepBack_18 (k4 : Nat × Int32 × Int32 × MS → Option (MS × Int32)) (i : Nat × Int32 × Int32 × Int32 × Int32 × MS) : Option (MS × Int32) := fx (fun (k : Nat × Int32 × Int32 × Int32 × Int32 × MS → Option (MS × Int32)) (i : Nat × Int32 × Int32 × Int32 × Int32 × MS) => m_WordCounts_stepBack_18b k4 k i.1 i.2.1 i.2.2.1 i.2.2.2.1 i.2.2.2.2.1 i.2.2.2.2.2) FU i
def m_WordCounts_stepBack_4b (k4 : Nat × Int32 × Int32 × MS → Option (MS × Int32)) (l1 : Nat) (l2 : Int32) (l3 : Int32) (M : MS) : Option (MS × Int32) :=
  cal cM M (m_Machine_count l1 M) fun r1 =>
  if r1.2 ≤ l3 then (m_WordCounts_stepBack_86 l2 r1.1) else (m_WordCounts_stepBack_18 k4 (l1, l2, l3, (0:Int32), (0:Int32), r1.1))
def m_WordCounts_stepBack_4  (i : Nat × Int32 × Int32 × MS) : Option (MS × Int32) := fx (fun (k : Nat × Int32 × Int32 × MS → Option (MS × Int32)) (i : Nat × Int32 × Int32 × MS) => m_WordCounts_stepBack_4b k i.1 i.2.1 i.2.2.1 i.2.2.2) FU i
def m_WordCounts_stepBack (a1 : Nat) (M : MS) : Option (MS × Int32) :=
  if x_kd a1 = 4 then (m_WordCounts_stepBack_4 (a1, (0:Int32), (0:Int32), M)) else none
def m_WordCounts_isFinite_80  (l3 : Int32) (M : MS) : Option (MS × Int32) :=
  if ¬ l3 = 0 then (some (M, (0:Int32))) else (some (M, (1:Int32)))
def m_WordCounts_isFinite_58b (k58 : Nat × Int32 × Int32 × Int32 × MS → Option (MS × Int32)) (l1 : Nat) (l2 : Int32) (l3 : Int32) (l4 : Int32) (M : MS) : Option (MS × Int32) :=
  if l3 = 0 then (m_WordCounts_isFinite_80 l3 M) else (if l2 < l4 then (m_WordCounts_isFinite_80 l3 M) else (cal cM M (m_WordCounts_stepBack l1 M) fun r1 =>
  k58 (l1, l2, r1.2, (l4 + (1:Int32)), r1.1)))
def m_WordCounts_isFinite_58  (i : Nat × Int32 × Int32 × Int32 × MS) : Option (MS × Int32) := fx (fun (k : Nat × Int32 × Int32 × Int32 × MS → Option (MS × Int32)) (i : Nat × Int32 × Int32 × Int32 × MS) => m_WordCounts_isFinite_58b k i.1 i.2.1 i.2.2.1 i.2.2.2.1 i.2.2.2.2) FU i
def m_WordCounts_isFinite_10b (k10 : Nat × Int32 × Int32 × Int32 × MS → Option (MS × Int32)) (l1 : Nat) (l2 : Int32) (l3 : Int32) (l4 : Int32) (M : MS) : Option (MS × Int32) :=
  if l2 ≤ l4 then (m_WordCounts_isFinite_58 (l1, l2, l3, (1:Int32), M)) else (if x_kd (gD M 93 1) = 22 then (cal cM M (m_Machine_isAccepting l1 l4 M) fun r2 =>
  (stZ r2.1 (gD M 93 1) l4 r2.2).bind fun M3 =>
  if ¬ l3 = 0 then (k10 (l1, l2, (1:Int32), (l4 + (1:Int32)), M3)) else (if x_kd (gD M3 93 1) = 22 then ((ldA M3 (gD M3 93 1) l4).bind fun v5 =>
  if v5 = 0 then (k10 (l1, l2, (0:Int32), (l4 + (1:Int32)), M3)) else (k10 (l1, l2, (1:Int32), (l4 + (1:Int32)), M3))) else none)) else none)
def m_WordCounts_isFinite_10  (i : Nat × Int32 × Int32 × Int32 × MS) : Option (MS × Int32) := fx (fun (k : Nat × Int32 × Int32 × Int32 × MS → Option (MS × Int32)) (i : Nat × Int32 × Int32 × Int32 × MS) => m_WordCounts_isFinite_10b k i.1 i.2.1 i.2.2.1 i.2.2.2.1 i.2.2.2.2) FU i
def m_WordCounts_isFinite (a1 : Nat) (M : MS) : Option (MS × Int32) :=
  if x_kd a1 = 4 then (cal cM M (m_Machine_count a1 M) fun r1 =>
  m_WordCounts_isFinite_10 (a1, r1.2, (0:Int32), (0:Int32), r1.1)) else none
def m_D_ends (a1 : Int32) (M : MS) : Option (MS × Int32) :=
  cal cM M (m_D_checkSlot a1 M) fun r1 =>
  cal cM r1.1 (m_Explorer_machineOf a1 r1.1) fun r2 =>
  if x_kd r2.2 = 4 then (cal cM r2.1 (m_Machine_isTooLarge r2.2 r2.1) fun r4 =>
  if r4.2 = 0 then (cal cM r4.1 (m_WordCounts_isFinite r2.2 r4.1) fun r5 =>
  if r5.2 = 0 then (some (r5.1, (0:Int32))) else (some (r5.1, (1:Int32)))) else (some (r4.1, (-1:Int32)))) else none
def m_WordCounts_wordOfLength_92 (k14 : Nat × Int64 × Int64 × Int32 × Int32 × MS → Option (MS × Int64)) (l1 : Nat) (l5 : Int64) (l7 : Int64) (l9 : Int32) (l10 : Int32) (l11 : Int32) (M : MS) : Option (MS × Int64) :=
  cal cM M (m_Machine_next l1 l9 l11 M) fun r1 =>
  k14 (l1, ((l5 <<< ((2:Int32).toInt64 &&& 63)) ||| l11.toInt64), l7, r1.2, (l10 + (-1:Int32)), r1.1)
def m_WordCounts_wordOfLength_43b (k14 : Nat × Int64 × Int64 × Int32 × Int32 × MS → Option (MS × Int64)) (k43 : Nat × Int64 × Int64 × Int32 × Int32 × Int32 × Int64 × MS → Option (MS × Int64)) (l1 : Nat) (l5 : Int64) (l7 : Int64) (l9 : Int32) (l10 : Int32) (l11 : Int32) (l12 : Int64) (M : MS) : Option (MS × Int64) :=
  if (3:Int32) ≤ l11 then (m_WordCounts_wordOfLength_92 k14 l1 l5 l7 l9 l10 l11 M) else (if (lg_cmp l7 l12) < 0 then (m_WordCounts_wordOfLength_92 k14 l1 l5 l7 l9 l10 l11 M) else (cal cM M (m_Machine_next l1 l9 (l11 + (1:Int32)) M) fun r1 =>
  (ldJ r1.1 94 ((l10 * (150:Int32)) + r1.2)).bind fun v2 =>
  k43 (l1, l5, (l7 - l12), l9, l10, (l11 + (1:Int32)), v2, r1.1)))
def m_WordCounts_wordOfLength_43 (k14 : Nat × Int64 × Int64 × Int32 × Int32 × MS → Option (MS × Int64)) (i : Nat × Int64 × Int64 × Int32 × Int32 × Int32 × Int64 × MS) : Option (MS × Int64) := fx (fun (k : Nat × Int64 × Int64 × Int32 × Int32 × Int32 × Int64 × MS → Option (MS × Int64)) (i : Nat × Int64 × Int64 × Int32 × Int32 × Int32 × Int64 × MS) => m_WordCounts_wordOfLength_43b k14 k i.1 i.2.1 i.2.2.1 i.2.2.2.1 i.2.2.2.2.1 i.2.2.2.2.2.1 i.2.2.2.2.2.2.1 i.2.2.2.2.2.2.2) FU i
def m_WordCounts_wordOfLength_14b (k14 : Nat × Int64 × Int64 × Int32 × Int32 × MS → Option (MS × Int64)) (l1 : Nat) (l5 : Int64) (l7 : Int64) (l9 : Int32) (l10 : Int32) (M : MS) : Option (MS × Int64) :=
  if l10 < 0 then (some (M, l5)) else (cal cM M (m_Machine_next l1 l9 (0:Int32) M) fun r1 =>
  (ldJ r1.1 94 ((l10 * (150:Int32)) + r1.2)).bind fun v2 =>
  m_WordCounts_wordOfLength_43 k14 (l1, l5, l7, l9, l10, (0:Int32), v2, r1.1))
def m_WordCounts_wordOfLength_14  (i : Nat × Int64 × Int64 × Int32 × Int32 × MS) : Option (MS × Int64) := fx (fun (k : Nat × Int64 × Int64 × Int32 × Int32 × MS → Option (MS × Int64)) (i : Nat × Int64 × Int64 × Int32 × Int32 × MS) => m_WordCounts_wordOfLength_14b k i.1 i.2.1 i.2.2.1 i.2.2.2.1 i.2.2.2.2.1 i.2.2.2.2.2) FU i
def m_WordCounts_wordOfLength (a1 : Nat) (a2 : Int32) (a3 : Int64) (M : MS) : Option (MS × Int64) :=
  if x_kd a1 = 4 then (m_WordCounts_wordOfLength_14 (a1, (0:Int64), a3, (0:Int32), (a2 - (1:Int32)), M)) else none
def m_WordCounts_wordAt_51  (l1 : Nat) (l4 : Int64) (l6 : Int32) (M : MS) : Option (MS × Int64) :=
  cal cM M (m_WordCounts_wordOfLength l1 l6 l4 M) fun r1 =>
  some (r1.1, ((l6.toInt64 * (68719476736:Int64)) + r1.2))
def m_WordCounts_wordAt_23b (k23 : Nat × Int64 × Int32 × MS → Option (MS × Int64)) (l1 : Nat) (l4 : Int64) (l6 : Int32) (M : MS) : Option (MS × Int64) :=
  if (16:Int32) < l6 then (some (M, (-1:Int64))) else ((ldJ M 94 (l6 * (150:Int32))).bind fun v1 =>
  if 0 ≤ (lg_cmp l4 v1) then (k23 (l1, (l4 - v1), (l6 + (1:Int32)), M)) else (m_WordCounts_wordAt_51 l1 l4 l6 M))
def m_WordCounts_wordAt_23  (i : Nat × Int64 × Int32 × MS) : Option (MS × Int64) := fx (fun (k : Nat × Int64 × Int32 × MS → Option (MS × Int64)) (i : Nat × Int64 × Int32 × MS) => m_WordCounts_wordAt_23b k i.1 i.2.1 i.2.2.1 i.2.2.2) FU i
def m_WordCounts_wordAt (a1 : Nat) (a2 : Int64) (M : MS) : Option (MS × Int64) :=
  if x_kd a1 = 4 then (if 0 ≤ (lg_cmp a2 (0:Int64)) then (cal cM M (m_WordCounts_fill a1 (16:Int32) M) fun r1 =>
  m_WordCounts_wordAt_23 (a1, a2, (0:Int32), r1.1)) else (some (M, (-1:Int64)))) else none
def m_D_find (a1 : Int32) (a2 : Int64) (M : MS) : Option (MS × Int64) :=
  cal cM M (m_D_checkSlot a1 M) fun r1 =>
  cal cM r1.1 (m_Explorer_machineOf a1 r1.1) fun r2 =>
  if x_kd r2.2 = 4 then (cal cM r2.1 (m_Machine_isTooLarge r2.2 r2.1) fun r4 =>
  if r4.2 = 0 then (cal cM r4.1 (m_WordCounts_wordAt r2.2 a2 r4.1) fun r5 =>
  some (r5.1, r5.2)) else (some (r4.1, (-1:Int64)))) else none
def m_D_look (a1 : Int32) (a2 : Int32) (M : MS) : Option (MS × Int32) :=
  cal cM M (m_D_checkSlot a1 M) fun r1 =>
  (ldA r1.1 1 a1).bind fun v2 =>
  if a2 = (0:Int32) then (cal cM r1.1 (m_Terms_sortOf v2 r1.1) fun r3 =>
  some (r3.1, r3.2)) else (if a2 = (1:Int32) then (cal cM r1.1 (m_Terms_sizeOf v2 r1.1) fun r4 =>
  some (r4.1, r4.2)) else (if a2 = (2:Int32) then (cal cM r1.1 (m_Terms_isNullable v2 r1.1) fun r5 =>
  if r5.2 = 0 then (some (r5.1, (0:Int32))) else (some (r5.1, (1:Int32)))) else (if a2 = (3:Int32) then (cal cM r1.1 (m_Terms_countOf v2 r1.1) fun r6 =>
  some (r6.1, r6.2)) else (if a2 = (4:Int32) then (cal cM r1.1 (m_Terms_sortOf v2 r1.1) fun r7 =>
  if ¬ r7.2 = (2:Int32) then (some (r7.1, (0:Int32))) else (some (r7.1, v2))) else (some (r1.1, (-1:Int32)))))))
def m_Mo_thrown  (M : MS) : Option (MS × Int32) :=
  some (M, (gI M 97 0))
def m_Mo_isSlot (a0 : Int32) (M : MS) : Option (MS × Int32) :=
  if a0 < 0 then (some (M, (0:Int32))) else (if (16:Int32) ≤ a0 then (some (M, (0:Int32))) else (some (M, (1:Int32))))
def m_Mo_fails_18  (s1 : Int32) (M : MS) : Option (MS × Int32) :=
  (some (sI M 97 0 s1)).bind fun M1 =>
  if (gI M1 97 0) ≤ 0 then (some (M1, (0:Int32))) else (some (M1, (1:Int32)))
def m_Mo_fails (a1 : Int32) (a2 : Int32) (M : MS) : Option (MS × Int32) :=
  if a1 = 0 then (if a2 = 0 then (m_Mo_fails_18 (0:Int32) M) else (m_Mo_fails_18 (2:Int32) M)) else (m_Mo_fails_18 (1:Int32) M)
def m_Mo_keep_38  (l1 : Int32) (l2 : Int32) (M : MS) : Option (MS × Int32) :=
  (stA M 99 l1 l2).bind fun M1 =>
  some (M1, l2)
def m_Mo_keep_10b (k10 : Int32 × Int32 × Int32 × MS → Option (MS × Int32)) (l1 : Int32) (l2 : Int32) (l3 : Int32) (M : MS) : Option (MS × Int32) :=
  if l2 ≤ l3 then (m_Mo_keep_38 l1 l2 M) else ((ldA M 101 l3).bind fun v1 =>
  (stA M 98 (((100:Int32) * l1) + l3) v1).bind fun M2 =>
  k10 (l1, l2, (l3 + (1:Int32)), M2))
def m_Mo_keep_10  (i : Int32 × Int32 × Int32 × MS) : Option (MS × Int32) := fx (fun (k : Int32 × Int32 × Int32 × MS → Option (MS × Int32)) (i : Int32 × Int32 × Int32 × MS) => m_Mo_keep_10b k i.1 i.2.1 i.2.2.1 i.2.2.2) FU i
def m_Mo_keep (a1 : Int32) (a2 : Int32) (M : MS) : Option (MS × Int32) :=
  if a2 ≤ (100:Int32) then (m_Mo_keep_10 (a1, a2, (0:Int32), M)) else (some (M, (-1:Int32)))
def m_Mo_letters_70  (l1 : Int32) (s1 : Int32) (s2 : Int32) (M : MS) : Option (MS × Int32) :=
  (stA M 101 s1 s2).bind fun M1 =>
  cal cM M1 (m_Mo_keep l1 (1:Int32) M1) fun r2 =>
  some (r2.1, r2.2)
def m_Mo_letters_34  (l1 : Int32) (l2 : Int32) (s1 : Int32) (s2 : Int32) (M : MS) : Option (MS × Int32) :=
  cal cM M (m_Mo_fails s1 s2 M) fun r1 =>
  if r1.2 = 0 then (if ¬ l2 = 0 then (if ¬ l2 = (16:Int32) then (m_Mo_letters_70 l1 (0:Int32) ((2:Int32) ||| (l2 <<< ((3:Int32) &&& 31))) r1.1) else (m_Mo_letters_70 l1 (0:Int32) (1:Int32) r1.1)) else (m_Mo_letters_70 l1 (0:Int32) (0:Int32) r1.1)) else (some (r1.1, (0:Int32)))
def m_Mo_letters_33  (l1 : Int32) (l2 : Int32) (s1 : Int32) (M : MS) : Option (MS × Int32) :=
  m_Mo_letters_34 l1 l2 s1 (0:Int32) M
def m_Mo_letters_29  (l1 : Int32) (l2 : Int32) (s1 : Int32) (M : MS) : Option (MS × Int32) :=
  m_Mo_letters_34 l1 l2 s1 (1:Int32) M
def m_Mo_letters_15  (l1 : Int32) (l2 : Int32) (l3 : Int32) (s1 : Int32) (M : MS) : Option (MS × Int32) :=
  if l3 = 0 then (m_Mo_letters_33 l1 l2 s1 M) else (if l2 < 0 then (m_Mo_letters_29 l1 l2 s1 M) else (if l2 ≤ (16:Int32) then (m_Mo_letters_33 l1 l2 s1 M) else (m_Mo_letters_29 l1 l2 s1 M)))
def m_Mo_letters (a1 : Int32) (a2 : Int32) (M : MS) : Option (MS × Int32) :=
  cal cM M (m_Mo_isSlot a1 M) fun r1 =>
  if ¬ r1.2 = 0 then (m_Mo_letters_15 a1 a2 r1.2 (0:Int32) r1.1) else (m_Mo_letters_15 a1 a2 r1.2 (1:Int32) r1.1)
def m_Mo_sort (a0 : Int32) (M : MS) : Option (MS × Int32) :=
  some (M, (a0 &&& (7:Int32)))
def m_Mo_arity (a0 : Int32) (M : MS) : Option (MS × Int32) :=
  cal cM M (m_Mo_sort a0 M) fun r1 =>
  if (3:Int32) ≤ r1.2 then (cal cM r1.1 (m_Mo_sort a0 r1.1) fun r2 =>
  if ¬ r2.2 = (3:Int32) then (cal cM r2.1 (m_Mo_sort a0 r2.1) fun r3 =>
  if r3.2 ≤ (5:Int32) then (some (r3.1, (a0 >>> ((3:Int32) &&& 31)))) else (some (r3.1, (1:Int32)))) else (some (r2.1, (2:Int32)))) else (some (r1.1, (0:Int32)))
def m_Mo_length_4b (k4 : Nat × Int32 × Int32 × Int32 × MS → Option (MS × Int32)) (l0 : Nat) (l1 : Int32) (l2 : Int32) (l3 : Int32) (M : MS) : Option (MS × Int32) :=
  if l2 ≤ 0 then (some (M, (l3 - l1))) else ((ldA M l0 l3).bind fun v1 =>
  cal cM M (m_Mo_arity v1 M) fun r2 =>
  k4 (l0, l1, (l2 + (r2.2 - (1:Int32))), (l3 + (1:Int32)), r2.1))
def m_Mo_length_4  (i : Nat × Int32 × Int32 × Int32 × MS) : Option (MS × Int32) := fx (fun (k : Nat × Int32 × Int32 × Int32 × MS → Option (MS × Int32)) (i : Nat × Int32 × Int32 × Int32 × MS) => m_Mo_length_4b k i.1 i.2.1 i.2.2.1 i.2.2.2.1 i.2.2.2.2) FU i
def m_Mo_length (a0 : Nat) (a1 : Int32) (M : MS) : Option (MS × Int32) :=
  if x_kd a0 = 20 then (m_Mo_length_4 (a0, a1, (1:Int32), a1, M)) else none
def m_Mo_cat_216  (l8 : Int32) (l9 : Int32) (l10 : Int32) (M : MS) : Option (MS × Int32) :=
  if l9 = 0 then (some (M, l10)) else (if l8 = 0 then (some (M, l10)) else (some (M, (1:Int32))))
def m_Mo_cat_199  (l8 : Int32) (l9 : Int32) (l10 : Int32) (M : MS) : Option (MS × Int32) :=
  if l9 = 0 then (m_Mo_cat_216 l8 l9 l10 M) else (if l8 = 0 then (m_Mo_cat_216 l8 l9 l10 M) else ((stA M 101 (0:Int32) (1:Int32)).bind fun M1 =>
  m_Mo_cat_216 l8 l9 l10 M1))
def m_Mo_cat_163b (k163 : Nat × Int32 × Int32 × Int32 × Int32 × Int32 × Int32 × MS → Option (MS × Int32)) (l4 : Nat) (l5 : Int32) (l6 : Int32) (l8 : Int32) (l9 : Int32) (l10 : Int32) (l12 : Int32) (M : MS) : Option (MS × Int32) :=
  if (l5 + l6) ≤ l12 then (m_Mo_cat_199 l8 l9 l10 M) else (if ¬ l8 = 0 then (m_Mo_cat_199 l8 l9 l10 M) else ((ldA M l4 l12).bind fun v1 =>
  (stA M 101 l10 v1).bind fun M2 =>
  k163 (l4, l5, l6, l8, l9, (l10 + (1:Int32)), (l12 + (1:Int32)), M2)))
def m_Mo_cat_163  (i : Nat × Int32 × Int32 × Int32 × Int32 × Int32 × Int32 × MS) : Option (MS × Int32) := fx (fun (k : Nat × Int32 × Int32 × Int32 × Int32 × Int32 × Int32 × MS → Option (MS × Int32)) (i : Nat × Int32 × Int32 × Int32 × Int32 × Int32 × Int32 × MS) => m_Mo_cat_163b k i.1 i.2.1 i.2.2.1 i.2.2.2.1 i.2.2.2.2.1 i.2.2.2.2.2.1 i.2.2.2.2.2.2.1 i.2.2.2.2.2.2.2) FU i
def m_Mo_cat_139 (k103 : Nat × Int32 × Int32 × Nat × Int32 × Int32 × Int32 × Int32 × Int32 × Int32 × Int32 × MS → Option (MS × Int32)) (l1 : Nat) (l2 : Int32) (l3 : Int32) (l4 : Nat) (l5 : Int32) (l6 : Int32) (l8 : Int32) (l9 : Int32) (l10 : Int32) (l11 : Int32) (l12 : Int32) (M : MS) : Option (MS × Int32) :=
  (ldA M l1 l12).bind fun v1 =>
  (stA M 101 l10 v1).bind fun M2 =>
  k103 (l1, l2, l3, l4, l5, l6, l8, l9, (l10 + (1:Int32)), l11, (l12 + (1:Int32)), M2)
def m_Mo_cat_103b (k103 : Nat × Int32 × Int32 × Nat × Int32 × Int32 × Int32 × Int32 × Int32 × Int32 × Int32 × MS → Option (MS × Int32)) (l1 : Nat) (l2 : Int32) (l3 : Int32) (l4 : Nat) (l5 : Int32) (l6 : Int32) (l8 : Int32) (l9 : Int32) (l10 : Int32) (l11 : Int32) (l12 : Int32) (M : MS) : Option (MS × Int32) :=
  if (l2 + l3) ≤ l12 then (m_Mo_cat_163 (l4, l5, l6, l8, l9, l10, l5, M)) else (if ¬ l9 = 0 then (m_Mo_cat_163 (l4, l5, l6, l8, l9, l10, l5, M)) else (if ¬ l12 = l11 then (m_Mo_cat_139 k103 l1 l2 l3 l4 l5 l6 l8 l9 l10 l11 l12 M) else (if ¬ l8 = 0 then (m_Mo_cat_139 k103 l1 l2 l3 l4 l5 l6 l8 l9 l10 l11 l12 M) else ((stA M 101 l10 (3:Int32)).bind fun M1 =>
  m_Mo_cat_139 k103 l1 l2 l3 l4 l5 l6 l8 l9 (l10 + (1:Int32)) l11 l12 M1))))
def m_Mo_cat_103  (i : Nat × Int32 × Int32 × Nat × Int32 × Int32 × Int32 × Int32 × Int32 × Int32 × Int32 × MS) : Option (MS × Int32) := fx (fun (k : Nat × Int32 × Int32 × Nat × Int32 × Int32 × Int32 × Int32 × Int32 × Int32 × Int32 × MS → Option (MS × Int32)) (i : Nat × Int32 × Int32 × Nat × Int32 × Int32 × Int32 × Int32 × Int32 × Int32 × Int32 × MS) => m_Mo_cat_103b k i.1 i.2.1 i.2.2.1 i.2.2.2.1 i.2.2.2.2.1 i.2.2.2.2.2.1 i.2.2.2.2.2.2.1 i.2.2.2.2.2.2.2.1 i.2.2.2.2.2.2.2.2.1 i.2.2.2.2.2.2.2.2.2.1 i.2.2.2.2.2.2.2.2.2.2.1 i.2.2.2.2.2.2.2.2.2.2.2) FU i
def m_Mo_cat_71b (k71 : Nat × Int32 × Int32 × Nat × Int32 × Int32 × Int32 × Int32 × Int32 × Int32 × MS → Option (MS × Int32)) (l1 : Nat) (l2 : Int32) (l3 : Int32) (l4 : Nat) (l5 : Int32) (l6 : Int32) (l8 : Int32) (l9 : Int32) (l10 : Int32) (l11 : Int32) (M : MS) : Option (MS × Int32) :=
  (ldA M l1 l11).bind fun v1 =>
  cal cM M (m_Mo_sort v1 M) fun r2 =>
  if ¬ r2.2 = (3:Int32) then (m_Mo_cat_103 (l1, l2, l3, l4, l5, l6, l8, l9, l10, l11, l2, r2.1)) else (cal cM r2.1 (m_Mo_length l1 (l11 + (1:Int32)) r2.1) fun r3 =>
  k71 (l1, l2, l3, l4, l5, l6, l8, l9, l10, (l11 + ((1:Int32) + r3.2)), r3.1))
def m_Mo_cat_71  (i : Nat × Int32 × Int32 × Nat × Int32 × Int32 × Int32 × Int32 × Int32 × Int32 × MS) : Option (MS × Int32) := fx (fun (k : Nat × Int32 × Int32 × Nat × Int32 × Int32 × Int32 × Int32 × Int32 × Int32 × MS → Option (MS × Int32)) (i : Nat × Int32 × Int32 × Nat × Int32 × Int32 × Int32 × Int32 × Int32 × Int32 × MS) => m_Mo_cat_71b k i.1 i.2.1 i.2.2.1 i.2.2.2.1 i.2.2.2.2.1 i.2.2.2.2.2.1 i.2.2.2.2.2.2.1 i.2.2.2.2.2.2.2.1 i.2.2.2.2.2.2.2.2.1 i.2.2.2.2.2.2.2.2.2.1 i.2.2.2.2.2.2.2.2.2.2) FU i
def m_Mo_cat_49  (l1 : Nat) (l2 : Int32) (l3 : Int32) (l4 : Nat) (l5 : Int32) (l6 : Int32) (s0 : Int32) (M : MS) : Option (MS × Int32) :=
  (ldA M l1 l2).bind fun v1 =>
  if ¬ v1 = (1:Int32) then (m_Mo_cat_71 (l1, l2, l3, l4, l5, l6, s0, (0:Int32), (0:Int32), l2, M)) else (m_Mo_cat_71 (l1, l2, l3, l4, l5, l6, s0, (1:Int32), (0:Int32), l2, M))
def m_Mo_cat_19  (l1 : Nat) (l2 : Int32) (l3 : Int32) (l4 : Nat) (l5 : Int32) (l6 : Int32) (s0 : Int32) (M : MS) : Option (MS × Int32) :=
  if s0 = 0 then ((ldA M l4 l5).bind fun v1 =>
  if ¬ v1 = (1:Int32) then (m_Mo_cat_49 l1 l2 l3 l4 l5 l6 (0:Int32) M) else (m_Mo_cat_49 l1 l2 l3 l4 l5 l6 (1:Int32) M)) else ((stA M 101 (0:Int32) (0:Int32)).bind fun M2 =>
  some (M2, (1:Int32)))
def m_Mo_cat_14  (l1 : Nat) (l2 : Int32) (l3 : Int32) (l4 : Nat) (l5 : Int32) (l6 : Int32) (M : MS) : Option (MS × Int32) :=
  m_Mo_cat_19 l1 l2 l3 l4 l5 l6 (1:Int32) M
def m_Mo_cat (a1 : Nat) (a2 : Int32) (a3 : Int32) (a4 : Nat) (a5 : Int32) (a6 : Int32) (M : MS) : Option (MS × Int32) :=
  if x_kd a1 = 20 then (if x_kd a4 = 20 then ((ldA M a1 a2).bind fun v1 =>
  if v1 = 0 then (m_Mo_cat_14 a1 a2 a3 a4 a5 a6 M) else ((ldA M a4 a5).bind fun v2 =>
  if ¬ v2 = 0 then (m_Mo_cat_19 a1 a2 a3 a4 a5 a6 (0:Int32) M) else (m_Mo_cat_14 a1 a2 a3 a4 a5 a6 M))) else none) else none
def m_Mo_part_76 (k31 : Int32 × Int32 × Int32 × Int32 × MS → Option (MS × Unit)) (l1 : Int32) (l2 : Int32) (l4 : Int32) (l5 : Int32) (s1 : Int32) (s2 : Int32) (M : MS) : Option (MS × Unit) :=
  (stA M 107 s1 s2).bind fun M1 =>
  (ldA M1 107 (gI M1 97 13)).bind fun v2 =>
  (some (sI M1 97 13 ((gI M1 97 13) + (1:Int32)))).bind fun M3 =>
  k31 (l1, l2, (l4 + v2), l5, M3)
def m_Mo_part_31b (k31 : Int32 × Int32 × Int32 × Int32 × MS → Option (MS × Unit)) (l1 : Int32) (l2 : Int32) (l4 : Int32) (l5 : Int32) (M : MS) : Option (MS × Unit) :=
  if (l1 + l2) ≤ l4 then (some (M, ())) else ((stA M 106 (gI M 97 13) l4).bind fun M1 =>
  if l5 = 0 then (m_Mo_part_76 k31 l1 l2 l4 l5 (gI M1 97 13) l2 M1) else (cal cM M1 (m_Mo_length 100 l4 M1) fun r2 =>
  m_Mo_part_76 k31 l1 l2 l4 l5 (gI M1 97 13) r2.2 r2.1))
def m_Mo_part_31  (i : Int32 × Int32 × Int32 × Int32 × MS) : Option (MS × Unit) := fx (fun (k : Int32 × Int32 × Int32 × Int32 × MS → Option (MS × Unit)) (i : Int32 × Int32 × Int32 × Int32 × MS) => m_Mo_part_31b k i.1 i.2.1 i.2.2.1 i.2.2.2.1 i.2.2.2.2) FU i
def m_Mo_part_21  (l1 : Int32) (l2 : Int32) (l4 : Int32) (s0 : Int32) (M : MS) : Option (MS × Unit) :=
  if s0 = 0 then (m_Mo_part_31 (l1, l2, l4, s0, M)) else (m_Mo_part_31 (l1, l2, (l4 + (1:Int32)), s0, M))
def m_Mo_part (a1 : Int32) (a2 : Int32) (a3 : Int32) (M : MS) : Option (MS × Unit) :=
  (ldA M 100 a1).bind fun v1 =>
  cal cM M (m_Mo_sort v1 M) fun r2 =>
  if ¬ r2.2 = a3 then (m_Mo_part_21 a1 a2 a1 (0:Int32) r2.1) else (m_Mo_part_21 a1 a2 a1 (1:Int32) r2.1)
def m_Mo_isAll (a1 : Int32) (M : MS) : Option (MS × Int32) :=
  (ldA M 107 a1).bind fun v1 =>
  if ¬ v1 = (2:Int32) then (some (M, (0:Int32))) else ((ldA M 106 a1).bind fun v2 =>
  (ldA M 100 v2).bind fun v3 =>
  if ¬ v3 = (6:Int32) then (some (M, (0:Int32))) else ((ldA M 106 a1).bind fun v4 =>
  (ldA M 100 (v4 + (1:Int32))).bind fun v5 =>
  if ¬ v5 = 0 then (some (M, (0:Int32))) else (some (M, (1:Int32)))))
def m_Mo_simple_15  (l2 : Int32) (s1 : Int32) (s2 : Int32) (M : MS) : Option (MS × Int32) :=
  (stA M 101 s1 s2).bind fun M1 =>
  (stA M1 101 (1:Int32) (0:Int32)).bind fun M2 =>
  if l2 = 0 then (some (M2, (1:Int32))) else (some (M2, (2:Int32)))
def m_Mo_simple (a1 : Int32) (a2 : Int32) (M : MS) : Option (MS × Int32) :=
  if a2 = 0 then (m_Mo_simple_15 a2 (0:Int32) (0:Int32) M) else (m_Mo_simple_15 a2 (0:Int32) (6:Int32) M)
def m_Mo_compare_37  (l1 : Int32) (l2 : Int32) (l3 : Int32) (l4 : Int32) (l5 : Int32) (M : MS) : Option (MS × Int32) :=
  if l5 = l2 then (some (M, (l2 - l4))) else (if ¬ l5 = l4 then ((ldA M 100 (l1 + l5)).bind fun v1 =>
  (ldA M 100 (l3 + l5)).bind fun v2 =>
  some (M, (v1 - v2))) else (some (M, (l2 - l4))))
def m_Mo_compare_3b (k3 : Int32 × Int32 × Int32 × Int32 × Int32 × MS → Option (MS × Int32)) (l1 : Int32) (l2 : Int32) (l3 : Int32) (l4 : Int32) (l5 : Int32) (M : MS) : Option (MS × Int32) :=
  if l2 ≤ l5 then (m_Mo_compare_37 l1 l2 l3 l4 l5 M) else (if l4 ≤ l5 then (m_Mo_compare_37 l1 l2 l3 l4 l5 M) else ((ldA M 100 (l1 + l5)).bind fun v1 =>
  (ldA M 100 (l3 + l5)).bind fun v2 =>
  if ¬ v1 = v2 then (m_Mo_compare_37 l1 l2 l3 l4 l5 M) else (k3 (l1, l2, l3, l4, (l5 + (1:Int32)), M))))
def m_Mo_compare_3  (i : Int32 × Int32 × Int32 × Int32 × Int32 × MS) : Option (MS × Int32) := fx (fun (k : Int32 × Int32 × Int32 × Int32 × Int32 × MS → Option (MS × Int32)) (i : Int32 × Int32 × Int32 × Int32 × Int32 × MS) => m_Mo_compare_3b k i.1 i.2.1 i.2.2.1 i.2.2.2.1 i.2.2.2.2.1 i.2.2.2.2.2) FU i
def m_Mo_compare (a1 : Int32) (a2 : Int32) (a3 : Int32) (a4 : Int32) (M : MS) : Option (MS × Int32) :=
  m_Mo_compare_3 (a1, a2, a3, a4, (0:Int32), M)
def m_Mo_order_159 (k4 : Int32 × Int32 × Int32 × MS → Option (MS × Int32)) (l1 : Int32) (l2 : Int32) (l3 : Int32) (l4 : Int32) (l5 : Int32) (l6 : Int32) (M : MS) : Option (MS × Int32) :=
  (stA M 106 l6 l4).bind fun M1 =>
  (stA M1 107 l6 l5).bind fun M2 =>
  k4 (l1, (l2 + (1:Int32)), (l3 + (1:Int32)), M2)
def m_Mo_order_114b (k4 : Int32 × Int32 × Int32 × MS → Option (MS × Int32)) (k114 : Int32 × Int32 × Int32 × Int32 × Int32 × Int32 × Int32 × MS → Option (MS × Int32)) (l1 : Int32) (l2 : Int32) (l3 : Int32) (l4 : Int32) (l5 : Int32) (l6 : Int32) (l7 : Int32) (M : MS) : Option (MS × Int32) :=
  if l7 ≤ l6 then (m_Mo_order_159 k4 l1 l2 l3 l4 l5 l6 M) else ((ldA M 106 (l7 - (1:Int32))).bind fun v1 =>
  (stA M 106 l7 v1).bind fun M2 =>
  (ldA M2 107 (l7 - (1:Int32))).bind fun v3 =>
  (stA M2 107 l7 v3).bind fun M4 =>
  k114 (l1, l2, l3, l4, l5, l6, (l7 + (-1:Int32)), M4))
def m_Mo_order_114 (k4 : Int32 × Int32 × Int32 × MS → Option (MS × Int32)) (i : Int32 × Int32 × Int32 × Int32 × Int32 × Int32 × Int32 × MS) : Option (MS × Int32) := fx (fun (k : Int32 × Int32 × Int32 × Int32 × Int32 × Int32 × Int32 × MS → Option (MS × Int32)) (i : Int32 × Int32 × Int32 × Int32 × Int32 × Int32 × Int32 × MS) => m_Mo_order_114b k4 k i.1 i.2.1 i.2.2.1 i.2.2.2.1 i.2.2.2.2.1 i.2.2.2.2.2.1 i.2.2.2.2.2.2.1 i.2.2.2.2.2.2.2) FU i
def m_Mo_order_71 (k4 : Int32 × Int32 × Int32 × MS → Option (MS × Int32)) (l1 : Int32) (l2 : Int32) (l3 : Int32) (l4 : Int32) (l5 : Int32) (l6 : Int32) (M : MS) : Option (MS × Int32) :=
  if l6 ≤ 0 then (m_Mo_order_114 k4 (l1, l2, l3, l4, l5, l6, l2, M)) else ((ldA M 106 (l6 - (1:Int32))).bind fun v1 =>
  (ldA M 107 (l6 - (1:Int32))).bind fun v2 =>
  cal cM M (m_Mo_compare l4 l5 v1 v2 M) fun r3 =>
  if ¬ r3.2 = 0 then (m_Mo_order_114 k4 (l1, l2, l3, l4, l5, l6, l2, r3.1)) else (k4 (l1, l2, (l3 + (1:Int32)), r3.1)))
def m_Mo_order_28b (k4 : Int32 × Int32 × Int32 × MS → Option (MS × Int32)) (k28 : Int32 × Int32 × Int32 × Int32 × Int32 × Int32 × MS → Option (MS × Int32)) (l1 : Int32) (l2 : Int32) (l3 : Int32) (l4 : Int32) (l5 : Int32) (l6 : Int32) (M : MS) : Option (MS × Int32) :=
  if l6 ≤ 0 then (m_Mo_order_71 k4 l1 l2 l3 l4 l5 l6 M) else ((ldA M 106 (l6 - (1:Int32))).bind fun v1 =>
  (ldA M 107 (l6 - (1:Int32))).bind fun v2 =>
  cal cM M (m_Mo_compare l4 l5 v1 v2 M) fun r3 =>
  if 0 ≤ r3.2 then (m_Mo_order_71 k4 l1 l2 l3 l4 l5 l6 r3.1) else (k28 (l1, l2, l3, l4, l5, (l6 + (-1:Int32)), r3.1)))
def m_Mo_order_28 (k4 : Int32 × Int32 × Int32 × MS → Option (MS × Int32)) (i : Int32 × Int32 × Int32 × Int32 × Int32 × Int32 × MS) : Option (MS × Int32) := fx (fun (k : Int32 × Int32 × Int32 × Int32 × Int32 × Int32 × MS → Option (MS × Int32)) (i : Int32 × Int32 × Int32 × Int32 × Int32 × Int32 × MS) => m_Mo_order_28b k4 k i.1 i.2.1 i.2.2.1 i.2.2.2.1 i.2.2.2.2.1 i.2.2.2.2.2.1 i.2.2.2.2.2.2) FU i
def m_Mo_order_4b (k4 : Int32 × Int32 × Int32 × MS → Option (MS × Int32)) (l1 : Int32) (l2 : Int32) (l3 : Int32) (M : MS) : Option (MS × Int32) :=
  if l1 ≤ l3 then (some (M, l2)) else ((ldA M 106 l3).bind fun v1 =>
  (ldA M 107 l3).bind fun v2 =>
  m_Mo_order_28 k4 (l1, l2, l3, v1, v2, l2, M))
def m_Mo_order_4  (i : Int32 × Int32 × Int32 × MS) : Option (MS × Int32) := fx (fun (k : Int32 × Int32 × Int32 × MS → Option (MS × Int32)) (i : Int32 × Int32 × Int32 × MS) => m_Mo_order_4b k i.1 i.2.1 i.2.2.1 i.2.2.2) FU i
def m_Mo_order (a1 : Int32) (M : MS) : Option (MS × Int32) :=
  m_Mo_order_4 (a1, (0:Int32), (0:Int32), M)
def m_Mo_unite_353 (k298 : Int32 × Int32 × MS → Option (MS × Int32)) (l6 : Int32) (l7 : Int32) (M : MS) : Option (MS × Int32) :=
  (ldA M 107 l7).bind fun v1 =>
  k298 ((l6 + v1), (l7 + (1:Int32)), M)
def m_Mo_unite_310b (k298 : Int32 × Int32 × MS → Option (MS × Int32)) (k310 : Int32 × Int32 × Int32 × MS → Option (MS × Int32)) (l6 : Int32) (l7 : Int32) (l8 : Int32) (M : MS) : Option (MS × Int32) :=
  (ldA M 107 l7).bind fun v1 =>
  if v1 ≤ l8 then (m_Mo_unite_353 k298 l6 l7 M) else ((ldA M 106 l7).bind fun v2 =>
  (ldA M 100 (v2 + l8)).bind fun v3 =>
  (stA M 101 (l6 + l8) v3).bind fun M4 =>
  k310 (l6, l7, (l8 + (1:Int32)), M4))
def m_Mo_unite_310 (k298 : Int32 × Int32 × MS → Option (MS × Int32)) (i : Int32 × Int32 × Int32 × MS) : Option (MS × Int32) := fx (fun (k : Int32 × Int32 × Int32 × MS → Option (MS × Int32)) (i : Int32 × Int32 × Int32 × MS) => m_Mo_unite_310b k298 k i.1 i.2.1 i.2.2.1 i.2.2.2) FU i
def m_Mo_unite_298b (k298 : Int32 × Int32 × MS → Option (MS × Int32)) (l6 : Int32) (l7 : Int32) (M : MS) : Option (MS × Int32) :=
  if (gI M 97 13) ≤ l7 then (some (M, l6)) else (m_Mo_unite_310 k298 (l6, l7, (0:Int32), M))
def m_Mo_unite_298  (i : Int32 × Int32 × MS) : Option (MS × Int32) := fx (fun (k : Int32 × Int32 × MS → Option (MS × Int32)) (i : Int32 × Int32 × MS) => m_Mo_unite_298b k i.1 i.2.1 i.2.2) FU i
def m_Mo_unite_263  (s1 : Int32) (s2 : Int32) (M : MS) : Option (MS × Int32) :=
  cal cM M (m_Mo_simple s1 s2 M) fun r1 =>
  some (r1.1, r1.2)
def m_Mo_unite_235  (l1 : Int32) (l2 : Int32) (l5 : Int32) (M : MS) : Option (MS × Int32) :=
  cal cM M (m_Mo_order l5 M) fun r1 =>
  (some (sI r1.1 97 13 r1.2)).bind fun M2 =>
  if ¬ (gI M2 97 13) = 0 then (if (gI M2 97 13) ≤ (1:Int32) then (m_Mo_unite_298 ((0:Int32), (0:Int32), M2)) else ((stA M2 101 (0:Int32) (l1 ||| ((gI M2 97 13) <<< ((3:Int32) &&& 31)))).bind fun M3 =>
  m_Mo_unite_298 ((1:Int32), (0:Int32), M3))) else (if ¬ l2 = 0 then (m_Mo_unite_263 l1 (0:Int32) M2) else (m_Mo_unite_263 l1 (1:Int32) M2))
def m_Mo_unite_194  (l1 : Int32) (l2 : Int32) (l3 : Int32) (l4 : Int32) (l5 : Int32) (M : MS) : Option (MS × Int32) :=
  if l4 = 0 then (m_Mo_unite_235 l1 l2 l5 M) else ((stA M 100 (gI M 97 10) ((2:Int32) ||| (l3 <<< ((3:Int32) &&& 31)))).bind fun M1 =>
  (stA M1 106 l5 (gI M1 97 10)).bind fun M2 =>
  (stA M2 107 l5 (1:Int32)).bind fun M3 =>
  m_Mo_unite_235 l1 l2 (l5 + (1:Int32)) M3)
def m_Mo_unite_178  (l1 : Int32) (l2 : Int32) (l3 : Int32) (l4 : Int32) (l5 : Int32) (M : MS) : Option (MS × Int32) :=
  if l4 = 0 then (m_Mo_unite_194 l1 l2 l3 l4 l5 M) else (if ¬ l3 = 0 then (m_Mo_unite_194 l1 l2 l3 l4 l5 M) else (cal cM M (m_Mo_simple l1 (0:Int32) M) fun r1 =>
  some (r1.1, r1.2)))
def m_Mo_unite_106 (k31 : Int32 × Int32 × Int32 × Int32 × Int32 × Int32 × MS → Option (MS × Int32)) (l1 : Int32) (l2 : Int32) (l3 : Int32) (l4 : Int32) (l5 : Int32) (l6 : Int32) (l7 : Int32) (M : MS) : Option (MS × Int32) :=
  cal cM M (m_Mo_sort l7 M) fun r1 =>
  if ¬ r1.2 = (2:Int32) then ((ldA r1.1 106 l6).bind fun v2 =>
  (stA r1.1 106 l5 v2).bind fun M3 =>
  (ldA M3 107 l6).bind fun v4 =>
  (stA M3 107 l5 v4).bind fun M5 =>
  k31 (l1, l2, l3, l4, (l5 + (1:Int32)), (l6 + (1:Int32)), M5)) else (if l2 = 0 then (k31 (l1, l2, (l3 &&& (l7 >>> ((3:Int32) &&& 31))), (1:Int32), l5, (l6 + (1:Int32)), r1.1)) else (k31 (l1, l2, (l3 ||| (l7 >>> ((3:Int32) &&& 31))), (1:Int32), l5, (l6 + (1:Int32)), r1.1)))
def m_Mo_unite_82 (k31 : Int32 × Int32 × Int32 × Int32 × Int32 × Int32 × MS → Option (MS × Int32)) (l1 : Int32) (l2 : Int32) (l3 : Int32) (l4 : Int32) (l5 : Int32) (l6 : Int32) (l7 : Int32) (M : MS) : Option (MS × Int32) :=
  if l2 = 0 then (cal cM M (m_Mo_isAll l6 M) fun r1 =>
  if r1.2 = 0 then (m_Mo_unite_106 k31 l1 l2 l3 l4 l5 l6 l7 r1.1) else (k31 (l1, l2, l3, l4, l5, (l6 + (1:Int32)), r1.1))) else (if ¬ l7 = 0 then (m_Mo_unite_106 k31 l1 l2 l3 l4 l5 l6 l7 M) else (k31 (l1, l2, l3, l4, l5, (l6 + (1:Int32)), M)))
def m_Mo_unite_75  (l1 : Int32) (l2 : Int32) (M : MS) : Option (MS × Int32) :=
  cal cM M (m_Mo_simple l1 l2 M) fun r1 =>
  some (r1.1, r1.2)
def m_Mo_unite_67  (l1 : Int32) (l2 : Int32) (M : MS) : Option (MS × Int32) :=
  m_Mo_unite_75 l1 l2 M
def m_Mo_unite_31b (k31 : Int32 × Int32 × Int32 × Int32 × Int32 × Int32 × MS → Option (MS × Int32)) (l1 : Int32) (l2 : Int32) (l3 : Int32) (l4 : Int32) (l5 : Int32) (l6 : Int32) (M : MS) : Option (MS × Int32) :=
  if (gI M 97 13) ≤ l6 then (m_Mo_unite_178 l1 l2 l3 l4 l5 M) else ((ldA M 106 l6).bind fun v1 =>
  (ldA M 100 v1).bind fun v2 =>
  if l2 = 0 then (if ¬ v2 = 0 then (m_Mo_unite_82 k31 l1 l2 l3 l4 l5 l6 v2 M) else (m_Mo_unite_75 l1 l2 M)) else (cal cM M (m_Mo_isAll l6 M) fun r3 =>
  if r3.2 = 0 then (m_Mo_unite_82 k31 l1 l2 l3 l4 l5 l6 v2 r3.1) else (m_Mo_unite_67 l1 l2 r3.1)))
def m_Mo_unite_31  (i : Int32 × Int32 × Int32 × Int32 × Int32 × Int32 × MS) : Option (MS × Int32) := fx (fun (k : Int32 × Int32 × Int32 × Int32 × Int32 × Int32 × MS → Option (MS × Int32)) (i : Int32 × Int32 × Int32 × Int32 × Int32 × Int32 × MS) => m_Mo_unite_31b k i.1 i.2.1 i.2.2.1 i.2.2.2.1 i.2.2.2.2.1 i.2.2.2.2.2.1 i.2.2.2.2.2.2) FU i
def m_Mo_unite_21  (l1 : Int32) (l2 : Int32) (s0 : Int32) (M : MS) : Option (MS × Int32) :=
  m_Mo_unite_31 (l1, l2, s0, (0:Int32), (0:Int32), (0:Int32), M)
def m_Mo_unite_10  (l1 : Int32) (s0 : Int32) (M : MS) : Option (MS × Int32) :=
  if s0 = 0 then (m_Mo_unite_21 l1 s0 (15:Int32) M) else (m_Mo_unite_21 l1 s0 (0:Int32) M)
def m_Mo_unite (a1 : Int32) (M : MS) : Option (MS × Int32) :=
  if ¬ a1 = (4:Int32) then (m_Mo_unite_10 a1 (0:Int32) M) else (m_Mo_unite_10 a1 (1:Int32) M)
def m_Mo_join_281  (s1 : Int32) (s3 : Int32) (M : MS) : Option (MS × Int32) :=
  cal cM M (m_Mo_unite s3 M) fun r1 =>
  cal cM r1.1 (m_Mo_keep s1 r1.2 r1.1) fun r2 =>
  some (r2.1, r2.2)
def m_Mo_join_264  (l1 : Int32) (l4 : Int32) (s1 : Int32) (s2 : Int32) (s3 : Int32) (M : MS) : Option (MS × Int32) :=
  cal cM M (m_Mo_part s1 s2 s3 M) fun r1 =>
  if ¬ l4 = (1:Int32) then (m_Mo_join_281 l1 (5:Int32) r1.1) else (m_Mo_join_281 l1 (4:Int32) r1.1)
def m_Mo_join_237  (l1 : Int32) (l2 : Int32) (l3 : Int32) (l4 : Int32) (s1 : Int32) (s2 : Int32) (s3 : Int32) (M : MS) : Option (MS × Int32) :=
  cal cM M (m_Mo_part s1 s2 s3 M) fun r1 =>
  (ldA r1.1 99 l2).bind fun v2 =>
  (ldA r1.1 99 l3).bind fun v3 =>
  if ¬ l4 = (1:Int32) then (m_Mo_join_264 l1 l4 v2 v3 (5:Int32) r1.1) else (m_Mo_join_264 l1 l4 v2 v3 (4:Int32) r1.1)
def m_Mo_join_196  (l1 : Int32) (l2 : Int32) (l3 : Int32) (l4 : Int32) (M : MS) : Option (MS × Int32) :=
  (ldA M 99 l2).bind fun v1 =>
  (ldA M 99 l3).bind fun v2 =>
  (some (sI M 97 10 (v1 + v2))).bind fun M3 =>
  (some (sI M3 97 13 (0:Int32))).bind fun M4 =>
  (ldA M4 99 l2).bind fun v5 =>
  if ¬ l4 = (1:Int32) then (m_Mo_join_237 l1 l2 l3 l4 (0:Int32) v5 (5:Int32) M4) else (m_Mo_join_237 l1 l2 l3 l4 (0:Int32) v5 (4:Int32) M4)
def m_Mo_join_153b (k153 : Int32 × Int32 × Int32 × Int32 × Int32 × MS → Option (MS × Int32)) (l1 : Int32) (l2 : Int32) (l3 : Int32) (l4 : Int32) (l6 : Int32) (M : MS) : Option (MS × Int32) :=
  (ldA M 99 l3).bind fun v1 =>
  if v1 ≤ l6 then (m_Mo_join_196 l1 l2 l3 l4 M) else ((ldA M 99 l2).bind fun v2 =>
  (ldA M 98 (((100:Int32) * l3) + l6)).bind fun v3 =>
  (stA M 100 (v2 + l6) v3).bind fun M4 =>
  k153 (l1, l2, l3, l4, (l6 + (1:Int32)), M4))
def m_Mo_join_153  (i : Int32 × Int32 × Int32 × Int32 × Int32 × MS) : Option (MS × Int32) := fx (fun (k : Int32 × Int32 × Int32 × Int32 × Int32 × MS → Option (MS × Int32)) (i : Int32 × Int32 × Int32 × Int32 × Int32 × MS) => m_Mo_join_153b k i.1 i.2.1 i.2.2.1 i.2.2.2.1 i.2.2.2.2.1 i.2.2.2.2.2) FU i
def m_Mo_join_114b (k114 : Int32 × Int32 × Int32 × Int32 × Int32 × MS → Option (MS × Int32)) (l1 : Int32) (l2 : Int32) (l3 : Int32) (l4 : Int32) (l6 : Int32) (M : MS) : Option (MS × Int32) :=
  (ldA M 99 l2).bind fun v1 =>
  if v1 ≤ l6 then (m_Mo_join_153 (l1, l2, l3, l4, (0:Int32), M)) else ((ldA M 98 (((100:Int32) * l2) + l6)).bind fun v2 =>
  (stA M 100 l6 v2).bind fun M3 =>
  k114 (l1, l2, l3, l4, (l6 + (1:Int32)), M3))
def m_Mo_join_114  (i : Int32 × Int32 × Int32 × Int32 × Int32 × MS) : Option (MS × Int32) := fx (fun (k : Int32 × Int32 × Int32 × Int32 × Int32 × MS → Option (MS × Int32)) (i : Int32 × Int32 × Int32 × Int32 × Int32 × MS) => m_Mo_join_114b k i.1 i.2.1 i.2.2.1 i.2.2.2.1 i.2.2.2.2.1 i.2.2.2.2.2) FU i
def m_Mo_join_60  (l1 : Int32) (l2 : Int32) (l3 : Int32) (l4 : Int32) (s1 : Int32) (s2 : Int32) (M : MS) : Option (MS × Int32) :=
  cal cM M (m_Mo_fails s1 s2 M) fun r1 =>
  if r1.2 = 0 then (if ¬ l4 = 0 then (m_Mo_join_114 (l1, l2, l3, l4, (0:Int32), r1.1)) else ((ldA r1.1 99 l2).bind fun v2 =>
  (ldA r1.1 99 l3).bind fun v3 =>
  cal cM r1.1 (m_Mo_cat 98 ((100:Int32) * l2) v2 98 ((100:Int32) * l3) v3 r1.1) fun r4 =>
  cal cM r4.1 (m_Mo_keep l1 r4.2 r4.1) fun r5 =>
  some (r5.1, r5.2))) else (some (r1.1, (0:Int32)))
def m_Mo_join_59  (l1 : Int32) (l2 : Int32) (l3 : Int32) (l4 : Int32) (s1 : Int32) (M : MS) : Option (MS × Int32) :=
  m_Mo_join_60 l1 l2 l3 l4 s1 (0:Int32) M
def m_Mo_join_55  (l1 : Int32) (l2 : Int32) (l3 : Int32) (l4 : Int32) (s1 : Int32) (M : MS) : Option (MS × Int32) :=
  m_Mo_join_60 l1 l2 l3 l4 s1 (1:Int32) M
def m_Mo_join_39  (l1 : Int32) (l2 : Int32) (l3 : Int32) (l4 : Int32) (l5 : Int32) (s1 : Int32) (M : MS) : Option (MS × Int32) :=
  if l5 = 0 then (m_Mo_join_59 l1 l2 l3 l4 s1 M) else (if l4 < 0 then (m_Mo_join_55 l1 l2 l3 l4 s1 M) else (if l4 ≤ (2:Int32) then (m_Mo_join_59 l1 l2 l3 l4 s1 M) else (m_Mo_join_55 l1 l2 l3 l4 s1 M)))
def m_Mo_join_26  (l1 : Int32) (l2 : Int32) (l3 : Int32) (l4 : Int32) (s0 : Int32) (M : MS) : Option (MS × Int32) :=
  if ¬ s0 = 0 then (m_Mo_join_39 l1 l2 l3 l4 s0 (0:Int32) M) else (m_Mo_join_39 l1 l2 l3 l4 s0 (1:Int32) M)
def m_Mo_join_25  (l1 : Int32) (l2 : Int32) (l3 : Int32) (l4 : Int32) (M : MS) : Option (MS × Int32) :=
  m_Mo_join_26 l1 l2 l3 l4 (0:Int32) M
def m_Mo_join (a1 : Int32) (a2 : Int32) (a3 : Int32) (a4 : Int32) (M : MS) : Option (MS × Int32) :=
  cal cM M (m_Mo_isSlot a1 M) fun r1 =>
  if r1.2 = 0 then (m_Mo_join_25 a1 a2 a3 a4 r1.1) else (cal cM r1.1 (m_Mo_isSlot a2 r1.1) fun r2 =>
  if r2.2 = 0 then (m_Mo_join_25 a1 a2 a3 a4 r2.1) else (cal cM r2.1 (m_Mo_isSlot a3 r2.1) fun r3 =>
  if r3.2 = 0 then (m_Mo_join_25 a1 a2 a3 a4 r3.1) else (m_Mo_join_26 a1 a2 a3 a4 (1:Int32) r3.1)))
def m_Mo_not_54b (k54 : Int32 × Int32 × Int32 × MS → Option (MS × Int32)) (l1 : Int32) (l2 : Int32) (l3 : Int32) (M : MS) : Option (MS × Int32) :=
  if l2 ≤ l3 then (some (M, (l2 + (1:Int32)))) else ((ldA M 100 (l1 + l3)).bind fun v1 =>
  (stA M 101 (l3 + (1:Int32)) v1).bind fun M2 =>
  k54 (l1, l2, (l3 + (1:Int32)), M2))
def m_Mo_not_54  (i : Int32 × Int32 × Int32 × MS) : Option (MS × Int32) := fx (fun (k : Int32 × Int32 × Int32 × MS → Option (MS × Int32)) (i : Int32 × Int32 × Int32 × MS) => m_Mo_not_54b k i.1 i.2.1 i.2.2.1 i.2.2.2) FU i
def m_Mo_not_13b (k13 : Int32 × Int32 × Int32 × MS → Option (MS × Int32)) (l1 : Int32) (l2 : Int32) (l3 : Int32) (M : MS) : Option (MS × Int32) :=
  if l2 ≤ l3 then (some (M, (l2 - (1:Int32)))) else ((ldA M 100 (l1 + l3)).bind fun v1 =>
  (stA M 101 (l3 - (1:Int32)) v1).bind fun M2 =>
  k13 (l1, l2, (l3 + (1:Int32)), M2))
def m_Mo_not_13  (i : Int32 × Int32 × Int32 × MS) : Option (MS × Int32) := fx (fun (k : Int32 × Int32 × Int32 × MS → Option (MS × Int32)) (i : Int32 × Int32 × Int32 × MS) => m_Mo_not_13b k i.1 i.2.1 i.2.2.1 i.2.2.2) FU i
def m_Mo_not (a1 : Int32) (a2 : Int32) (M : MS) : Option (MS × Int32) :=
  (ldA M 100 a1).bind fun v1 =>
  if ¬ v1 = (6:Int32) then ((stA M 101 (0:Int32) (6:Int32)).bind fun M2 =>
  m_Mo_not_54 (a1, a2, (0:Int32), M2)) else (m_Mo_not_13 (a1, a2, (1:Int32), M))
def m_Mo_turn_252  (s1 : Int32) (s2 : Int32) (M : MS) : Option (MS × Int32) :=
  cal cM M (m_Mo_keep s1 s2 M) fun r1 =>
  some (r1.1, r1.2)
def m_Mo_turn_227  (l1 : Int32) (l5 : Int32) (l6 : Int32) (l7 : Int32) (M : MS) : Option (MS × Int32) :=
  if l6 = 0 then (if l7 = 0 then (m_Mo_turn_252 l1 (l5 + (1:Int32)) M) else (m_Mo_turn_252 l1 l5 M)) else (m_Mo_turn_252 l1 (1:Int32) M)
def m_Mo_turn_213 (k183 : Int32 × Int32 × Int32 × Int32 × Int32 × MS → Option (MS × Int32)) (l1 : Int32) (l5 : Int32) (l6 : Int32) (l7 : Int32) (l8 : Int32) (s1 : Int32) (M : MS) : Option (MS × Int32) :=
  (ldA M 100 l8).bind fun v1 =>
  (stA M 101 s1 v1).bind fun M2 =>
  k183 (l1, l5, l6, l7, (l8 + (1:Int32)), M2)
def m_Mo_turn_183b (k183 : Int32 × Int32 × Int32 × Int32 × Int32 × MS → Option (MS × Int32)) (l1 : Int32) (l5 : Int32) (l6 : Int32) (l7 : Int32) (l8 : Int32) (M : MS) : Option (MS × Int32) :=
  if l5 ≤ l8 then (m_Mo_turn_227 l1 l5 l6 l7 M) else (if ¬ l6 = 0 then (m_Mo_turn_227 l1 l5 l6 l7 M) else (if l7 = 0 then (m_Mo_turn_213 k183 l1 l5 l6 l7 l8 (l8 + (1:Int32)) M) else (m_Mo_turn_213 k183 l1 l5 l6 l7 l8 l8 M)))
def m_Mo_turn_183  (i : Int32 × Int32 × Int32 × Int32 × Int32 × MS) : Option (MS × Int32) := fx (fun (k : Int32 × Int32 × Int32 × Int32 × Int32 × MS → Option (MS × Int32)) (i : Int32 × Int32 × Int32 × Int32 × Int32 × MS) => m_Mo_turn_183b k i.1 i.2.1 i.2.2.1 i.2.2.2.1 i.2.2.2.2.1 i.2.2.2.2.2) FU i
def m_Mo_turn_179  (l1 : Int32) (l5 : Int32) (l6 : Int32) (l7 : Int32) (s1 : Int32) (s2 : Int32) (M : MS) : Option (MS × Int32) :=
  (stA M 101 s1 s2).bind fun M1 =>
  m_Mo_turn_183 (l1, l5, l6, l7, (0:Int32), M1)
def m_Mo_turn_161  (l1 : Int32) (l5 : Int32) (l6 : Int32) (s0 : Int32) (M : MS) : Option (MS × Int32) :=
  if l6 = 0 then (m_Mo_turn_179 l1 l5 l6 s0 (0:Int32) (7:Int32) M) else (m_Mo_turn_179 l1 l5 l6 s0 (0:Int32) (1:Int32) M)
def m_Mo_turn_143  (l1 : Int32) (l5 : Int32) (s0 : Int32) (M : MS) : Option (MS × Int32) :=
  (ldA M 100 (0:Int32)).bind fun v1 =>
  if ¬ v1 = (7:Int32) then (m_Mo_turn_161 l1 l5 s0 (0:Int32) M) else (m_Mo_turn_161 l1 l5 s0 (1:Int32) M)
def m_Mo_turn_138  (l1 : Int32) (l5 : Int32) (M : MS) : Option (MS × Int32) :=
  m_Mo_turn_143 l1 l5 (1:Int32) M
def m_Mo_turn_102  (l1 : Int32) (l3 : Int32) (l5 : Int32) (M : MS) : Option (MS × Int32) :=
  if ¬ l3 = 0 then ((ldA M 100 (0:Int32)).bind fun v1 =>
  if v1 = 0 then (m_Mo_turn_138 l1 l5 M) else ((ldA M 100 (0:Int32)).bind fun v2 =>
  if ¬ v2 = (1:Int32) then (m_Mo_turn_143 l1 l5 (0:Int32) M) else (m_Mo_turn_138 l1 l5 M))) else (cal cM M (m_Mo_not (0:Int32) l5 M) fun r3 =>
  cal cM r3.1 (m_Mo_keep l1 r3.2 r3.1) fun r4 =>
  some (r4.1, r4.2))
def m_Mo_turn_70b (k70 : Int32 × Int32 × Int32 × Int32 × Int32 × MS → Option (MS × Int32)) (l1 : Int32) (l2 : Int32) (l3 : Int32) (l5 : Int32) (l6 : Int32) (M : MS) : Option (MS × Int32) :=
  if l5 ≤ l6 then (m_Mo_turn_102 l1 l3 l5 M) else ((ldA M 98 (((100:Int32) * l2) + l6)).bind fun v1 =>
  (stA M 100 l6 v1).bind fun M2 =>
  k70 (l1, l2, l3, l5, (l6 + (1:Int32)), M2))
def m_Mo_turn_70  (i : Int32 × Int32 × Int32 × Int32 × Int32 × MS) : Option (MS × Int32) := fx (fun (k : Int32 × Int32 × Int32 × Int32 × Int32 × MS → Option (MS × Int32)) (i : Int32 × Int32 × Int32 × Int32 × Int32 × MS) => m_Mo_turn_70b k i.1 i.2.1 i.2.2.1 i.2.2.2.1 i.2.2.2.2.1 i.2.2.2.2.2) FU i
def m_Mo_turn_51  (l1 : Int32) (l2 : Int32) (l3 : Int32) (s1 : Int32) (s2 : Int32) (M : MS) : Option (MS × Int32) :=
  cal cM M (m_Mo_fails s1 s2 M) fun r1 =>
  if r1.2 = 0 then ((ldA r1.1 99 l2).bind fun v2 =>
  m_Mo_turn_70 (l1, l2, l3, v2, (0:Int32), r1.1)) else (some (r1.1, (0:Int32)))
def m_Mo_turn_50  (l1 : Int32) (l2 : Int32) (l3 : Int32) (s1 : Int32) (M : MS) : Option (MS × Int32) :=
  m_Mo_turn_51 l1 l2 l3 s1 (0:Int32) M
def m_Mo_turn_46  (l1 : Int32) (l2 : Int32) (l3 : Int32) (s1 : Int32) (M : MS) : Option (MS × Int32) :=
  m_Mo_turn_51 l1 l2 l3 s1 (1:Int32) M
def m_Mo_turn_32  (l1 : Int32) (l2 : Int32) (l3 : Int32) (l4 : Int32) (s1 : Int32) (M : MS) : Option (MS × Int32) :=
  if l4 = 0 then (m_Mo_turn_50 l1 l2 l3 s1 M) else (if l3 < 0 then (m_Mo_turn_46 l1 l2 l3 s1 M) else (if l3 ≤ (1:Int32) then (m_Mo_turn_50 l1 l2 l3 s1 M) else (m_Mo_turn_46 l1 l2 l3 s1 M)))
def m_Mo_turn_19  (l1 : Int32) (l2 : Int32) (l3 : Int32) (s0 : Int32) (M : MS) : Option (MS × Int32) :=
  if ¬ s0 = 0 then (m_Mo_turn_32 l1 l2 l3 s0 (0:Int32) M) else (m_Mo_turn_32 l1 l2 l3 s0 (1:Int32) M)
def m_Mo_turn_18  (l1 : Int32) (l2 : Int32) (l3 : Int32) (M : MS) : Option (MS × Int32) :=
  m_Mo_turn_19 l1 l2 l3 (0:Int32) M
def m_Mo_turn (a1 : Int32) (a2 : Int32) (a3 : Int32) (M : MS) : Option (MS × Int32) :=
  cal cM M (m_Mo_isSlot a1 M) fun r1 =>
  if r1.2 = 0 then (m_Mo_turn_18 a1 a2 a3 r1.1) else (cal cM r1.1 (m_Mo_isSlot a2 r1.1) fun r2 =>
  if r2.2 = 0 then (m_Mo_turn_18 a1 a2 a3 r2.1) else (m_Mo_turn_19 a1 a2 a3 (1:Int32) r2.1))
def m_Mo_place_31  (l1 : Int32) (l2 : Int32) (l3 : Int32) (l4 : Int32) (M : MS) : Option (MS × Unit) :=
  (stA M 102 (gI M 97 9) l1).bind fun M1 =>
  (stA M1 103 (gI M1 97 9) l2).bind fun M2 =>
  (stA M2 104 (gI M2 97 9) l3).bind fun M3 =>
  (stZ M3 105 (gI M3 97 9) l4).bind fun M4 =>
  (some (sI M4 97 10 (l1 + l2))).bind fun M5 =>
  (some (sI M5 97 9 ((gI M5 97 9) + (1:Int32)))).bind fun M6 =>
  some (M6, ())
def m_Mo_place_3b (k3 : Int32 × Int32 × Int32 × Int32 × Int32 × MS → Option (MS × Unit)) (l1 : Int32) (l2 : Int32) (l3 : Int32) (l4 : Int32) (l5 : Int32) (M : MS) : Option (MS × Unit) :=
  if l2 ≤ l5 then (m_Mo_place_31 l1 l2 l3 l4 M) else ((ldA M 101 l5).bind fun v1 =>
  (stA M 100 (l1 + l5) v1).bind fun M2 =>
  k3 (l1, l2, l3, l4, (l5 + (1:Int32)), M2))
def m_Mo_place_3  (i : Int32 × Int32 × Int32 × Int32 × Int32 × MS) : Option (MS × Unit) := fx (fun (k : Int32 × Int32 × Int32 × Int32 × Int32 × MS → Option (MS × Unit)) (i : Int32 × Int32 × Int32 × Int32 × Int32 × MS) => m_Mo_place_3b k i.1 i.2.1 i.2.2.1 i.2.2.2.1 i.2.2.2.2.1 i.2.2.2.2.2) FU i
def m_Mo_place (a1 : Int32) (a2 : Int32) (a3 : Int32) (a4 : Int32) (M : MS) : Option (MS × Unit) :=
  m_Mo_place_3 (a1, a2, a3, a4, (0:Int32), M)
def m_Mo_both_196  (s1 : Int32) (s2 : Int32) (s3 : Int32) (s4 : Int32) (M : MS) : Option (MS × Unit) :=
  cal cM M (m_Mo_place s1 s2 s3 s4 M) fun r1 =>
  some (r1.1, ())
def m_Mo_both_195  (s1 : Int32) (s2 : Int32) (s3 : Int32) (M : MS) : Option (MS × Unit) :=
  m_Mo_both_196 s1 s2 s3 (0:Int32) M
def m_Mo_both_153  (l2 : Int32) (l3 : Int32) (l4 : Int32) (M : MS) : Option (MS × Unit) :=
  (some (sI M 97 9 l3)).bind fun M1 =>
  (ldA M1 102 l3).bind fun v2 =>
  (ldA M1 104 l3).bind fun v3 =>
  (ldA M1 105 l2).bind fun v4 =>
  if v4 = 0 then (m_Mo_both_195 v2 l4 v3 M1) else ((ldA M1 105 l3).bind fun v5 =>
  if v5 = 0 then (m_Mo_both_195 v2 l4 v3 M1) else (m_Mo_both_196 v2 l4 v3 (1:Int32) M1))
def m_Mo_both_104  (l2 : Int32) (l3 : Int32) (l4 : Int32) (l5 : Int32) (M : MS) : Option (MS × Unit) :=
  (some (sI M 97 10 ((gI M 97 10) + l4))).bind fun M1 =>
  (some (sI M1 97 13 (0:Int32))).bind fun M2 =>
  cal cM M2 (m_Mo_part l5 l4 (4:Int32) M2) fun r3 =>
  (ldA r3.1 102 l3).bind fun v4 =>
  (ldA r3.1 103 l3).bind fun v5 =>
  cal cM r3.1 (m_Mo_part v4 v5 (4:Int32) r3.1) fun r6 =>
  cal cM r6.1 (m_Mo_unite (4:Int32) r6.1) fun r7 =>
  m_Mo_both_153 l2 l3 r7.2 r7.1
def m_Mo_both_74b (k74 : Int32 × Int32 × Int32 × Int32 × Int32 × MS → Option (MS × Unit)) (l2 : Int32) (l3 : Int32) (l4 : Int32) (l5 : Int32) (l6 : Int32) (M : MS) : Option (MS × Unit) :=
  if l4 ≤ l6 then (m_Mo_both_104 l2 l3 l4 l5 M) else ((ldA M 101 l6).bind fun v1 =>
  (stA M 100 (l5 + l6) v1).bind fun M2 =>
  k74 (l2, l3, l4, l5, (l6 + (1:Int32)), M2))
def m_Mo_both_74  (i : Int32 × Int32 × Int32 × Int32 × Int32 × MS) : Option (MS × Unit) := fx (fun (k : Int32 × Int32 × Int32 × Int32 × Int32 × MS → Option (MS × Unit)) (i : Int32 × Int32 × Int32 × Int32 × Int32 × MS) => m_Mo_both_74b k i.1 i.2.1 i.2.2.1 i.2.2.2.1 i.2.2.2.2.1 i.2.2.2.2.2) FU i
def m_Mo_both (a1 : Nat) (M : MS) : Option (MS × Unit) :=
  if x_kd a1 = 20 then ((ldA M 102 ((gI M 97 9) - (1:Int32))).bind fun v1 =>
  (ldA M 103 ((gI M 97 9) - (1:Int32))).bind fun v2 =>
  (ldA M 104 ((gI M 97 9) - (1:Int32))).bind fun v3 =>
  (ldA M 104 ((gI M 97 9) - (2:Int32))).bind fun v4 =>
  (ldA M 104 ((gI M 97 9) - (1:Int32))).bind fun v5 =>
  cal cM M (m_Mo_cat 100 v1 v2 a1 v3 (v4 - v5) M) fun r6 =>
  (ldA r6.1 105 ((gI M 97 9) - (1:Int32))).bind fun v7 =>
  if v7 = 0 then (m_Mo_both_153 ((gI M 97 9) - (1:Int32)) ((gI M 97 9) - (2:Int32)) r6.2 r6.1) else (m_Mo_both_74 (((gI M 97 9) - (1:Int32)), ((gI M 97 9) - (2:Int32)), r6.2, (gI r6.1 97 10), (0:Int32), r6.1))) else none
def m_Mo_several_111  (l1 : Int32) (l3 : Int32) (l4 : Int32) (M : MS) : Option (MS × Unit) :=
  cal cM M (m_Mo_unite l1 M) fun r1 =>
  (ldA r1.1 104 l3).bind fun v2 =>
  (some (sI r1.1 97 9 l3)).bind fun M3 =>
  (ldA M3 102 l3).bind fun v4 =>
  cal cM M3 (m_Mo_place v4 r1.2 v2 l4 M3) fun r5 =>
  some (r5.1, ())
def m_Mo_several_27b (k27 : Int32 × Int32 × Int32 × Int32 × MS → Option (MS × Unit)) (l1 : Int32) (l3 : Int32) (l4 : Int32) (l5 : Int32) (M : MS) : Option (MS × Unit) :=
  if (gI M 97 9) ≤ l5 then (m_Mo_several_111 l1 l3 l4 M) else ((ldA M 102 l5).bind fun v1 =>
  (ldA M 103 l5).bind fun v2 =>
  cal cM M (m_Mo_part v1 v2 l1 M) fun r3 =>
  if ¬ l1 = (5:Int32) then (if ¬ l4 = 0 then (k27 (l1, l3, (1:Int32), (l5 + (1:Int32)), r3.1)) else ((ldA r3.1 105 l5).bind fun v4 =>
  if v4 = 0 then (k27 (l1, l3, (0:Int32), (l5 + (1:Int32)), r3.1)) else (k27 (l1, l3, (1:Int32), (l5 + (1:Int32)), r3.1)))) else (if l4 = 0 then (k27 (l1, l3, (0:Int32), (l5 + (1:Int32)), r3.1)) else ((ldA r3.1 105 l5).bind fun v5 =>
  if v5 = 0 then (k27 (l1, l3, (0:Int32), (l5 + (1:Int32)), r3.1)) else (k27 (l1, l3, (1:Int32), (l5 + (1:Int32)), r3.1)))))
def m_Mo_several_27  (i : Int32 × Int32 × Int32 × Int32 × MS) : Option (MS × Unit) := fx (fun (k : Int32 × Int32 × Int32 × Int32 × MS → Option (MS × Unit)) (i : Int32 × Int32 × Int32 × Int32 × MS) => m_Mo_several_27b k i.1 i.2.1 i.2.2.1 i.2.2.2.1 i.2.2.2.2) FU i
def m_Mo_several_17  (l1 : Int32) (l3 : Int32) (s0 : Int32) (M : MS) : Option (MS × Unit) :=
  (some (sI M 97 13 (0:Int32))).bind fun M1 =>
  m_Mo_several_27 (l1, l3, s0, l3, M1)
def m_Mo_several (a1 : Int32) (a2 : Int32) (M : MS) : Option (MS × Unit) :=
  if ¬ a1 = (5:Int32) then (m_Mo_several_17 a1 ((gI M 97 9) - a2) (0:Int32) M) else (m_Mo_several_17 a1 ((gI M 97 9) - a2) (1:Int32) M)
def m_Mo_derived_310   (M : MS) : Option (MS × Int32) :=
  (ldA M 103 (0:Int32)).bind fun v1 =>
  some (M, v1)
def m_Mo_derived_177 (k15 : Nat × Int32 × Int32 × Int32 × MS → Option (MS × Int32)) (l1 : Nat) (l2 : Int32) (l4 : Int32) (l5 : Int32) (s1 : Int32) (s2 : Int32) (s3 : Int32) (s4 : Int32) (M : MS) : Option (MS × Int32) :=
  cal cM M (m_Mo_place s1 s2 s3 s4 M) fun r1 =>
  k15 (l1, l2, l4, (l5 + (-1:Int32)), r1.1)
def m_Mo_derived_93 (k15 : Nat × Int32 × Int32 × Int32 × MS → Option (MS × Int32)) (l1 : Nat) (l2 : Int32) (l4 : Int32) (l5 : Int32) (s1 : Int32) (s2 : Int32) (s3 : Int32) (s4 : Int32) (M : MS) : Option (MS × Int32) :=
  cal cM M (m_Mo_place s1 s2 s3 s4 M) fun r1 =>
  k15 (l1, l2, l4, (l5 + (-1:Int32)), r1.1)
def m_Mo_derived_69 (k15 : Nat × Int32 × Int32 × Int32 × MS → Option (MS × Int32)) (l1 : Nat) (l2 : Int32) (l4 : Int32) (l5 : Int32) (l6 : Int32) (s1 : Int32) (s2 : Int32) (M : MS) : Option (MS × Int32) :=
  (stA M 101 s1 s2).bind fun M1 =>
  if ¬ l6 = (1:Int32) then (m_Mo_derived_93 k15 l1 l2 l4 l5 (gI M1 97 10) (1:Int32) ((l2 + l5) + (1:Int32)) (0:Int32) M1) else (m_Mo_derived_93 k15 l1 l2 l4 l5 (gI M1 97 10) (1:Int32) ((l2 + l5) + (1:Int32)) (1:Int32) M1)
def m_Mo_derived_68 (k15 : Nat × Int32 × Int32 × Int32 × MS → Option (MS × Int32)) (l1 : Nat) (l2 : Int32) (l4 : Int32) (l5 : Int32) (l6 : Int32) (s1 : Int32) (M : MS) : Option (MS × Int32) :=
  m_Mo_derived_69 k15 l1 l2 l4 l5 l6 s1 (0:Int32) M
def m_Mo_derived_15b (k15 : Nat × Int32 × Int32 × Int32 × MS → Option (MS × Int32)) (l1 : Nat) (l2 : Int32) (l4 : Int32) (l5 : Int32) (M : MS) : Option (MS × Int32) :=
  if l5 < 0 then (m_Mo_derived_310 M) else ((ldA M l1 (l2 + l5)).bind fun v1 =>
  cal cM M (m_Mo_sort v1 M) fun r2 =>
  if (3:Int32) ≤ r2.2 then (cal cM r2.1 (m_Mo_sort v1 r2.1) fun r3 =>
  if ¬ r3.2 = (6:Int32) then (cal cM r3.1 (m_Mo_sort v1 r3.1) fun r4 =>
  if ¬ r4.2 = (7:Int32) then (cal cM r4.1 (m_Mo_sort v1 r4.1) fun r5 =>
  if ¬ r5.2 = (3:Int32) then (cal cM r5.1 (m_Mo_sort v1 r5.1) fun r6 =>
  cal cM r6.1 (m_Mo_several r6.2 (v1 >>> ((3:Int32) &&& 31)) r6.1) fun r7 =>
  k15 (l1, l2, l4, (l5 + (-1:Int32)), r7.1)) else (cal cM r5.1 (m_Mo_both l1 r5.1) fun r8 =>
  k15 (l1, l2, l4, (l5 + (-1:Int32)), r8.1))) else ((some (sI r4.1 97 9 ((gI r4.1 97 9) - (1:Int32)))).bind fun M9 =>
  (ldA M9 102 (gI M9 97 9)).bind fun v10 =>
  (ldA M9 102 (gI M9 97 9)).bind fun v11 =>
  (ldA M9 103 (gI M9 97 9)).bind fun v12 =>
  (ldA M9 104 (gI M9 97 9)).bind fun v13 =>
  cal cM M9 (m_Mo_cat 100 v11 v12 l1 (l2 + l5) ((v13 - l2) - l5) M9) fun r14 =>
  (ldA r14.1 104 (gI r14.1 97 9)).bind fun v15 =>
  cal cM r14.1 (m_Mo_place v10 r14.2 v15 (1:Int32) r14.1) fun r16 =>
  k15 (l1, l2, l4, (l5 + (-1:Int32)), r16.1))) else ((some (sI r3.1 97 9 ((gI r3.1 97 9) - (1:Int32)))).bind fun M17 =>
  (ldA M17 102 (gI M17 97 9)).bind fun v18 =>
  (ldA M17 102 (gI M17 97 9)).bind fun v19 =>
  (ldA M17 103 (gI M17 97 9)).bind fun v20 =>
  cal cM M17 (m_Mo_not v19 v20 M17) fun r21 =>
  (ldA r21.1 104 (gI r21.1 97 9)).bind fun v22 =>
  (ldA r21.1 105 (gI r21.1 97 9)).bind fun v23 =>
  if ¬ v23 = 0 then (m_Mo_derived_177 k15 l1 l2 l4 l5 v18 r21.2 v22 (0:Int32) r21.1) else (m_Mo_derived_177 k15 l1 l2 l4 l5 v18 r21.2 v22 (1:Int32) r21.1))) else (cal cM r2.1 (m_Mo_sort v1 r2.1) fun r24 =>
  if ¬ r24.2 = (2:Int32) then (m_Mo_derived_68 k15 l1 l2 l4 l5 v1 (0:Int32) r24.1) else (if ¬ (((v1 >>> ((3:Int32) &&& 31)) >>> (l4 &&& 31)) &&& (1:Int32)) = (1:Int32) then (m_Mo_derived_68 k15 l1 l2 l4 l5 v1 (0:Int32) r24.1) else (m_Mo_derived_69 k15 l1 l2 l4 l5 v1 (0:Int32) (1:Int32) r24.1))))
def m_Mo_derived_15  (i : Nat × Int32 × Int32 × Int32 × MS) : Option (MS × Int32) := fx (fun (k : Nat × Int32 × Int32 × Int32 × MS → Option (MS × Int32)) (i : Nat × Int32 × Int32 × Int32 × MS) => m_Mo_derived_15b k i.1 i.2.1 i.2.2.1 i.2.2.2.1 i.2.2.2.2) FU i
def m_Mo_derived (a1 : Nat) (a2 : Int32) (a3 : Int32) (a4 : Int32) (M : MS) : Option (MS × Int32) :=
  if x_kd a1 = 20 then ((some (sI M 97 9 (0:Int32))).bind fun M1 =>
  (some (sI M1 97 10 (0:Int32))).bind fun M2 =>
  m_Mo_derived_15 (a1, a2, a4, (a3 - (1:Int32)), M2)) else none
def m_Mo_derive_117  (l1 : Int32) (l5 : Int32) (M : MS) : Option (MS × Int32) :=
  cal cM M (m_Mo_keep l1 l5 M) fun r1 =>
  some (r1.1, r1.2)
def m_Mo_derive_83b (k83 : Int32 × Int32 × Int32 × MS → Option (MS × Int32)) (l1 : Int32) (l5 : Int32) (l6 : Int32) (M : MS) : Option (MS × Int32) :=
  if l5 ≤ l6 then (m_Mo_derive_117 l1 l5 M) else (if (100:Int32) < l5 then (m_Mo_derive_117 l1 l5 M) else ((ldA M 100 l6).bind fun v1 =>
  (stA M 101 l6 v1).bind fun M2 =>
  k83 (l1, l5, (l6 + (1:Int32)), M2)))
def m_Mo_derive_83  (i : Int32 × Int32 × Int32 × MS) : Option (MS × Int32) := fx (fun (k : Int32 × Int32 × Int32 × MS → Option (MS × Int32)) (i : Int32 × Int32 × Int32 × MS) => m_Mo_derive_83b k i.1 i.2.1 i.2.2.1 i.2.2.2) FU i
def m_Mo_derive_51  (l1 : Int32) (l2 : Int32) (l3 : Int32) (s1 : Int32) (s2 : Int32) (M : MS) : Option (MS × Int32) :=
  cal cM M (m_Mo_fails s1 s2 M) fun r1 =>
  if r1.2 = 0 then ((ldA r1.1 99 l2).bind fun v2 =>
  cal cM r1.1 (m_Mo_derived 98 ((100:Int32) * l2) v2 l3 r1.1) fun r3 =>
  m_Mo_derive_83 (l1, r3.2, (0:Int32), r3.1)) else (some (r1.1, (0:Int32)))
def m_Mo_derive_50  (l1 : Int32) (l2 : Int32) (l3 : Int32) (s1 : Int32) (M : MS) : Option (MS × Int32) :=
  m_Mo_derive_51 l1 l2 l3 s1 (0:Int32) M
def m_Mo_derive_46  (l1 : Int32) (l2 : Int32) (l3 : Int32) (s1 : Int32) (M : MS) : Option (MS × Int32) :=
  m_Mo_derive_51 l1 l2 l3 s1 (1:Int32) M
def m_Mo_derive_32  (l1 : Int32) (l2 : Int32) (l3 : Int32) (l4 : Int32) (s1 : Int32) (M : MS) : Option (MS × Int32) :=
  if l4 = 0 then (m_Mo_derive_50 l1 l2 l3 s1 M) else (if l3 < 0 then (m_Mo_derive_46 l1 l2 l3 s1 M) else (if l3 ≤ (3:Int32) then (m_Mo_derive_50 l1 l2 l3 s1 M) else (m_Mo_derive_46 l1 l2 l3 s1 M)))
def m_Mo_derive_19  (l1 : Int32) (l2 : Int32) (l3 : Int32) (s0 : Int32) (M : MS) : Option (MS × Int32) :=
  if ¬ s0 = 0 then (m_Mo_derive_32 l1 l2 l3 s0 (0:Int32) M) else (m_Mo_derive_32 l1 l2 l3 s0 (1:Int32) M)
def m_Mo_derive_18  (l1 : Int32) (l2 : Int32) (l3 : Int32) (M : MS) : Option (MS × Int32) :=
  m_Mo_derive_19 l1 l2 l3 (0:Int32) M
def m_Mo_derive (a1 : Int32) (a2 : Int32) (a3 : Int32) (M : MS) : Option (MS × Int32) :=
  cal cM M (m_Mo_isSlot a1 M) fun r1 =>
  if r1.2 = 0 then (m_Mo_derive_18 a1 a2 a3 r1.1) else (cal cM r1.1 (m_Mo_isSlot a2 r1.1) fun r2 =>
  if r2.2 = 0 then (m_Mo_derive_18 a1 a2 a3 r2.1) else (m_Mo_derive_19 a1 a2 a3 (1:Int32) r2.1))
def m_Mo_same_16b (k16 : Nat × Int32 × Int32 × Nat × Int32 × Int32 × Int32 × MS → Option (MS × Int32)) (l0 : Nat) (l1 : Int32) (l2 : Int32) (l3 : Nat) (l4 : Int32) (l6 : Int32) (l7 : Int32) (M : MS) : Option (MS × Int32) :=
  if l2 ≤ l7 then (some (M, nb l6)) else (if l6 = 0 then (some (M, nb l6)) else ((ldA M l0 (l1 + l7)).bind fun v1 =>
  (ldA M l3 (l4 + l7)).bind fun v2 =>
  if ¬ v1 = v2 then (k16 (l0, l1, l2, l3, l4, (0:Int32), (l7 + (1:Int32)), M)) else (k16 (l0, l1, l2, l3, l4, (1:Int32), (l7 + (1:Int32)), M))))
def m_Mo_same_16  (i : Nat × Int32 × Int32 × Nat × Int32 × Int32 × Int32 × MS) : Option (MS × Int32) := fx (fun (k : Nat × Int32 × Int32 × Nat × Int32 × Int32 × Int32 × MS → Option (MS × Int32)) (i : Nat × Int32 × Int32 × Nat × Int32 × Int32 × Int32 × MS) => m_Mo_same_16b k i.1 i.2.1 i.2.2.1 i.2.2.2.1 i.2.2.2.2.1 i.2.2.2.2.2.1 i.2.2.2.2.2.2.1 i.2.2.2.2.2.2.2) FU i
def m_Mo_same (a0 : Nat) (a1 : Int32) (a2 : Int32) (a3 : Nat) (a4 : Int32) (a5 : Int32) (M : MS) : Option (MS × Int32) :=
  if x_kd a0 = 20 then (if x_kd a3 = 20 then (if ¬ a2 = a5 then (m_Mo_same_16 (a0, a1, a2, a3, a4, (0:Int32), (0:Int32), M)) else (m_Mo_same_16 (a0, a1, a2, a3, a4, (1:Int32), (0:Int32), M))) else none) else none
def m_Mo_similar_20  (l1 : Int32) (l2 : Int32) (s1 : Int32) (M : MS) : Option (MS × Int32) :=
  cal cM M (m_Mo_fails s1 (0:Int32) M) fun r1 =>
  if ¬ r1.2 = 0 then (some (r1.1, (0:Int32))) else ((ldA r1.1 99 l1).bind fun v2 =>
  (ldA r1.1 99 l2).bind fun v3 =>
  cal cM r1.1 (m_Mo_same 98 ((100:Int32) * l1) v2 98 ((100:Int32) * l2) v3 r1.1) fun r4 =>
  if r4.2 = 0 then (some (r4.1, (0:Int32))) else (some (r4.1, (1:Int32))))
def m_Mo_similar_15  (l1 : Int32) (l2 : Int32) (M : MS) : Option (MS × Int32) :=
  m_Mo_similar_20 l1 l2 (1:Int32) M
def m_Mo_similar (a1 : Int32) (a2 : Int32) (M : MS) : Option (MS × Int32) :=
  cal cM M (m_Mo_isSlot a1 M) fun r1 =>
  if r1.2 = 0 then (m_Mo_similar_15 a1 a2 r1.1) else (cal cM r1.1 (m_Mo_isSlot a2 r1.1) fun r2 =>
  if ¬ r2.2 = 0 then (m_Mo_similar_20 a1 a2 (0:Int32) r2.1) else (m_Mo_similar_15 a1 a2 r2.1))
def m_Mo_match_415 (k52 : Int32 × Int32 × Int32 × Int32 × Int32 × Int32 × Int32 × Int32 × MS → Option (MS × Unit)) (l2 : Int32) (l3 : Int32) (l4 : Int32) (l5 : Int32) (l6 : Int32) (l7 : Int32) (l8 : Int32) (l9 : Int32) (l11 : Int32) (M : MS) : Option (MS × Unit) :=
  (stA M 121 (l6 + l9) l11).bind fun M1 =>
  k52 (l2, l3, l4, l5, l6, l7, l8, (l9 + (1:Int32)), M1)
def m_Mo_match_179 (k52 : Int32 × Int32 × Int32 × Int32 × Int32 × Int32 × Int32 × Int32 × MS → Option (MS × Unit)) (l2 : Int32) (l3 : Int32) (l4 : Int32) (l5 : Int32) (l6 : Int32) (l7 : Int32) (l8 : Int32) (l9 : Int32) (s0 : Int32) (M : MS) : Option (MS × Unit) :=
  m_Mo_match_415 k52 l2 l3 l4 l5 l6 l7 l8 l9 s0 M
def m_Mo_match_178 (k52 : Int32 × Int32 × Int32 × Int32 × Int32 × Int32 × Int32 × Int32 × MS → Option (MS × Unit)) (l2 : Int32) (l3 : Int32) (l4 : Int32) (l5 : Int32) (l6 : Int32) (l7 : Int32) (l8 : Int32) (l9 : Int32) (M : MS) : Option (MS × Unit) :=
  m_Mo_match_179 k52 l2 l3 l4 l5 l6 l7 l8 l9 (0:Int32) M
def m_Mo_match_239 (k52 : Int32 × Int32 × Int32 × Int32 × Int32 × Int32 × Int32 × Int32 × MS → Option (MS × Unit)) (l2 : Int32) (l3 : Int32) (l4 : Int32) (l5 : Int32) (l6 : Int32) (l7 : Int32) (l8 : Int32) (l9 : Int32) (l11 : Int32) (M : MS) : Option (MS × Unit) :=
  m_Mo_match_415 k52 l2 l3 l4 l5 l6 l7 l8 l9 l11 M
def m_Mo_match_188b (k52 : Int32 × Int32 × Int32 × Int32 × Int32 × Int32 × Int32 × Int32 × MS → Option (MS × Unit)) (k188 : Int32 × Int32 × Int32 × Int32 × Int32 × Int32 × Int32 × Int32 × Int32 × Int32 × MS → Option (MS × Unit)) (l2 : Int32) (l3 : Int32) (l4 : Int32) (l5 : Int32) (l6 : Int32) (l7 : Int32) (l8 : Int32) (l9 : Int32) (l11 : Int32) (l12 : Int32) (M : MS) : Option (MS × Unit) :=
  if l5 < l12 then (m_Mo_match_239 k52 l2 l3 l4 l5 l6 l7 l8 l9 l11 M) else ((ldA M 121 (l7 + l9)).bind fun v1 =>
  if ¬ ((v1 >>> (l12 &&& 31)) &&& (1:Int32)) = (1:Int32) then (k188 (l2, l3, l4, l5, l6, l7, l8, l9, (l11 ||| (0:Int32)), (l12 + (1:Int32)), M)) else ((ldA M 121 (l8 + l12)).bind fun v2 =>
  k188 (l2, l3, l4, l5, l6, l7, l8, l9, (l11 ||| v2), (l12 + (1:Int32)), M)))
def m_Mo_match_188 (k52 : Int32 × Int32 × Int32 × Int32 × Int32 × Int32 × Int32 × Int32 × MS → Option (MS × Unit)) (i : Int32 × Int32 × Int32 × Int32 × Int32 × Int32 × Int32 × Int32 × Int32 × Int32 × MS) : Option (MS × Unit) := fx (fun (k : Int32 × Int32 × Int32 × Int32 × Int32 × Int32 × Int32 × Int32 × Int32 × Int32 × MS → Option (MS × Unit)) (i : Int32 × Int32 × Int32 × Int32 × Int32 × Int32 × Int32 × Int32 × Int32 × Int32 × MS) => m_Mo_match_188b k52 k i.1 i.2.1 i.2.2.1 i.2.2.2.1 i.2.2.2.2.1 i.2.2.2.2.2.1 i.2.2.2.2.2.2.1 i.2.2.2.2.2.2.2.1 i.2.2.2.2.2.2.2.2.1 i.2.2.2.2.2.2.2.2.2.1 i.2.2.2.2.2.2.2.2.2.2) FU i
def m_Mo_match_337b (k52 : Int32 × Int32 × Int32 × Int32 × Int32 × Int32 × Int32 × Int32 × MS → Option (MS × Unit)) (k337 : Int32 × Int32 × Int32 × Int32 × Int32 × Int32 × Int32 × Int32 × Int32 × Int32 × MS → Option (MS × Unit)) (l2 : Int32) (l3 : Int32) (l4 : Int32) (l5 : Int32) (l6 : Int32) (l7 : Int32) (l8 : Int32) (l9 : Int32) (l11 : Int32) (l12 : Int32) (M : MS) : Option (MS × Unit) :=
  cal cM M (m_Mo_arity l2 M) fun r1 =>
  if r1.2 ≤ l12 then (m_Mo_match_415 k52 l2 l3 l4 l5 l6 l7 l8 l9 l11 r1.1) else (cal cM r1.1 (m_Mo_sort l2 r1.1) fun r2 =>
  if ¬ r2.2 = (4:Int32) then ((ldA r2.1 122 ((l3 - (1:Int32)) - l12)).bind fun v3 =>
  (ldA r2.1 121 (((17:Int32) * v3) + l9)).bind fun v4 =>
  k337 (l2, l3, l4, l5, l6, l7, l8, l9, (l11 &&& v4), (l12 + (1:Int32)), r2.1)) else ((ldA r2.1 122 ((l3 - (1:Int32)) - l12)).bind fun v5 =>
  (ldA r2.1 121 (((17:Int32) * v5) + l9)).bind fun v6 =>
  k337 (l2, l3, l4, l5, l6, l7, l8, l9, (l11 ||| v6), (l12 + (1:Int32)), r2.1)))
def m_Mo_match_337 (k52 : Int32 × Int32 × Int32 × Int32 × Int32 × Int32 × Int32 × Int32 × MS → Option (MS × Unit)) (i : Int32 × Int32 × Int32 × Int32 × Int32 × Int32 × Int32 × Int32 × Int32 × Int32 × MS) : Option (MS × Unit) := fx (fun (k : Int32 × Int32 × Int32 × Int32 × Int32 × Int32 × Int32 × Int32 × Int32 × Int32 × MS → Option (MS × Unit)) (i : Int32 × Int32 × Int32 × Int32 × Int32 × Int32 × Int32 × Int32 × Int32 × Int32 × MS) => m_Mo_match_337b k52 k i.1 i.2.1 i.2.2.1 i.2.2.2.1 i.2.2.2.2.1 i.2.2.2.2.2.1 i.2.2.2.2.2.2.1 i.2.2.2.2.2.2.2.1 i.2.2.2.2.2.2.2.2.1 i.2.2.2.2.2.2.2.2.2.1 i.2.2.2.2.2.2.2.2.2.2) FU i
def m_Mo_match_315 (k52 : Int32 × Int32 × Int32 × Int32 × Int32 × Int32 × Int32 × Int32 × MS → Option (MS × Unit)) (l2 : Int32) (l3 : Int32) (l4 : Int32) (l5 : Int32) (l6 : Int32) (l7 : Int32) (l8 : Int32) (l9 : Int32) (l11 : Int32) (M : MS) : Option (MS × Unit) :=
  m_Mo_match_415 k52 l2 l3 l4 l5 l6 l7 l8 l9 l11 M
def m_Mo_match_272b (k52 : Int32 × Int32 × Int32 × Int32 × Int32 × Int32 × Int32 × Int32 × MS → Option (MS × Unit)) (k272 : Int32 × Int32 × Int32 × Int32 × Int32 × Int32 × Int32 × Int32 × Int32 × Int32 × MS → Option (MS × Unit)) (l2 : Int32) (l3 : Int32) (l4 : Int32) (l5 : Int32) (l6 : Int32) (l7 : Int32) (l8 : Int32) (l9 : Int32) (l11 : Int32) (l12 : Int32) (M : MS) : Option (MS × Unit) :=
  if l5 < l12 then (m_Mo_match_315 k52 l2 l3 l4 l5 l6 l7 l8 l9 l11 M) else (if ¬ ((l11 >>> (l12 &&& 31)) &&& (1:Int32)) = (1:Int32) then (k272 (l2, l3, l4, l5, l6, l7, l8, l9, (l11 ||| (0:Int32)), (l12 + (1:Int32)), M)) else ((ldA M 121 (l7 + l12)).bind fun v1 =>
  k272 (l2, l3, l4, l5, l6, l7, l8, l9, (l11 ||| v1), (l12 + (1:Int32)), M)))
def m_Mo_match_272 (k52 : Int32 × Int32 × Int32 × Int32 × Int32 × Int32 × Int32 × Int32 × MS → Option (MS × Unit)) (i : Int32 × Int32 × Int32 × Int32 × Int32 × Int32 × Int32 × Int32 × Int32 × Int32 × MS) : Option (MS × Unit) := fx (fun (k : Int32 × Int32 × Int32 × Int32 × Int32 × Int32 × Int32 × Int32 × Int32 × Int32 × MS → Option (MS × Unit)) (i : Int32 × Int32 × Int32 × Int32 × Int32 × Int32 × Int32 × Int32 × Int32 × Int32 × MS) => m_Mo_match_272b k52 k i.1 i.2.1 i.2.2.1 i.2.2.2.1 i.2.2.2.2.1 i.2.2.2.2.2.1 i.2.2.2.2.2.2.1 i.2.2.2.2.2.2.2.1 i.2.2.2.2.2.2.2.2.1 i.2.2.2.2.2.2.2.2.2.1 i.2.2.2.2.2.2.2.2.2.2) FU i
def m_Mo_match_52b (k52 : Int32 × Int32 × Int32 × Int32 × Int32 × Int32 × Int32 × Int32 × MS → Option (MS × Unit)) (l2 : Int32) (l3 : Int32) (l4 : Int32) (l5 : Int32) (l6 : Int32) (l7 : Int32) (l8 : Int32) (l9 : Int32) (M : MS) : Option (MS × Unit) :=
  if l5 < l9 then (some (M, ())) else (cal cM M (m_Mo_sort l2 M) fun r1 =>
  if r1.2 = (0:Int32) then (m_Mo_match_415 k52 l2 l3 l4 l5 l6 l7 l8 l9 (0:Int32) r1.1) else (if r1.2 = (1:Int32) then (m_Mo_match_415 k52 l2 l3 l4 l5 l6 l7 l8 l9 ((1:Int32) <<< (l9 &&& 31)) r1.1) else (if r1.2 = (2:Int32) then (if l5 ≤ l9 then (m_Mo_match_178 k52 l2 l3 l4 l5 l6 l7 l8 l9 r1.1) else (if ¬ (((l2 >>> ((3:Int32) &&& 31)) >>> (((l4 >>> (((2:Int32) * ((l5 - (1:Int32)) - l9)) &&& 31)) &&& (3:Int32)) &&& 31)) &&& (1:Int32)) = (1:Int32) then (m_Mo_match_178 k52 l2 l3 l4 l5 l6 l7 l8 l9 r1.1) else (m_Mo_match_179 k52 l2 l3 l4 l5 l6 l7 l8 l9 ((2:Int32) <<< (l9 &&& 31)) r1.1))) else (if r1.2 = (3:Int32) then (m_Mo_match_188 k52 (l2, l3, l4, l5, l6, l7, l8, l9, (0:Int32), l9, r1.1)) else (if r1.2 = (4:Int32) then (cal cM r1.1 (m_Mo_sort l2 r1.1) fun r2 =>
  if ¬ r2.2 = (4:Int32) then (m_Mo_match_337 k52 (l2, l3, l4, l5, l6, l7, l8, l9, ((((1:Int32) <<< ((l5 + (1:Int32)) &&& 31)) - (1:Int32)) &&& ((-1:Int32) <<< (l9 &&& 31))), (0:Int32), r2.1)) else (m_Mo_match_337 k52 (l2, l3, l4, l5, l6, l7, l8, l9, (0:Int32), (0:Int32), r2.1))) else (if r1.2 = (5:Int32) then (cal cM r1.1 (m_Mo_sort l2 r1.1) fun r3 =>
  if ¬ r3.2 = (4:Int32) then (m_Mo_match_337 k52 (l2, l3, l4, l5, l6, l7, l8, l9, ((((1:Int32) <<< ((l5 + (1:Int32)) &&& 31)) - (1:Int32)) &&& ((-1:Int32) <<< (l9 &&& 31))), (0:Int32), r3.1)) else (m_Mo_match_337 k52 (l2, l3, l4, l5, l6, l7, l8, l9, (0:Int32), (0:Int32), r3.1))) else (if r1.2 = (6:Int32) then ((ldA r1.1 121 (l7 + l9)).bind fun v4 =>
  m_Mo_match_415 k52 l2 l3 l4 l5 l6 l7 l8 l9 (((((1:Int32) <<< ((l5 + (1:Int32)) &&& 31)) - (1:Int32)) &&& ((-1:Int32) <<< (l9 &&& 31))) &&& (v4 ^^^ (-1:Int32))) r1.1) else (if r1.2 = (7:Int32) then (m_Mo_match_272 k52 (l2, l3, l4, l5, l6, l7, l8, l9, ((1:Int32) <<< (l9 &&& 31)), l9, r1.1)) else (cal cM r1.1 (m_Mo_sort l2 r1.1) fun r5 =>
  if ¬ r5.2 = (4:Int32) then (m_Mo_match_337 k52 (l2, l3, l4, l5, l6, l7, l8, l9, ((((1:Int32) <<< ((l5 + (1:Int32)) &&& 31)) - (1:Int32)) &&& ((-1:Int32) <<< (l9 &&& 31))), (0:Int32), r5.1)) else (m_Mo_match_337 k52 (l2, l3, l4, l5, l6, l7, l8, l9, (0:Int32), (0:Int32), r5.1)))))))))))
def m_Mo_match_52  (i : Int32 × Int32 × Int32 × Int32 × Int32 × Int32 × Int32 × Int32 × MS) : Option (MS × Unit) := fx (fun (k : Int32 × Int32 × Int32 × Int32 × Int32 × Int32 × Int32 × Int32 × MS → Option (MS × Unit)) (i : Int32 × Int32 × Int32 × Int32 × Int32 × Int32 × Int32 × Int32 × MS) => m_Mo_match_52b k i.1 i.2.1 i.2.2.1 i.2.2.2.1 i.2.2.2.2.1 i.2.2.2.2.2.1 i.2.2.2.2.2.2.1 i.2.2.2.2.2.2.2.1 i.2.2.2.2.2.2.2.2) FU i
def m_Mo_match_25  (l2 : Int32) (l3 : Int32) (l4 : Int32) (l5 : Int32) (l6 : Int32) (s0 : Int32) (M : MS) : Option (MS × Unit) :=
  if l3 ≤ (1:Int32) then (m_Mo_match_52 (l2, l3, l4, l5, l6, s0, (0:Int32), (0:Int32), M)) else ((ldA M 122 (l3 - (2:Int32))).bind fun v1 =>
  m_Mo_match_52 (l2, l3, l4, l5, l6, s0, ((17:Int32) * v1), (0:Int32), M))
def m_Mo_match (a1 : Int32) (a2 : Int32) (a3 : Int32) (a4 : Int32) (a5 : Int32) (M : MS) : Option (MS × Unit) :=
  if a3 ≤ 0 then (m_Mo_match_25 a2 a3 a4 a5 ((17:Int32) * a1) (0:Int32) M) else ((ldA M 122 (a3 - (1:Int32))).bind fun v1 =>
  m_Mo_match_25 a2 a3 a4 a5 ((17:Int32) * a1) ((17:Int32) * v1) M)
def m_Mo_has_117  (l3 : Int32) (M : MS) : Option (MS × Int32) :=
  (ldA M 121 (0:Int32)).bind fun v1 =>
  if ¬ ((v1 >>> (l3 &&& 31)) &&& (1:Int32)) = (1:Int32) then (some (M, (0:Int32))) else (some (M, (1:Int32)))
def m_Mo_has_58b (k58 : Int32 × Int32 × Int32 × Int32 × Int32 × MS → Option (MS × Int32)) (l1 : Int32) (l2 : Int32) (l3 : Int32) (l5 : Int32) (l6 : Int32) (M : MS) : Option (MS × Int32) :=
  if l6 < 0 then (m_Mo_has_117 l3 M) else ((ldA M 98 (((100:Int32) * l1) + l6)).bind fun v1 =>
  cal cM M (m_Mo_match l6 v1 l5 l2 l3 M) fun r2 =>
  cal cM r2.1 (m_Mo_arity v1 r2.1) fun r3 =>
  (stA r3.1 122 (l5 - r3.2) l6).bind fun M4 =>
  k58 (l1, l2, l3, ((l5 - r3.2) + (1:Int32)), (l6 + (-1:Int32)), M4))
def m_Mo_has_58  (i : Int32 × Int32 × Int32 × Int32 × Int32 × MS) : Option (MS × Int32) := fx (fun (k : Int32 × Int32 × Int32 × Int32 × Int32 × MS → Option (MS × Int32)) (i : Int32 × Int32 × Int32 × Int32 × Int32 × MS) => m_Mo_has_58b k i.1 i.2.1 i.2.2.1 i.2.2.2.1 i.2.2.2.2.1 i.2.2.2.2.2) FU i
def m_Mo_has_37  (l1 : Int32) (l2 : Int32) (l3 : Int32) (s1 : Int32) (s2 : Int32) (M : MS) : Option (MS × Int32) :=
  cal cM M (m_Mo_fails s1 s2 M) fun r1 =>
  if r1.2 = 0 then ((ldA r1.1 99 l1).bind fun v2 =>
  m_Mo_has_58 (l1, l2, l3, (0:Int32), (v2 - (1:Int32)), r1.1)) else (some (r1.1, (0:Int32)))
def m_Mo_has_36  (l1 : Int32) (l2 : Int32) (l3 : Int32) (s1 : Int32) (M : MS) : Option (MS × Int32) :=
  m_Mo_has_37 l1 l2 l3 s1 (0:Int32) M
def m_Mo_has_32  (l1 : Int32) (l2 : Int32) (l3 : Int32) (s1 : Int32) (M : MS) : Option (MS × Int32) :=
  m_Mo_has_37 l1 l2 l3 s1 (1:Int32) M
def m_Mo_has_17  (l1 : Int32) (l2 : Int32) (l3 : Int32) (l4 : Int32) (s1 : Int32) (M : MS) : Option (MS × Int32) :=
  if l4 = 0 then (m_Mo_has_36 l1 l2 l3 s1 M) else (if l3 < 0 then (m_Mo_has_32 l1 l2 l3 s1 M) else (if l3 ≤ (16:Int32) then (m_Mo_has_36 l1 l2 l3 s1 M) else (m_Mo_has_32 l1 l2 l3 s1 M)))
def m_Mo_has (a1 : Int32) (a2 : Int32) (a3 : Int32) (M : MS) : Option (MS × Int32) :=
  cal cM M (m_Mo_isSlot a1 M) fun r1 =>
  if ¬ r1.2 = 0 then (m_Mo_has_17 a1 a2 a3 r1.2 (0:Int32) r1.1) else (m_Mo_has_17 a1 a2 a3 r1.2 (1:Int32) r1.1)
def m_Mo_known_2b (k2 : Int32 × Int32 × Int32 × MS → Option (MS × Int32)) (l1 : Int32) (l2 : Int32) (l3 : Int32) (M : MS) : Option (MS × Int32) :=
  if l1 ≤ l3 then (some (M, l3)) else ((ldA M 109 l3).bind fun v1 =>
  cal cM M (m_Mo_same 108 ((300:Int32) * l3) v1 100 (0:Int32) l2 M) fun r2 =>
  if ¬ r2.2 = 0 then (some (r2.1, l3)) else (k2 (l1, l2, (l3 + (1:Int32)), r2.1)))
def m_Mo_known_2  (i : Int32 × Int32 × Int32 × MS) : Option (MS × Int32) := fx (fun (k : Int32 × Int32 × Int32 × MS → Option (MS × Int32)) (i : Int32 × Int32 × Int32 × MS) => m_Mo_known_2b k i.1 i.2.1 i.2.2.1 i.2.2.2) FU i
def m_Mo_known (a1 : Int32) (a2 : Int32) (M : MS) : Option (MS × Int32) :=
  m_Mo_known_2 (a1, a2, (0:Int32), M)
def m_Mo_explore_186 (k51 : Int32 × Int32 × MS → Option (MS × Int32)) (k59 : Int32 × Int32 × Int32 × MS → Option (MS × Int32)) (l2 : Int32) (l3 : Int32) (l4 : Int32) (l5 : Int32) (M : MS) : Option (MS × Int32) :=
  (stA M 109 l2 l5).bind fun M1 =>
  k59 ((l2 + (1:Int32)), l3, (l4 + (1:Int32)), M1)
def m_Mo_explore_153b (k51 : Int32 × Int32 × MS → Option (MS × Int32)) (k59 : Int32 × Int32 × Int32 × MS → Option (MS × Int32)) (k153 : Int32 × Int32 × Int32 × Int32 × Int32 × MS → Option (MS × Int32)) (l2 : Int32) (l3 : Int32) (l4 : Int32) (l5 : Int32) (l7 : Int32) (M : MS) : Option (MS × Int32) :=
  if l5 ≤ l7 then (m_Mo_explore_186 k51 k59 l2 l3 l4 l5 M) else ((ldA M 100 l7).bind fun v1 =>
  (stA M 108 (((300:Int32) * l2) + l7) v1).bind fun M2 =>
  k153 (l2, l3, l4, l5, (l7 + (1:Int32)), M2))
def m_Mo_explore_153 (k51 : Int32 × Int32 × MS → Option (MS × Int32)) (k59 : Int32 × Int32 × Int32 × MS → Option (MS × Int32)) (i : Int32 × Int32 × Int32 × Int32 × Int32 × MS) : Option (MS × Int32) := fx (fun (k : Int32 × Int32 × Int32 × Int32 × Int32 × MS → Option (MS × Int32)) (i : Int32 × Int32 × Int32 × Int32 × Int32 × MS) => m_Mo_explore_153b k51 k59 k i.1 i.2.1 i.2.2.1 i.2.2.2.1 i.2.2.2.2.1 i.2.2.2.2.2) FU i
def m_Mo_explore_59b (k51 : Int32 × Int32 × MS → Option (MS × Int32)) (k59 : Int32 × Int32 × Int32 × MS → Option (MS × Int32)) (l2 : Int32) (l3 : Int32) (l4 : Int32) (M : MS) : Option (MS × Int32) :=
  if (4:Int32) ≤ l4 then (k51 (l2, (l3 + (1:Int32)), M)) else ((ldA M 109 l3).bind fun v1 =>
  cal cM M (m_Mo_derived 108 ((300:Int32) * l3) v1 l4 M) fun r2 =>
  (ldA r2.1 105 (0:Int32)).bind fun v3 =>
  (stZ r2.1 114 l3 v3).bind fun M4 =>
  if r2.2 ≤ (300:Int32) then (cal cM M4 (m_Mo_known l2 r2.2 M4) fun r5 =>
  (stA r5.1 110 (((4:Int32) * l3) + l4) r5.2).bind fun M6 =>
  if l2 ≤ r5.2 then (if ¬ l2 = (150:Int32) then (m_Mo_explore_153 k51 k59 (l2, l3, l4, r2.2, (0:Int32), M6)) else (some (M6, (-1:Int32)))) else (k59 (l2, l3, (l4 + (1:Int32)), M6))) else (some (M4, (-1:Int32))))
def m_Mo_explore_59 (k51 : Int32 × Int32 × MS → Option (MS × Int32)) (i : Int32 × Int32 × Int32 × MS) : Option (MS × Int32) := fx (fun (k : Int32 × Int32 × Int32 × MS → Option (MS × Int32)) (i : Int32 × Int32 × Int32 × MS) => m_Mo_explore_59b k51 k i.1 i.2.1 i.2.2.1 i.2.2.2) FU i
def m_Mo_explore_51b (k51 : Int32 × Int32 × MS → Option (MS × Int32)) (l2 : Int32) (l3 : Int32) (M : MS) : Option (MS × Int32) :=
  if l2 ≤ l3 then (some (M, l2)) else (m_Mo_explore_59 k51 (l2, l3, (0:Int32), M))
def m_Mo_explore_51  (i : Int32 × Int32 × MS) : Option (MS × Int32) := fx (fun (k : Int32 × Int32 × MS → Option (MS × Int32)) (i : Int32 × Int32 × MS) => m_Mo_explore_51b k i.1 i.2.1 i.2.2) FU i
def m_Mo_explore_16b (k16 : Int32 × Int32 × Int32 × MS → Option (MS × Int32)) (l1 : Int32) (l2 : Int32) (l3 : Int32) (M : MS) : Option (MS × Int32) :=
  (ldA M 99 l1).bind fun v1 =>
  if v1 ≤ l3 then (m_Mo_explore_51 (l2, (0:Int32), M)) else ((ldA M 98 (((100:Int32) * l1) + l3)).bind fun v2 =>
  (stA M 108 l3 v2).bind fun M3 =>
  k16 (l1, l2, (l3 + (1:Int32)), M3))
def m_Mo_explore_16  (i : Int32 × Int32 × Int32 × MS) : Option (MS × Int32) := fx (fun (k : Int32 × Int32 × Int32 × MS → Option (MS × Int32)) (i : Int32 × Int32 × Int32 × MS) => m_Mo_explore_16b k i.1 i.2.1 i.2.2.1 i.2.2.2) FU i
def m_Mo_explore (a1 : Int32) (M : MS) : Option (MS × Int32) :=
  (ldA M 99 a1).bind fun v1 =>
  (stA M 109 (0:Int32) v1).bind fun M2 =>
  m_Mo_explore_16 (a1, (1:Int32), (0:Int32), M2)
def m_Mo_states_13  (l1 : Int32) (s1 : Int32) (M : MS) : Option (MS × Int32) :=
  cal cM M (m_Mo_fails s1 (0:Int32) M) fun r1 =>
  if r1.2 = 0 then (cal cM r1.1 (m_Mo_explore l1 r1.1) fun r2 =>
  some (r2.1, r2.2)) else (some (r1.1, (0:Int32)))
def m_Mo_states (a1 : Int32) (M : MS) : Option (MS × Int32) :=
  cal cM M (m_Mo_isSlot a1 M) fun r1 =>
  if ¬ r1.2 = 0 then (m_Mo_states_13 a1 (0:Int32) r1.1) else (m_Mo_states_13 a1 (1:Int32) r1.1)
def m_Mo_alike_24b (k24 : Int32 × Int32 × Int32 × Int32 × MS → Option (MS × Int32)) (l1 : Int32) (l2 : Int32) (l3 : Int32) (l4 : Int32) (M : MS) : Option (MS × Int32) :=
  if (4:Int32) ≤ l4 then (some (M, nb l3)) else (if l3 = 0 then (k24 (l1, l2, (0:Int32), (l4 + (1:Int32)), M)) else ((ldA M 110 (((4:Int32) * l1) + l4)).bind fun v1 =>
  (ldA M 112 v1).bind fun v2 =>
  (ldA M 110 (((4:Int32) * l2) + l4)).bind fun v3 =>
  (ldA M 112 v3).bind fun v4 =>
  if ¬ v2 = v4 then (k24 (l1, l2, (0:Int32), (l4 + (1:Int32)), M)) else (k24 (l1, l2, (1:Int32), (l4 + (1:Int32)), M))))
def m_Mo_alike_24  (i : Int32 × Int32 × Int32 × Int32 × MS) : Option (MS × Int32) := fx (fun (k : Int32 × Int32 × Int32 × Int32 × MS → Option (MS × Int32)) (i : Int32 × Int32 × Int32 × Int32 × MS) => m_Mo_alike_24b k i.1 i.2.1 i.2.2.1 i.2.2.2.1 i.2.2.2.2) FU i
def m_Mo_alike (a1 : Int32) (a2 : Int32) (M : MS) : Option (MS × Int32) :=
  (ldA M 112 a1).bind fun v1 =>
  (ldA M 112 a2).bind fun v2 =>
  if ¬ v1 = v2 then (m_Mo_alike_24 (a1, a2, (0:Int32), (0:Int32), M)) else (m_Mo_alike_24 (a1, a2, (1:Int32), (0:Int32), M))
def m_Mo_languages_199  (l2 : Int32) (l3 : Int32) (M : MS) : Option (MS × Int32) :=
  if ¬ l2 = (-1:Int32) then (some (M, l3)) else (some (M, (-1:Int32)))
def m_Mo_languages_170b (k70 : Int32 × Int32 × Int32 × MS → Option (MS × Int32)) (k170 : Int32 × Int32 × Int32 × Int32 × MS → Option (MS × Int32)) (l2 : Int32) (l3 : Int32) (l4 : Int32) (l5 : Int32) (M : MS) : Option (MS × Int32) :=
  if l2 ≤ l5 then (k70 (l2, l3, l4, M)) else ((ldA M 113 l5).bind fun v1 =>
  (stA M 112 l5 v1).bind fun M2 =>
  k170 (l2, l3, l4, (l5 + (1:Int32)), M2))
def m_Mo_languages_170 (k70 : Int32 × Int32 × Int32 × MS → Option (MS × Int32)) (i : Int32 × Int32 × Int32 × Int32 × MS) : Option (MS × Int32) := fx (fun (k : Int32 × Int32 × Int32 × Int32 × MS → Option (MS × Int32)) (i : Int32 × Int32 × Int32 × Int32 × MS) => m_Mo_languages_170b k70 k i.1 i.2.1 i.2.2.1 i.2.2.2.1 i.2.2.2.2) FU i
def m_Mo_languages_145 (k70 : Int32 × Int32 × Int32 × MS → Option (MS × Int32)) (k88 : Int32 × Int32 × Int32 × Int32 × MS → Option (MS × Int32)) (l2 : Int32) (l3 : Int32) (l4 : Int32) (l5 : Int32) (l6 : Int32) (s1 : Int32) (s2 : Int32) (M : MS) : Option (MS × Int32) :=
  (stA M 113 s1 s2).bind fun M1 =>
  if l5 ≤ l6 then (k88 (l2, (l3 + (1:Int32)), l4, (l5 + (1:Int32)), M1)) else (k88 (l2, (l3 + (0:Int32)), l4, (l5 + (1:Int32)), M1))
def m_Mo_languages_121 (k70 : Int32 × Int32 × Int32 × MS → Option (MS × Int32)) (k88 : Int32 × Int32 × Int32 × Int32 × MS → Option (MS × Int32)) (l2 : Int32) (l3 : Int32) (l4 : Int32) (l5 : Int32) (l6 : Int32) (M : MS) : Option (MS × Int32) :=
  if l5 ≤ l6 then (m_Mo_languages_145 k70 k88 l2 l3 l4 l5 l6 l5 l3 M) else ((ldA M 113 l6).bind fun v1 =>
  m_Mo_languages_145 k70 k88 l2 l3 l4 l5 l6 l5 v1 M)
def m_Mo_languages_97b (k70 : Int32 × Int32 × Int32 × MS → Option (MS × Int32)) (k88 : Int32 × Int32 × Int32 × Int32 × MS → Option (MS × Int32)) (k97 : Int32 × Int32 × Int32 × Int32 × Int32 × MS → Option (MS × Int32)) (l2 : Int32) (l3 : Int32) (l4 : Int32) (l5 : Int32) (l6 : Int32) (M : MS) : Option (MS × Int32) :=
  if l5 ≤ l6 then (m_Mo_languages_121 k70 k88 l2 l3 l4 l5 l6 M) else (cal cM M (m_Mo_alike l5 l6 M) fun r1 =>
  if ¬ r1.2 = 0 then (m_Mo_languages_121 k70 k88 l2 l3 l4 l5 l6 r1.1) else (k97 (l2, l3, l4, l5, (l6 + (1:Int32)), r1.1)))
def m_Mo_languages_97 (k70 : Int32 × Int32 × Int32 × MS → Option (MS × Int32)) (k88 : Int32 × Int32 × Int32 × Int32 × MS → Option (MS × Int32)) (i : Int32 × Int32 × Int32 × Int32 × Int32 × MS) : Option (MS × Int32) := fx (fun (k : Int32 × Int32 × Int32 × Int32 × Int32 × MS → Option (MS × Int32)) (i : Int32 × Int32 × Int32 × Int32 × Int32 × MS) => m_Mo_languages_97b k70 k88 k i.1 i.2.1 i.2.2.1 i.2.2.2.1 i.2.2.2.2.1 i.2.2.2.2.2) FU i
def m_Mo_languages_88b (k70 : Int32 × Int32 × Int32 × MS → Option (MS × Int32)) (k88 : Int32 × Int32 × Int32 × Int32 × MS → Option (MS × Int32)) (l2 : Int32) (l3 : Int32) (l4 : Int32) (l5 : Int32) (M : MS) : Option (MS × Int32) :=
  if l2 ≤ l5 then (m_Mo_languages_170 k70 (l2, l3, l4, (0:Int32), M)) else (m_Mo_languages_97 k70 k88 (l2, l3, l4, l5, (0:Int32), M))
def m_Mo_languages_88 (k70 : Int32 × Int32 × Int32 × MS → Option (MS × Int32)) (i : Int32 × Int32 × Int32 × Int32 × MS) : Option (MS × Int32) := fx (fun (k : Int32 × Int32 × Int32 × Int32 × MS → Option (MS × Int32)) (i : Int32 × Int32 × Int32 × Int32 × MS) => m_Mo_languages_88b k70 k i.1 i.2.1 i.2.2.1 i.2.2.2.1 i.2.2.2.2) FU i
def m_Mo_languages_70b (k70 : Int32 × Int32 × Int32 × MS → Option (MS × Int32)) (l2 : Int32) (l3 : Int32) (l4 : Int32) (M : MS) : Option (MS × Int32) :=
  if l3 = l4 then (m_Mo_languages_199 l2 l3 M) else (if l2 ≤ 0 then (m_Mo_languages_199 l2 l3 M) else (m_Mo_languages_88 k70 (l2, (0:Int32), l3, (0:Int32), M)))
def m_Mo_languages_70  (i : Int32 × Int32 × Int32 × MS) : Option (MS × Int32) := fx (fun (k : Int32 × Int32 × Int32 × MS → Option (MS × Int32)) (i : Int32 × Int32 × Int32 × MS) => m_Mo_languages_70b k i.1 i.2.1 i.2.2.1 i.2.2.2) FU i
def m_Mo_languages_63 (k36 : Int32 × Int32 × Int32 × Int32 × MS → Option (MS × Int32)) (l2 : Int32) (l3 : Int32) (l4 : Int32) (l5 : Int32) (s1 : Int32) (s2 : Int32) (M : MS) : Option (MS × Int32) :=
  (stA M 112 s1 s2).bind fun M1 =>
  k36 (l2, l3, l4, (l5 + (1:Int32)), M1)
def m_Mo_languages_36b (k36 : Int32 × Int32 × Int32 × Int32 × MS → Option (MS × Int32)) (l2 : Int32) (l3 : Int32) (l4 : Int32) (l5 : Int32) (M : MS) : Option (MS × Int32) :=
  if l2 ≤ l5 then (m_Mo_languages_70 (l2, l3, l4, M)) else ((ldA M 114 l5).bind fun v1 =>
  if v1 = 0 then (m_Mo_languages_63 k36 l2 l3 l4 l5 l5 (0:Int32) M) else (m_Mo_languages_63 k36 l2 l3 l4 l5 l5 (1:Int32) M))
def m_Mo_languages_36  (i : Int32 × Int32 × Int32 × Int32 × MS) : Option (MS × Int32) := fx (fun (k : Int32 × Int32 × Int32 × Int32 × MS → Option (MS × Int32)) (i : Int32 × Int32 × Int32 × Int32 × MS) => m_Mo_languages_36b k i.1 i.2.1 i.2.2.1 i.2.2.2.1 i.2.2.2.2) FU i
def m_Mo_languages_13  (l1 : Int32) (s1 : Int32) (M : MS) : Option (MS × Int32) :=
  cal cM M (m_Mo_fails s1 (0:Int32) M) fun r1 =>
  if r1.2 = 0 then (cal cM r1.1 (m_Mo_explore l1 r1.1) fun r2 =>
  m_Mo_languages_36 (r2.2, (0:Int32), (-1:Int32), (0:Int32), r2.1)) else (some (r1.1, (0:Int32)))
def m_Mo_languages (a1 : Int32) (M : MS) : Option (MS × Int32) :=
  cal cM M (m_Mo_isSlot a1 M) fun r1 =>
  if ¬ r1.2 = 0 then (m_Mo_languages_13 a1 (0:Int32) r1.1) else (m_Mo_languages_13 a1 (1:Int32) r1.1)
def m_Mo_tell_46b (k46 : Int32 × Int32 × MS → Option (MS × Unit)) (l2 : Int32) (l3 : Int32) (M : MS) : Option (MS × Unit) :=
  (ldA M 118 l3).bind fun v1 =>
  if v1 = (-1:Int32) then (some (M, ())) else ((ldA M 118 l3).bind fun v2 =>
  (stA M 119 (l2 + (-1:Int32)) (v2 - v2 / (4:Int32) * (4:Int32))).bind fun M3 =>
  (ldA M3 118 l3).bind fun v4 =>
  k46 ((l2 + (-1:Int32)), (v4 / (4:Int32)), M3))
def m_Mo_tell_46  (i : Int32 × Int32 × MS) : Option (MS × Unit) := fx (fun (k : Int32 × Int32 × MS → Option (MS × Unit)) (i : Int32 × Int32 × MS) => m_Mo_tell_46b k i.1 i.2.1 i.2.2) FU i
def m_Mo_tell_7b (k7 : Int32 × Int32 × MS → Option (MS × Unit)) (l1 : Int32) (l2 : Int32) (M : MS) : Option (MS × Unit) :=
  (ldA M 118 l2).bind fun v1 =>
  if v1 = (-1:Int32) then (m_Mo_tell_46 ((gI M 97 27), l1, M)) else ((some (sI M 97 27 ((gI M 97 27) + (1:Int32)))).bind fun M2 =>
  (ldA M2 118 l2).bind fun v3 =>
  k7 (l1, (v3 / (4:Int32)), M2))
def m_Mo_tell_7  (i : Int32 × Int32 × MS) : Option (MS × Unit) := fx (fun (k : Int32 × Int32 × MS → Option (MS × Unit)) (i : Int32 × Int32 × MS) => m_Mo_tell_7b k i.1 i.2.1 i.2.2) FU i
def m_Mo_tell (a1 : Int32) (M : MS) : Option (MS × Unit) :=
  (some (sI M 97 27 (0:Int32))).bind fun M1 =>
  m_Mo_tell_7 (a1, a1, M1)
def m_Mo_equal_218b (k158 : Int32 × Int32 × MS → Option (MS × Int32)) (k218 : Int32 × Int32 × Int32 × Int32 × Int32 × MS → Option (MS × Int32)) (l3 : Int32) (l4 : Int32) (l5 : Int32) (l6 : Int32) (l7 : Int32) (M : MS) : Option (MS × Int32) :=
  if (4:Int32) ≤ l7 then (k158 (l3, (l4 + (1:Int32)), M)) else ((ldA M 111 (((4:Int32) * l5) + l7)).bind fun v1 =>
  (ldA M 110 (((4:Int32) * l6) + l7)).bind fun v2 =>
  (ldA M 120 (((150:Int32) * v1) + v2)).bind fun v3 =>
  if v3 = 0 then ((stZ M 120 (((150:Int32) * v1) + v2) (1:Int32)).bind fun M4 =>
  (stA M4 117 l3 (((150:Int32) * v1) + v2)).bind fun M5 =>
  (stA M5 118 l3 (((4:Int32) * l4) + l7)).bind fun M6 =>
  k218 ((l3 + (1:Int32)), l4, l5, l6, (l7 + (1:Int32)), M6)) else (k218 (l3, l4, l5, l6, (l7 + (1:Int32)), M)))
def m_Mo_equal_218 (k158 : Int32 × Int32 × MS → Option (MS × Int32)) (i : Int32 × Int32 × Int32 × Int32 × Int32 × MS) : Option (MS × Int32) := fx (fun (k : Int32 × Int32 × Int32 × Int32 × Int32 × MS → Option (MS × Int32)) (i : Int32 × Int32 × Int32 × Int32 × Int32 × MS) => m_Mo_equal_218b k158 k i.1 i.2.1 i.2.2.1 i.2.2.2.1 i.2.2.2.2.1 i.2.2.2.2.2) FU i
def m_Mo_equal_207  (l4 : Int32) (M : MS) : Option (MS × Int32) :=
  cal cM M (m_Mo_tell l4 M) fun r1 =>
  some (r1.1, (0:Int32))
def m_Mo_equal_158b (k158 : Int32 × Int32 × MS → Option (MS × Int32)) (l3 : Int32) (l4 : Int32) (M : MS) : Option (MS × Int32) :=
  if l3 ≤ l4 then (some (M, (1:Int32))) else ((ldA M 117 l4).bind fun v1 =>
  (ldA M 117 l4).bind fun v2 =>
  (ldA M 115 (v1 / (150:Int32))).bind fun v3 =>
  (ldA M 114 (v2 - v2 / (150:Int32) * (150:Int32))).bind fun v4 =>
  if v3 = v4 then (m_Mo_equal_218 k158 (l3, l4, (v1 / (150:Int32)), (v2 - v2 / (150:Int32) * (150:Int32)), (0:Int32), M)) else (m_Mo_equal_207 l4 M))
def m_Mo_equal_158  (i : Int32 × Int32 × MS) : Option (MS × Int32) := fx (fun (k : Int32 × Int32 × MS → Option (MS × Int32)) (i : Int32 × Int32 × MS) => m_Mo_equal_158b k i.1 i.2.1 i.2.2) FU i
def m_Mo_equal_132   (M : MS) : Option (MS × Int32) :=
  (stA M 117 (0:Int32) (0:Int32)).bind fun M1 =>
  (stA M1 118 (0:Int32) (-1:Int32)).bind fun M2 =>
  (stZ M2 120 (0:Int32) (1:Int32)).bind fun M3 =>
  m_Mo_equal_158 ((1:Int32), (0:Int32), M3)
def m_Mo_equal_112b (k112 : Int32 × MS → Option (MS × Int32)) (l3 : Int32) (M : MS) : Option (MS × Int32) :=
  if (22500:Int32) ≤ l3 then (m_Mo_equal_132 M) else ((stZ M 120 l3 (0:Int32)).bind fun M1 =>
  k112 ((l3 + (1:Int32)), M1))
def m_Mo_equal_112  (i : Int32 × MS) : Option (MS × Int32) := fx (fun (k : Int32 × MS → Option (MS × Int32)) (i : Int32 × MS) => m_Mo_equal_112b k i.1 i.2) FU i
def m_Mo_equal_99  (l2 : Int32) (M : MS) : Option (MS × Int32) :=
  cal cM M (m_Mo_explore l2 M) fun r1 =>
  if ¬ r1.2 = (-1:Int32) then (m_Mo_equal_112 ((0:Int32), r1.1)) else (some (r1.1, (-1:Int32)))
def m_Mo_equal_74b (k74 : Int32 × Int32 × MS → Option (MS × Int32)) (l2 : Int32) (l3 : Int32) (M : MS) : Option (MS × Int32) :=
  if (150:Int32) ≤ l3 then (m_Mo_equal_99 l2 M) else ((ldA M 114 l3).bind fun v1 =>
  (stZ M 115 l3 v1).bind fun M2 =>
  k74 (l2, (l3 + (1:Int32)), M2))
def m_Mo_equal_74  (i : Int32 × Int32 × MS) : Option (MS × Int32) := fx (fun (k : Int32 × Int32 × MS → Option (MS × Int32)) (i : Int32 × Int32 × MS) => m_Mo_equal_74b k i.1 i.2.1 i.2.2) FU i
def m_Mo_equal_47b (k47 : Int32 × Int32 × MS → Option (MS × Int32)) (l2 : Int32) (l3 : Int32) (M : MS) : Option (MS × Int32) :=
  if (600:Int32) ≤ l3 then (m_Mo_equal_74 (l2, (0:Int32), M)) else ((ldA M 110 l3).bind fun v1 =>
  (stA M 111 l3 v1).bind fun M2 =>
  k47 (l2, (l3 + (1:Int32)), M2))
def m_Mo_equal_47  (i : Int32 × Int32 × MS) : Option (MS × Int32) := fx (fun (k : Int32 × Int32 × MS → Option (MS × Int32)) (i : Int32 × Int32 × MS) => m_Mo_equal_47b k i.1 i.2.1 i.2.2) FU i
def m_Mo_equal_20  (l1 : Int32) (l2 : Int32) (s1 : Int32) (M : MS) : Option (MS × Int32) :=
  cal cM M (m_Mo_fails s1 (0:Int32) M) fun r1 =>
  if r1.2 = 0 then ((some (sI r1.1 97 27 (-1:Int32))).bind fun M2 =>
  cal cM M2 (m_Mo_explore l1 M2) fun r3 =>
  if ¬ r3.2 = (-1:Int32) then (m_Mo_equal_47 (l2, (0:Int32), r3.1)) else (some (r3.1, (-1:Int32)))) else (some (r1.1, (0:Int32)))
def m_Mo_equal_15  (l1 : Int32) (l2 : Int32) (M : MS) : Option (MS × Int32) :=
  m_Mo_equal_20 l1 l2 (1:Int32) M
def m_Mo_equal (a1 : Int32) (a2 : Int32) (M : MS) : Option (MS × Int32) :=
  cal cM M (m_Mo_isSlot a1 M) fun r1 =>
  if r1.2 = 0 then (m_Mo_equal_15 a1 a2 r1.1) else (cal cM r1.1 (m_Mo_isSlot a2 r1.1) fun r2 =>
  if ¬ r2.2 = 0 then (m_Mo_equal_20 a1 a2 (0:Int32) r2.1) else (m_Mo_equal_15 a1 a2 r2.1))
def m_Mo_witness (a1 : Int32) (M : MS) : Option (MS × Int32) :=
  (some (sI M 97 0 (0:Int32))).bind fun M1 =>
  if (gI M1 97 27) = (-1:Int32) then (some (M1, (-1:Int32))) else (if a1 < (-1:Int32) then (some (M1, (-1:Int32))) else (if a1 < (gI M1 97 27) then (if ¬ a1 = (-1:Int32) then ((ldA M1 119 a1).bind fun v2 =>
  some (M1, v2)) else (some (M1, (gI M1 97 27)))) else (some (M1, (-1:Int32)))))
def m_Mo_count_95 (k35 : Int32 × Int32 × MS → Option (MS × Unit)) (k43 : Int32 × Int32 × Int32 × MS → Option (MS × Unit)) (l1 : Int32) (l2 : Int32) (l3 : Int32) (l4 : Int64) (M : MS) : Option (MS × Unit) :=
  (stJ M 116 (((150:Int32) * l2) + l3) l4).bind fun M1 =>
  k43 (l1, l2, (l3 + (1:Int32)), M1)
def m_Mo_count_54b (k35 : Int32 × Int32 × MS → Option (MS × Unit)) (k43 : Int32 × Int32 × Int32 × MS → Option (MS × Unit)) (k54 : Int32 × Int32 × Int32 × Int64 × Int32 × MS → Option (MS × Unit)) (l1 : Int32) (l2 : Int32) (l3 : Int32) (l4 : Int64) (l6 : Int32) (M : MS) : Option (MS × Unit) :=
  if (4:Int32) ≤ l6 then (m_Mo_count_95 k35 k43 l1 l2 l3 l4 M) else ((ldA M 110 (((4:Int32) * l3) + l6)).bind fun v1 =>
  (ldJ M 116 (((150:Int32) * (l2 - (1:Int32))) + v1)).bind fun v2 =>
  k54 (l1, l2, l3, (l4 + v2), (l6 + (1:Int32)), M))
def m_Mo_count_54 (k35 : Int32 × Int32 × MS → Option (MS × Unit)) (k43 : Int32 × Int32 × Int32 × MS → Option (MS × Unit)) (i : Int32 × Int32 × Int32 × Int64 × Int32 × MS) : Option (MS × Unit) := fx (fun (k : Int32 × Int32 × Int32 × Int64 × Int32 × MS → Option (MS × Unit)) (i : Int32 × Int32 × Int32 × Int64 × Int32 × MS) => m_Mo_count_54b k35 k43 k i.1 i.2.1 i.2.2.1 i.2.2.2.1 i.2.2.2.2.1 i.2.2.2.2.2) FU i
def m_Mo_count_43b (k35 : Int32 × Int32 × MS → Option (MS × Unit)) (k43 : Int32 × Int32 × Int32 × MS → Option (MS × Unit)) (l1 : Int32) (l2 : Int32) (l3 : Int32) (M : MS) : Option (MS × Unit) :=
  if l1 ≤ l3 then (k35 (l1, (l2 + (1:Int32)), M)) else (m_Mo_count_54 k35 k43 (l1, l2, l3, (0:Int64), (0:Int32), M))
def m_Mo_count_43 (k35 : Int32 × Int32 × MS → Option (MS × Unit)) (i : Int32 × Int32 × Int32 × MS) : Option (MS × Unit) := fx (fun (k : Int32 × Int32 × Int32 × MS → Option (MS × Unit)) (i : Int32 × Int32 × Int32 × MS) => m_Mo_count_43b k35 k i.1 i.2.1 i.2.2.1 i.2.2.2) FU i
def m_Mo_count_35b (k35 : Int32 × Int32 × MS → Option (MS × Unit)) (l1 : Int32) (l2 : Int32) (M : MS) : Option (MS × Unit) :=
  if (16:Int32) < l2 then (some (M, ())) else (m_Mo_count_43 k35 (l1, l2, (0:Int32), M))
def m_Mo_count_35  (i : Int32 × Int32 × MS) : Option (MS × Unit) := fx (fun (k : Int32 × Int32 × MS → Option (MS × Unit)) (i : Int32 × Int32 × MS) => m_Mo_count_35b k i.1 i.2.1 i.2.2) FU i
def m_Mo_count_26 (k2 : Int32 × Int32 × MS → Option (MS × Unit)) (l1 : Int32) (l2 : Int32) (s1 : Int32) (s2 : Int64) (M : MS) : Option (MS × Unit) :=
  (stJ M 116 s1 s2).bind fun M1 =>
  k2 (l1, (l2 + (1:Int32)), M1)
def m_Mo_count_2b (k2 : Int32 × Int32 × MS → Option (MS × Unit)) (l1 : Int32) (l2 : Int32) (M : MS) : Option (MS × Unit) :=
  if l1 ≤ l2 then (m_Mo_count_35 (l1, (1:Int32), M)) else ((ldA M 114 l2).bind fun v1 =>
  if v1 = 0 then (m_Mo_count_26 k2 l1 l2 l2 (0:Int64) M) else (m_Mo_count_26 k2 l1 l2 l2 (1:Int64) M))
def m_Mo_count_2  (i : Int32 × Int32 × MS) : Option (MS × Unit) := fx (fun (k : Int32 × Int32 × MS → Option (MS × Unit)) (i : Int32 × Int32 × MS) => m_Mo_count_2b k i.1 i.2.1 i.2.2) FU i
def m_Mo_count (a1 : Int32) (M : MS) : Option (MS × Unit) :=
  m_Mo_count_2 (a1, (0:Int32), M)
def m_Mo_words_34  (l1 : Int32) (l2 : Int32) (s1 : Int32) (s2 : Int32) (M : MS) : Option (MS × Int64) :=
  cal cM M (m_Mo_fails s1 s2 M) fun r1 =>
  if r1.2 = 0 then (cal cM r1.1 (m_Mo_explore l1 r1.1) fun r2 =>
  if ¬ r2.2 = (-1:Int32) then (cal cM r2.1 (m_Mo_count r2.2 r2.1) fun r3 =>
  (ldJ r3.1 116 ((150:Int32) * l2)).bind fun v4 =>
  some (r3.1, v4)) else (some (r2.1, (-1:Int64)))) else (some (r1.1, (0:Int64)))
def m_Mo_words_33  (l1 : Int32) (l2 : Int32) (s1 : Int32) (M : MS) : Option (MS × Int64) :=
  m_Mo_words_34 l1 l2 s1 (0:Int32) M
def m_Mo_words_29  (l1 : Int32) (l2 : Int32) (s1 : Int32) (M : MS) : Option (MS × Int64) :=
  m_Mo_words_34 l1 l2 s1 (1:Int32) M
def m_Mo_words_15  (l1 : Int32) (l2 : Int32) (l3 : Int32) (s1 : Int32) (M : MS) : Option (MS × Int64) :=
  if l3 = 0 then (m_Mo_words_33 l1 l2 s1 M) else (if l2 < 0 then (m_Mo_words_29 l1 l2 s1 M) else (if l2 ≤ (16:Int32) then (m_Mo_words_33 l1 l2 s1 M) else (m_Mo_words_29 l1 l2 s1 M)))
def m_Mo_words (a1 : Int32) (a2 : Int32) (M : MS) : Option (MS × Int64) :=
  cal cM M (m_Mo_isSlot a1 M) fun r1 =>
  if ¬ r1.2 = 0 then (m_Mo_words_15 a1 a2 r1.2 (0:Int32) r1.1) else (m_Mo_words_15 a1 a2 r1.2 (1:Int32) r1.1)
def m_Mo_ends_206  (l3 : Int32) (M : MS) : Option (MS × Int32) :=
  if l3 = 0 then (some (M, (0:Int32))) else (some (M, (1:Int32)))
def m_Mo_ends_175 (k73 : Int32 × Int32 × Int32 × MS → Option (MS × Int32)) (l2 : Int32) (l3 : Int32) (l4 : Int32) (M : MS) : Option (MS × Int32) :=
  if l3 = 0 then (k73 (l2, (0:Int32), (l4 + (1:Int32)), M)) else (if l4 < l2 then (k73 (l2, (1:Int32), (l4 + (1:Int32)), M)) else ((ldA M 112 (0:Int32)).bind fun v1 =>
  if ¬ v1 = 0 then (k73 (l2, (0:Int32), (l4 + (1:Int32)), M)) else (k73 (l2, (1:Int32), (l4 + (1:Int32)), M))))
def m_Mo_ends_149b (k73 : Int32 × Int32 × Int32 × MS → Option (MS × Int32)) (k149 : Int32 × Int32 × Int32 × Int32 × MS → Option (MS × Int32)) (l2 : Int32) (l3 : Int32) (l4 : Int32) (l5 : Int32) (M : MS) : Option (MS × Int32) :=
  if l2 ≤ l5 then (m_Mo_ends_175 k73 l2 l3 l4 M) else ((ldA M 113 l5).bind fun v1 =>
  (stA M 112 l5 v1).bind fun M2 =>
  k149 (l2, l3, l4, (l5 + (1:Int32)), M2))
def m_Mo_ends_149 (k73 : Int32 × Int32 × Int32 × MS → Option (MS × Int32)) (i : Int32 × Int32 × Int32 × Int32 × MS) : Option (MS × Int32) := fx (fun (k : Int32 × Int32 × Int32 × Int32 × MS → Option (MS × Int32)) (i : Int32 × Int32 × Int32 × Int32 × MS) => m_Mo_ends_149b k73 k i.1 i.2.1 i.2.2.1 i.2.2.2.1 i.2.2.2.2) FU i
def m_Mo_ends_101b (k73 : Int32 × Int32 × Int32 × MS → Option (MS × Int32)) (k84 : Int32 × Int32 × Int32 × Int32 × MS → Option (MS × Int32)) (k101 : Int32 × Int32 × Int32 × Int32 × Int32 × MS → Option (MS × Int32)) (l2 : Int32) (l3 : Int32) (l4 : Int32) (l5 : Int32) (l6 : Int32) (M : MS) : Option (MS × Int32) :=
  if (4:Int32) ≤ l6 then (k84 (l2, l3, l4, (l5 + (1:Int32)), M)) else ((ldA M 113 l5).bind fun v1 =>
  (ldA M 110 (((4:Int32) * l5) + l6)).bind fun v2 =>
  (ldA M 112 v2).bind fun v3 =>
  (stA M 113 l5 (v1 ||| v3)).bind fun M4 =>
  k101 (l2, l3, l4, l5, (l6 + (1:Int32)), M4))
def m_Mo_ends_101 (k73 : Int32 × Int32 × Int32 × MS → Option (MS × Int32)) (k84 : Int32 × Int32 × Int32 × Int32 × MS → Option (MS × Int32)) (i : Int32 × Int32 × Int32 × Int32 × Int32 × MS) : Option (MS × Int32) := fx (fun (k : Int32 × Int32 × Int32 × Int32 × Int32 × MS → Option (MS × Int32)) (i : Int32 × Int32 × Int32 × Int32 × Int32 × MS) => m_Mo_ends_101b k73 k84 k i.1 i.2.1 i.2.2.1 i.2.2.2.1 i.2.2.2.2.1 i.2.2.2.2.2) FU i
def m_Mo_ends_84b (k73 : Int32 × Int32 × Int32 × MS → Option (MS × Int32)) (k84 : Int32 × Int32 × Int32 × Int32 × MS → Option (MS × Int32)) (l2 : Int32) (l3 : Int32) (l4 : Int32) (l5 : Int32) (M : MS) : Option (MS × Int32) :=
  if l2 ≤ l5 then (m_Mo_ends_149 k73 (l2, l3, l4, (0:Int32), M)) else ((stA M 113 l5 (0:Int32)).bind fun M1 =>
  m_Mo_ends_101 k73 k84 (l2, l3, l4, l5, (0:Int32), M1))
def m_Mo_ends_84 (k73 : Int32 × Int32 × Int32 × MS → Option (MS × Int32)) (i : Int32 × Int32 × Int32 × Int32 × MS) : Option (MS × Int32) := fx (fun (k : Int32 × Int32 × Int32 × Int32 × MS → Option (MS × Int32)) (i : Int32 × Int32 × Int32 × Int32 × MS) => m_Mo_ends_84b k73 k i.1 i.2.1 i.2.2.1 i.2.2.2.1 i.2.2.2.2) FU i
def m_Mo_ends_73b (k73 : Int32 × Int32 × Int32 × MS → Option (MS × Int32)) (l2 : Int32) (l3 : Int32) (l4 : Int32) (M : MS) : Option (MS × Int32) :=
  if ((2:Int32) * l2) ≤ l4 then (m_Mo_ends_206 l3 M) else (m_Mo_ends_84 k73 (l2, l3, l4, (0:Int32), M))
def m_Mo_ends_73  (i : Int32 × Int32 × Int32 × MS) : Option (MS × Int32) := fx (fun (k : Int32 × Int32 × Int32 × MS → Option (MS × Int32)) (i : Int32 × Int32 × Int32 × MS) => m_Mo_ends_73b k i.1 i.2.1 i.2.2.1 i.2.2.2) FU i
def m_Mo_ends_61 (k37 : Int32 × Int32 × MS → Option (MS × Int32)) (l2 : Int32) (l3 : Int32) (s1 : Int32) (s2 : Int32) (M : MS) : Option (MS × Int32) :=
  (stA M 112 s1 s2).bind fun M1 =>
  k37 (l2, (l3 + (1:Int32)), M1)
def m_Mo_ends_37b (k37 : Int32 × Int32 × MS → Option (MS × Int32)) (l2 : Int32) (l3 : Int32) (M : MS) : Option (MS × Int32) :=
  if l2 ≤ l3 then (m_Mo_ends_73 (l2, (1:Int32), (1:Int32), M)) else ((ldA M 114 l3).bind fun v1 =>
  if v1 = 0 then (m_Mo_ends_61 k37 l2 l3 l3 (0:Int32) M) else (m_Mo_ends_61 k37 l2 l3 l3 (1:Int32) M))
def m_Mo_ends_37  (i : Int32 × Int32 × MS) : Option (MS × Int32) := fx (fun (k : Int32 × Int32 × MS → Option (MS × Int32)) (i : Int32 × Int32 × MS) => m_Mo_ends_37b k i.1 i.2.1 i.2.2) FU i
def m_Mo_ends_13  (l1 : Int32) (s1 : Int32) (M : MS) : Option (MS × Int32) :=
  cal cM M (m_Mo_fails s1 (0:Int32) M) fun r1 =>
  if r1.2 = 0 then (cal cM r1.1 (m_Mo_explore l1 r1.1) fun r2 =>
  if ¬ r2.2 = (-1:Int32) then (m_Mo_ends_37 (r2.2, (0:Int32), r2.1)) else (some (r2.1, (-1:Int32)))) else (some (r1.1, (0:Int32)))
def m_Mo_ends (a1 : Int32) (M : MS) : Option (MS × Int32) :=
  cal cM M (m_Mo_isSlot a1 M) fun r1 =>
  if ¬ r1.2 = 0 then (m_Mo_ends_13 a1 (0:Int32) r1.1) else (m_Mo_ends_13 a1 (1:Int32) r1.1)
def m_Mo_find_231  (l7 : Int32) (l8 : Int64) (M : MS) : Option (MS × Int64) :=
  some (M, (l8 ||| (l7.toInt64 <<< ((36:Int32).toInt64 &&& 63))))
def m_Mo_find_199 (k126 : Int64 × Int32 × Int64 × Int32 × Int32 × MS → Option (MS × Int64)) (l5 : Int64) (l7 : Int32) (l8 : Int64) (l10 : Int32) (l11 : Int32) (l12 : Int32) (M : MS) : Option (MS × Int64) :=
  (ldA M 110 (((4:Int32) * l10) + l12)).bind fun v1 =>
  k126 (l5, l7, (((4:Int64) * l8) + l12.toInt64), v1, (l11 + (-1:Int32)), M)
def m_Mo_find_134b (k126 : Int64 × Int32 × Int64 × Int32 × Int32 × MS → Option (MS × Int64)) (k134 : Int64 × Int32 × Int64 × Int32 × Int32 × Int32 × MS → Option (MS × Int64)) (l5 : Int64) (l7 : Int32) (l8 : Int64) (l10 : Int32) (l11 : Int32) (l12 : Int32) (M : MS) : Option (MS × Int64) :=
  (ldA M 110 (((4:Int32) * l10) + l12)).bind fun v1 =>
  (ldJ M 116 (((150:Int32) * l11) + v1)).bind fun v2 =>
  if (lg_cmp l5 v2) < 0 then (m_Mo_find_199 k126 l5 l7 l8 l10 l11 l12 M) else ((ldA M 110 (((4:Int32) * l10) + l12)).bind fun v3 =>
  (ldJ M 116 (((150:Int32) * l11) + v3)).bind fun v4 =>
  k134 ((l5 - v4), l7, l8, l10, l11, (l12 + (1:Int32)), M))
def m_Mo_find_134 (k126 : Int64 × Int32 × Int64 × Int32 × Int32 × MS → Option (MS × Int64)) (i : Int64 × Int32 × Int64 × Int32 × Int32 × Int32 × MS) : Option (MS × Int64) := fx (fun (k : Int64 × Int32 × Int64 × Int32 × Int32 × Int32 × MS → Option (MS × Int64)) (i : Int64 × Int32 × Int64 × Int32 × Int32 × Int32 × MS) => m_Mo_find_134b k126 k i.1 i.2.1 i.2.2.1 i.2.2.2.1 i.2.2.2.2.1 i.2.2.2.2.2.1 i.2.2.2.2.2.2) FU i
def m_Mo_find_126b (k126 : Int64 × Int32 × Int64 × Int32 × Int32 × MS → Option (MS × Int64)) (l5 : Int64) (l7 : Int32) (l8 : Int64) (l10 : Int32) (l11 : Int32) (M : MS) : Option (MS × Int64) :=
  if l11 < 0 then (m_Mo_find_231 l7 l8 M) else (m_Mo_find_134 k126 (l5, l7, l8, l10, l11, (0:Int32), M))
def m_Mo_find_126  (i : Int64 × Int32 × Int64 × Int32 × Int32 × MS) : Option (MS × Int64) := fx (fun (k : Int64 × Int32 × Int64 × Int32 × Int32 × MS → Option (MS × Int64)) (i : Int64 × Int32 × Int64 × Int32 × Int32 × MS) => m_Mo_find_126b k i.1 i.2.1 i.2.2.1 i.2.2.2.1 i.2.2.2.2.1 i.2.2.2.2.2) FU i
def m_Mo_find_103  (l5 : Int64) (l7 : Int32) (M : MS) : Option (MS × Int64) :=
  if l7 ≤ (16:Int32) then (m_Mo_find_126 (l5, l7, (0:Int64), (0:Int32), (l7 - (1:Int32)), M)) else (some (M, (-1:Int64)))
def m_Mo_find_57b (k57 : Int64 × Int32 × MS → Option (MS × Int64)) (l5 : Int64) (l7 : Int32) (M : MS) : Option (MS × Int64) :=
  if (16:Int32) < l7 then (m_Mo_find_103 l5 l7 M) else ((ldJ M 116 ((150:Int32) * l7)).bind fun v1 =>
  if (lg_cmp l5 v1) < 0 then (m_Mo_find_103 l5 l7 M) else ((ldJ M 116 ((150:Int32) * l7)).bind fun v2 =>
  k57 ((l5 - v2), (l7 + (1:Int32)), M)))
def m_Mo_find_57  (i : Int64 × Int32 × MS) : Option (MS × Int64) := fx (fun (k : Int64 × Int32 × MS → Option (MS × Int64)) (i : Int64 × Int32 × MS) => m_Mo_find_57b k i.1 i.2.1 i.2.2) FU i
def m_Mo_find_13  (l1 : Int32) (l2 : Int64) (s1 : Int32) (M : MS) : Option (MS × Int64) :=
  cal cM M (m_Mo_fails s1 (0:Int32) M) fun r1 =>
  if r1.2 = 0 then (cal cM r1.1 (m_Mo_explore l1 r1.1) fun r2 =>
  if r2.2 = (-1:Int32) then (some (r2.1, (-1:Int64))) else (if 0 ≤ (lg_cmp l2 (0:Int64)) then (cal cM r2.1 (m_Mo_count r2.2 r2.1) fun r3 =>
  m_Mo_find_57 (l2, (0:Int32), r3.1)) else (some (r2.1, (-1:Int64))))) else (some (r1.1, (0:Int64)))
def m_Mo_find (a1 : Int32) (a2 : Int64) (M : MS) : Option (MS × Int64) :=
  cal cM M (m_Mo_isSlot a1 M) fun r1 =>
  if ¬ r1.2 = 0 then (m_Mo_find_13 a1 a2 (0:Int32) r1.1) else (m_Mo_find_13 a1 a2 (1:Int32) r1.1)
def m_Mo_look_13  (l1 : Int32) (l2 : Int32) (s1 : Int32) (M : MS) : Option (MS × Int32) :=
  cal cM M (m_Mo_fails s1 (0:Int32) M) fun r1 =>
  if r1.2 = 0 then ((ldA r1.1 98 ((100:Int32) * l1)).bind fun v2 =>
  if l2 = (0:Int32) then (cal cM r1.1 (m_Mo_sort v2 r1.1) fun r3 =>
  some (r3.1, r3.2)) else (if l2 = (1:Int32) then ((ldA r1.1 99 l1).bind fun v4 =>
  some (r1.1, v4)) else (if l2 = (2:Int32) then ((ldA r1.1 99 l1).bind fun v5 =>
  cal cM r1.1 (m_Mo_derived 98 ((100:Int32) * l1) v5 (0:Int32) r1.1) fun r6 =>
  (ldA r6.1 105 (0:Int32)).bind fun v7 =>
  if v7 = 0 then (some (r6.1, (0:Int32))) else (some (r6.1, (1:Int32)))) else (if l2 = (3:Int32) then (cal cM r1.1 (m_Mo_arity v2 r1.1) fun r8 =>
  some (r8.1, r8.2)) else (if l2 = (4:Int32) then (cal cM r1.1 (m_Mo_sort v2 r1.1) fun r9 =>
  if ¬ r9.2 = (2:Int32) then (some (r9.1, (0:Int32))) else (some (r9.1, (v2 >>> ((3:Int32) &&& 31))))) else (some (r1.1, (-1:Int32)))))))) else (some (r1.1, (0:Int32)))
def m_Mo_look (a1 : Int32) (a2 : Int32) (M : MS) : Option (MS × Int32) :=
  cal cM M (m_Mo_isSlot a1 M) fun r1 =>
  if ¬ r1.2 = 0 then (m_Mo_look_13 a1 a2 (0:Int32) r1.1) else (m_Mo_look_13 a1 a2 (1:Int32) r1.1)
