abbrev b_Law_letters : ByteArray := method_3_code
abbrev y_Law_letters : MethodName := ⟨R_Law, "letters", "(LDerivativeDesk;II[J)I"⟩
set_option maxRecDepth 100000 in
theorem cd_Law_letters : Cond.codeWith y_Law_letters b_Law_letters 5 (some .int) [(0, 10, 13, 13), (0, 10, 17, 15)] ∈ x_T := xmem2 58 rfl rfl
set_option maxRecDepth 100000 in
theorem st_Law_letters : Cond.static y_Law_letters ∈ x_T := xmem2 57 rfl rfl
theorem hs_Law_letters : y_Law_letters.cls ≠ "java/lang/invoke/MethodHandle" ∧ y_Law_letters.cls ≠ "java/lang/invoke/VarHandle" ∧ (parseMethodDescriptor y_Law_letters.desc).map (fun d => d.parameters.length) = some 4 := by decide +kernel
abbrev b_Law_join : ByteArray := method_4_code
abbrev y_Law_join : MethodName := ⟨R_Law, "join", "(LDerivativeDesk;IIII[J)I"⟩
set_option maxRecDepth 100000 in
theorem cd_Law_join : Cond.codeWith y_Law_join b_Law_join 7 (some .int) [(0, 14, 17, 13), (0, 14, 21, 15)] ∈ x_T := xmem2 166 rfl rfl
set_option maxRecDepth 100000 in
theorem st_Law_join : Cond.static y_Law_join ∈ x_T := xmem2 165 rfl rfl
theorem hs_Law_join : y_Law_join.cls ≠ "java/lang/invoke/MethodHandle" ∧ y_Law_join.cls ≠ "java/lang/invoke/VarHandle" ∧ (parseMethodDescriptor y_Law_join.desc).map (fun d => d.parameters.length) = some 6 := by decide +kernel
abbrev b_Law_turn : ByteArray := method_5_code
abbrev y_Law_turn : MethodName := ⟨R_Law, "turn", "(LDerivativeDesk;III[J)I"⟩
set_option maxRecDepth 100000 in
theorem cd_Law_turn : Cond.codeWith y_Law_turn b_Law_turn 6 (some .int) [(0, 12, 15, 13), (0, 12, 19, 15)] ∈ x_T := xmem3 77 rfl rfl
set_option maxRecDepth 100000 in
theorem st_Law_turn : Cond.static y_Law_turn ∈ x_T := xmem3 76 rfl rfl
theorem hs_Law_turn : y_Law_turn.cls ≠ "java/lang/invoke/MethodHandle" ∧ y_Law_turn.cls ≠ "java/lang/invoke/VarHandle" ∧ (parseMethodDescriptor y_Law_turn.desc).map (fun d => d.parameters.length) = some 5 := by decide +kernel
abbrev b_Law_derive : ByteArray := method_6_code
abbrev y_Law_derive : MethodName := ⟨R_Law, "derive", "(LDerivativeDesk;III[J)I"⟩
set_option maxRecDepth 100000 in
theorem cd_Law_derive : Cond.codeWith y_Law_derive b_Law_derive 6 (some .int) [(0, 12, 15, 13), (0, 12, 19, 15)] ∈ x_T := xmem3 92 rfl rfl
set_option maxRecDepth 100000 in
theorem st_Law_derive : Cond.static y_Law_derive ∈ x_T := xmem3 91 rfl rfl
theorem hs_Law_derive : y_Law_derive.cls ≠ "java/lang/invoke/MethodHandle" ∧ y_Law_derive.cls ≠ "java/lang/invoke/VarHandle" ∧ (parseMethodDescriptor y_Law_derive.desc).map (fun d => d.parameters.length) = some 5 := by decide +kernel
abbrev b_Law_similar : ByteArray := method_7_code
abbrev y_Law_similar : MethodName := ⟨R_Law, "similar", "(LDerivativeDesk;II[J)I"⟩
set_option maxRecDepth 100000 in
theorem cd_Law_similar : Cond.codeWith y_Law_similar b_Law_similar 5 (some .int) [(0, 17, 20, 13)] ∈ x_T := xmem3 121 rfl rfl
set_option maxRecDepth 100000 in
theorem st_Law_similar : Cond.static y_Law_similar ∈ x_T := xmem3 120 rfl rfl
theorem hs_Law_similar : y_Law_similar.cls ≠ "java/lang/invoke/MethodHandle" ∧ y_Law_similar.cls ≠ "java/lang/invoke/VarHandle" ∧ (parseMethodDescriptor y_Law_similar.desc).map (fun d => d.parameters.length) = some 4 := by decide +kernel
abbrev b_Law_has : ByteArray := method_8_code
abbrev y_Law_has : MethodName := ⟨R_Law, "has", "(LDerivativeDesk;III[J)I"⟩
set_option maxRecDepth 100000 in
theorem cd_Law_has : Cond.codeWith y_Law_has b_Law_has 6 (some .int) [(0, 19, 22, 13), (0, 19, 26, 15)] ∈ x_T := xmem3 128 rfl rfl
set_option maxRecDepth 100000 in
theorem st_Law_has : Cond.static y_Law_has ∈ x_T := xmem3 127 rfl rfl
theorem hs_Law_has : y_Law_has.cls ≠ "java/lang/invoke/MethodHandle" ∧ y_Law_has.cls ≠ "java/lang/invoke/VarHandle" ∧ (parseMethodDescriptor y_Law_has.desc).map (fun d => d.parameters.length) = some 5 := by decide +kernel
abbrev b_Law_states : ByteArray := method_9_code
abbrev y_Law_states : MethodName := ⟨R_Law, "states", "(LDerivativeDesk;I[J)I"⟩
set_option maxRecDepth 100000 in
theorem cd_Law_states : Cond.codeWith y_Law_states b_Law_states 4 (some .int) [(0, 9, 12, 13)] ∈ x_T := xmem3 194 rfl rfl
set_option maxRecDepth 100000 in
theorem st_Law_states : Cond.static y_Law_states ∈ x_T := xmem3 193 rfl rfl
theorem hs_Law_states : y_Law_states.cls ≠ "java/lang/invoke/MethodHandle" ∧ y_Law_states.cls ≠ "java/lang/invoke/VarHandle" ∧ (parseMethodDescriptor y_Law_states.desc).map (fun d => d.parameters.length) = some 3 := by decide +kernel
abbrev b_Law_languages : ByteArray := method_10_code
abbrev y_Law_languages : MethodName := ⟨R_Law, "languages", "(LDerivativeDesk;I[J)I"⟩
set_option maxRecDepth 100000 in
theorem cd_Law_languages : Cond.codeWith y_Law_languages b_Law_languages 4 (some .int) [(0, 9, 12, 13)] ∈ x_T := xmem3 233 rfl rfl
set_option maxRecDepth 100000 in
theorem st_Law_languages : Cond.static y_Law_languages ∈ x_T := xmem3 232 rfl rfl
theorem hs_Law_languages : y_Law_languages.cls ≠ "java/lang/invoke/MethodHandle" ∧ y_Law_languages.cls ≠ "java/lang/invoke/VarHandle" ∧ (parseMethodDescriptor y_Law_languages.desc).map (fun d => d.parameters.length) = some 3 := by decide +kernel
abbrev b_Law_equal : ByteArray := method_11_code
abbrev y_Law_equal : MethodName := ⟨R_Law, "equal", "(LDerivativeDesk;II[J)I"⟩
set_option maxRecDepth 100000 in
theorem cd_Law_equal : Cond.codeWith y_Law_equal b_Law_equal 5 (some .int) [(0, 10, 13, 13)] ∈ x_T := xmem4 30 rfl rfl
set_option maxRecDepth 100000 in
theorem st_Law_equal : Cond.static y_Law_equal ∈ x_T := xmem4 29 rfl rfl
theorem hs_Law_equal : y_Law_equal.cls ≠ "java/lang/invoke/MethodHandle" ∧ y_Law_equal.cls ≠ "java/lang/invoke/VarHandle" ∧ (parseMethodDescriptor y_Law_equal.desc).map (fun d => d.parameters.length) = some 4 := by decide +kernel
abbrev b_Law_words : ByteArray := method_12_code
abbrev y_Law_words : MethodName := ⟨R_Law, "words", "(LDerivativeDesk;II[J)I"⟩
set_option maxRecDepth 100000 in
theorem cd_Law_words : Cond.codeWith y_Law_words b_Law_words 5 (some .int) [(0, 9, 12, 13), (0, 9, 16, 15)] ∈ x_T := xmem4 68 rfl rfl
set_option maxRecDepth 100000 in
theorem st_Law_words : Cond.static y_Law_words ∈ x_T := xmem4 67 rfl rfl
theorem hs_Law_words : y_Law_words.cls ≠ "java/lang/invoke/MethodHandle" ∧ y_Law_words.cls ≠ "java/lang/invoke/VarHandle" ∧ (parseMethodDescriptor y_Law_words.desc).map (fun d => d.parameters.length) = some 4 := by decide +kernel
abbrev b_Law_ends : ByteArray := method_13_code
abbrev y_Law_ends : MethodName := ⟨R_Law, "ends", "(LDerivativeDesk;I[J)I"⟩
set_option maxRecDepth 100000 in
theorem cd_Law_ends : Cond.codeWith y_Law_ends b_Law_ends 4 (some .int) [(0, 9, 12, 13)] ∈ x_T := xmem4 87 rfl rfl
set_option maxRecDepth 100000 in
theorem st_Law_ends : Cond.static y_Law_ends ∈ x_T := xmem4 86 rfl rfl
theorem hs_Law_ends : y_Law_ends.cls ≠ "java/lang/invoke/MethodHandle" ∧ y_Law_ends.cls ≠ "java/lang/invoke/VarHandle" ∧ (parseMethodDescriptor y_Law_ends.desc).map (fun d => d.parameters.length) = some 3 := by decide +kernel
abbrev b_Law_find : ByteArray := method_14_code
abbrev y_Law_find : MethodName := ⟨R_Law, "find", "(LDerivativeDesk;IJ[J)I"⟩
set_option maxRecDepth 100000 in
theorem cd_Law_find : Cond.codeWith y_Law_find b_Law_find 6 (some .int) [(0, 10, 13, 13)] ∈ x_T := xmem4 102 rfl rfl
set_option maxRecDepth 100000 in
theorem st_Law_find : Cond.static y_Law_find ∈ x_T := xmem4 101 rfl rfl
theorem hs_Law_find : y_Law_find.cls ≠ "java/lang/invoke/MethodHandle" ∧ y_Law_find.cls ≠ "java/lang/invoke/VarHandle" ∧ (parseMethodDescriptor y_Law_find.desc).map (fun d => d.parameters.length) = some 4 := by decide +kernel
abbrev b_Law_look : ByteArray := method_15_code
abbrev y_Law_look : MethodName := ⟨R_Law, "look", "(LDerivativeDesk;II[J)I"⟩
set_option maxRecDepth 100000 in
theorem cd_Law_look : Cond.codeWith y_Law_look b_Law_look 5 (some .int) [(0, 10, 13, 13)] ∈ x_T := xmem4 119 rfl rfl
set_option maxRecDepth 100000 in
theorem st_Law_look : Cond.static y_Law_look ∈ x_T := xmem4 118 rfl rfl
theorem hs_Law_look : y_Law_look.cls ≠ "java/lang/invoke/MethodHandle" ∧ y_Law_look.cls ≠ "java/lang/invoke/VarHandle" ∧ (parseMethodDescriptor y_Law_look.desc).map (fun d => d.parameters.length) = some 4 := by decide +kernel
set_option maxRecDepth 100000 in
theorem ml_Law_7 : Cond.methodLink R_Law 7 y_D_letters ∈ x_T := xmem2 61 rfl rfl
theorem gl_Law_7 (w0 : Cond) : GoodIn (w0 :: x_T) (wsV R_Law 7 R_D y_D_letters (Cond.code y_D_letters b_D_letters 3 (some .int) :: x_T)) := xgoodV ml_Law_7 im_D_letters sl_D_letters in_D cd_D_letters
theorem hs2_D_letters : y_D_letters.cls ≠ "java/lang/invoke/MethodHandle" ∧ y_D_letters.cls ≠ "java/lang/invoke/VarHandle" ∧ (parseMethodDescriptor y_D_letters.desc).map (fun d => d.parameters.length) = some 2 := hv_D_letters.2
set_option maxRecDepth 100000 in
theorem ml_Law_17 : Cond.methodLink R_Law 17 y_D_join ∈ x_T := xmem2 167 rfl rfl
theorem gl_Law_17 (w0 : Cond) : GoodIn (w0 :: x_T) (wsV R_Law 17 R_D y_D_join (Cond.code y_D_join b_D_join 5 (some .int) :: x_T)) := xgoodV ml_Law_17 im_D_join sl_D_join in_D cd_D_join
theorem hs2_D_join : y_D_join.cls ≠ "java/lang/invoke/MethodHandle" ∧ y_D_join.cls ≠ "java/lang/invoke/VarHandle" ∧ (parseMethodDescriptor y_D_join.desc).map (fun d => d.parameters.length) = some 4 := hv_D_join.2
set_option maxRecDepth 100000 in
theorem ml_Law_21 : Cond.methodLink R_Law 21 y_D_turn ∈ x_T := xmem3 78 rfl rfl
theorem gl_Law_21 (w0 : Cond) : GoodIn (w0 :: x_T) (wsV R_Law 21 R_D y_D_turn (Cond.code y_D_turn b_D_turn 4 (some .int) :: x_T)) := xgoodV ml_Law_21 im_D_turn sl_D_turn in_D cd_D_turn
theorem hs2_D_turn : y_D_turn.cls ≠ "java/lang/invoke/MethodHandle" ∧ y_D_turn.cls ≠ "java/lang/invoke/VarHandle" ∧ (parseMethodDescriptor y_D_turn.desc).map (fun d => d.parameters.length) = some 3 := hv_D_turn.2
set_option maxRecDepth 100000 in
theorem ml_Law_25 : Cond.methodLink R_Law 25 y_D_derive ∈ x_T := xmem3 93 rfl rfl
theorem gl_Law_25 (w0 : Cond) : GoodIn (w0 :: x_T) (wsV R_Law 25 R_D y_D_derive (Cond.code y_D_derive b_D_derive 4 (some .int) :: x_T)) := xgoodV ml_Law_25 im_D_derive sl_D_derive in_D cd_D_derive
theorem hs2_D_derive : y_D_derive.cls ≠ "java/lang/invoke/MethodHandle" ∧ y_D_derive.cls ≠ "java/lang/invoke/VarHandle" ∧ (parseMethodDescriptor y_D_derive.desc).map (fun d => d.parameters.length) = some 3 := hv_D_derive.2
set_option maxRecDepth 100000 in
theorem ml_Law_28 : Cond.methodLink R_Law 28 y_D_similar ∈ x_T := xmem3 122 rfl rfl
theorem gl_Law_28 (w0 : Cond) : GoodIn (w0 :: x_T) (wsV R_Law 28 R_D y_D_similar (Cond.code y_D_similar b_D_similar 3 (some .boolean) :: x_T)) := xgoodV ml_Law_28 im_D_similar sl_D_similar in_D cd_D_similar
theorem hs2_D_similar : y_D_similar.cls ≠ "java/lang/invoke/MethodHandle" ∧ y_D_similar.cls ≠ "java/lang/invoke/VarHandle" ∧ (parseMethodDescriptor y_D_similar.desc).map (fun d => d.parameters.length) = some 2 := hv_D_similar.2
set_option maxRecDepth 100000 in
theorem ml_Law_32 : Cond.methodLink R_Law 32 y_D_has ∈ x_T := xmem3 129 rfl rfl
theorem gl_Law_32 (w0 : Cond) : GoodIn (w0 :: x_T) (wsV R_Law 32 R_D y_D_has (Cond.code y_D_has b_D_has 4 (some .boolean) :: x_T)) := xgoodV ml_Law_32 im_D_has sl_D_has in_D cd_D_has
theorem hs2_D_has : y_D_has.cls ≠ "java/lang/invoke/MethodHandle" ∧ y_D_has.cls ≠ "java/lang/invoke/VarHandle" ∧ (parseMethodDescriptor y_D_has.desc).map (fun d => d.parameters.length) = some 3 := hv_D_has.2
set_option maxRecDepth 100000 in
theorem ml_Law_36 : Cond.methodLink R_Law 36 y_D_states ∈ x_T := xmem3 195 rfl rfl
theorem gl_Law_36 (w0 : Cond) : GoodIn (w0 :: x_T) (wsV R_Law 36 R_D y_D_states (Cond.code y_D_states b_D_states 2 (some .int) :: x_T)) := xgoodV ml_Law_36 im_D_states sl_D_states in_D cd_D_states
theorem hs2_D_states : y_D_states.cls ≠ "java/lang/invoke/MethodHandle" ∧ y_D_states.cls ≠ "java/lang/invoke/VarHandle" ∧ (parseMethodDescriptor y_D_states.desc).map (fun d => d.parameters.length) = some 1 := hv_D_states.2
set_option maxRecDepth 100000 in
theorem ml_Law_40 : Cond.methodLink R_Law 40 y_D_languages ∈ x_T := xmem3 234 rfl rfl
theorem gl_Law_40 (w0 : Cond) : GoodIn (w0 :: x_T) (wsV R_Law 40 R_D y_D_languages (Cond.code y_D_languages b_D_languages 3 (some .int) :: x_T)) := xgoodV ml_Law_40 im_D_languages sl_D_languages in_D cd_D_languages
theorem hs2_D_languages : y_D_languages.cls ≠ "java/lang/invoke/MethodHandle" ∧ y_D_languages.cls ≠ "java/lang/invoke/VarHandle" ∧ (parseMethodDescriptor y_D_languages.desc).map (fun d => d.parameters.length) = some 1 := hv_D_languages.2
set_option maxRecDepth 100000 in
theorem ml_Law_43 : Cond.methodLink R_Law 43 y_D_equal ∈ x_T := xmem4 31 rfl rfl
theorem gl_Law_43 (w0 : Cond) : GoodIn (w0 :: x_T) (wsV R_Law 43 R_D y_D_equal (Cond.code y_D_equal b_D_equal 5 (some .int) :: x_T)) := xgoodV ml_Law_43 im_D_equal sl_D_equal in_D cd_D_equal
theorem hs2_D_equal : y_D_equal.cls ≠ "java/lang/invoke/MethodHandle" ∧ y_D_equal.cls ≠ "java/lang/invoke/VarHandle" ∧ (parseMethodDescriptor y_D_equal.desc).map (fun d => d.parameters.length) = some 2 := hv_D_equal.2
set_option maxRecDepth 100000 in
theorem ml_Law_46 : Cond.methodLink R_Law 46 y_D_words ∈ x_T := xmem4 69 rfl rfl
theorem gl_Law_46 (w0 : Cond) : GoodIn (w0 :: x_T) (wsV R_Law 46 R_D y_D_words (Cond.code y_D_words b_D_words 4 (some .long) :: x_T)) := xgoodV ml_Law_46 im_D_words sl_D_words in_D cd_D_words
theorem hs2_D_words : y_D_words.cls ≠ "java/lang/invoke/MethodHandle" ∧ y_D_words.cls ≠ "java/lang/invoke/VarHandle" ∧ (parseMethodDescriptor y_D_words.desc).map (fun d => d.parameters.length) = some 2 := hv_D_words.2
set_option maxRecDepth 100000 in
theorem ml_Law_50 : Cond.methodLink R_Law 50 y_D_ends ∈ x_T := xmem4 88 rfl rfl
theorem gl_Law_50 (w0 : Cond) : GoodIn (w0 :: x_T) (wsV R_Law 50 R_D y_D_ends (Cond.code y_D_ends b_D_ends 3 (some .int) :: x_T)) := xgoodV ml_Law_50 im_D_ends sl_D_ends in_D cd_D_ends
theorem hs2_D_ends : y_D_ends.cls ≠ "java/lang/invoke/MethodHandle" ∧ y_D_ends.cls ≠ "java/lang/invoke/VarHandle" ∧ (parseMethodDescriptor y_D_ends.desc).map (fun d => d.parameters.length) = some 1 := hv_D_ends.2
set_option maxRecDepth 100000 in
theorem ml_Law_53 : Cond.methodLink R_Law 53 y_D_find ∈ x_T := xmem4 103 rfl rfl
theorem gl_Law_53 (w0 : Cond) : GoodIn (w0 :: x_T) (wsV R_Law 53 R_D y_D_find (Cond.code y_D_find b_D_find 5 (some .long) :: x_T)) := xgoodV ml_Law_53 im_D_find sl_D_find in_D cd_D_find
theorem hs2_D_find : y_D_find.cls ≠ "java/lang/invoke/MethodHandle" ∧ y_D_find.cls ≠ "java/lang/invoke/VarHandle" ∧ (parseMethodDescriptor y_D_find.desc).map (fun d => d.parameters.length) = some 2 := hv_D_find.2
set_option maxRecDepth 100000 in
theorem ml_Law_57 : Cond.methodLink R_Law 57 y_D_look ∈ x_T := xmem4 120 rfl rfl
theorem gl_Law_57 (w0 : Cond) : GoodIn (w0 :: x_T) (wsV R_Law 57 R_D y_D_look (Cond.code y_D_look b_D_look 4 (some .int) :: x_T)) := xgoodV ml_Law_57 im_D_look sl_D_look in_D cd_D_look
theorem hs2_D_look : y_D_look.cls ≠ "java/lang/invoke/MethodHandle" ∧ y_D_look.cls ≠ "java/lang/invoke/VarHandle" ∧ (parseMethodDescriptor y_D_look.desc).map (fun d => d.parameters.length) = some 2 := hv_D_look.2
def m_Law_letters (a1 : Int32) (a2 : Int32) (M : MS) : Option (MS × Int32) :=
  if a1 < 0 ∨ ¬ a1 < 16 then (some (aC M, (1:Int32))) else (if a2 < 0 ∨ ¬ a2 ≤ (16:Int32) then (some (aC M, (2:Int32))) else (cal cM M (m_D_letters a1 a2 M) fun r1 =>
  (stJ r1.1 123 (0:Int32) r1.2.toInt64).bind fun M2 =>
  some (M2, (0:Int32))))
def m_Law_join (a1 : Int32) (a2 : Int32) (a3 : Int32) (a4 : Int32) (M : MS) : Option (MS × Int32) :=
  if a1 < 0 ∨ ¬ a1 < 16 then (some (aC M, (1:Int32))) else (if a2 < 0 ∨ ¬ a2 < 16 then (some (aC M, (1:Int32))) else (if a3 < 0 ∨ ¬ a3 < 16 then (some (aC M, (1:Int32))) else (if a4 < 0 ∨ ¬ a4 ≤ (2:Int32) then (some (aC M, (2:Int32))) else (cal cM M (m_D_join a1 a2 a3 a4 M) fun r1 =>
  (stJ r1.1 123 (0:Int32) r1.2.toInt64).bind fun M2 =>
  some (M2, (0:Int32))))))
def m_Law_turn (a1 : Int32) (a2 : Int32) (a3 : Int32) (M : MS) : Option (MS × Int32) :=
  if a1 < 0 ∨ ¬ a1 < 16 then (some (aC M, (1:Int32))) else (if a2 < 0 ∨ ¬ a2 < 16 then (some (aC M, (1:Int32))) else (if a3 < 0 ∨ ¬ a3 ≤ (1:Int32) then (some (aC M, (2:Int32))) else (cal cM M (m_D_turn a1 a2 a3 M) fun r1 =>
  (stJ r1.1 123 (0:Int32) r1.2.toInt64).bind fun M2 =>
  some (M2, (0:Int32)))))
def m_Law_derive (a1 : Int32) (a2 : Int32) (a3 : Int32) (M : MS) : Option (MS × Int32) :=
  if a1 < 0 ∨ ¬ a1 < 16 then (some (aC M, (1:Int32))) else (if a2 < 0 ∨ ¬ a2 < 16 then (some (aC M, (1:Int32))) else (if a3 < 0 ∨ ¬ a3 ≤ (3:Int32) then (some (aC M, (2:Int32))) else (cal cM M (m_D_derive a1 a2 a3 M) fun r1 =>
  (stJ r1.1 123 (0:Int32) r1.2.toInt64).bind fun M2 =>
  some (M2, (0:Int32)))))
def m_Law_similar_16  (s1 : Int32) (s2 : Int64) (M : MS) : Option (MS × Int32) :=
  (stJ M 123 s1 s2).bind fun M1 =>
  some (M1, (0:Int32))
def m_Law_similar (a1 : Int32) (a2 : Int32) (M : MS) : Option (MS × Int32) :=
  if a1 < 0 ∨ ¬ a1 < 16 then (some (aC M, (1:Int32))) else (if a2 < 0 ∨ ¬ a2 < 16 then (some (aC M, (1:Int32))) else (cal cM M (m_D_similar a1 a2 M) fun r1 =>
  if r1.2 = 0 then (m_Law_similar_16 (0:Int32) (0:Int64) r1.1) else (m_Law_similar_16 (0:Int32) (1:Int64) r1.1)))
def m_Law_has_18  (s1 : Int32) (s2 : Int64) (M : MS) : Option (MS × Int32) :=
  (stJ M 123 s1 s2).bind fun M1 =>
  some (M1, (0:Int32))
def m_Law_has (a1 : Int32) (a2 : Int32) (a3 : Int32) (M : MS) : Option (MS × Int32) :=
  if a1 < 0 ∨ ¬ a1 < 16 then (some (aC M, (1:Int32))) else (if a3 < 0 ∨ ¬ a3 ≤ (16:Int32) then (some (aC M, (2:Int32))) else (cal cM M (m_D_has a1 a2 a3 M) fun r1 =>
  if r1.2 = 0 then (m_Law_has_18 (0:Int32) (0:Int64) r1.1) else (m_Law_has_18 (0:Int32) (1:Int64) r1.1)))
def m_Law_states (a1 : Int32) (M : MS) : Option (MS × Int32) :=
  if a1 < 0 ∨ ¬ a1 < 16 then (some (aC M, (1:Int32))) else (cal cM M (m_D_states a1 M) fun r1 =>
  (stJ r1.1 123 (0:Int32) r1.2.toInt64).bind fun M2 =>
  some (M2, (0:Int32)))
def m_Law_languages (a1 : Int32) (M : MS) : Option (MS × Int32) :=
  if a1 < 0 ∨ ¬ a1 < 16 then (some (aC M, (1:Int32))) else (cal cM M (m_D_languages a1 M) fun r1 =>
  (stJ r1.1 123 (0:Int32) r1.2.toInt64).bind fun M2 =>
  some (M2, (0:Int32)))
def m_Law_equal (a1 : Int32) (a2 : Int32) (M : MS) : Option (MS × Int32) :=
  if a1 < 0 ∨ ¬ a1 < 16 then (some (aC M, (1:Int32))) else (if a2 < 0 ∨ ¬ a2 < 16 then (some (aC M, (1:Int32))) else (cal cM M (m_D_equal a1 a2 M) fun r1 =>
  (stJ r1.1 123 (0:Int32) r1.2.toInt64).bind fun M2 =>
  some (M2, (0:Int32))))
def m_Law_words (a1 : Int32) (a2 : Int32) (M : MS) : Option (MS × Int32) :=
  if a1 < 0 ∨ ¬ a1 < 16 then (some (aC M, (1:Int32))) else (if a2 < 0 ∨ ¬ a2 ≤ (16:Int32) then (some (aC M, (2:Int32))) else (cal cM M (m_D_words a1 a2 M) fun r1 =>
  (stJ r1.1 123 (0:Int32) r1.2).bind fun M2 =>
  some (M2, (0:Int32))))
def m_Law_ends (a1 : Int32) (M : MS) : Option (MS × Int32) :=
  if a1 < 0 ∨ ¬ a1 < 16 then (some (aC M, (1:Int32))) else (cal cM M (m_D_ends a1 M) fun r1 =>
  (stJ r1.1 123 (0:Int32) r1.2.toInt64).bind fun M2 =>
  some (M2, (0:Int32)))
def m_Law_find (a1 : Int32) (a2 : Int64) (M : MS) : Option (MS × Int32) :=
  if a1 < 0 ∨ ¬ a1 < 16 then (some (aC M, (1:Int32))) else (cal cM M (m_D_find a1 a2 M) fun r1 =>
  (stJ r1.1 123 (0:Int32) r1.2).bind fun M2 =>
  some (M2, (0:Int32)))
def m_Law_look (a1 : Int32) (a2 : Int32) (M : MS) : Option (MS × Int32) :=
  if a1 < 0 ∨ ¬ a1 < 16 then (some (aC M, (1:Int32))) else (cal cM M (m_D_look a1 a2 M) fun r1 =>
  (stJ r1.1 123 (0:Int32) r1.2.toInt64).bind fun M2 =>
  some (M2, (0:Int32)))
theorem d_Law_letters_0 : decode b_Law_letters 0 = .ok (.aload_n 3, 1) := by decide +kernel
theorem d_Law_letters_1 : decode b_Law_letters 1 = .ok (.iconst (0), 1) := by decide +kernel
theorem d_Law_letters_2 : decode b_Law_letters 2 = .ok (.aload_n 0, 1) := by decide +kernel
theorem d_Law_letters_3 : decode b_Law_letters 3 = .ok (.iload_n 1, 1) := by decide +kernel
theorem d_Law_letters_4 : decode b_Law_letters 4 = .ok (.iload_n 2, 1) := by decide +kernel
theorem d_Law_letters_5 : decode b_Law_letters 5 = .ok (.invokevirtual 7, 3) := by decide +kernel
theorem d_Law_letters_8 : decode b_Law_letters 8 = .ok (.i2l, 1) := by decide +kernel
theorem d_Law_letters_9 : decode b_Law_letters 9 = .ok (.lastore, 1) := by decide +kernel
theorem d_Law_letters_10 : decode b_Law_letters 10 = .ok (.goto (11), 3) := by decide +kernel
theorem d_Law_letters_13 : decode b_Law_letters 13 = .ok (.astore 4, 2) := by decide +kernel
theorem d_Law_letters_15 : decode b_Law_letters 15 = .ok (.iconst (1), 1) := by decide +kernel
theorem d_Law_letters_16 : decode b_Law_letters 16 = .ok (.ireturn, 1) := by decide +kernel
theorem d_Law_letters_17 : decode b_Law_letters 17 = .ok (.astore 4, 2) := by decide +kernel
theorem d_Law_letters_19 : decode b_Law_letters 19 = .ok (.iconst (2), 1) := by decide +kernel
theorem d_Law_letters_20 : decode b_Law_letters 20 = .ok (.ireturn, 1) := by decide +kernel
theorem d_Law_letters_21 : decode b_Law_letters 21 = .ok (.iconst (0), 1) := by decide +kernel
theorem d_Law_letters_22 : decode b_Law_letters 22 = .ok (.ireturn, 1) := by decide +kernel
section
variable {p : Program} {l : Launch} {e : Env} {R : Room} {s : State} {m : MethodId} {args : Array Value} {below : List Frame} {meth : Method} {c : Code} {D : va_G} {base : Nat} {g : Nat → ClassId} {az : Nat → Nat} {kz : Nat × Nat}
set_option maxRecDepth 100000 in
set_option maxHeartbeats 4000000 in
theorem t_Law_letters (htr : l.stackTraces = false) (B : xB p R s m args meth c b_Law_letters 5 R_Law (Cond.codeWith y_Law_letters b_Law_letters 5 (some .int) [(0, 10, 13, 13), (0, 10, 17, 15)] :: x_T) (some .int) 8 160 D x_cl (xty g) base) (hho : x_ho base s) (htab : c.exceptionTable.toList.map (fun h => (h.startPc, h.endPc, h.handlerPc, h.catchType)) = [(0, 10, 13, 13), (0, 10, 17, 15)]) (a1 : Int32) (a2 : Int32) (M : MS) : Sn p l e R s m args below meth c 5 D x_cl base (xwd g) cM x_gr az kz (xfc cM) (xZ below args s D x_cl (xty g) base (xwd g) cM x_gr az kz ovI) 0 [] [(0, .ref 0), (1, .int a1), (2, .int a2), (3, .ref 123)] M (m_Law_letters a1 a2 M) := by
  unfold m_Law_letters
  refine s_aload_n B d_Law_letters_0 rfl ?_
  refine s_iconst (v := (0:Int32)) B d_Law_letters_1 (by decide) ?_
  refine s_aload_n B d_Law_letters_2 rfl ?_
  refine s_iload_n B d_Law_letters_3 rfl ?_
  refine s_iload_n B d_Law_letters_4 rfl ?_
  refine s_if (fun hb0 => ?_) (fun hn0 => ?_)
  · refine s_thrV (av := [.int a1, .int a2]) (rest := [.int (0:Int32), .ref 123]) B hho (xcat_io2 B hho htab (by decide) (by decide)) d_Law_letters_5 xc_D kd_0 rfl cd_D_letters im_D_letters sl_D_letters in_D ml_Law_7 hs2_D_letters rfl rfl (by simp [Value.category]) (by decide) (by decide) (tt_D_letters_0 htr a1 a2 _  hb0) (xAst1 B d_Law_letters_13 (by decide)) ?_
    refine s_iconst (v := (1:Int32)) B d_Law_letters_15 (by decide) ?_
    exact s_iret B d_Law_letters_16
  · refine s_if (fun hb1 => ?_) (fun hn1 => ?_)
    · refine s_thrV (av := [.int a1, .int a2]) (rest := [.int (0:Int32), .ref 123]) B hho (xcat_ia2 B hho htab (by decide) (by decide)) d_Law_letters_5 xc_D kd_0 rfl cd_D_letters im_D_letters sl_D_letters in_D ml_Law_7 hs2_D_letters rfl rfl (by simp [Value.category]) (by decide) (by decide) (tt_D_letters_1 htr a1 a2 _ hn0 hb1) (xAst1 B d_Law_letters_17 (by decide)) ?_
      refine s_iconst (v := (2:Int32)) B d_Law_letters_19 (by decide) ?_
      exact s_iret B d_Law_letters_20
    · refine s_pick (lv1 := []) [] rfl ?_
      refine s_callI (av := [.ref 0, .int a1, .int a2]) (rest := [.int (0:Int32), .ref 123]) B (lk_V B d_Law_letters_5 (gl_Law_7 _) rfl hv_D_letters (by decide) (by decide)) rfl (x_rcV B xc_D kd_0) (fun _ _ => rfl) rfl rfl (by simp [Value.category]) rfl (fun r1 e9 => ct_D_letters _ _ _ r1 e9) (fun r1 _ => ?_)
      refine s_i2l B d_Law_letters_8 ?_
      refine s_last B kd_123 d_Law_letters_9 (fun M2 _ => ?_)
      refine s_goto B d_Law_letters_10 rfl ?_
      refine s_iconst (v := (0:Int32)) B d_Law_letters_21 (by decide) ?_
      exact s_iret B d_Law_letters_22
set_option maxRecDepth 100000 in
set_option maxHeartbeats 4000000 in
theorem ct_Law_letters {l : Launch} (htr : l.stackTraces = false) {D : va_G} {base : Nat} {g : Nat → ClassId} (a1 : Int32) (a2 : Int32) (M : MS) (r : MS × Int32) (hr : m_Law_letters a1 a2 M = some r) : CtH l y_Law_letters (Cond.codeWith y_Law_letters b_Law_letters 5 (some .int) [(0, 10, 13, 13), (0, 10, 17, 15)] :: x_T) 8 160 D x_cl (xty g) base (xwd g) cM x_gr [.ref 0, .int a1, .int a2, .ref 123] M r.1 (ovI r.2) :=
  x_metH (ov := ovI) (by decide) (Nat.le_of_ble_eq_true rfl) (fun p e R s m args below meth c az B hho htab => t_Law_letters htr B hho htab a1 a2 M) r hr
end
theorem d_Law_join_0 : decode b_Law_join 0 = .ok (.aload 5, 2) := by decide +kernel
theorem d_Law_join_2 : decode b_Law_join 2 = .ok (.iconst (0), 1) := by decide +kernel
theorem d_Law_join_3 : decode b_Law_join 3 = .ok (.aload_n 0, 1) := by decide +kernel
theorem d_Law_join_4 : decode b_Law_join 4 = .ok (.iload_n 1, 1) := by decide +kernel
theorem d_Law_join_5 : decode b_Law_join 5 = .ok (.iload_n 2, 1) := by decide +kernel
theorem d_Law_join_6 : decode b_Law_join 6 = .ok (.iload_n 3, 1) := by decide +kernel
theorem d_Law_join_7 : decode b_Law_join 7 = .ok (.iload 4, 2) := by decide +kernel
theorem d_Law_join_9 : decode b_Law_join 9 = .ok (.invokevirtual 17, 3) := by decide +kernel
theorem d_Law_join_12 : decode b_Law_join 12 = .ok (.i2l, 1) := by decide +kernel
theorem d_Law_join_13 : decode b_Law_join 13 = .ok (.lastore, 1) := by decide +kernel
theorem d_Law_join_14 : decode b_Law_join 14 = .ok (.goto (11), 3) := by decide +kernel
theorem d_Law_join_17 : decode b_Law_join 17 = .ok (.astore 6, 2) := by decide +kernel
theorem d_Law_join_19 : decode b_Law_join 19 = .ok (.iconst (1), 1) := by decide +kernel
theorem d_Law_join_20 : decode b_Law_join 20 = .ok (.ireturn, 1) := by decide +kernel
theorem d_Law_join_21 : decode b_Law_join 21 = .ok (.astore 6, 2) := by decide +kernel
theorem d_Law_join_23 : decode b_Law_join 23 = .ok (.iconst (2), 1) := by decide +kernel
theorem d_Law_join_24 : decode b_Law_join 24 = .ok (.ireturn, 1) := by decide +kernel
theorem d_Law_join_25 : decode b_Law_join 25 = .ok (.iconst (0), 1) := by decide +kernel
theorem d_Law_join_26 : decode b_Law_join 26 = .ok (.ireturn, 1) := by decide +kernel
section
variable {p : Program} {l : Launch} {e : Env} {R : Room} {s : State} {m : MethodId} {args : Array Value} {below : List Frame} {meth : Method} {c : Code} {D : va_G} {base : Nat} {g : Nat → ClassId} {az : Nat → Nat} {kz : Nat × Nat}
set_option maxRecDepth 100000 in
set_option maxHeartbeats 4000000 in
theorem t_Law_join (htr : l.stackTraces = false) (B : xB p R s m args meth c b_Law_join 7 R_Law (Cond.codeWith y_Law_join b_Law_join 7 (some .int) [(0, 14, 17, 13), (0, 14, 21, 15)] :: x_T) (some .int) 9 206 D x_cl (xty g) base) (hho : x_ho base s) (htab : c.exceptionTable.toList.map (fun h => (h.startPc, h.endPc, h.handlerPc, h.catchType)) = [(0, 14, 17, 13), (0, 14, 21, 15)]) (a1 : Int32) (a2 : Int32) (a3 : Int32) (a4 : Int32) (M : MS) : Sn p l e R s m args below meth c 7 D x_cl base (xwd g) cM x_gr az kz (xfc cM) (xZ below args s D x_cl (xty g) base (xwd g) cM x_gr az kz ovI) 0 [] [(0, .ref 0), (1, .int a1), (2, .int a2), (3, .int a3), (4, .int a4), (5, .ref 123)] M (m_Law_join a1 a2 a3 a4 M) := by
  unfold m_Law_join
  refine s_aload B d_Law_join_0 rfl ?_
  refine s_iconst (v := (0:Int32)) B d_Law_join_2 (by decide) ?_
  refine s_aload_n B d_Law_join_3 rfl ?_
  refine s_iload_n B d_Law_join_4 rfl ?_
  refine s_iload_n B d_Law_join_5 rfl ?_
  refine s_iload_n B d_Law_join_6 rfl ?_
  refine s_iload B d_Law_join_7 rfl ?_
  refine s_if (fun hb0 => ?_) (fun hn0 => ?_)
  · refine s_thrV (av := [.int a1, .int a2, .int a3, .int a4]) (rest := [.int (0:Int32), .ref 123]) B hho (xcat_io2 B hho htab (by decide) (by decide)) d_Law_join_9 xc_D kd_0 rfl cd_D_join im_D_join sl_D_join in_D ml_Law_17 hs2_D_join rfl rfl (by simp [Value.category]) (by decide) (by decide) (tt_D_join_0 htr a1 a2 a3 a4 _  hb0) (xAst1 B d_Law_join_17 (by decide)) ?_
    refine s_iconst (v := (1:Int32)) B d_Law_join_19 (by decide) ?_
    exact s_iret B d_Law_join_20
  · refine s_if (fun hb1 => ?_) (fun hn1 => ?_)
    · refine s_thrV (av := [.int a1, .int a2, .int a3, .int a4]) (rest := [.int (0:Int32), .ref 123]) B hho (xcat_io2 B hho htab (by decide) (by decide)) d_Law_join_9 xc_D kd_0 rfl cd_D_join im_D_join sl_D_join in_D ml_Law_17 hs2_D_join rfl rfl (by simp [Value.category]) (by decide) (by decide) (tt_D_join_1 htr a1 a2 a3 a4 _ hn0 hb1) (xAst1 B d_Law_join_17 (by decide)) ?_
      refine s_iconst (v := (1:Int32)) B d_Law_join_19 (by decide) ?_
      exact s_iret B d_Law_join_20
    · refine s_if (fun hb2 => ?_) (fun hn2 => ?_)
      · refine s_thrV (av := [.int a1, .int a2, .int a3, .int a4]) (rest := [.int (0:Int32), .ref 123]) B hho (xcat_io2 B hho htab (by decide) (by decide)) d_Law_join_9 xc_D kd_0 rfl cd_D_join im_D_join sl_D_join in_D ml_Law_17 hs2_D_join rfl rfl (by simp [Value.category]) (by decide) (by decide) (tt_D_join_2 htr a1 a2 a3 a4 _ hn0 hn1 hb2) (xAst1 B d_Law_join_17 (by decide)) ?_
        refine s_iconst (v := (1:Int32)) B d_Law_join_19 (by decide) ?_
        exact s_iret B d_Law_join_20
      · refine s_if (fun hb3 => ?_) (fun hn3 => ?_)
        · refine s_thrV (av := [.int a1, .int a2, .int a3, .int a4]) (rest := [.int (0:Int32), .ref 123]) B hho (xcat_ia2 B hho htab (by decide) (by decide)) d_Law_join_9 xc_D kd_0 rfl cd_D_join im_D_join sl_D_join in_D ml_Law_17 hs2_D_join rfl rfl (by simp [Value.category]) (by decide) (by decide) (tt_D_join_3 htr a1 a2 a3 a4 _ hn0 hn1 hn2 hb3) (xAst1 B d_Law_join_21 (by decide)) ?_
          refine s_iconst (v := (2:Int32)) B d_Law_join_23 (by decide) ?_
          exact s_iret B d_Law_join_24
        · refine s_pick (lv1 := []) [] rfl ?_
          refine s_callI (av := [.ref 0, .int a1, .int a2, .int a3, .int a4]) (rest := [.int (0:Int32), .ref 123]) B (lk_V B d_Law_join_9 (gl_Law_17 _) rfl hv_D_join (by decide) (by decide)) rfl (x_rcV B xc_D kd_0) (fun _ h => h) (by simp [xng, x_gr, kd_123]) rfl (by simp [Value.category]) rfl (fun r1 e9 => ct_D_join _ _ _ _ _ r1 e9) (fun r1 _ => ?_)
          refine s_i2l B d_Law_join_12 ?_
          refine s_last B kd_123 d_Law_join_13 (fun M2 _ => ?_)
          refine s_goto B d_Law_join_14 rfl ?_
          refine s_iconst (v := (0:Int32)) B d_Law_join_25 (by decide) ?_
          exact s_iret B d_Law_join_26
set_option maxRecDepth 100000 in
set_option maxHeartbeats 4000000 in
theorem ct_Law_join {l : Launch} (htr : l.stackTraces = false) {D : va_G} {base : Nat} {g : Nat → ClassId} (a1 : Int32) (a2 : Int32) (a3 : Int32) (a4 : Int32) (M : MS) (r : MS × Int32) (hr : m_Law_join a1 a2 a3 a4 M = some r) : CtH l y_Law_join (Cond.codeWith y_Law_join b_Law_join 7 (some .int) [(0, 14, 17, 13), (0, 14, 21, 15)] :: x_T) 9 206 D x_cl (xty g) base (xwd g) cM x_gr [.ref 0, .int a1, .int a2, .int a3, .int a4, .ref 123] M r.1 (ovI r.2) :=
  x_metH (ov := ovI) (by decide) (Nat.le_of_ble_eq_true rfl) (fun p e R s m args below meth c az B hho htab => t_Law_join htr B hho htab a1 a2 a3 a4 M) r hr
end
theorem d_Law_turn_0 : decode b_Law_turn 0 = .ok (.aload 4, 2) := by decide +kernel
theorem d_Law_turn_2 : decode b_Law_turn 2 = .ok (.iconst (0), 1) := by decide +kernel
theorem d_Law_turn_3 : decode b_Law_turn 3 = .ok (.aload_n 0, 1) := by decide +kernel
theorem d_Law_turn_4 : decode b_Law_turn 4 = .ok (.iload_n 1, 1) := by decide +kernel
theorem d_Law_turn_5 : decode b_Law_turn 5 = .ok (.iload_n 2, 1) := by decide +kernel
theorem d_Law_turn_6 : decode b_Law_turn 6 = .ok (.iload_n 3, 1) := by decide +kernel
theorem d_Law_turn_7 : decode b_Law_turn 7 = .ok (.invokevirtual 21, 3) := by decide +kernel
theorem d_Law_turn_10 : decode b_Law_turn 10 = .ok (.i2l, 1) := by decide +kernel
theorem d_Law_turn_11 : decode b_Law_turn 11 = .ok (.lastore, 1) := by decide +kernel
theorem d_Law_turn_12 : decode b_Law_turn 12 = .ok (.goto (11), 3) := by decide +kernel
theorem d_Law_turn_15 : decode b_Law_turn 15 = .ok (.astore 5, 2) := by decide +kernel
theorem d_Law_turn_17 : decode b_Law_turn 17 = .ok (.iconst (1), 1) := by decide +kernel
theorem d_Law_turn_18 : decode b_Law_turn 18 = .ok (.ireturn, 1) := by decide +kernel
theorem d_Law_turn_19 : decode b_Law_turn 19 = .ok (.astore 5, 2) := by decide +kernel
theorem d_Law_turn_21 : decode b_Law_turn 21 = .ok (.iconst (2), 1) := by decide +kernel
theorem d_Law_turn_22 : decode b_Law_turn 22 = .ok (.ireturn, 1) := by decide +kernel
theorem d_Law_turn_23 : decode b_Law_turn 23 = .ok (.iconst (0), 1) := by decide +kernel
theorem d_Law_turn_24 : decode b_Law_turn 24 = .ok (.ireturn, 1) := by decide +kernel
section
variable {p : Program} {l : Launch} {e : Env} {R : Room} {s : State} {m : MethodId} {args : Array Value} {below : List Frame} {meth : Method} {c : Code} {D : va_G} {base : Nat} {g : Nat → ClassId} {az : Nat → Nat} {kz : Nat × Nat}
set_option maxRecDepth 100000 in
set_option maxHeartbeats 4000000 in
theorem t_Law_turn (htr : l.stackTraces = false) (B : xB p R s m args meth c b_Law_turn 6 R_Law (Cond.codeWith y_Law_turn b_Law_turn 6 (some .int) [(0, 12, 15, 13), (0, 12, 19, 15)] :: x_T) (some .int) 8 181 D x_cl (xty g) base) (hho : x_ho base s) (htab : c.exceptionTable.toList.map (fun h => (h.startPc, h.endPc, h.handlerPc, h.catchType)) = [(0, 12, 15, 13), (0, 12, 19, 15)]) (a1 : Int32) (a2 : Int32) (a3 : Int32) (M : MS) : Sn p l e R s m args below meth c 6 D x_cl base (xwd g) cM x_gr az kz (xfc cM) (xZ below args s D x_cl (xty g) base (xwd g) cM x_gr az kz ovI) 0 [] [(0, .ref 0), (1, .int a1), (2, .int a2), (3, .int a3), (4, .ref 123)] M (m_Law_turn a1 a2 a3 M) := by
  unfold m_Law_turn
  refine s_aload B d_Law_turn_0 rfl ?_
  refine s_iconst (v := (0:Int32)) B d_Law_turn_2 (by decide) ?_
  refine s_aload_n B d_Law_turn_3 rfl ?_
  refine s_iload_n B d_Law_turn_4 rfl ?_
  refine s_iload_n B d_Law_turn_5 rfl ?_
  refine s_iload_n B d_Law_turn_6 rfl ?_
  refine s_if (fun hb0 => ?_) (fun hn0 => ?_)
  · refine s_thrV (av := [.int a1, .int a2, .int a3]) (rest := [.int (0:Int32), .ref 123]) B hho (xcat_io2 B hho htab (by decide) (by decide)) d_Law_turn_7 xc_D kd_0 rfl cd_D_turn im_D_turn sl_D_turn in_D ml_Law_21 hs2_D_turn rfl rfl (by simp [Value.category]) (by decide) (by decide) (tt_D_turn_0 htr a1 a2 a3 _  hb0) (xAst1 B d_Law_turn_15 (by decide)) ?_
    refine s_iconst (v := (1:Int32)) B d_Law_turn_17 (by decide) ?_
    exact s_iret B d_Law_turn_18
  · refine s_if (fun hb1 => ?_) (fun hn1 => ?_)
    · refine s_thrV (av := [.int a1, .int a2, .int a3]) (rest := [.int (0:Int32), .ref 123]) B hho (xcat_io2 B hho htab (by decide) (by decide)) d_Law_turn_7 xc_D kd_0 rfl cd_D_turn im_D_turn sl_D_turn in_D ml_Law_21 hs2_D_turn rfl rfl (by simp [Value.category]) (by decide) (by decide) (tt_D_turn_1 htr a1 a2 a3 _ hn0 hb1) (xAst1 B d_Law_turn_15 (by decide)) ?_
      refine s_iconst (v := (1:Int32)) B d_Law_turn_17 (by decide) ?_
      exact s_iret B d_Law_turn_18
    · refine s_if (fun hb2 => ?_) (fun hn2 => ?_)
      · refine s_thrV (av := [.int a1, .int a2, .int a3]) (rest := [.int (0:Int32), .ref 123]) B hho (xcat_ia2 B hho htab (by decide) (by decide)) d_Law_turn_7 xc_D kd_0 rfl cd_D_turn im_D_turn sl_D_turn in_D ml_Law_21 hs2_D_turn rfl rfl (by simp [Value.category]) (by decide) (by decide) (tt_D_turn_2 htr a1 a2 a3 _ hn0 hn1 hb2) (xAst1 B d_Law_turn_19 (by decide)) ?_
        refine s_iconst (v := (2:Int32)) B d_Law_turn_21 (by decide) ?_
        exact s_iret B d_Law_turn_22
      · refine s_pick (lv1 := []) [] rfl ?_
        refine s_callI (av := [.ref 0, .int a1, .int a2, .int a3]) (rest := [.int (0:Int32), .ref 123]) B (lk_V B d_Law_turn_7 (gl_Law_21 _) rfl hv_D_turn (by decide) (by decide)) rfl (x_rcV B xc_D kd_0) (fun _ h => h) (by simp [xng, x_gr, kd_123]) rfl (by simp [Value.category]) rfl (fun r1 e9 => ct_D_turn _ _ _ _ r1 e9) (fun r1 _ => ?_)
        refine s_i2l B d_Law_turn_10 ?_
        refine s_last B kd_123 d_Law_turn_11 (fun M2 _ => ?_)
        refine s_goto B d_Law_turn_12 rfl ?_
        refine s_iconst (v := (0:Int32)) B d_Law_turn_23 (by decide) ?_
        exact s_iret B d_Law_turn_24
set_option maxRecDepth 100000 in
set_option maxHeartbeats 4000000 in
theorem ct_Law_turn {l : Launch} (htr : l.stackTraces = false) {D : va_G} {base : Nat} {g : Nat → ClassId} (a1 : Int32) (a2 : Int32) (a3 : Int32) (M : MS) (r : MS × Int32) (hr : m_Law_turn a1 a2 a3 M = some r) : CtH l y_Law_turn (Cond.codeWith y_Law_turn b_Law_turn 6 (some .int) [(0, 12, 15, 13), (0, 12, 19, 15)] :: x_T) 8 181 D x_cl (xty g) base (xwd g) cM x_gr [.ref 0, .int a1, .int a2, .int a3, .ref 123] M r.1 (ovI r.2) :=
  x_metH (ov := ovI) (by decide) (Nat.le_of_ble_eq_true rfl) (fun p e R s m args below meth c az B hho htab => t_Law_turn htr B hho htab a1 a2 a3 M) r hr
end
theorem d_Law_derive_0 : decode b_Law_derive 0 = .ok (.aload 4, 2) := by decide +kernel
theorem d_Law_derive_2 : decode b_Law_derive 2 = .ok (.iconst (0), 1) := by decide +kernel
theorem d_Law_derive_3 : decode b_Law_derive 3 = .ok (.aload_n 0, 1) := by decide +kernel
theorem d_Law_derive_4 : decode b_Law_derive 4 = .ok (.iload_n 1, 1) := by decide +kernel
theorem d_Law_derive_5 : decode b_Law_derive 5 = .ok (.iload_n 2, 1) := by decide +kernel
theorem d_Law_derive_6 : decode b_Law_derive 6 = .ok (.iload_n 3, 1) := by decide +kernel
theorem d_Law_derive_7 : decode b_Law_derive 7 = .ok (.invokevirtual 25, 3) := by decide +kernel
theorem d_Law_derive_10 : decode b_Law_derive 10 = .ok (.i2l, 1) := by decide +kernel
theorem d_Law_derive_11 : decode b_Law_derive 11 = .ok (.lastore, 1) := by decide +kernel
theorem d_Law_derive_12 : decode b_Law_derive 12 = .ok (.goto (11), 3) := by decide +kernel
theorem d_Law_derive_15 : decode b_Law_derive 15 = .ok (.astore 5, 2) := by decide +kernel
theorem d_Law_derive_17 : decode b_Law_derive 17 = .ok (.iconst (1), 1) := by decide +kernel
theorem d_Law_derive_18 : decode b_Law_derive 18 = .ok (.ireturn, 1) := by decide +kernel
theorem d_Law_derive_19 : decode b_Law_derive 19 = .ok (.astore 5, 2) := by decide +kernel
theorem d_Law_derive_21 : decode b_Law_derive 21 = .ok (.iconst (2), 1) := by decide +kernel
theorem d_Law_derive_22 : decode b_Law_derive 22 = .ok (.ireturn, 1) := by decide +kernel
theorem d_Law_derive_23 : decode b_Law_derive 23 = .ok (.iconst (0), 1) := by decide +kernel
theorem d_Law_derive_24 : decode b_Law_derive 24 = .ok (.ireturn, 1) := by decide +kernel
section
variable {p : Program} {l : Launch} {e : Env} {R : Room} {s : State} {m : MethodId} {args : Array Value} {below : List Frame} {meth : Method} {c : Code} {D : va_G} {base : Nat} {g : Nat → ClassId} {az : Nat → Nat} {kz : Nat × Nat}
set_option maxRecDepth 100000 in
set_option maxHeartbeats 4000000 in
theorem t_Law_derive (htr : l.stackTraces = false) (B : xB p R s m args meth c b_Law_derive 6 R_Law (Cond.codeWith y_Law_derive b_Law_derive 6 (some .int) [(0, 12, 15, 13), (0, 12, 19, 15)] :: x_T) (some .int) 10 234 D x_cl (xty g) base) (hho : x_ho base s) (htab : c.exceptionTable.toList.map (fun h => (h.startPc, h.endPc, h.handlerPc, h.catchType)) = [(0, 12, 15, 13), (0, 12, 19, 15)]) (a1 : Int32) (a2 : Int32) (a3 : Int32) (M : MS) : Sn p l e R s m args below meth c 6 D x_cl base (xwd g) cM x_gr az kz (xfc cM) (xZ below args s D x_cl (xty g) base (xwd g) cM x_gr az kz ovI) 0 [] [(0, .ref 0), (1, .int a1), (2, .int a2), (3, .int a3), (4, .ref 123)] M (m_Law_derive a1 a2 a3 M) := by
  unfold m_Law_derive
  refine s_aload B d_Law_derive_0 rfl ?_
  refine s_iconst (v := (0:Int32)) B d_Law_derive_2 (by decide) ?_
  refine s_aload_n B d_Law_derive_3 rfl ?_
  refine s_iload_n B d_Law_derive_4 rfl ?_
  refine s_iload_n B d_Law_derive_5 rfl ?_
  refine s_iload_n B d_Law_derive_6 rfl ?_
  refine s_if (fun hb0 => ?_) (fun hn0 => ?_)
  · refine s_thrV (av := [.int a1, .int a2, .int a3]) (rest := [.int (0:Int32), .ref 123]) B hho (xcat_io2 B hho htab (by decide) (by decide)) d_Law_derive_7 xc_D kd_0 rfl cd_D_derive im_D_derive sl_D_derive in_D ml_Law_25 hs2_D_derive rfl rfl (by simp [Value.category]) (by decide) (by decide) (tt_D_derive_0 htr a1 a2 a3 _  hb0) (xAst1 B d_Law_derive_15 (by decide)) ?_
    refine s_iconst (v := (1:Int32)) B d_Law_derive_17 (by decide) ?_
    exact s_iret B d_Law_derive_18
  · refine s_if (fun hb1 => ?_) (fun hn1 => ?_)
    · refine s_thrV (av := [.int a1, .int a2, .int a3]) (rest := [.int (0:Int32), .ref 123]) B hho (xcat_io2 B hho htab (by decide) (by decide)) d_Law_derive_7 xc_D kd_0 rfl cd_D_derive im_D_derive sl_D_derive in_D ml_Law_25 hs2_D_derive rfl rfl (by simp [Value.category]) (by decide) (by decide) (tt_D_derive_1 htr a1 a2 a3 _ hn0 hb1) (xAst1 B d_Law_derive_15 (by decide)) ?_
      refine s_iconst (v := (1:Int32)) B d_Law_derive_17 (by decide) ?_
      exact s_iret B d_Law_derive_18
    · refine s_if (fun hb2 => ?_) (fun hn2 => ?_)
      · refine s_thrV (av := [.int a1, .int a2, .int a3]) (rest := [.int (0:Int32), .ref 123]) B hho (xcat_ia2 B hho htab (by decide) (by decide)) d_Law_derive_7 xc_D kd_0 rfl cd_D_derive im_D_derive sl_D_derive in_D ml_Law_25 hs2_D_derive rfl rfl (by simp [Value.category]) (by decide) (by decide) (tt_D_derive_2 htr a1 a2 a3 _ hn0 hn1 hb2) (xAst1 B d_Law_derive_19 (by decide)) ?_
        refine s_iconst (v := (2:Int32)) B d_Law_derive_21 (by decide) ?_
        exact s_iret B d_Law_derive_22
      · refine s_pick (lv1 := []) [] rfl ?_
        refine s_callI (av := [.ref 0, .int a1, .int a2, .int a3]) (rest := [.int (0:Int32), .ref 123]) B (lk_V B d_Law_derive_7 (gl_Law_25 _) rfl hv_D_derive (by decide) (by decide)) rfl (x_rcV B xc_D kd_0) (fun _ h => h) (by simp [xng, x_gr, kd_123]) rfl (by simp [Value.category]) rfl (fun r1 e9 => ct_D_derive _ _ _ _ r1 e9) (fun r1 _ => ?_)
        refine s_i2l B d_Law_derive_10 ?_
        refine s_last B kd_123 d_Law_derive_11 (fun M2 _ => ?_)
        refine s_goto B d_Law_derive_12 rfl ?_
        refine s_iconst (v := (0:Int32)) B d_Law_derive_23 (by decide) ?_
        exact s_iret B d_Law_derive_24
set_option maxRecDepth 100000 in
set_option maxHeartbeats 4000000 in
theorem ct_Law_derive {l : Launch} (htr : l.stackTraces = false) {D : va_G} {base : Nat} {g : Nat → ClassId} (a1 : Int32) (a2 : Int32) (a3 : Int32) (M : MS) (r : MS × Int32) (hr : m_Law_derive a1 a2 a3 M = some r) : CtH l y_Law_derive (Cond.codeWith y_Law_derive b_Law_derive 6 (some .int) [(0, 12, 15, 13), (0, 12, 19, 15)] :: x_T) 10 234 D x_cl (xty g) base (xwd g) cM x_gr [.ref 0, .int a1, .int a2, .int a3, .ref 123] M r.1 (ovI r.2) :=
  x_metH (ov := ovI) (by decide) (Nat.le_of_ble_eq_true rfl) (fun p e R s m args below meth c az B hho htab => t_Law_derive htr B hho htab a1 a2 a3 M) r hr
end
theorem d_Law_similar_0 : decode b_Law_similar 0 = .ok (.aload_n 3, 1) := by decide +kernel
theorem d_Law_similar_1 : decode b_Law_similar 1 = .ok (.iconst (0), 1) := by decide +kernel
theorem d_Law_similar_2 : decode b_Law_similar 2 = .ok (.aload_n 0, 1) := by decide +kernel
theorem d_Law_similar_3 : decode b_Law_similar 3 = .ok (.iload_n 1, 1) := by decide +kernel
theorem d_Law_similar_4 : decode b_Law_similar 4 = .ok (.iload_n 2, 1) := by decide +kernel
theorem d_Law_similar_5 : decode b_Law_similar 5 = .ok (.invokevirtual 28, 3) := by decide +kernel
theorem d_Law_similar_8 : decode b_Law_similar 8 = .ok (.ifCond .eq (7), 3) := by decide +kernel
theorem d_Law_similar_11 : decode b_Law_similar 11 = .ok (.lconst 1, 1) := by decide +kernel
theorem d_Law_similar_12 : decode b_Law_similar 12 = .ok (.goto (4), 3) := by decide +kernel
theorem d_Law_similar_15 : decode b_Law_similar 15 = .ok (.lconst 0, 1) := by decide +kernel
theorem d_Law_similar_16 : decode b_Law_similar 16 = .ok (.lastore, 1) := by decide +kernel
theorem d_Law_similar_17 : decode b_Law_similar 17 = .ok (.goto (7), 3) := by decide +kernel
theorem d_Law_similar_20 : decode b_Law_similar 20 = .ok (.astore 4, 2) := by decide +kernel
theorem d_Law_similar_22 : decode b_Law_similar 22 = .ok (.iconst (1), 1) := by decide +kernel
theorem d_Law_similar_23 : decode b_Law_similar 23 = .ok (.ireturn, 1) := by decide +kernel
theorem d_Law_similar_24 : decode b_Law_similar 24 = .ok (.iconst (0), 1) := by decide +kernel
theorem d_Law_similar_25 : decode b_Law_similar 25 = .ok (.ireturn, 1) := by decide +kernel
section
variable {p : Program} {l : Launch} {e : Env} {R : Room} {s : State} {m : MethodId} {args : Array Value} {below : List Frame} {meth : Method} {c : Code} {D : va_G} {base : Nat} {g : Nat → ClassId} {az : Nat → Nat} {kz : Nat × Nat}
set_option maxRecDepth 100000 in
set_option maxHeartbeats 4000000 in
theorem t_Law_similar_16  (htr : l.stackTraces = false) (B : xB p R s m args meth c b_Law_similar 5 R_Law (Cond.codeWith y_Law_similar b_Law_similar 5 (some .int) [(0, 17, 20, 13)] :: x_T) (some .int) 8 160 D x_cl (xty g) base) (hho : x_ho base s) (htab : c.exceptionTable.toList.map (fun h => (h.startPc, h.endPc, h.handlerPc, h.catchType)) = [(0, 17, 20, 13)])  (s1 : Int32) (s2 : Int64) (M : MS)  : Sn p l e R s m args below meth c 5 D x_cl base (xwd g) cM x_gr az kz (xfc cM) (xZ below args s D x_cl (xty g) base (xwd g) cM x_gr az kz ovI) 16 [.long s2, .int s1, .ref 123] [] M (m_Law_similar_16 s1 s2 M) := by
  unfold m_Law_similar_16
  refine s_last B kd_123 d_Law_similar_16 (fun M1 _ => ?_)
  refine s_goto B d_Law_similar_17 rfl ?_
  refine s_iconst (v := (0:Int32)) B d_Law_similar_24 (by decide) ?_
  exact s_iret B d_Law_similar_25
set_option maxRecDepth 100000 in
set_option maxHeartbeats 4000000 in
theorem t_Law_similar (htr : l.stackTraces = false) (B : xB p R s m args meth c b_Law_similar 5 R_Law (Cond.codeWith y_Law_similar b_Law_similar 5 (some .int) [(0, 17, 20, 13)] :: x_T) (some .int) 8 160 D x_cl (xty g) base) (hho : x_ho base s) (htab : c.exceptionTable.toList.map (fun h => (h.startPc, h.endPc, h.handlerPc, h.catchType)) = [(0, 17, 20, 13)]) (a1 : Int32) (a2 : Int32) (M : MS) : Sn p l e R s m args below meth c 5 D x_cl base (xwd g) cM x_gr az kz (xfc cM) (xZ below args s D x_cl (xty g) base (xwd g) cM x_gr az kz ovI) 0 [] [(0, .ref 0), (1, .int a1), (2, .int a2), (3, .ref 123)] M (m_Law_similar a1 a2 M) := by
  unfold m_Law_similar
  refine s_aload_n B d_Law_similar_0 rfl ?_
  refine s_iconst (v := (0:Int32)) B d_Law_similar_1 (by decide) ?_
  refine s_aload_n B d_Law_similar_2 rfl ?_
  refine s_iload_n B d_Law_similar_3 rfl ?_
  refine s_iload_n B d_Law_similar_4 rfl ?_
  refine s_if (fun hb0 => ?_) (fun hn0 => ?_)
  · refine s_thrV (av := [.int a1, .int a2]) (rest := [.int (0:Int32), .ref 123]) B hho (xcat_io1 B hho htab (by decide) (by decide)) d_Law_similar_5 xc_D kd_0 rfl cd_D_similar im_D_similar sl_D_similar in_D ml_Law_28 hs2_D_similar rfl rfl (by simp [Value.category]) (by decide) (by decide) (tt_D_similar_0 htr a1 a2 _  hb0) (xAst1 B d_Law_similar_20 (by decide)) ?_
    refine s_iconst (v := (1:Int32)) B d_Law_similar_22 (by decide) ?_
    exact s_iret B d_Law_similar_23
  · refine s_if (fun hb1 => ?_) (fun hn1 => ?_)
    · refine s_thrV (av := [.int a1, .int a2]) (rest := [.int (0:Int32), .ref 123]) B hho (xcat_io1 B hho htab (by decide) (by decide)) d_Law_similar_5 xc_D kd_0 rfl cd_D_similar im_D_similar sl_D_similar in_D ml_Law_28 hs2_D_similar rfl rfl (by simp [Value.category]) (by decide) (by decide) (tt_D_similar_1 htr a1 a2 _ hn0 hb1) (xAst1 B d_Law_similar_20 (by decide)) ?_
      refine s_iconst (v := (1:Int32)) B d_Law_similar_22 (by decide) ?_
      exact s_iret B d_Law_similar_23
    · refine s_pick (lv1 := []) [] rfl ?_
      refine s_callI (av := [.ref 0, .int a1, .int a2]) (rest := [.int (0:Int32), .ref 123]) B (lk_V B d_Law_similar_5 (gl_Law_28 _) rfl hv_D_similar (by decide) (by decide)) rfl (x_rcV B xc_D kd_0) (fun _ _ => rfl) rfl rfl (by simp [Value.category]) rfl (fun r1 e9 => ct_D_similar _ _ _ r1 e9) (fun r1 _ => ?_)
      refine s_if_eq B d_Law_similar_8 rfl (fun _ => ?_) (fun _ => ?_)
      · refine s_lconst (v := (0:Int64)) B d_Law_similar_15 (by decide) ?_
        refine s_pick (lv1 := []) [] rfl ?_
        exact t_Law_similar_16 htr B hho htab (0:Int32) (0:Int64) r1.1
      · refine s_lconst (v := (1:Int64)) B d_Law_similar_11 (by decide) ?_
        refine s_goto B d_Law_similar_12 rfl ?_
        refine s_pick (lv1 := []) [] rfl ?_
        exact t_Law_similar_16 htr B hho htab (0:Int32) (1:Int64) r1.1
set_option maxRecDepth 100000 in
set_option maxHeartbeats 4000000 in
theorem ct_Law_similar {l : Launch} (htr : l.stackTraces = false) {D : va_G} {base : Nat} {g : Nat → ClassId} (a1 : Int32) (a2 : Int32) (M : MS) (r : MS × Int32) (hr : m_Law_similar a1 a2 M = some r) : CtH l y_Law_similar (Cond.codeWith y_Law_similar b_Law_similar 5 (some .int) [(0, 17, 20, 13)] :: x_T) 8 160 D x_cl (xty g) base (xwd g) cM x_gr [.ref 0, .int a1, .int a2, .ref 123] M r.1 (ovI r.2) :=
  x_metH (ov := ovI) (by decide) (Nat.le_of_ble_eq_true rfl) (fun p e R s m args below meth c az B hho htab => t_Law_similar htr B hho htab a1 a2 M) r hr
end
theorem d_Law_has_0 : decode b_Law_has 0 = .ok (.aload 4, 2) := by decide +kernel
theorem d_Law_has_2 : decode b_Law_has 2 = .ok (.iconst (0), 1) := by decide +kernel
theorem d_Law_has_3 : decode b_Law_has 3 = .ok (.aload_n 0, 1) := by decide +kernel
theorem d_Law_has_4 : decode b_Law_has 4 = .ok (.iload_n 1, 1) := by decide +kernel
theorem d_Law_has_5 : decode b_Law_has 5 = .ok (.iload_n 2, 1) := by decide +kernel
theorem d_Law_has_6 : decode b_Law_has 6 = .ok (.iload_n 3, 1) := by decide +kernel
theorem d_Law_has_7 : decode b_Law_has 7 = .ok (.invokevirtual 32, 3) := by decide +kernel
theorem d_Law_has_10 : decode b_Law_has 10 = .ok (.ifCond .eq (7), 3) := by decide +kernel
theorem d_Law_has_13 : decode b_Law_has 13 = .ok (.lconst 1, 1) := by decide +kernel
theorem d_Law_has_14 : decode b_Law_has 14 = .ok (.goto (4), 3) := by decide +kernel
theorem d_Law_has_17 : decode b_Law_has 17 = .ok (.lconst 0, 1) := by decide +kernel
theorem d_Law_has_18 : decode b_Law_has 18 = .ok (.lastore, 1) := by decide +kernel
theorem d_Law_has_19 : decode b_Law_has 19 = .ok (.goto (11), 3) := by decide +kernel
theorem d_Law_has_22 : decode b_Law_has 22 = .ok (.astore 5, 2) := by decide +kernel
theorem d_Law_has_24 : decode b_Law_has 24 = .ok (.iconst (1), 1) := by decide +kernel
theorem d_Law_has_25 : decode b_Law_has 25 = .ok (.ireturn, 1) := by decide +kernel
theorem d_Law_has_26 : decode b_Law_has 26 = .ok (.astore 5, 2) := by decide +kernel
theorem d_Law_has_28 : decode b_Law_has 28 = .ok (.iconst (2), 1) := by decide +kernel
theorem d_Law_has_29 : decode b_Law_has 29 = .ok (.ireturn, 1) := by decide +kernel
theorem d_Law_has_30 : decode b_Law_has 30 = .ok (.iconst (0), 1) := by decide +kernel
theorem d_Law_has_31 : decode b_Law_has 31 = .ok (.ireturn, 1) := by decide +kernel
section
variable {p : Program} {l : Launch} {e : Env} {R : Room} {s : State} {m : MethodId} {args : Array Value} {below : List Frame} {meth : Method} {c : Code} {D : va_G} {base : Nat} {g : Nat → ClassId} {az : Nat → Nat} {kz : Nat × Nat}
set_option maxRecDepth 100000 in
set_option maxHeartbeats 4000000 in
theorem t_Law_has_18  (htr : l.stackTraces = false) (B : xB p R s m args meth c b_Law_has 6 R_Law (Cond.codeWith y_Law_has b_Law_has 6 (some .int) [(0, 19, 22, 13), (0, 19, 26, 15)] :: x_T) (some .int) 9 208 D x_cl (xty g) base) (hho : x_ho base s) (htab : c.exceptionTable.toList.map (fun h => (h.startPc, h.endPc, h.handlerPc, h.catchType)) = [(0, 19, 22, 13), (0, 19, 26, 15)])  (s1 : Int32) (s2 : Int64) (M : MS)  : Sn p l e R s m args below meth c 6 D x_cl base (xwd g) cM x_gr az kz (xfc cM) (xZ below args s D x_cl (xty g) base (xwd g) cM x_gr az kz ovI) 18 [.long s2, .int s1, .ref 123] [] M (m_Law_has_18 s1 s2 M) := by
  unfold m_Law_has_18
  refine s_last B kd_123 d_Law_has_18 (fun M1 _ => ?_)
  refine s_goto B d_Law_has_19 rfl ?_
  refine s_iconst (v := (0:Int32)) B d_Law_has_30 (by decide) ?_
  exact s_iret B d_Law_has_31
set_option maxRecDepth 100000 in
set_option maxHeartbeats 4000000 in
theorem t_Law_has (htr : l.stackTraces = false) (B : xB p R s m args meth c b_Law_has 6 R_Law (Cond.codeWith y_Law_has b_Law_has 6 (some .int) [(0, 19, 22, 13), (0, 19, 26, 15)] :: x_T) (some .int) 9 208 D x_cl (xty g) base) (hho : x_ho base s) (htab : c.exceptionTable.toList.map (fun h => (h.startPc, h.endPc, h.handlerPc, h.catchType)) = [(0, 19, 22, 13), (0, 19, 26, 15)]) (a1 : Int32) (a2 : Int32) (a3 : Int32) (M : MS) : Sn p l e R s m args below meth c 6 D x_cl base (xwd g) cM x_gr az kz (xfc cM) (xZ below args s D x_cl (xty g) base (xwd g) cM x_gr az kz ovI) 0 [] [(0, .ref 0), (1, .int a1), (2, .int a2), (3, .int a3), (4, .ref 123)] M (m_Law_has a1 a2 a3 M) := by
  unfold m_Law_has
  refine s_aload B d_Law_has_0 rfl ?_
  refine s_iconst (v := (0:Int32)) B d_Law_has_2 (by decide) ?_
  refine s_aload_n B d_Law_has_3 rfl ?_
  refine s_iload_n B d_Law_has_4 rfl ?_
  refine s_iload_n B d_Law_has_5 rfl ?_
  refine s_iload_n B d_Law_has_6 rfl ?_
  refine s_if (fun hb0 => ?_) (fun hn0 => ?_)
  · refine s_thrV (av := [.int a1, .int a2, .int a3]) (rest := [.int (0:Int32), .ref 123]) B hho (xcat_io2 B hho htab (by decide) (by decide)) d_Law_has_7 xc_D kd_0 rfl cd_D_has im_D_has sl_D_has in_D ml_Law_32 hs2_D_has rfl rfl (by simp [Value.category]) (by decide) (by decide) (tt_D_has_0 htr a1 a2 a3 _  hb0) (xAst1 B d_Law_has_22 (by decide)) ?_
    refine s_iconst (v := (1:Int32)) B d_Law_has_24 (by decide) ?_
    exact s_iret B d_Law_has_25
  · refine s_if (fun hb1 => ?_) (fun hn1 => ?_)
    · refine s_thrV (av := [.int a1, .int a2, .int a3]) (rest := [.int (0:Int32), .ref 123]) B hho (xcat_ia2 B hho htab (by decide) (by decide)) d_Law_has_7 xc_D kd_0 rfl cd_D_has im_D_has sl_D_has in_D ml_Law_32 hs2_D_has rfl rfl (by simp [Value.category]) (by decide) (by decide) (tt_D_has_1 htr a1 a2 a3 _ hn0 hb1) (xAst1 B d_Law_has_26 (by decide)) ?_
      refine s_iconst (v := (2:Int32)) B d_Law_has_28 (by decide) ?_
      exact s_iret B d_Law_has_29
    · refine s_pick (lv1 := []) [] rfl ?_
      refine s_callI (av := [.ref 0, .int a1, .int a2, .int a3]) (rest := [.int (0:Int32), .ref 123]) B (lk_V B d_Law_has_7 (gl_Law_32 _) rfl hv_D_has (by decide) (by decide)) rfl (x_rcV B xc_D kd_0) (fun _ h => h) (by simp [xng, x_gr, kd_123]) rfl (by simp [Value.category]) rfl (fun r1 e9 => ct_D_has _ _ _ _ r1 e9) (fun r1 _ => ?_)
      refine s_if_eq B d_Law_has_10 rfl (fun _ => ?_) (fun _ => ?_)
      · refine s_lconst (v := (0:Int64)) B d_Law_has_17 (by decide) ?_
        refine s_pick (lv1 := []) [] rfl ?_
        exact t_Law_has_18 htr B hho htab (0:Int32) (0:Int64) r1.1
      · refine s_lconst (v := (1:Int64)) B d_Law_has_13 (by decide) ?_
        refine s_goto B d_Law_has_14 rfl ?_
        refine s_pick (lv1 := []) [] rfl ?_
        exact t_Law_has_18 htr B hho htab (0:Int32) (1:Int64) r1.1
set_option maxRecDepth 100000 in
set_option maxHeartbeats 4000000 in
theorem ct_Law_has {l : Launch} (htr : l.stackTraces = false) {D : va_G} {base : Nat} {g : Nat → ClassId} (a1 : Int32) (a2 : Int32) (a3 : Int32) (M : MS) (r : MS × Int32) (hr : m_Law_has a1 a2 a3 M = some r) : CtH l y_Law_has (Cond.codeWith y_Law_has b_Law_has 6 (some .int) [(0, 19, 22, 13), (0, 19, 26, 15)] :: x_T) 9 208 D x_cl (xty g) base (xwd g) cM x_gr [.ref 0, .int a1, .int a2, .int a3, .ref 123] M r.1 (ovI r.2) :=
  x_metH (ov := ovI) (by decide) (Nat.le_of_ble_eq_true rfl) (fun p e R s m args below meth c az B hho htab => t_Law_has htr B hho htab a1 a2 a3 M) r hr
end
theorem d_Law_states_0 : decode b_Law_states 0 = .ok (.aload_n 2, 1) := by decide +kernel
theorem d_Law_states_1 : decode b_Law_states 1 = .ok (.iconst (0), 1) := by decide +kernel
theorem d_Law_states_2 : decode b_Law_states 2 = .ok (.aload_n 0, 1) := by decide +kernel
theorem d_Law_states_3 : decode b_Law_states 3 = .ok (.iload_n 1, 1) := by decide +kernel
theorem d_Law_states_4 : decode b_Law_states 4 = .ok (.invokevirtual 36, 3) := by decide +kernel
theorem d_Law_states_7 : decode b_Law_states 7 = .ok (.i2l, 1) := by decide +kernel
theorem d_Law_states_8 : decode b_Law_states 8 = .ok (.lastore, 1) := by decide +kernel
theorem d_Law_states_9 : decode b_Law_states 9 = .ok (.goto (6), 3) := by decide +kernel
theorem d_Law_states_12 : decode b_Law_states 12 = .ok (.astore_n 3, 1) := by decide +kernel
theorem d_Law_states_13 : decode b_Law_states 13 = .ok (.iconst (1), 1) := by decide +kernel
theorem d_Law_states_14 : decode b_Law_states 14 = .ok (.ireturn, 1) := by decide +kernel
theorem d_Law_states_15 : decode b_Law_states 15 = .ok (.iconst (0), 1) := by decide +kernel
theorem d_Law_states_16 : decode b_Law_states 16 = .ok (.ireturn, 1) := by decide +kernel
section
variable {p : Program} {l : Launch} {e : Env} {R : Room} {s : State} {m : MethodId} {args : Array Value} {below : List Frame} {meth : Method} {c : Code} {D : va_G} {base : Nat} {g : Nat → ClassId} {az : Nat → Nat} {kz : Nat × Nat}
set_option maxRecDepth 100000 in
set_option maxHeartbeats 4000000 in
theorem t_Law_states (htr : l.stackTraces = false) (B : xB p R s m args meth c b_Law_states 4 R_Law (Cond.codeWith y_Law_states b_Law_states 4 (some .int) [(0, 9, 12, 13)] :: x_T) (some .int) 11 261 D x_cl (xty g) base) (hho : x_ho base s) (htab : c.exceptionTable.toList.map (fun h => (h.startPc, h.endPc, h.handlerPc, h.catchType)) = [(0, 9, 12, 13)]) (a1 : Int32) (M : MS) : Sn p l e R s m args below meth c 4 D x_cl base (xwd g) cM x_gr az kz (xfc cM) (xZ below args s D x_cl (xty g) base (xwd g) cM x_gr az kz ovI) 0 [] [(0, .ref 0), (1, .int a1), (2, .ref 123)] M (m_Law_states a1 M) := by
  unfold m_Law_states
  refine s_aload_n B d_Law_states_0 rfl ?_
  refine s_iconst (v := (0:Int32)) B d_Law_states_1 (by decide) ?_
  refine s_aload_n B d_Law_states_2 rfl ?_
  refine s_iload_n B d_Law_states_3 rfl ?_
  refine s_if (fun hb0 => ?_) (fun hn0 => ?_)
  · refine s_thrV (av := [.int a1]) (rest := [.int (0:Int32), .ref 123]) B hho (xcat_io1 B hho htab (by decide) (by decide)) d_Law_states_4 xc_D kd_0 rfl cd_D_states im_D_states sl_D_states in_D ml_Law_36 hs2_D_states rfl rfl (by simp [Value.category]) (by decide) (by decide) (tt_D_states_0 htr a1 _  hb0) (xAst2 B d_Law_states_12 (by decide)) ?_
    refine s_iconst (v := (1:Int32)) B d_Law_states_13 (by decide) ?_
    exact s_iret B d_Law_states_14
  · refine s_pick (lv1 := []) [] rfl ?_
    refine s_callI (av := [.ref 0, .int a1]) (rest := [.int (0:Int32), .ref 123]) B (lk_V B d_Law_states_4 (gl_Law_36 _) rfl hv_D_states (by decide) (by decide)) rfl (x_rcV B xc_D kd_0) (fun _ h => h) (by simp [xng, x_gr, kd_123]) rfl (by simp [Value.category]) rfl (fun r1 e9 => ct_D_states _ _ r1 e9) (fun r1 _ => ?_)
    refine s_i2l B d_Law_states_7 ?_
    refine s_last B kd_123 d_Law_states_8 (fun M2 _ => ?_)
    refine s_goto B d_Law_states_9 rfl ?_
    refine s_iconst (v := (0:Int32)) B d_Law_states_15 (by decide) ?_
    exact s_iret B d_Law_states_16
set_option maxRecDepth 100000 in
set_option maxHeartbeats 4000000 in
theorem ct_Law_states {l : Launch} (htr : l.stackTraces = false) {D : va_G} {base : Nat} {g : Nat → ClassId} (a1 : Int32) (M : MS) (r : MS × Int32) (hr : m_Law_states a1 M = some r) : CtH l y_Law_states (Cond.codeWith y_Law_states b_Law_states 4 (some .int) [(0, 9, 12, 13)] :: x_T) 11 261 D x_cl (xty g) base (xwd g) cM x_gr [.ref 0, .int a1, .ref 123] M r.1 (ovI r.2) :=
  x_metH (ov := ovI) (by decide) (Nat.le_of_ble_eq_true rfl) (fun p e R s m args below meth c az B hho htab => t_Law_states htr B hho htab a1 M) r hr
end
theorem d_Law_languages_0 : decode b_Law_languages 0 = .ok (.aload_n 2, 1) := by decide +kernel
theorem d_Law_languages_1 : decode b_Law_languages 1 = .ok (.iconst (0), 1) := by decide +kernel
theorem d_Law_languages_2 : decode b_Law_languages 2 = .ok (.aload_n 0, 1) := by decide +kernel
theorem d_Law_languages_3 : decode b_Law_languages 3 = .ok (.iload_n 1, 1) := by decide +kernel
theorem d_Law_languages_4 : decode b_Law_languages 4 = .ok (.invokevirtual 40, 3) := by decide +kernel
theorem d_Law_languages_7 : decode b_Law_languages 7 = .ok (.i2l, 1) := by decide +kernel
theorem d_Law_languages_8 : decode b_Law_languages 8 = .ok (.lastore, 1) := by decide +kernel
theorem d_Law_languages_9 : decode b_Law_languages 9 = .ok (.goto (6), 3) := by decide +kernel
theorem d_Law_languages_12 : decode b_Law_languages 12 = .ok (.astore_n 3, 1) := by decide +kernel
theorem d_Law_languages_13 : decode b_Law_languages 13 = .ok (.iconst (1), 1) := by decide +kernel
theorem d_Law_languages_14 : decode b_Law_languages 14 = .ok (.ireturn, 1) := by decide +kernel
theorem d_Law_languages_15 : decode b_Law_languages 15 = .ok (.iconst (0), 1) := by decide +kernel
theorem d_Law_languages_16 : decode b_Law_languages 16 = .ok (.ireturn, 1) := by decide +kernel
section
variable {p : Program} {l : Launch} {e : Env} {R : Room} {s : State} {m : MethodId} {args : Array Value} {below : List Frame} {meth : Method} {c : Code} {D : va_G} {base : Nat} {g : Nat → ClassId} {az : Nat → Nat} {kz : Nat × Nat}
set_option maxRecDepth 100000 in
set_option maxHeartbeats 4000000 in
theorem t_Law_languages (htr : l.stackTraces = false) (B : xB p R s m args meth c b_Law_languages 4 R_Law (Cond.codeWith y_Law_languages b_Law_languages 4 (some .int) [(0, 9, 12, 13)] :: x_T) (some .int) 11 262 D x_cl (xty g) base) (hho : x_ho base s) (htab : c.exceptionTable.toList.map (fun h => (h.startPc, h.endPc, h.handlerPc, h.catchType)) = [(0, 9, 12, 13)]) (a1 : Int32) (M : MS) : Sn p l e R s m args below meth c 4 D x_cl base (xwd g) cM x_gr az kz (xfc cM) (xZ below args s D x_cl (xty g) base (xwd g) cM x_gr az kz ovI) 0 [] [(0, .ref 0), (1, .int a1), (2, .ref 123)] M (m_Law_languages a1 M) := by
  unfold m_Law_languages
  refine s_aload_n B d_Law_languages_0 rfl ?_
  refine s_iconst (v := (0:Int32)) B d_Law_languages_1 (by decide) ?_
  refine s_aload_n B d_Law_languages_2 rfl ?_
  refine s_iload_n B d_Law_languages_3 rfl ?_
  refine s_if (fun hb0 => ?_) (fun hn0 => ?_)
  · refine s_thrV (av := [.int a1]) (rest := [.int (0:Int32), .ref 123]) B hho (xcat_io1 B hho htab (by decide) (by decide)) d_Law_languages_4 xc_D kd_0 rfl cd_D_languages im_D_languages sl_D_languages in_D ml_Law_40 hs2_D_languages rfl rfl (by simp [Value.category]) (by decide) (by decide) (tt_D_languages_0 htr a1 _  hb0) (xAst2 B d_Law_languages_12 (by decide)) ?_
    refine s_iconst (v := (1:Int32)) B d_Law_languages_13 (by decide) ?_
    exact s_iret B d_Law_languages_14
  · refine s_pick (lv1 := []) [] rfl ?_
    refine s_callI (av := [.ref 0, .int a1]) (rest := [.int (0:Int32), .ref 123]) B (lk_V B d_Law_languages_4 (gl_Law_40 _) rfl hv_D_languages (by decide) (by decide)) rfl (x_rcV B xc_D kd_0) (fun _ h => h) (by simp [xng, x_gr, kd_123]) rfl (by simp [Value.category]) rfl (fun r1 e9 => ct_D_languages _ _ r1 e9) (fun r1 _ => ?_)
    refine s_i2l B d_Law_languages_7 ?_
    refine s_last B kd_123 d_Law_languages_8 (fun M2 _ => ?_)
    refine s_goto B d_Law_languages_9 rfl ?_
    refine s_iconst (v := (0:Int32)) B d_Law_languages_15 (by decide) ?_
    exact s_iret B d_Law_languages_16
set_option maxRecDepth 100000 in
set_option maxHeartbeats 4000000 in
theorem ct_Law_languages {l : Launch} (htr : l.stackTraces = false) {D : va_G} {base : Nat} {g : Nat → ClassId} (a1 : Int32) (M : MS) (r : MS × Int32) (hr : m_Law_languages a1 M = some r) : CtH l y_Law_languages (Cond.codeWith y_Law_languages b_Law_languages 4 (some .int) [(0, 9, 12, 13)] :: x_T) 11 262 D x_cl (xty g) base (xwd g) cM x_gr [.ref 0, .int a1, .ref 123] M r.1 (ovI r.2) :=
  x_metH (ov := ovI) (by decide) (Nat.le_of_ble_eq_true rfl) (fun p e R s m args below meth c az B hho htab => t_Law_languages htr B hho htab a1 M) r hr
end
theorem d_Law_equal_0 : decode b_Law_equal 0 = .ok (.aload_n 3, 1) := by decide +kernel
theorem d_Law_equal_1 : decode b_Law_equal 1 = .ok (.iconst (0), 1) := by decide +kernel
theorem d_Law_equal_2 : decode b_Law_equal 2 = .ok (.aload_n 0, 1) := by decide +kernel
theorem d_Law_equal_3 : decode b_Law_equal 3 = .ok (.iload_n 1, 1) := by decide +kernel
theorem d_Law_equal_4 : decode b_Law_equal 4 = .ok (.iload_n 2, 1) := by decide +kernel
theorem d_Law_equal_5 : decode b_Law_equal 5 = .ok (.invokevirtual 43, 3) := by decide +kernel
theorem d_Law_equal_8 : decode b_Law_equal 8 = .ok (.i2l, 1) := by decide +kernel
theorem d_Law_equal_9 : decode b_Law_equal 9 = .ok (.lastore, 1) := by decide +kernel
theorem d_Law_equal_10 : decode b_Law_equal 10 = .ok (.goto (7), 3) := by decide +kernel
theorem d_Law_equal_13 : decode b_Law_equal 13 = .ok (.astore 4, 2) := by decide +kernel
theorem d_Law_equal_15 : decode b_Law_equal 15 = .ok (.iconst (1), 1) := by decide +kernel
theorem d_Law_equal_16 : decode b_Law_equal 16 = .ok (.ireturn, 1) := by decide +kernel
theorem d_Law_equal_17 : decode b_Law_equal 17 = .ok (.iconst (0), 1) := by decide +kernel
theorem d_Law_equal_18 : decode b_Law_equal 18 = .ok (.ireturn, 1) := by decide +kernel
section
variable {p : Program} {l : Launch} {e : Env} {R : Room} {s : State} {m : MethodId} {args : Array Value} {below : List Frame} {meth : Method} {c : Code} {D : va_G} {base : Nat} {g : Nat → ClassId} {az : Nat → Nat} {kz : Nat × Nat}
set_option maxRecDepth 100000 in
set_option maxHeartbeats 4000000 in
theorem t_Law_equal (htr : l.stackTraces = false) (B : xB p R s m args meth c b_Law_equal 5 R_Law (Cond.codeWith y_Law_equal b_Law_equal 5 (some .int) [(0, 10, 13, 13)] :: x_T) (some .int) 11 264 D x_cl (xty g) base) (hho : x_ho base s) (htab : c.exceptionTable.toList.map (fun h => (h.startPc, h.endPc, h.handlerPc, h.catchType)) = [(0, 10, 13, 13)]) (a1 : Int32) (a2 : Int32) (M : MS) : Sn p l e R s m args below meth c 5 D x_cl base (xwd g) cM x_gr az kz (xfc cM) (xZ below args s D x_cl (xty g) base (xwd g) cM x_gr az kz ovI) 0 [] [(0, .ref 0), (1, .int a1), (2, .int a2), (3, .ref 123)] M (m_Law_equal a1 a2 M) := by
  unfold m_Law_equal
  refine s_aload_n B d_Law_equal_0 rfl ?_
  refine s_iconst (v := (0:Int32)) B d_Law_equal_1 (by decide) ?_
  refine s_aload_n B d_Law_equal_2 rfl ?_
  refine s_iload_n B d_Law_equal_3 rfl ?_
  refine s_iload_n B d_Law_equal_4 rfl ?_
  refine s_if (fun hb0 => ?_) (fun hn0 => ?_)
  · refine s_thrV (av := [.int a1, .int a2]) (rest := [.int (0:Int32), .ref 123]) B hho (xcat_io1 B hho htab (by decide) (by decide)) d_Law_equal_5 xc_D kd_0 rfl cd_D_equal im_D_equal sl_D_equal in_D ml_Law_43 hs2_D_equal rfl rfl (by simp [Value.category]) (by decide) (by decide) (tt_D_equal_0 htr a1 a2 _  hb0) (xAst1 B d_Law_equal_13 (by decide)) ?_
    refine s_iconst (v := (1:Int32)) B d_Law_equal_15 (by decide) ?_
    exact s_iret B d_Law_equal_16
  · refine s_if (fun hb1 => ?_) (fun hn1 => ?_)
    · refine s_thrV (av := [.int a1, .int a2]) (rest := [.int (0:Int32), .ref 123]) B hho (xcat_io1 B hho htab (by decide) (by decide)) d_Law_equal_5 xc_D kd_0 rfl cd_D_equal im_D_equal sl_D_equal in_D ml_Law_43 hs2_D_equal rfl rfl (by simp [Value.category]) (by decide) (by decide) (tt_D_equal_1 htr a1 a2 _ hn0 hb1) (xAst1 B d_Law_equal_13 (by decide)) ?_
      refine s_iconst (v := (1:Int32)) B d_Law_equal_15 (by decide) ?_
      exact s_iret B d_Law_equal_16
    · refine s_pick (lv1 := []) [] rfl ?_
      refine s_callI (av := [.ref 0, .int a1, .int a2]) (rest := [.int (0:Int32), .ref 123]) B (lk_V B d_Law_equal_5 (gl_Law_43 _) rfl hv_D_equal (by decide) (by decide)) rfl (x_rcV B xc_D kd_0) (fun _ h => h) (by simp [xng, x_gr, kd_123]) rfl (by simp [Value.category]) rfl (fun r1 e9 => ct_D_equal _ _ _ r1 e9) (fun r1 _ => ?_)
      refine s_i2l B d_Law_equal_8 ?_
      refine s_last B kd_123 d_Law_equal_9 (fun M2 _ => ?_)
      refine s_goto B d_Law_equal_10 rfl ?_
      refine s_iconst (v := (0:Int32)) B d_Law_equal_17 (by decide) ?_
      exact s_iret B d_Law_equal_18
set_option maxRecDepth 100000 in
set_option maxHeartbeats 4000000 in
theorem ct_Law_equal {l : Launch} (htr : l.stackTraces = false) {D : va_G} {base : Nat} {g : Nat → ClassId} (a1 : Int32) (a2 : Int32) (M : MS) (r : MS × Int32) (hr : m_Law_equal a1 a2 M = some r) : CtH l y_Law_equal (Cond.codeWith y_Law_equal b_Law_equal 5 (some .int) [(0, 10, 13, 13)] :: x_T) 11 264 D x_cl (xty g) base (xwd g) cM x_gr [.ref 0, .int a1, .int a2, .ref 123] M r.1 (ovI r.2) :=
  x_metH (ov := ovI) (by decide) (Nat.le_of_ble_eq_true rfl) (fun p e R s m args below meth c az B hho htab => t_Law_equal htr B hho htab a1 a2 M) r hr
end
theorem d_Law_words_0 : decode b_Law_words 0 = .ok (.aload_n 3, 1) := by decide +kernel
theorem d_Law_words_1 : decode b_Law_words 1 = .ok (.iconst (0), 1) := by decide +kernel
theorem d_Law_words_2 : decode b_Law_words 2 = .ok (.aload_n 0, 1) := by decide +kernel
theorem d_Law_words_3 : decode b_Law_words 3 = .ok (.iload_n 1, 1) := by decide +kernel
theorem d_Law_words_4 : decode b_Law_words 4 = .ok (.iload_n 2, 1) := by decide +kernel
theorem d_Law_words_5 : decode b_Law_words 5 = .ok (.invokevirtual 46, 3) := by decide +kernel
theorem d_Law_words_8 : decode b_Law_words 8 = .ok (.lastore, 1) := by decide +kernel
theorem d_Law_words_9 : decode b_Law_words 9 = .ok (.goto (11), 3) := by decide +kernel
theorem d_Law_words_12 : decode b_Law_words 12 = .ok (.astore 4, 2) := by decide +kernel
theorem d_Law_words_14 : decode b_Law_words 14 = .ok (.iconst (1), 1) := by decide +kernel
theorem d_Law_words_15 : decode b_Law_words 15 = .ok (.ireturn, 1) := by decide +kernel
theorem d_Law_words_16 : decode b_Law_words 16 = .ok (.astore 4, 2) := by decide +kernel
theorem d_Law_words_18 : decode b_Law_words 18 = .ok (.iconst (2), 1) := by decide +kernel
theorem d_Law_words_19 : decode b_Law_words 19 = .ok (.ireturn, 1) := by decide +kernel
theorem d_Law_words_20 : decode b_Law_words 20 = .ok (.iconst (0), 1) := by decide +kernel
theorem d_Law_words_21 : decode b_Law_words 21 = .ok (.ireturn, 1) := by decide +kernel
section
variable {p : Program} {l : Launch} {e : Env} {R : Room} {s : State} {m : MethodId} {args : Array Value} {below : List Frame} {meth : Method} {c : Code} {D : va_G} {base : Nat} {g : Nat → ClassId} {az : Nat → Nat} {kz : Nat × Nat}
set_option maxRecDepth 100000 in
set_option maxHeartbeats 4000000 in
theorem t_Law_words (htr : l.stackTraces = false) (B : xB p R s m args meth c b_Law_words 5 R_Law (Cond.codeWith y_Law_words b_Law_words 5 (some .int) [(0, 9, 12, 13), (0, 9, 16, 15)] :: x_T) (some .int) 11 263 D x_cl (xty g) base) (hho : x_ho base s) (htab : c.exceptionTable.toList.map (fun h => (h.startPc, h.endPc, h.handlerPc, h.catchType)) = [(0, 9, 12, 13), (0, 9, 16, 15)]) (a1 : Int32) (a2 : Int32) (M : MS) : Sn p l e R s m args below meth c 5 D x_cl base (xwd g) cM x_gr az kz (xfc cM) (xZ below args s D x_cl (xty g) base (xwd g) cM x_gr az kz ovI) 0 [] [(0, .ref 0), (1, .int a1), (2, .int a2), (3, .ref 123)] M (m_Law_words a1 a2 M) := by
  unfold m_Law_words
  refine s_aload_n B d_Law_words_0 rfl ?_
  refine s_iconst (v := (0:Int32)) B d_Law_words_1 (by decide) ?_
  refine s_aload_n B d_Law_words_2 rfl ?_
  refine s_iload_n B d_Law_words_3 rfl ?_
  refine s_iload_n B d_Law_words_4 rfl ?_
  refine s_if (fun hb0 => ?_) (fun hn0 => ?_)
  · refine s_thrV (av := [.int a1, .int a2]) (rest := [.int (0:Int32), .ref 123]) B hho (xcat_io2 B hho htab (by decide) (by decide)) d_Law_words_5 xc_D kd_0 rfl cd_D_words im_D_words sl_D_words in_D ml_Law_46 hs2_D_words rfl rfl (by simp [Value.category]) (by decide) (by decide) (tt_D_words_0 htr a1 a2 _  hb0) (xAst1 B d_Law_words_12 (by decide)) ?_
    refine s_iconst (v := (1:Int32)) B d_Law_words_14 (by decide) ?_
    exact s_iret B d_Law_words_15
  · refine s_if (fun hb1 => ?_) (fun hn1 => ?_)
    · refine s_thrV (av := [.int a1, .int a2]) (rest := [.int (0:Int32), .ref 123]) B hho (xcat_ia2 B hho htab (by decide) (by decide)) d_Law_words_5 xc_D kd_0 rfl cd_D_words im_D_words sl_D_words in_D ml_Law_46 hs2_D_words rfl rfl (by simp [Value.category]) (by decide) (by decide) (tt_D_words_1 htr a1 a2 _ hn0 hb1) (xAst1 B d_Law_words_16 (by decide)) ?_
      refine s_iconst (v := (2:Int32)) B d_Law_words_18 (by decide) ?_
      exact s_iret B d_Law_words_19
    · refine s_pick (lv1 := []) [] rfl ?_
      refine s_callL (av := [.ref 0, .int a1, .int a2]) (rest := [.int (0:Int32), .ref 123]) B (lk_V B d_Law_words_5 (gl_Law_46 _) rfl hv_D_words (by decide) (by decide)) rfl (x_rcV B xc_D kd_0) (fun _ h => h) (by simp [xng, x_gr, kd_123]) rfl (by simp [Value.category]) rfl (fun r1 e9 => ct_D_words _ _ _ r1 e9) (fun r1 _ => ?_)
      refine s_last B kd_123 d_Law_words_8 (fun M2 _ => ?_)
      refine s_goto B d_Law_words_9 rfl ?_
      refine s_iconst (v := (0:Int32)) B d_Law_words_20 (by decide) ?_
      exact s_iret B d_Law_words_21
set_option maxRecDepth 100000 in
set_option maxHeartbeats 4000000 in
theorem ct_Law_words {l : Launch} (htr : l.stackTraces = false) {D : va_G} {base : Nat} {g : Nat → ClassId} (a1 : Int32) (a2 : Int32) (M : MS) (r : MS × Int32) (hr : m_Law_words a1 a2 M = some r) : CtH l y_Law_words (Cond.codeWith y_Law_words b_Law_words 5 (some .int) [(0, 9, 12, 13), (0, 9, 16, 15)] :: x_T) 11 263 D x_cl (xty g) base (xwd g) cM x_gr [.ref 0, .int a1, .int a2, .ref 123] M r.1 (ovI r.2) :=
  x_metH (ov := ovI) (by decide) (Nat.le_of_ble_eq_true rfl) (fun p e R s m args below meth c az B hho htab => t_Law_words htr B hho htab a1 a2 M) r hr
end
theorem d_Law_ends_0 : decode b_Law_ends 0 = .ok (.aload_n 2, 1) := by decide +kernel
theorem d_Law_ends_1 : decode b_Law_ends 1 = .ok (.iconst (0), 1) := by decide +kernel
theorem d_Law_ends_2 : decode b_Law_ends 2 = .ok (.aload_n 0, 1) := by decide +kernel
theorem d_Law_ends_3 : decode b_Law_ends 3 = .ok (.iload_n 1, 1) := by decide +kernel
theorem d_Law_ends_4 : decode b_Law_ends 4 = .ok (.invokevirtual 50, 3) := by decide +kernel
theorem d_Law_ends_7 : decode b_Law_ends 7 = .ok (.i2l, 1) := by decide +kernel
theorem d_Law_ends_8 : decode b_Law_ends 8 = .ok (.lastore, 1) := by decide +kernel
theorem d_Law_ends_9 : decode b_Law_ends 9 = .ok (.goto (6), 3) := by decide +kernel
theorem d_Law_ends_12 : decode b_Law_ends 12 = .ok (.astore_n 3, 1) := by decide +kernel
theorem d_Law_ends_13 : decode b_Law_ends 13 = .ok (.iconst (1), 1) := by decide +kernel
theorem d_Law_ends_14 : decode b_Law_ends 14 = .ok (.ireturn, 1) := by decide +kernel
theorem d_Law_ends_15 : decode b_Law_ends 15 = .ok (.iconst (0), 1) := by decide +kernel
theorem d_Law_ends_16 : decode b_Law_ends 16 = .ok (.ireturn, 1) := by decide +kernel
section
variable {p : Program} {l : Launch} {e : Env} {R : Room} {s : State} {m : MethodId} {args : Array Value} {below : List Frame} {meth : Method} {c : Code} {D : va_G} {base : Nat} {g : Nat → ClassId} {az : Nat → Nat} {kz : Nat × Nat}
set_option maxRecDepth 100000 in
set_option maxHeartbeats 4000000 in
theorem t_Law_ends (htr : l.stackTraces = false) (B : xB p R s m args meth c b_Law_ends 4 R_Law (Cond.codeWith y_Law_ends b_Law_ends 4 (some .int) [(0, 9, 12, 13)] :: x_T) (some .int) 11 262 D x_cl (xty g) base) (hho : x_ho base s) (htab : c.exceptionTable.toList.map (fun h => (h.startPc, h.endPc, h.handlerPc, h.catchType)) = [(0, 9, 12, 13)]) (a1 : Int32) (M : MS) : Sn p l e R s m args below meth c 4 D x_cl base (xwd g) cM x_gr az kz (xfc cM) (xZ below args s D x_cl (xty g) base (xwd g) cM x_gr az kz ovI) 0 [] [(0, .ref 0), (1, .int a1), (2, .ref 123)] M (m_Law_ends a1 M) := by
  unfold m_Law_ends
  refine s_aload_n B d_Law_ends_0 rfl ?_
  refine s_iconst (v := (0:Int32)) B d_Law_ends_1 (by decide) ?_
  refine s_aload_n B d_Law_ends_2 rfl ?_
  refine s_iload_n B d_Law_ends_3 rfl ?_
  refine s_if (fun hb0 => ?_) (fun hn0 => ?_)
  · refine s_thrV (av := [.int a1]) (rest := [.int (0:Int32), .ref 123]) B hho (xcat_io1 B hho htab (by decide) (by decide)) d_Law_ends_4 xc_D kd_0 rfl cd_D_ends im_D_ends sl_D_ends in_D ml_Law_50 hs2_D_ends rfl rfl (by simp [Value.category]) (by decide) (by decide) (tt_D_ends_0 htr a1 _  hb0) (xAst2 B d_Law_ends_12 (by decide)) ?_
    refine s_iconst (v := (1:Int32)) B d_Law_ends_13 (by decide) ?_
    exact s_iret B d_Law_ends_14
  · refine s_pick (lv1 := []) [] rfl ?_
    refine s_callI (av := [.ref 0, .int a1]) (rest := [.int (0:Int32), .ref 123]) B (lk_V B d_Law_ends_4 (gl_Law_50 _) rfl hv_D_ends (by decide) (by decide)) rfl (x_rcV B xc_D kd_0) (fun _ h => h) (by simp [xng, x_gr, kd_123]) rfl (by simp [Value.category]) rfl (fun r1 e9 => ct_D_ends _ _ r1 e9) (fun r1 _ => ?_)
    refine s_i2l B d_Law_ends_7 ?_
    refine s_last B kd_123 d_Law_ends_8 (fun M2 _ => ?_)
    refine s_goto B d_Law_ends_9 rfl ?_
    refine s_iconst (v := (0:Int32)) B d_Law_ends_15 (by decide) ?_
    exact s_iret B d_Law_ends_16
set_option maxRecDepth 100000 in
set_option maxHeartbeats 4000000 in
theorem ct_Law_ends {l : Launch} (htr : l.stackTraces = false) {D : va_G} {base : Nat} {g : Nat → ClassId} (a1 : Int32) (M : MS) (r : MS × Int32) (hr : m_Law_ends a1 M = some r) : CtH l y_Law_ends (Cond.codeWith y_Law_ends b_Law_ends 4 (some .int) [(0, 9, 12, 13)] :: x_T) 11 262 D x_cl (xty g) base (xwd g) cM x_gr [.ref 0, .int a1, .ref 123] M r.1 (ovI r.2) :=
  x_metH (ov := ovI) (by decide) (Nat.le_of_ble_eq_true rfl) (fun p e R s m args below meth c az B hho htab => t_Law_ends htr B hho htab a1 M) r hr
end
theorem d_Law_find_0 : decode b_Law_find 0 = .ok (.aload 4, 2) := by decide +kernel
theorem d_Law_find_2 : decode b_Law_find 2 = .ok (.iconst (0), 1) := by decide +kernel
theorem d_Law_find_3 : decode b_Law_find 3 = .ok (.aload_n 0, 1) := by decide +kernel
theorem d_Law_find_4 : decode b_Law_find 4 = .ok (.iload_n 1, 1) := by decide +kernel
theorem d_Law_find_5 : decode b_Law_find 5 = .ok (.lload_n 2, 1) := by decide +kernel
theorem d_Law_find_6 : decode b_Law_find 6 = .ok (.invokevirtual 53, 3) := by decide +kernel
theorem d_Law_find_9 : decode b_Law_find 9 = .ok (.lastore, 1) := by decide +kernel
theorem d_Law_find_10 : decode b_Law_find 10 = .ok (.goto (7), 3) := by decide +kernel
theorem d_Law_find_13 : decode b_Law_find 13 = .ok (.astore 5, 2) := by decide +kernel
theorem d_Law_find_15 : decode b_Law_find 15 = .ok (.iconst (1), 1) := by decide +kernel
theorem d_Law_find_16 : decode b_Law_find 16 = .ok (.ireturn, 1) := by decide +kernel
theorem d_Law_find_17 : decode b_Law_find 17 = .ok (.iconst (0), 1) := by decide +kernel
theorem d_Law_find_18 : decode b_Law_find 18 = .ok (.ireturn, 1) := by decide +kernel
section
variable {p : Program} {l : Launch} {e : Env} {R : Room} {s : State} {m : MethodId} {args : Array Value} {below : List Frame} {meth : Method} {c : Code} {D : va_G} {base : Nat} {g : Nat → ClassId} {az : Nat → Nat} {kz : Nat × Nat}
set_option maxRecDepth 100000 in
set_option maxHeartbeats 4000000 in
theorem t_Law_find (htr : l.stackTraces = false) (B : xB p R s m args meth c b_Law_find 6 R_Law (Cond.codeWith y_Law_find b_Law_find 6 (some .int) [(0, 10, 13, 13)] :: x_T) (some .int) 11 264 D x_cl (xty g) base) (hho : x_ho base s) (htab : c.exceptionTable.toList.map (fun h => (h.startPc, h.endPc, h.handlerPc, h.catchType)) = [(0, 10, 13, 13)]) (a1 : Int32) (a2 : Int64) (M : MS) : Sn p l e R s m args below meth c 6 D x_cl base (xwd g) cM x_gr az kz (xfc cM) (xZ below args s D x_cl (xty g) base (xwd g) cM x_gr az kz ovI) 0 [] [(0, .ref 0), (1, .int a1), (2, .long a2), (4, .ref 123)] M (m_Law_find a1 a2 M) := by
  unfold m_Law_find
  refine s_aload B d_Law_find_0 rfl ?_
  refine s_iconst (v := (0:Int32)) B d_Law_find_2 (by decide) ?_
  refine s_aload_n B d_Law_find_3 rfl ?_
  refine s_iload_n B d_Law_find_4 rfl ?_
  refine s_lload_n B d_Law_find_5 rfl ?_
  refine s_if (fun hb0 => ?_) (fun hn0 => ?_)
  · refine s_thrV (av := [.int a1, .long a2]) (rest := [.int (0:Int32), .ref 123]) B hho (xcat_io1 B hho htab (by decide) (by decide)) d_Law_find_6 xc_D kd_0 rfl cd_D_find im_D_find sl_D_find in_D ml_Law_53 hs2_D_find rfl rfl (by simp [Value.category]) (by decide) (by decide) (tt_D_find_0 htr a1 a2 _  hb0) (xAst1 B d_Law_find_13 (by decide)) ?_
    refine s_iconst (v := (1:Int32)) B d_Law_find_15 (by decide) ?_
    exact s_iret B d_Law_find_16
  · refine s_pick (lv1 := []) [] rfl ?_
    refine s_callL (av := [.ref 0, .int a1, .long a2]) (rest := [.int (0:Int32), .ref 123]) B (lk_V B d_Law_find_6 (gl_Law_53 _) rfl hv_D_find (by decide) (by decide)) rfl (x_rcV B xc_D kd_0) (fun _ h => h) (by simp [xng, x_gr, kd_123]) rfl (by simp [Value.category]) rfl (fun r1 e9 => ct_D_find _ _ _ r1 e9) (fun r1 _ => ?_)
    refine s_last B kd_123 d_Law_find_9 (fun M2 _ => ?_)
    refine s_goto B d_Law_find_10 rfl ?_
    refine s_iconst (v := (0:Int32)) B d_Law_find_17 (by decide) ?_
    exact s_iret B d_Law_find_18
set_option maxRecDepth 100000 in
set_option maxHeartbeats 4000000 in
theorem ct_Law_find {l : Launch} (htr : l.stackTraces = false) {D : va_G} {base : Nat} {g : Nat → ClassId} (a1 : Int32) (a2 : Int64) (M : MS) (r : MS × Int32) (hr : m_Law_find a1 a2 M = some r) : CtH l y_Law_find (Cond.codeWith y_Law_find b_Law_find 6 (some .int) [(0, 10, 13, 13)] :: x_T) 11 264 D x_cl (xty g) base (xwd g) cM x_gr [.ref 0, .int a1, .long a2, .ref 123] M r.1 (ovI r.2) :=
  x_metH (ov := ovI) (by decide) (Nat.le_of_ble_eq_true rfl) (fun p e R s m args below meth c az B hho htab => t_Law_find htr B hho htab a1 a2 M) r hr
end
theorem d_Law_look_0 : decode b_Law_look 0 = .ok (.aload_n 3, 1) := by decide +kernel
theorem d_Law_look_1 : decode b_Law_look 1 = .ok (.iconst (0), 1) := by decide +kernel
theorem d_Law_look_2 : decode b_Law_look 2 = .ok (.aload_n 0, 1) := by decide +kernel
theorem d_Law_look_3 : decode b_Law_look 3 = .ok (.iload_n 1, 1) := by decide +kernel
theorem d_Law_look_4 : decode b_Law_look 4 = .ok (.iload_n 2, 1) := by decide +kernel
theorem d_Law_look_5 : decode b_Law_look 5 = .ok (.invokevirtual 57, 3) := by decide +kernel
theorem d_Law_look_8 : decode b_Law_look 8 = .ok (.i2l, 1) := by decide +kernel
theorem d_Law_look_9 : decode b_Law_look 9 = .ok (.lastore, 1) := by decide +kernel
theorem d_Law_look_10 : decode b_Law_look 10 = .ok (.goto (7), 3) := by decide +kernel
theorem d_Law_look_13 : decode b_Law_look 13 = .ok (.astore 4, 2) := by decide +kernel
theorem d_Law_look_15 : decode b_Law_look 15 = .ok (.iconst (1), 1) := by decide +kernel
theorem d_Law_look_16 : decode b_Law_look 16 = .ok (.ireturn, 1) := by decide +kernel
theorem d_Law_look_17 : decode b_Law_look 17 = .ok (.iconst (0), 1) := by decide +kernel
theorem d_Law_look_18 : decode b_Law_look 18 = .ok (.ireturn, 1) := by decide +kernel
section
variable {p : Program} {l : Launch} {e : Env} {R : Room} {s : State} {m : MethodId} {args : Array Value} {below : List Frame} {meth : Method} {c : Code} {D : va_G} {base : Nat} {g : Nat → ClassId} {az : Nat → Nat} {kz : Nat × Nat}
set_option maxRecDepth 100000 in
set_option maxHeartbeats 4000000 in
theorem t_Law_look (htr : l.stackTraces = false) (B : xB p R s m args meth c b_Law_look 5 R_Law (Cond.codeWith y_Law_look b_Law_look 5 (some .int) [(0, 10, 13, 13)] :: x_T) (some .int) 8 160 D x_cl (xty g) base) (hho : x_ho base s) (htab : c.exceptionTable.toList.map (fun h => (h.startPc, h.endPc, h.handlerPc, h.catchType)) = [(0, 10, 13, 13)]) (a1 : Int32) (a2 : Int32) (M : MS) : Sn p l e R s m args below meth c 5 D x_cl base (xwd g) cM x_gr az kz (xfc cM) (xZ below args s D x_cl (xty g) base (xwd g) cM x_gr az kz ovI) 0 [] [(0, .ref 0), (1, .int a1), (2, .int a2), (3, .ref 123)] M (m_Law_look a1 a2 M) := by
  unfold m_Law_look
  refine s_aload_n B d_Law_look_0 rfl ?_
  refine s_iconst (v := (0:Int32)) B d_Law_look_1 (by decide) ?_
  refine s_aload_n B d_Law_look_2 rfl ?_
  refine s_iload_n B d_Law_look_3 rfl ?_
  refine s_iload_n B d_Law_look_4 rfl ?_
  refine s_if (fun hb0 => ?_) (fun hn0 => ?_)
  · refine s_thrV (av := [.int a1, .int a2]) (rest := [.int (0:Int32), .ref 123]) B hho (xcat_io1 B hho htab (by decide) (by decide)) d_Law_look_5 xc_D kd_0 rfl cd_D_look im_D_look sl_D_look in_D ml_Law_57 hs2_D_look rfl rfl (by simp [Value.category]) (by decide) (by decide) (tt_D_look_0 htr a1 a2 _  hb0) (xAst1 B d_Law_look_13 (by decide)) ?_
    refine s_iconst (v := (1:Int32)) B d_Law_look_15 (by decide) ?_
    exact s_iret B d_Law_look_16
  · refine s_pick (lv1 := []) [] rfl ?_
    refine s_callI (av := [.ref 0, .int a1, .int a2]) (rest := [.int (0:Int32), .ref 123]) B (lk_V B d_Law_look_5 (gl_Law_57 _) rfl hv_D_look (by decide) (by decide)) rfl (x_rcV B xc_D kd_0) (fun _ _ => rfl) rfl rfl (by simp [Value.category]) rfl (fun r1 e9 => ct_D_look _ _ _ r1 e9) (fun r1 _ => ?_)
    refine s_i2l B d_Law_look_8 ?_
    refine s_last B kd_123 d_Law_look_9 (fun M2 _ => ?_)
    refine s_goto B d_Law_look_10 rfl ?_
    refine s_iconst (v := (0:Int32)) B d_Law_look_17 (by decide) ?_
    exact s_iret B d_Law_look_18
set_option maxRecDepth 100000 in
set_option maxHeartbeats 4000000 in
theorem ct_Law_look {l : Launch} (htr : l.stackTraces = false) {D : va_G} {base : Nat} {g : Nat → ClassId} (a1 : Int32) (a2 : Int32) (M : MS) (r : MS × Int32) (hr : m_Law_look a1 a2 M = some r) : CtH l y_Law_look (Cond.codeWith y_Law_look b_Law_look 5 (some .int) [(0, 10, 13, 13)] :: x_T) 8 160 D x_cl (xty g) base (xwd g) cM x_gr [.ref 0, .int a1, .int a2, .ref 123] M r.1 (ovI r.2) :=
  x_metH (ov := ovI) (by decide) (Nat.le_of_ble_eq_true rfl) (fun p e R s m args below meth c az B hho htab => t_Law_look htr B hho htab a1 a2 M) r hr
end
