/-! names: classes, fields, cells (by program) -/
def x_T : List Cond := lw_tbl.filter goodWord
theorem xmem {w : Cond} (i : Nat) (h : tables_1[i]? = some w) (hg : goodWord w = true) : w ∈ x_T := List.mem_filter.mpr ⟨List.mem_append_right _ (List.mem_of_getElem? h), hg⟩
theorem xmem1 {w : Cond} (i : Nat) (h : tables_1_1[i]? = some w) (hg : goodWord w = true) : w ∈ x_T := List.mem_filter.mpr ⟨List.mem_append_right _ (List.mem_append_left _ (List.mem_of_getElem? h)), hg⟩
theorem xmem2 {w : Cond} (i : Nat) (h : tables_1_2[i]? = some w) (hg : goodWord w = true) : w ∈ x_T := List.mem_filter.mpr ⟨List.mem_append_right _ (List.mem_append_right _ (List.mem_append_left _ (List.mem_of_getElem? h))), hg⟩
theorem xmem3 {w : Cond} (i : Nat) (h : tables_1_3[i]? = some w) (hg : goodWord w = true) : w ∈ x_T := List.mem_filter.mpr ⟨List.mem_append_right _ (List.mem_append_right _ (List.mem_append_right _ (List.mem_append_left _ (List.mem_of_getElem? h)))), hg⟩
theorem xmem4 {w : Cond} (i : Nat) (h : tables_1_4[i]? = some w) (hg : goodWord w = true) : w ∈ x_T := List.mem_filter.mpr ⟨List.mem_append_right _ (List.mem_append_right _ (List.mem_append_right _ (List.mem_append_right _ (List.mem_append_left _ (List.mem_of_getElem? h))))), hg⟩
theorem xmem5 {w : Cond} (i : Nat) (h : tables_1_5[i]? = some w) (hg : goodWord w = true) : w ∈ x_T := List.mem_filter.mpr ⟨List.mem_append_right _ (List.mem_append_right _ (List.mem_append_right _ (List.mem_append_right _ (List.mem_append_right _ (List.mem_of_getElem? h))))), hg⟩
theorem xmemS {w : Cond} (i : Nat) (h : (k2_sels lw_privs)[i]? = some w) (hg : goodWord w = true) : w ∈ x_T := List.mem_filter.mpr ⟨List.mem_append_left _ (List.mem_of_getElem? h), hg⟩
theorem xgood {w0 : Cond} {z : MethodName} {b : ByteArray} {n : Nat} {r : Option FieldType} (hc : Cond.code z b n r ∈ x_T) : GoodIn (w0 :: x_T) (Cond.code z b n r :: x_T) := by
  intro w hw
  have h : w ∈ x_T := by
    rcases List.mem_cons.mp hw with rfl | h
    · exact hc
    · exact h
  exact ⟨List.mem_cons_of_mem _ h, good_of_word (List.mem_filter.mp h).2⟩
theorem xgoodV {w0 : Cond} {own C : String} {idx : Nat} {z : MethodName} {b : ByteArray} {n : Nat} {r : Option FieldType} (h1 : Cond.methodLink own idx z ∈ x_T) (h2 : Cond.instanceMethod z ∈ x_T) (h3 : Cond.selects C z z ∈ x_T) (h4 : Cond.initialized C ∈ x_T) (hc : Cond.code z b n r ∈ x_T) : GoodIn (w0 :: x_T) (wsV own idx C z (Cond.code z b n r :: x_T)) := by
  intro w hw
  have h : w ∈ x_T := by
    rcases List.mem_append.mp hw with h | h
    · simp only [List.mem_cons, List.not_mem_nil, or_false] at h
      rcases h with rfl | rfl | rfl | rfl <;> assumption
    · rcases List.mem_cons.mp h with rfl | h
      · exact hc
      · exact h
  exact ⟨List.mem_cons_of_mem _ h, good_of_word (List.mem_filter.mp h).2⟩
def x_nth (l : List Nat) (n d : Nat) : Nat := match l, n with
  | [], _ => d
  | a :: _, 0 => a
  | _ :: r, n + 1 => x_nth r n d
theorem x_nth_ge (l : List Nat) (d : Nat) : ∀ n, l.length ≤ n → x_nth l n d = d := by
  induction l with
  | nil => intro n _; rfl
  | cons a r ih =>
    intro n h
    cases n with
    | zero => simp at h
    | succ n => exact ih n (by simpa using h)
def x_nth2 (l : List (List Nat)) (n : Nat) : List Nat := match l, n with
  | [], _ => []
  | a :: _, 0 => a
  | _ :: r, n + 1 => x_nth2 r n
def xNW : Nat := 124
def x_kdL : List Nat := [0, 20, 3, 21, 21, 21, 21, 21, 21, 21, 21, 21, 21, 21, 20, 1, 21, 1, 21, 1, 21, 2, 1, 21, 5, 24, 20, 4, 20, 22, 4, 20, 22, 4, 20, 22, 4, 20, 22, 4, 20, 22, 4, 20, 22, 4, 20, 22, 4, 20, 22, 4, 20, 22, 4, 20, 22, 4, 20, 22, 4, 20, 22, 4, 20, 22, 4, 20, 22, 4, 20, 22, 4, 20, 22, 6, 20, 20, 1, 21, 7, 20, 20, 20, 20, 20, 8, 20, 20, 20, 20, 20, 20, 9, 23, 22, 22, 10, 20, 20, 20, 20, 20, 20, 20, 22, 20, 20, 20, 20, 20, 20, 20, 20, 22, 22, 23, 20, 20, 20, 22, 20, 20, 23]
def x_kd (n : Nat) : Nat := x_nth x_kdL n 99
theorem x_kd_lt {n : Nat} (h : x_kd n < 99) : n < xNW := by
  apply Classical.byContradiction
  intro hn
  have h2 : x_kd n = 99 := x_nth_ge x_kdL 99 n (Nat.not_lt.mp hn)
  omega
def x_srL : List (List Nat) := [[1, 2, 24, 75, 80, 86, 93], [], [3, 4, 5, 6, 7, 8, 9, 10, 11, 12, 13, 14, 15, 17, 19, 21, 0, 0, 0, 0], [], [], [], [], [], [], [], [], [], [], [], [], [16, 0], [], [18, 0], [], [20, 0], [], [22, 0, 0, 0], [23, 0], [], [25, 26], [], [], [28, 29, 0], [], [], [31, 32, 0], [], [], [34, 35, 0], [], [], [37, 38, 0], [], [], [40, 41, 0], [], [], [43, 44, 0], [], [], [46, 47, 0], [], [], [49, 50, 0], [], [], [52, 53, 0], [], [], [55, 56, 0], [], [], [58, 59, 0], [], [], [61, 62, 0], [], [], [64, 65, 0], [], [], [67, 68, 0], [], [], [70, 71, 0], [], [], [73, 74, 0], [], [], [76, 77, 78, 0, 0, 0], [], [], [79, 0], [], [81, 82, 83, 84, 85], [], [], [], [], [], [87, 88, 89, 90, 91, 92, 0, 0], [], [], [], [], [], [], [94, 95, 96], [], [], [], [0, 98, 99, 100, 101, 102, 103, 104, 105, 0, 0, 106, 107, 0, 108, 109, 110, 111, 112, 113, 114, 115, 116, 117, 118, 119, 120, 0, 121, 122], [], [], [], [], [], [], [], [], [], [], [], [], [], [], [], [], [], [], [], [], [], [], [], [], [], []]
def x_sr (o k : Nat) : Nat := x_nth (x_nth2 x_srL o) k 0
def x_sm (j : Nat) : Nat := if j < 16 then 27 + 3 * j else 0
def xWC : Nat := 93
def x_owL : List Nat := [0, 0, 1, 200, 201, 202, 203, 204, 205, 206, 207, 208, 209, 210, 211, 212, 1500, 213, 1700, 214, 1900, 215, 2100, 2200, 2, 2400, 2401, 0, 2700, 2701, 0, 3000, 3001, 0, 3300, 3301, 0, 3600, 3601, 0, 3900, 3901, 0, 4200, 4201, 0, 4500, 4501, 0, 4800, 4801, 0, 5100, 5101, 0, 5400, 5401, 0, 5700, 5701, 0, 6000, 6001, 0, 6300, 6301, 0, 6600, 6601, 0, 6900, 6901, 0, 7200, 7201, 3, 7500, 7501, 7502, 7800, 4, 8000, 8001, 8002, 8003, 8004, 5, 8600, 8601, 8602, 8603, 8604, 8605, 6, 9300, 0, 0, 0, 9701, 9702, 9703, 9704, 9705, 9706, 9707, 9708, 9711, 9712, 9714, 9715, 9716, 9717, 9718, 9719, 9720, 9721, 9722, 9723, 9724, 9725, 9726, 9728, 9729, 0]
def x_ow (n : Nat) : Nat := x_nth x_owL n 0
def x_Nf (c : Nat) : Nat := x_nth [7, 2, 4, 20, 3, 2, 6, 5, 8, 3, 30] c 0
def x_ft (c k : Nat) : Nat := x_nth (x_nth2 [[1, 1, 1, 1, 1, 1, 1], [1, 0], [1, 0, 0, 0], [1, 1, 1, 1, 1, 1, 1, 1, 1, 1, 1, 1, 1, 1, 1, 1, 0, 0, 0, 0], [1, 1, 0], [1, 1], [1, 1, 1, 0, 0, 0], [1, 1, 1, 1, 1], [1, 1, 1, 1, 1, 1, 0, 0], [1, 2, 2], [0, 1, 1, 1, 1, 1, 1, 1, 1, 0, 0, 1, 1, 0, 1, 1, 1, 1, 1, 1, 1, 1, 1, 1, 1, 1, 1, 0, 1, 1]] c) k 9
abbrev R_D : String := "DerivativeDesk"
abbrev R_Row : String := "DerivativeDesk$Row"
abbrev R_Gathering : String := "DerivativeDesk$Gathering"
abbrev R_Terms : String := "DerivativeDesk$Terms"
abbrev R_Machine : String := "DerivativeDesk$Machine"
abbrev R_Explorer : String := "DerivativeDesk$Explorer"
abbrev R_WordCheck : String := "DerivativeDesk$WordCheck"
abbrev R_Splitter : String := "DerivativeDesk$Splitter"
abbrev R_Comparison : String := "DerivativeDesk$Comparison"
abbrev R_WordCounts : String := "DerivativeDesk$WordCounts"
abbrev R_Mo : String := "DerivativeDeskModel"
abbrev R_Law : String := "DerivativeDeskLaw"
abbrev R_Arr : String := "java/util/Arrays"
abbrev R_Math : String := "java/lang/Math"
abbrev x_RM : String := "DerivativeDesk$Machine"
def F_D : u_T := fun k => match k with
  | 0 => ("DerivativeDesk", "slots", "[I", true)
  | 1 => ("DerivativeDesk", "terms", "LDerivativeDesk$Terms;", true)
  | 2 => ("DerivativeDesk", "explorer", "LDerivativeDesk$Explorer;", true)
  | 3 => ("DerivativeDesk", "wordCheck", "LDerivativeDesk$WordCheck;", true)
  | 4 => ("DerivativeDesk", "splitter", "LDerivativeDesk$Splitter;", true)
  | 5 => ("DerivativeDesk", "comparison", "LDerivativeDesk$Comparison;", true)
  | _ => ("DerivativeDesk", "wordCounts", "LDerivativeDesk$WordCounts;", true)
def ty_D : Nat → FieldType := fun k => match k with
  | 0 => (.array .int)
  | 1 => (.object "DerivativeDesk$Terms")
  | 2 => (.object "DerivativeDesk$Explorer")
  | 3 => (.object "DerivativeDesk$WordCheck")
  | 4 => (.object "DerivativeDesk$Splitter")
  | 5 => (.object "DerivativeDesk$Comparison")
  | _ => (.object "DerivativeDesk$WordCounts")
def F_Row : u_T := fun k => match k with
  | 0 => ("DerivativeDesk$Row", "items", "[I", false)
  | _ => ("DerivativeDesk$Row", "count", "I", false)
def ty_Row : Nat → FieldType := fun k => match k with
  | 0 => (.array .int)
  | _ => .int
def F_Gathering : u_T := fun k => match k with
  | 0 => ("DerivativeDesk$Gathering", "own", "LDerivativeDesk$Row;", true)
  | 1 => ("DerivativeDesk$Gathering", "sort", "I", false)
  | 2 => ("DerivativeDesk$Gathering", "classes", "I", false)
  | _ => ("DerivativeDesk$Gathering", "swallowed", "Z", false)
def ty_Gathering : Nat → FieldType := fun k => match k with
  | 0 => (.object "DerivativeDesk$Row")
  | 1 => .int
  | 2 => .int
  | _ => .boolean
def F_Terms : u_T := fun k => match k with
  | 0 => ("DerivativeDesk$Terms", "sort", "[I", false)
  | 1 => ("DerivativeDesk$Terms", "size", "[I", false)
  | 2 => ("DerivativeDesk$Terms", "nullable", "[I", false)
  | 3 => ("DerivativeDesk$Terms", "kidsFrom", "[I", false)
  | 4 => ("DerivativeDesk$Terms", "kidsCount", "[I", false)
  | 5 => ("DerivativeDesk$Terms", "hash", "[I", false)
  | 6 => ("DerivativeDesk$Terms", "link", "[I", false)
  | 7 => ("DerivativeDesk$Terms", "tag", "[I", false)
  | 8 => ("DerivativeDesk$Terms", "movedTo", "[I", false)
  | 9 => ("DerivativeDesk$Terms", "after", "[I", false)
  | 10 => ("DerivativeDesk$Terms", "kids", "[I", false)
  | 11 => ("DerivativeDesk$Terms", "heads", "[I", true)
  | 12 => ("DerivativeDesk$Terms", "parts", "LDerivativeDesk$Row;", true)
  | 13 => ("DerivativeDesk$Terms", "spine", "LDerivativeDesk$Row;", true)
  | 14 => ("DerivativeDesk$Terms", "pending", "LDerivativeDesk$Row;", true)
  | 15 => ("DerivativeDesk$Terms", "gathering", "LDerivativeDesk$Gathering;", true)
  | 16 => ("DerivativeDesk$Terms", "used", "I", false)
  | 17 => ("DerivativeDesk$Terms", "kidsUsed", "I", false)
  | 18 => ("DerivativeDesk$Terms", "usedLimit", "I", false)
  | _ => ("DerivativeDesk$Terms", "kidsLimit", "I", false)
def ty_Terms : Nat → FieldType := fun k => match k with
  | 0 => (.array .int)
  | 1 => (.array .int)
  | 2 => (.array .int)
  | 3 => (.array .int)
  | 4 => (.array .int)
  | 5 => (.array .int)
  | 6 => (.array .int)
  | 7 => (.array .int)
  | 8 => (.array .int)
  | 9 => (.array .int)
  | 10 => (.array .int)
  | 11 => (.array .int)
  | 12 => (.object "DerivativeDesk$Row")
  | 13 => (.object "DerivativeDesk$Row")
  | 14 => (.object "DerivativeDesk$Row")
  | 15 => (.object "DerivativeDesk$Gathering")
  | 16 => .int
  | 17 => .int
  | 18 => .int
  | _ => .int
def F_Machine : u_T := fun k => match k with
  | 0 => ("DerivativeDesk$Machine", "next", "[I", true)
  | 1 => ("DerivativeDesk$Machine", "accepting", "[Z", true)
  | _ => ("DerivativeDesk$Machine", "count", "I", false)
def ty_Machine : Nat → FieldType := fun k => match k with
  | 0 => (.array .int)
  | 1 => (.array .boolean)
  | _ => .int
def F_Explorer : u_T := fun k => match k with
  | 0 => ("DerivativeDesk$Explorer", "machines", "[LDerivativeDesk$Machine;", true)
  | _ => ("DerivativeDesk$Explorer", "found", "[I", true)
def ty_Explorer : Nat → FieldType := fun k => match k with
  | 0 => (.array (.object "DerivativeDesk$Machine"))
  | _ => (.array .int)
def F_WordCheck : u_T := fun k => match k with
  | 0 => ("DerivativeDesk$WordCheck", "order", "[I", true)
  | 1 => ("DerivativeDesk$WordCheck", "endBits", "[I", true)
  | 2 => ("DerivativeDesk$WordCheck", "pending", "LDerivativeDesk$Row;", true)
  | 3 => ("DerivativeDesk$WordCheck", "count", "I", false)
  | 4 => ("DerivativeDesk$WordCheck", "word", "I", false)
  | _ => ("DerivativeDesk$WordCheck", "length", "I", false)
def ty_WordCheck : Nat → FieldType := fun k => match k with
  | 0 => (.array .int)
  | 1 => (.array .int)
  | 2 => (.object "DerivativeDesk$Row")
  | 3 => .int
  | 4 => .int
  | _ => .int
def F_Splitter : u_T := fun k => match k with
  | 0 => ("DerivativeDesk$Splitter", "part", "[I", true)
  | 1 => ("DerivativeDesk$Splitter", "newPart", "[I", true)
  | 2 => ("DerivativeDesk$Splitter", "heads", "[I", true)
  | 3 => ("DerivativeDesk$Splitter", "link", "[I", true)
  | _ => ("DerivativeDesk$Splitter", "target", "[I", true)
def ty_Splitter : Nat → FieldType := fun k => match k with
  | 0 => (.array .int)
  | 1 => (.array .int)
  | 2 => (.array .int)
  | 3 => (.array .int)
  | _ => (.array .int)
def F_Comparison : u_T := fun k => match k with
  | 0 => ("DerivativeDesk$Comparison", "leader", "[I", true)
  | 1 => ("DerivativeDesk$Comparison", "left", "[I", true)
  | 2 => ("DerivativeDesk$Comparison", "right", "[I", true)
  | 3 => ("DerivativeDesk$Comparison", "cameFrom", "[I", true)
  | 4 => ("DerivativeDesk$Comparison", "cameBy", "[I", true)
  | 5 => ("DerivativeDesk$Comparison", "word", "[I", true)
  | 6 => ("DerivativeDesk$Comparison", "pairs", "I", false)
  | _ => ("DerivativeDesk$Comparison", "length", "I", false)
def ty_Comparison : Nat → FieldType := fun k => match k with
  | 0 => (.array .int)
  | 1 => (.array .int)
  | 2 => (.array .int)
  | 3 => (.array .int)
  | 4 => (.array .int)
  | 5 => (.array .int)
  | 6 => .int
  | _ => .int
def F_WordCounts : u_T := fun k => match k with
  | 0 => ("DerivativeDesk$WordCounts", "counts", "[J", true)
  | 1 => ("DerivativeDesk$WordCounts", "live", "[Z", false)
  | _ => ("DerivativeDesk$WordCounts", "nextLive", "[Z", false)
def ty_WordCounts : Nat → FieldType := fun k => match k with
  | 0 => (.array .long)
  | 1 => (.array .boolean)
  | _ => (.array .boolean)
def F_Mo : u_T := fun k => match k with
  | 0 => ("DerivativeDeskModel", "thrown", "I", false)
  | 1 => ("DerivativeDeskModel", "slots", "[I", true)
  | 2 => ("DerivativeDeskModel", "sizes", "[I", true)
  | 3 => ("DerivativeDeskModel", "w", "[I", true)
  | 4 => ("DerivativeDeskModel", "t", "[I", true)
  | 5 => ("DerivativeDeskModel", "begins", "[I", true)
  | 6 => ("DerivativeDeskModel", "lengths", "[I", true)
  | 7 => ("DerivativeDeskModel", "ends", "[I", true)
  | 8 => ("DerivativeDeskModel", "empties", "[Z", true)
  | 9 => ("DerivativeDeskModel", "top", "I", false)
  | 10 => ("DerivativeDeskModel", "fill", "I", false)
  | 11 => ("DerivativeDeskModel", "partAt", "[I", true)
  | 12 => ("DerivativeDeskModel", "partSize", "[I", true)
  | 13 => ("DerivativeDeskModel", "parts", "I", false)
  | 14 => ("DerivativeDeskModel", "rows", "[I", true)
  | 15 => ("DerivativeDeskModel", "rowSizes", "[I", true)
  | 16 => ("DerivativeDeskModel", "next", "[I", true)
  | 17 => ("DerivativeDeskModel", "other", "[I", true)
  | 18 => ("DerivativeDeskModel", "group", "[I", true)
  | 19 => ("DerivativeDeskModel", "fresh", "[I", true)
  | 20 => ("DerivativeDeskModel", "has", "[Z", true)
  | 21 => ("DerivativeDeskModel", "otherHas", "[Z", true)
  | 22 => ("DerivativeDeskModel", "counts", "[J", true)
  | 23 => ("DerivativeDeskModel", "pairs", "[I", true)
  | 24 => ("DerivativeDeskModel", "from", "[I", true)
  | 25 => ("DerivativeDeskModel", "word", "[I", true)
  | 26 => ("DerivativeDeskModel", "met", "[Z", true)
  | 27 => ("DerivativeDeskModel", "witness", "I", false)
  | 28 => ("DerivativeDeskModel", "spans", "[I", true)
  | _ => ("DerivativeDeskModel", "pile", "[I", true)
def ty_Mo : Nat → FieldType := fun k => match k with
  | 0 => .int
  | 1 => (.array .int)
  | 2 => (.array .int)
  | 3 => (.array .int)
  | 4 => (.array .int)
  | 5 => (.array .int)
  | 6 => (.array .int)
  | 7 => (.array .int)
  | 8 => (.array .boolean)
  | 9 => .int
  | 10 => .int
  | 11 => (.array .int)
  | 12 => (.array .int)
  | 13 => .int
  | 14 => (.array .int)
  | 15 => (.array .int)
  | 16 => (.array .int)
  | 17 => (.array .int)
  | 18 => (.array .int)
  | 19 => (.array .int)
  | 20 => (.array .boolean)
  | 21 => (.array .boolean)
  | 22 => (.array .long)
  | 23 => (.array .int)
  | 24 => (.array .int)
  | 25 => (.array .int)
  | 26 => (.array .boolean)
  | 27 => .int
  | 28 => (.array .int)
  | _ => (.array .int)
abbrev x_cl : List vw_C := [(R_D, F_D, 7), (R_Row, F_Row, 2), (R_Gathering, F_Gathering, 4), (R_Terms, F_Terms, 20), (R_Machine, F_Machine, 3), (R_Explorer, F_Explorer, 2), (R_WordCheck, F_WordCheck, 6), (R_Splitter, F_Splitter, 5), (R_Comparison, F_Comparison, 8), (R_WordCounts, F_WordCounts, 3), (R_Mo, F_Mo, 30)]
theorem kd_0 : x_kd 0 = 0 := by decide +kernel
theorem kd_1 : x_kd 1 = 20 := by decide +kernel
theorem kd_2 : x_kd 2 = 3 := by decide +kernel
theorem kd_3 : x_kd 3 = 21 := by decide +kernel
theorem kd_4 : x_kd 4 = 21 := by decide +kernel
theorem kd_5 : x_kd 5 = 21 := by decide +kernel
theorem kd_6 : x_kd 6 = 21 := by decide +kernel
theorem kd_7 : x_kd 7 = 21 := by decide +kernel
theorem kd_8 : x_kd 8 = 21 := by decide +kernel
theorem kd_9 : x_kd 9 = 21 := by decide +kernel
theorem kd_10 : x_kd 10 = 21 := by decide +kernel
theorem kd_11 : x_kd 11 = 21 := by decide +kernel
theorem kd_12 : x_kd 12 = 21 := by decide +kernel
theorem kd_13 : x_kd 13 = 21 := by decide +kernel
theorem kd_14 : x_kd 14 = 20 := by decide +kernel
theorem kd_15 : x_kd 15 = 1 := by decide +kernel
theorem kd_16 : x_kd 16 = 21 := by decide +kernel
theorem kd_17 : x_kd 17 = 1 := by decide +kernel
theorem kd_18 : x_kd 18 = 21 := by decide +kernel
theorem kd_19 : x_kd 19 = 1 := by decide +kernel
theorem kd_20 : x_kd 20 = 21 := by decide +kernel
theorem kd_21 : x_kd 21 = 2 := by decide +kernel
theorem kd_22 : x_kd 22 = 1 := by decide +kernel
theorem kd_23 : x_kd 23 = 21 := by decide +kernel
theorem kd_24 : x_kd 24 = 5 := by decide +kernel
theorem kd_25 : x_kd 25 = 24 := by decide +kernel
theorem kd_26 : x_kd 26 = 20 := by decide +kernel
theorem kd_27 : x_kd 27 = 4 := by decide +kernel
theorem kd_28 : x_kd 28 = 20 := by decide +kernel
theorem kd_29 : x_kd 29 = 22 := by decide +kernel
theorem kd_30 : x_kd 30 = 4 := by decide +kernel
theorem kd_31 : x_kd 31 = 20 := by decide +kernel
theorem kd_32 : x_kd 32 = 22 := by decide +kernel
theorem kd_33 : x_kd 33 = 4 := by decide +kernel
theorem kd_34 : x_kd 34 = 20 := by decide +kernel
theorem kd_35 : x_kd 35 = 22 := by decide +kernel
theorem kd_36 : x_kd 36 = 4 := by decide +kernel
theorem kd_37 : x_kd 37 = 20 := by decide +kernel
theorem kd_38 : x_kd 38 = 22 := by decide +kernel
theorem kd_39 : x_kd 39 = 4 := by decide +kernel
theorem kd_40 : x_kd 40 = 20 := by decide +kernel
theorem kd_41 : x_kd 41 = 22 := by decide +kernel
theorem kd_42 : x_kd 42 = 4 := by decide +kernel
theorem kd_43 : x_kd 43 = 20 := by decide +kernel
theorem kd_44 : x_kd 44 = 22 := by decide +kernel
theorem kd_45 : x_kd 45 = 4 := by decide +kernel
theorem kd_46 : x_kd 46 = 20 := by decide +kernel
theorem kd_47 : x_kd 47 = 22 := by decide +kernel
theorem kd_48 : x_kd 48 = 4 := by decide +kernel
theorem kd_49 : x_kd 49 = 20 := by decide +kernel
theorem kd_50 : x_kd 50 = 22 := by decide +kernel
theorem kd_51 : x_kd 51 = 4 := by decide +kernel
theorem kd_52 : x_kd 52 = 20 := by decide +kernel
theorem kd_53 : x_kd 53 = 22 := by decide +kernel
theorem kd_54 : x_kd 54 = 4 := by decide +kernel
theorem kd_55 : x_kd 55 = 20 := by decide +kernel
theorem kd_56 : x_kd 56 = 22 := by decide +kernel
theorem kd_57 : x_kd 57 = 4 := by decide +kernel
theorem kd_58 : x_kd 58 = 20 := by decide +kernel
theorem kd_59 : x_kd 59 = 22 := by decide +kernel
theorem kd_60 : x_kd 60 = 4 := by decide +kernel
theorem kd_61 : x_kd 61 = 20 := by decide +kernel
theorem kd_62 : x_kd 62 = 22 := by decide +kernel
theorem kd_63 : x_kd 63 = 4 := by decide +kernel
theorem kd_64 : x_kd 64 = 20 := by decide +kernel
theorem kd_65 : x_kd 65 = 22 := by decide +kernel
theorem kd_66 : x_kd 66 = 4 := by decide +kernel
theorem kd_67 : x_kd 67 = 20 := by decide +kernel
theorem kd_68 : x_kd 68 = 22 := by decide +kernel
theorem kd_69 : x_kd 69 = 4 := by decide +kernel
theorem kd_70 : x_kd 70 = 20 := by decide +kernel
theorem kd_71 : x_kd 71 = 22 := by decide +kernel
theorem kd_72 : x_kd 72 = 4 := by decide +kernel
theorem kd_73 : x_kd 73 = 20 := by decide +kernel
theorem kd_74 : x_kd 74 = 22 := by decide +kernel
theorem kd_75 : x_kd 75 = 6 := by decide +kernel
theorem kd_76 : x_kd 76 = 20 := by decide +kernel
theorem kd_77 : x_kd 77 = 20 := by decide +kernel
theorem kd_78 : x_kd 78 = 1 := by decide +kernel
theorem kd_79 : x_kd 79 = 21 := by decide +kernel
theorem kd_80 : x_kd 80 = 7 := by decide +kernel
theorem kd_81 : x_kd 81 = 20 := by decide +kernel
theorem kd_82 : x_kd 82 = 20 := by decide +kernel
theorem kd_83 : x_kd 83 = 20 := by decide +kernel
theorem kd_84 : x_kd 84 = 20 := by decide +kernel
theorem kd_85 : x_kd 85 = 20 := by decide +kernel
theorem kd_86 : x_kd 86 = 8 := by decide +kernel
theorem kd_87 : x_kd 87 = 20 := by decide +kernel
theorem kd_88 : x_kd 88 = 20 := by decide +kernel
theorem kd_89 : x_kd 89 = 20 := by decide +kernel
theorem kd_90 : x_kd 90 = 20 := by decide +kernel
theorem kd_91 : x_kd 91 = 20 := by decide +kernel
theorem kd_92 : x_kd 92 = 20 := by decide +kernel
theorem kd_93 : x_kd 93 = 9 := by decide +kernel
theorem kd_94 : x_kd 94 = 23 := by decide +kernel
theorem kd_95 : x_kd 95 = 22 := by decide +kernel
theorem kd_96 : x_kd 96 = 22 := by decide +kernel
theorem kd_97 : x_kd 97 = 10 := by decide +kernel
theorem kd_98 : x_kd 98 = 20 := by decide +kernel
theorem kd_99 : x_kd 99 = 20 := by decide +kernel
theorem kd_100 : x_kd 100 = 20 := by decide +kernel
theorem kd_101 : x_kd 101 = 20 := by decide +kernel
theorem kd_102 : x_kd 102 = 20 := by decide +kernel
theorem kd_103 : x_kd 103 = 20 := by decide +kernel
theorem kd_104 : x_kd 104 = 20 := by decide +kernel
theorem kd_105 : x_kd 105 = 22 := by decide +kernel
theorem kd_106 : x_kd 106 = 20 := by decide +kernel
theorem kd_107 : x_kd 107 = 20 := by decide +kernel
theorem kd_108 : x_kd 108 = 20 := by decide +kernel
theorem kd_109 : x_kd 109 = 20 := by decide +kernel
theorem kd_110 : x_kd 110 = 20 := by decide +kernel
theorem kd_111 : x_kd 111 = 20 := by decide +kernel
theorem kd_112 : x_kd 112 = 20 := by decide +kernel
theorem kd_113 : x_kd 113 = 20 := by decide +kernel
theorem kd_114 : x_kd 114 = 22 := by decide +kernel
theorem kd_115 : x_kd 115 = 22 := by decide +kernel
theorem kd_116 : x_kd 116 = 23 := by decide +kernel
theorem kd_117 : x_kd 117 = 20 := by decide +kernel
theorem kd_118 : x_kd 118 = 20 := by decide +kernel
theorem kd_119 : x_kd 119 = 20 := by decide +kernel
theorem kd_120 : x_kd 120 = 22 := by decide +kernel
theorem kd_121 : x_kd 121 = 20 := by decide +kernel
theorem kd_122 : x_kd 122 = 20 := by decide +kernel
theorem kd_123 : x_kd 123 = 23 := by decide +kernel
