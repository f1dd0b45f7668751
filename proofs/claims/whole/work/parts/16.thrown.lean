theorem m_slot_ok {v : Int32} {M : MS} (h : ¬ (v < 0 ∨ ¬ v < 16)) : m_D_checkSlot v M = some (M, ()) := by
  simp only [not_or, Decidable.not_not] at h
  unfold m_D_checkSlot
  rw [if_neg h.1, if_pos h.2]
theorem m_range_ok {v w : Int32} {M : MS} (h : ¬ (v < 0 ∨ ¬ v ≤ w)) : m_D_checkRange v w M = some (M, ()) := by
  simp only [not_or, Decidable.not_not] at h
  unfold m_D_checkRange
  rw [if_neg h.1, if_pos h.2]
theorem x_metS {E : String} {l : Launch} {z : MethodName} {cc : ByteArray} {nL : Nat} {rt : Option FieldType} {fr lo : Nat} {D : va_G} {base : Nat} {g : Nat → ClassId} {gr : Nat → Bool} {av : List Value} {M : MS} (hy : plainName z.cls = true) (hlen : (lg_sl av).length ≤ nL)
    (body : ∀ (p : Program) (e : Env) (R : Room) (s : State) (m : MethodId) (args : Array Value) (below : List Frame) (meth : Method) (c : Code) (az : Nat → Nat), xB p R s m args meth c cc nL z.cls (Cond.code z cc nL rt :: x_T) rt fr lo D x_cl (xty g) base → x_ho base s → c.exceptionTable.toList = [] →
      Sn p l e R s m args below meth c nL D x_cl base (xwd g) cM gr az (cM M) (xfT M) (xZT E below args s D base g gr az M) 0 [] (lv_args 0 av) M (some ())) :
    CtT E l z (Cond.code z cc nL rt :: x_T) fr lo D x_cl (xty g) base (xwd g) gr av M := by
  refine x_metT hy hlen (fun p e R s m args below meth c aa ls B hho hex hc1 hs6 hP hD hl => ?_)
  have h4 := (body p e R s m args below meth c aa B hho hex () rfl).2.2 aa s.heap [] ls xag.rf ⟨hP, hD, va_S.rf⟩ hl (Nat.le_refl _) (Nat.le_refl _) (by rw [hc1]; show 1 = (cM M).1 + 1 - (cM M).1; omega) (by rw [hs6]; show 6 = (cM M).2 + 6 - (cM M).2; omega)
  rw [Nat.sub_self, Nat.sub_self] at h4
  exact h4
set_option maxRecDepth 100000 in
theorem tt_D_letters_0 {l : Launch} (htr : l.stackTraces = false) {D : va_G} {base : Nat} {g : Nat → ClassId} {gr : Nat → Bool} (a1 : Int32) (a2 : Int32) (M : MS)  (hb : a1 < 0 ∨ ¬ a1 < 16) : CtT x_IO l y_D_letters (Cond.code y_D_letters b_D_letters 3 (some .int) :: x_T) 7 120 D x_cl (xty g) base (xwd g) gr [.ref 0, .int a1, .int a2] M := by
  refine x_metS (by decide) (Nat.le_of_ble_eq_true rfl) (fun p e R s m args below meth c az B hho hex => ?_)
  refine s_iload_n B d_D_letters_0 rfl ?_
  exact s_thrS (av := [.int a1]) (rest := []) rfl B hho hex d_D_letters_1 cd_D_checkSlot st_D_checkSlot in_D ml_D_61 hs_D_checkSlot rfl rfl (by simp) (by decide) (by decide) (ctT_checkSlot htr a1 M hb)
set_option maxRecDepth 100000 in
theorem tt_D_letters_1 {l : Launch} (htr : l.stackTraces = false) {D : va_G} {base : Nat} {g : Nat → ClassId} {gr : Nat → Bool} (a1 : Int32) (a2 : Int32) (M : MS) (h0 : ¬ (a1 < 0 ∨ ¬ a1 < 16)) (hb : a2 < 0 ∨ ¬ a2 ≤ (16:Int32)) : CtT x_IA l y_D_letters (Cond.code y_D_letters b_D_letters 3 (some .int) :: x_T) 7 120 D x_cl (xty g) base (xwd g) gr [.ref 0, .int a1, .int a2] M := by
  refine x_metS (by decide) (Nat.le_of_ble_eq_true rfl) (fun p e R s m args below meth c az B hho hex => ?_)
  refine s_iload_n B d_D_letters_0 rfl ?_
  refine s_okU (av := [.int a1]) (rest := []) B (lk_S B d_D_letters_1 (gl_D_61 _) (List.mem_cons_of_mem _ st_D_checkSlot) (List.mem_cons_of_mem _ in_D) (List.mem_cons_of_mem _ ml_D_61) rfl hs_D_checkSlot (by decide) (by decide)) rfl (by simp) rfl (ct_D_checkSlot a1 M (M, ()) (m_slot_ok h0)) ?_
  refine s_iload_n B d_D_letters_4 rfl ?_
  refine s_bipush (v := (16:Int32)) B d_D_letters_5 (by decide) ?_
  exact s_thrS (av := [.int a2, .int (16:Int32)]) (rest := []) rfl B hho hex d_D_letters_7 cd_D_checkRange st_D_checkRange in_D ml_D_65 hs_D_checkRange rfl rfl (by simp) (by decide) (by decide) (ctT_checkRange htr a2 (16:Int32) M hb)
set_option maxRecDepth 100000 in
theorem tt_D_join_0 {l : Launch} (htr : l.stackTraces = false) {D : va_G} {base : Nat} {g : Nat → ClassId} {gr : Nat → Bool} (a1 : Int32) (a2 : Int32) (a3 : Int32) (a4 : Int32) (M : MS)  (hb : a1 < 0 ∨ ¬ a1 < 16) : CtT x_IO l y_D_join (Cond.code y_D_join b_D_join 5 (some .int) :: x_T) 7 120 D x_cl (xty g) base (xwd g) gr [.ref 0, .int a1, .int a2, .int a3, .int a4] M := by
  refine x_metS (by decide) (Nat.le_of_ble_eq_true rfl) (fun p e R s m args below meth c az B hho hex => ?_)
  refine s_iload_n B d_D_join_0 rfl ?_
  exact s_thrS (av := [.int a1]) (rest := []) rfl B hho hex d_D_join_1 cd_D_checkSlot st_D_checkSlot in_D ml_D_61 hs_D_checkSlot rfl rfl (by simp) (by decide) (by decide) (ctT_checkSlot htr a1 M hb)
set_option maxRecDepth 100000 in
theorem tt_D_join_1 {l : Launch} (htr : l.stackTraces = false) {D : va_G} {base : Nat} {g : Nat → ClassId} {gr : Nat → Bool} (a1 : Int32) (a2 : Int32) (a3 : Int32) (a4 : Int32) (M : MS) (h0 : ¬ (a1 < 0 ∨ ¬ a1 < 16)) (hb : a2 < 0 ∨ ¬ a2 < 16) : CtT x_IO l y_D_join (Cond.code y_D_join b_D_join 5 (some .int) :: x_T) 7 120 D x_cl (xty g) base (xwd g) gr [.ref 0, .int a1, .int a2, .int a3, .int a4] M := by
  refine x_metS (by decide) (Nat.le_of_ble_eq_true rfl) (fun p e R s m args below meth c az B hho hex => ?_)
  refine s_iload_n B d_D_join_0 rfl ?_
  refine s_okU (av := [.int a1]) (rest := []) B (lk_S B d_D_join_1 (gl_D_61 _) (List.mem_cons_of_mem _ st_D_checkSlot) (List.mem_cons_of_mem _ in_D) (List.mem_cons_of_mem _ ml_D_61) rfl hs_D_checkSlot (by decide) (by decide)) rfl (by simp) rfl (ct_D_checkSlot a1 M (M, ()) (m_slot_ok h0)) ?_
  refine s_iload_n B d_D_join_4 rfl ?_
  exact s_thrS (av := [.int a2]) (rest := []) rfl B hho hex d_D_join_5 cd_D_checkSlot st_D_checkSlot in_D ml_D_61 hs_D_checkSlot rfl rfl (by simp) (by decide) (by decide) (ctT_checkSlot htr a2 M hb)
set_option maxRecDepth 100000 in
theorem tt_D_join_2 {l : Launch} (htr : l.stackTraces = false) {D : va_G} {base : Nat} {g : Nat → ClassId} {gr : Nat → Bool} (a1 : Int32) (a2 : Int32) (a3 : Int32) (a4 : Int32) (M : MS) (h0 : ¬ (a1 < 0 ∨ ¬ a1 < 16)) (h1 : ¬ (a2 < 0 ∨ ¬ a2 < 16)) (hb : a3 < 0 ∨ ¬ a3 < 16) : CtT x_IO l y_D_join (Cond.code y_D_join b_D_join 5 (some .int) :: x_T) 7 120 D x_cl (xty g) base (xwd g) gr [.ref 0, .int a1, .int a2, .int a3, .int a4] M := by
  refine x_metS (by decide) (Nat.le_of_ble_eq_true rfl) (fun p e R s m args below meth c az B hho hex => ?_)
  refine s_iload_n B d_D_join_0 rfl ?_
  refine s_okU (av := [.int a1]) (rest := []) B (lk_S B d_D_join_1 (gl_D_61 _) (List.mem_cons_of_mem _ st_D_checkSlot) (List.mem_cons_of_mem _ in_D) (List.mem_cons_of_mem _ ml_D_61) rfl hs_D_checkSlot (by decide) (by decide)) rfl (by simp) rfl (ct_D_checkSlot a1 M (M, ()) (m_slot_ok h0)) ?_
  refine s_iload_n B d_D_join_4 rfl ?_
  refine s_okU (av := [.int a2]) (rest := []) B (lk_S B d_D_join_5 (gl_D_61 _) (List.mem_cons_of_mem _ st_D_checkSlot) (List.mem_cons_of_mem _ in_D) (List.mem_cons_of_mem _ ml_D_61) rfl hs_D_checkSlot (by decide) (by decide)) rfl (by simp) rfl (ct_D_checkSlot a2 M (M, ()) (m_slot_ok h1)) ?_
  refine s_iload_n B d_D_join_8 rfl ?_
  exact s_thrS (av := [.int a3]) (rest := []) rfl B hho hex d_D_join_9 cd_D_checkSlot st_D_checkSlot in_D ml_D_61 hs_D_checkSlot rfl rfl (by simp) (by decide) (by decide) (ctT_checkSlot htr a3 M hb)
set_option maxRecDepth 100000 in
theorem tt_D_join_3 {l : Launch} (htr : l.stackTraces = false) {D : va_G} {base : Nat} {g : Nat → ClassId} {gr : Nat → Bool} (a1 : Int32) (a2 : Int32) (a3 : Int32) (a4 : Int32) (M : MS) (h0 : ¬ (a1 < 0 ∨ ¬ a1 < 16)) (h1 : ¬ (a2 < 0 ∨ ¬ a2 < 16)) (h2 : ¬ (a3 < 0 ∨ ¬ a3 < 16)) (hb : a4 < 0 ∨ ¬ a4 ≤ (2:Int32)) : CtT x_IA l y_D_join (Cond.code y_D_join b_D_join 5 (some .int) :: x_T) 7 120 D x_cl (xty g) base (xwd g) gr [.ref 0, .int a1, .int a2, .int a3, .int a4] M := by
  refine x_metS (by decide) (Nat.le_of_ble_eq_true rfl) (fun p e R s m args below meth c az B hho hex => ?_)
  refine s_iload_n B d_D_join_0 rfl ?_
  refine s_okU (av := [.int a1]) (rest := []) B (lk_S B d_D_join_1 (gl_D_61 _) (List.mem_cons_of_mem _ st_D_checkSlot) (List.mem_cons_of_mem _ in_D) (List.mem_cons_of_mem _ ml_D_61) rfl hs_D_checkSlot (by decide) (by decide)) rfl (by simp) rfl (ct_D_checkSlot a1 M (M, ()) (m_slot_ok h0)) ?_
  refine s_iload_n B d_D_join_4 rfl ?_
  refine s_okU (av := [.int a2]) (rest := []) B (lk_S B d_D_join_5 (gl_D_61 _) (List.mem_cons_of_mem _ st_D_checkSlot) (List.mem_cons_of_mem _ in_D) (List.mem_cons_of_mem _ ml_D_61) rfl hs_D_checkSlot (by decide) (by decide)) rfl (by simp) rfl (ct_D_checkSlot a2 M (M, ()) (m_slot_ok h1)) ?_
  refine s_iload_n B d_D_join_8 rfl ?_
  refine s_okU (av := [.int a3]) (rest := []) B (lk_S B d_D_join_9 (gl_D_61 _) (List.mem_cons_of_mem _ st_D_checkSlot) (List.mem_cons_of_mem _ in_D) (List.mem_cons_of_mem _ ml_D_61) rfl hs_D_checkSlot (by decide) (by decide)) rfl (by simp) rfl (ct_D_checkSlot a3 M (M, ()) (m_slot_ok h2)) ?_
  refine s_iload B d_D_join_12 rfl ?_
  refine s_iconst (v := (2:Int32)) B d_D_join_14 (by decide) ?_
  exact s_thrS (av := [.int a4, .int (2:Int32)]) (rest := []) rfl B hho hex d_D_join_15 cd_D_checkRange st_D_checkRange in_D ml_D_65 hs_D_checkRange rfl rfl (by simp) (by decide) (by decide) (ctT_checkRange htr a4 (2:Int32) M hb)
set_option maxRecDepth 100000 in
theorem tt_D_turn_0 {l : Launch} (htr : l.stackTraces = false) {D : va_G} {base : Nat} {g : Nat → ClassId} {gr : Nat → Bool} (a1 : Int32) (a2 : Int32) (a3 : Int32) (M : MS)  (hb : a1 < 0 ∨ ¬ a1 < 16) : CtT x_IO l y_D_turn (Cond.code y_D_turn b_D_turn 4 (some .int) :: x_T) 7 120 D x_cl (xty g) base (xwd g) gr [.ref 0, .int a1, .int a2, .int a3] M := by
  refine x_metS (by decide) (Nat.le_of_ble_eq_true rfl) (fun p e R s m args below meth c az B hho hex => ?_)
  refine s_iload_n B d_D_turn_0 rfl ?_
  exact s_thrS (av := [.int a1]) (rest := []) rfl B hho hex d_D_turn_1 cd_D_checkSlot st_D_checkSlot in_D ml_D_61 hs_D_checkSlot rfl rfl (by simp) (by decide) (by decide) (ctT_checkSlot htr a1 M hb)
set_option maxRecDepth 100000 in
theorem tt_D_turn_1 {l : Launch} (htr : l.stackTraces = false) {D : va_G} {base : Nat} {g : Nat → ClassId} {gr : Nat → Bool} (a1 : Int32) (a2 : Int32) (a3 : Int32) (M : MS) (h0 : ¬ (a1 < 0 ∨ ¬ a1 < 16)) (hb : a2 < 0 ∨ ¬ a2 < 16) : CtT x_IO l y_D_turn (Cond.code y_D_turn b_D_turn 4 (some .int) :: x_T) 7 120 D x_cl (xty g) base (xwd g) gr [.ref 0, .int a1, .int a2, .int a3] M := by
  refine x_metS (by decide) (Nat.le_of_ble_eq_true rfl) (fun p e R s m args below meth c az B hho hex => ?_)
  refine s_iload_n B d_D_turn_0 rfl ?_
  refine s_okU (av := [.int a1]) (rest := []) B (lk_S B d_D_turn_1 (gl_D_61 _) (List.mem_cons_of_mem _ st_D_checkSlot) (List.mem_cons_of_mem _ in_D) (List.mem_cons_of_mem _ ml_D_61) rfl hs_D_checkSlot (by decide) (by decide)) rfl (by simp) rfl (ct_D_checkSlot a1 M (M, ()) (m_slot_ok h0)) ?_
  refine s_iload_n B d_D_turn_4 rfl ?_
  exact s_thrS (av := [.int a2]) (rest := []) rfl B hho hex d_D_turn_5 cd_D_checkSlot st_D_checkSlot in_D ml_D_61 hs_D_checkSlot rfl rfl (by simp) (by decide) (by decide) (ctT_checkSlot htr a2 M hb)
set_option maxRecDepth 100000 in
theorem tt_D_turn_2 {l : Launch} (htr : l.stackTraces = false) {D : va_G} {base : Nat} {g : Nat → ClassId} {gr : Nat → Bool} (a1 : Int32) (a2 : Int32) (a3 : Int32) (M : MS) (h0 : ¬ (a1 < 0 ∨ ¬ a1 < 16)) (h1 : ¬ (a2 < 0 ∨ ¬ a2 < 16)) (hb : a3 < 0 ∨ ¬ a3 ≤ (1:Int32)) : CtT x_IA l y_D_turn (Cond.code y_D_turn b_D_turn 4 (some .int) :: x_T) 7 120 D x_cl (xty g) base (xwd g) gr [.ref 0, .int a1, .int a2, .int a3] M := by
  refine x_metS (by decide) (Nat.le_of_ble_eq_true rfl) (fun p e R s m args below meth c az B hho hex => ?_)
  refine s_iload_n B d_D_turn_0 rfl ?_
  refine s_okU (av := [.int a1]) (rest := []) B (lk_S B d_D_turn_1 (gl_D_61 _) (List.mem_cons_of_mem _ st_D_checkSlot) (List.mem_cons_of_mem _ in_D) (List.mem_cons_of_mem _ ml_D_61) rfl hs_D_checkSlot (by decide) (by decide)) rfl (by simp) rfl (ct_D_checkSlot a1 M (M, ()) (m_slot_ok h0)) ?_
  refine s_iload_n B d_D_turn_4 rfl ?_
  refine s_okU (av := [.int a2]) (rest := []) B (lk_S B d_D_turn_5 (gl_D_61 _) (List.mem_cons_of_mem _ st_D_checkSlot) (List.mem_cons_of_mem _ in_D) (List.mem_cons_of_mem _ ml_D_61) rfl hs_D_checkSlot (by decide) (by decide)) rfl (by simp) rfl (ct_D_checkSlot a2 M (M, ()) (m_slot_ok h1)) ?_
  refine s_iload_n B d_D_turn_8 rfl ?_
  refine s_iconst (v := (1:Int32)) B d_D_turn_9 (by decide) ?_
  exact s_thrS (av := [.int a3, .int (1:Int32)]) (rest := []) rfl B hho hex d_D_turn_10 cd_D_checkRange st_D_checkRange in_D ml_D_65 hs_D_checkRange rfl rfl (by simp) (by decide) (by decide) (ctT_checkRange htr a3 (1:Int32) M hb)
set_option maxRecDepth 100000 in
theorem tt_D_derive_0 {l : Launch} (htr : l.stackTraces = false) {D : va_G} {base : Nat} {g : Nat → ClassId} {gr : Nat → Bool} (a1 : Int32) (a2 : Int32) (a3 : Int32) (M : MS)  (hb : a1 < 0 ∨ ¬ a1 < 16) : CtT x_IO l y_D_derive (Cond.code y_D_derive b_D_derive 4 (some .int) :: x_T) 7 120 D x_cl (xty g) base (xwd g) gr [.ref 0, .int a1, .int a2, .int a3] M := by
  refine x_metS (by decide) (Nat.le_of_ble_eq_true rfl) (fun p e R s m args below meth c az B hho hex => ?_)
  refine s_iload_n B d_D_derive_0 rfl ?_
  exact s_thrS (av := [.int a1]) (rest := []) rfl B hho hex d_D_derive_1 cd_D_checkSlot st_D_checkSlot in_D ml_D_61 hs_D_checkSlot rfl rfl (by simp) (by decide) (by decide) (ctT_checkSlot htr a1 M hb)
set_option maxRecDepth 100000 in
theorem tt_D_derive_1 {l : Launch} (htr : l.stackTraces = false) {D : va_G} {base : Nat} {g : Nat → ClassId} {gr : Nat → Bool} (a1 : Int32) (a2 : Int32) (a3 : Int32) (M : MS) (h0 : ¬ (a1 < 0 ∨ ¬ a1 < 16)) (hb : a2 < 0 ∨ ¬ a2 < 16) : CtT x_IO l y_D_derive (Cond.code y_D_derive b_D_derive 4 (some .int) :: x_T) 7 120 D x_cl (xty g) base (xwd g) gr [.ref 0, .int a1, .int a2, .int a3] M := by
  refine x_metS (by decide) (Nat.le_of_ble_eq_true rfl) (fun p e R s m args below meth c az B hho hex => ?_)
  refine s_iload_n B d_D_derive_0 rfl ?_
  refine s_okU (av := [.int a1]) (rest := []) B (lk_S B d_D_derive_1 (gl_D_61 _) (List.mem_cons_of_mem _ st_D_checkSlot) (List.mem_cons_of_mem _ in_D) (List.mem_cons_of_mem _ ml_D_61) rfl hs_D_checkSlot (by decide) (by decide)) rfl (by simp) rfl (ct_D_checkSlot a1 M (M, ()) (m_slot_ok h0)) ?_
  refine s_iload_n B d_D_derive_4 rfl ?_
  exact s_thrS (av := [.int a2]) (rest := []) rfl B hho hex d_D_derive_5 cd_D_checkSlot st_D_checkSlot in_D ml_D_61 hs_D_checkSlot rfl rfl (by simp) (by decide) (by decide) (ctT_checkSlot htr a2 M hb)
set_option maxRecDepth 100000 in
theorem tt_D_derive_2 {l : Launch} (htr : l.stackTraces = false) {D : va_G} {base : Nat} {g : Nat → ClassId} {gr : Nat → Bool} (a1 : Int32) (a2 : Int32) (a3 : Int32) (M : MS) (h0 : ¬ (a1 < 0 ∨ ¬ a1 < 16)) (h1 : ¬ (a2 < 0 ∨ ¬ a2 < 16)) (hb : a3 < 0 ∨ ¬ a3 ≤ (3:Int32)) : CtT x_IA l y_D_derive (Cond.code y_D_derive b_D_derive 4 (some .int) :: x_T) 7 120 D x_cl (xty g) base (xwd g) gr [.ref 0, .int a1, .int a2, .int a3] M := by
  refine x_metS (by decide) (Nat.le_of_ble_eq_true rfl) (fun p e R s m args below meth c az B hho hex => ?_)
  refine s_iload_n B d_D_derive_0 rfl ?_
  refine s_okU (av := [.int a1]) (rest := []) B (lk_S B d_D_derive_1 (gl_D_61 _) (List.mem_cons_of_mem _ st_D_checkSlot) (List.mem_cons_of_mem _ in_D) (List.mem_cons_of_mem _ ml_D_61) rfl hs_D_checkSlot (by decide) (by decide)) rfl (by simp) rfl (ct_D_checkSlot a1 M (M, ()) (m_slot_ok h0)) ?_
  refine s_iload_n B d_D_derive_4 rfl ?_
  refine s_okU (av := [.int a2]) (rest := []) B (lk_S B d_D_derive_5 (gl_D_61 _) (List.mem_cons_of_mem _ st_D_checkSlot) (List.mem_cons_of_mem _ in_D) (List.mem_cons_of_mem _ ml_D_61) rfl hs_D_checkSlot (by decide) (by decide)) rfl (by simp) rfl (ct_D_checkSlot a2 M (M, ()) (m_slot_ok h1)) ?_
  refine s_iload_n B d_D_derive_8 rfl ?_
  refine s_iconst (v := (3:Int32)) B d_D_derive_9 (by decide) ?_
  exact s_thrS (av := [.int a3, .int (3:Int32)]) (rest := []) rfl B hho hex d_D_derive_10 cd_D_checkRange st_D_checkRange in_D ml_D_65 hs_D_checkRange rfl rfl (by simp) (by decide) (by decide) (ctT_checkRange htr a3 (3:Int32) M hb)
set_option maxRecDepth 100000 in
theorem tt_D_similar_0 {l : Launch} (htr : l.stackTraces = false) {D : va_G} {base : Nat} {g : Nat → ClassId} {gr : Nat → Bool} (a1 : Int32) (a2 : Int32) (M : MS)  (hb : a1 < 0 ∨ ¬ a1 < 16) : CtT x_IO l y_D_similar (Cond.code y_D_similar b_D_similar 3 (some .boolean) :: x_T) 7 120 D x_cl (xty g) base (xwd g) gr [.ref 0, .int a1, .int a2] M := by
  refine x_metS (by decide) (Nat.le_of_ble_eq_true rfl) (fun p e R s m args below meth c az B hho hex => ?_)
  refine s_iload_n B d_D_similar_0 rfl ?_
  exact s_thrS (av := [.int a1]) (rest := []) rfl B hho hex d_D_similar_1 cd_D_checkSlot st_D_checkSlot in_D ml_D_61 hs_D_checkSlot rfl rfl (by simp) (by decide) (by decide) (ctT_checkSlot htr a1 M hb)
set_option maxRecDepth 100000 in
theorem tt_D_similar_1 {l : Launch} (htr : l.stackTraces = false) {D : va_G} {base : Nat} {g : Nat → ClassId} {gr : Nat → Bool} (a1 : Int32) (a2 : Int32) (M : MS) (h0 : ¬ (a1 < 0 ∨ ¬ a1 < 16)) (hb : a2 < 0 ∨ ¬ a2 < 16) : CtT x_IO l y_D_similar (Cond.code y_D_similar b_D_similar 3 (some .boolean) :: x_T) 7 120 D x_cl (xty g) base (xwd g) gr [.ref 0, .int a1, .int a2] M := by
  refine x_metS (by decide) (Nat.le_of_ble_eq_true rfl) (fun p e R s m args below meth c az B hho hex => ?_)
  refine s_iload_n B d_D_similar_0 rfl ?_
  refine s_okU (av := [.int a1]) (rest := []) B (lk_S B d_D_similar_1 (gl_D_61 _) (List.mem_cons_of_mem _ st_D_checkSlot) (List.mem_cons_of_mem _ in_D) (List.mem_cons_of_mem _ ml_D_61) rfl hs_D_checkSlot (by decide) (by decide)) rfl (by simp) rfl (ct_D_checkSlot a1 M (M, ()) (m_slot_ok h0)) ?_
  refine s_iload_n B d_D_similar_4 rfl ?_
  exact s_thrS (av := [.int a2]) (rest := []) rfl B hho hex d_D_similar_5 cd_D_checkSlot st_D_checkSlot in_D ml_D_61 hs_D_checkSlot rfl rfl (by simp) (by decide) (by decide) (ctT_checkSlot htr a2 M hb)
set_option maxRecDepth 100000 in
theorem tt_D_has_0 {l : Launch} (htr : l.stackTraces = false) {D : va_G} {base : Nat} {g : Nat → ClassId} {gr : Nat → Bool} (a1 : Int32) (a2 : Int32) (a3 : Int32) (M : MS)  (hb : a1 < 0 ∨ ¬ a1 < 16) : CtT x_IO l y_D_has (Cond.code y_D_has b_D_has 4 (some .boolean) :: x_T) 7 120 D x_cl (xty g) base (xwd g) gr [.ref 0, .int a1, .int a2, .int a3] M := by
  refine x_metS (by decide) (Nat.le_of_ble_eq_true rfl) (fun p e R s m args below meth c az B hho hex => ?_)
  refine s_iload_n B d_D_has_0 rfl ?_
  exact s_thrS (av := [.int a1]) (rest := []) rfl B hho hex d_D_has_1 cd_D_checkSlot st_D_checkSlot in_D ml_D_61 hs_D_checkSlot rfl rfl (by simp) (by decide) (by decide) (ctT_checkSlot htr a1 M hb)
set_option maxRecDepth 100000 in
theorem tt_D_has_1 {l : Launch} (htr : l.stackTraces = false) {D : va_G} {base : Nat} {g : Nat → ClassId} {gr : Nat → Bool} (a1 : Int32) (a2 : Int32) (a3 : Int32) (M : MS) (h0 : ¬ (a1 < 0 ∨ ¬ a1 < 16)) (hb : a3 < 0 ∨ ¬ a3 ≤ (16:Int32)) : CtT x_IA l y_D_has (Cond.code y_D_has b_D_has 4 (some .boolean) :: x_T) 7 120 D x_cl (xty g) base (xwd g) gr [.ref 0, .int a1, .int a2, .int a3] M := by
  refine x_metS (by decide) (Nat.le_of_ble_eq_true rfl) (fun p e R s m args below meth c az B hho hex => ?_)
  refine s_iload_n B d_D_has_0 rfl ?_
  refine s_okU (av := [.int a1]) (rest := []) B (lk_S B d_D_has_1 (gl_D_61 _) (List.mem_cons_of_mem _ st_D_checkSlot) (List.mem_cons_of_mem _ in_D) (List.mem_cons_of_mem _ ml_D_61) rfl hs_D_checkSlot (by decide) (by decide)) rfl (by simp) rfl (ct_D_checkSlot a1 M (M, ()) (m_slot_ok h0)) ?_
  refine s_iload_n B d_D_has_4 rfl ?_
  refine s_bipush (v := (16:Int32)) B d_D_has_5 (by decide) ?_
  exact s_thrS (av := [.int a3, .int (16:Int32)]) (rest := []) rfl B hho hex d_D_has_7 cd_D_checkRange st_D_checkRange in_D ml_D_65 hs_D_checkRange rfl rfl (by simp) (by decide) (by decide) (ctT_checkRange htr a3 (16:Int32) M hb)
set_option maxRecDepth 100000 in
theorem tt_D_states_0 {l : Launch} (htr : l.stackTraces = false) {D : va_G} {base : Nat} {g : Nat → ClassId} {gr : Nat → Bool} (a1 : Int32) (M : MS)  (hb : a1 < 0 ∨ ¬ a1 < 16) : CtT x_IO l y_D_states (Cond.code y_D_states b_D_states 2 (some .int) :: x_T) 7 120 D x_cl (xty g) base (xwd g) gr [.ref 0, .int a1] M := by
  refine x_metS (by decide) (Nat.le_of_ble_eq_true rfl) (fun p e R s m args below meth c az B hho hex => ?_)
  refine s_iload_n B d_D_states_0 rfl ?_
  exact s_thrS (av := [.int a1]) (rest := []) rfl B hho hex d_D_states_1 cd_D_checkSlot st_D_checkSlot in_D ml_D_61 hs_D_checkSlot rfl rfl (by simp) (by decide) (by decide) (ctT_checkSlot htr a1 M hb)
set_option maxRecDepth 100000 in
theorem tt_D_languages_0 {l : Launch} (htr : l.stackTraces = false) {D : va_G} {base : Nat} {g : Nat → ClassId} {gr : Nat → Bool} (a1 : Int32) (M : MS)  (hb : a1 < 0 ∨ ¬ a1 < 16) : CtT x_IO l y_D_languages (Cond.code y_D_languages b_D_languages 3 (some .int) :: x_T) 7 120 D x_cl (xty g) base (xwd g) gr [.ref 0, .int a1] M := by
  refine x_metS (by decide) (Nat.le_of_ble_eq_true rfl) (fun p e R s m args below meth c az B hho hex => ?_)
  refine s_iload_n B d_D_languages_0 rfl ?_
  exact s_thrS (av := [.int a1]) (rest := []) rfl B hho hex d_D_languages_1 cd_D_checkSlot st_D_checkSlot in_D ml_D_61 hs_D_checkSlot rfl rfl (by simp) (by decide) (by decide) (ctT_checkSlot htr a1 M hb)
set_option maxRecDepth 100000 in
theorem tt_D_equal_0 {l : Launch} (htr : l.stackTraces = false) {D : va_G} {base : Nat} {g : Nat → ClassId} {gr : Nat → Bool} (a1 : Int32) (a2 : Int32) (M : MS)  (hb : a1 < 0 ∨ ¬ a1 < 16) : CtT x_IO l y_D_equal (Cond.code y_D_equal b_D_equal 5 (some .int) :: x_T) 7 120 D x_cl (xty g) base (xwd g) gr [.ref 0, .int a1, .int a2] M := by
  refine x_metS (by decide) (Nat.le_of_ble_eq_true rfl) (fun p e R s m args below meth c az B hho hex => ?_)
  refine s_iload_n B d_D_equal_0 rfl ?_
  exact s_thrS (av := [.int a1]) (rest := []) rfl B hho hex d_D_equal_1 cd_D_checkSlot st_D_checkSlot in_D ml_D_61 hs_D_checkSlot rfl rfl (by simp) (by decide) (by decide) (ctT_checkSlot htr a1 M hb)
set_option maxRecDepth 100000 in
theorem tt_D_equal_1 {l : Launch} (htr : l.stackTraces = false) {D : va_G} {base : Nat} {g : Nat → ClassId} {gr : Nat → Bool} (a1 : Int32) (a2 : Int32) (M : MS) (h0 : ¬ (a1 < 0 ∨ ¬ a1 < 16)) (hb : a2 < 0 ∨ ¬ a2 < 16) : CtT x_IO l y_D_equal (Cond.code y_D_equal b_D_equal 5 (some .int) :: x_T) 7 120 D x_cl (xty g) base (xwd g) gr [.ref 0, .int a1, .int a2] M := by
  refine x_metS (by decide) (Nat.le_of_ble_eq_true rfl) (fun p e R s m args below meth c az B hho hex => ?_)
  refine s_iload_n B d_D_equal_0 rfl ?_
  refine s_okU (av := [.int a1]) (rest := []) B (lk_S B d_D_equal_1 (gl_D_61 _) (List.mem_cons_of_mem _ st_D_checkSlot) (List.mem_cons_of_mem _ in_D) (List.mem_cons_of_mem _ ml_D_61) rfl hs_D_checkSlot (by decide) (by decide)) rfl (by simp) rfl (ct_D_checkSlot a1 M (M, ()) (m_slot_ok h0)) ?_
  refine s_iload_n B d_D_equal_4 rfl ?_
  exact s_thrS (av := [.int a2]) (rest := []) rfl B hho hex d_D_equal_5 cd_D_checkSlot st_D_checkSlot in_D ml_D_61 hs_D_checkSlot rfl rfl (by simp) (by decide) (by decide) (ctT_checkSlot htr a2 M hb)
set_option maxRecDepth 100000 in
theorem tt_D_words_0 {l : Launch} (htr : l.stackTraces = false) {D : va_G} {base : Nat} {g : Nat → ClassId} {gr : Nat → Bool} (a1 : Int32) (a2 : Int32) (M : MS)  (hb : a1 < 0 ∨ ¬ a1 < 16) : CtT x_IO l y_D_words (Cond.code y_D_words b_D_words 4 (some .long) :: x_T) 7 120 D x_cl (xty g) base (xwd g) gr [.ref 0, .int a1, .int a2] M := by
  refine x_metS (by decide) (Nat.le_of_ble_eq_true rfl) (fun p e R s m args below meth c az B hho hex => ?_)
  refine s_iload_n B d_D_words_0 rfl ?_
  exact s_thrS (av := [.int a1]) (rest := []) rfl B hho hex d_D_words_1 cd_D_checkSlot st_D_checkSlot in_D ml_D_61 hs_D_checkSlot rfl rfl (by simp) (by decide) (by decide) (ctT_checkSlot htr a1 M hb)
set_option maxRecDepth 100000 in
theorem tt_D_words_1 {l : Launch} (htr : l.stackTraces = false) {D : va_G} {base : Nat} {g : Nat → ClassId} {gr : Nat → Bool} (a1 : Int32) (a2 : Int32) (M : MS) (h0 : ¬ (a1 < 0 ∨ ¬ a1 < 16)) (hb : a2 < 0 ∨ ¬ a2 ≤ (16:Int32)) : CtT x_IA l y_D_words (Cond.code y_D_words b_D_words 4 (some .long) :: x_T) 7 120 D x_cl (xty g) base (xwd g) gr [.ref 0, .int a1, .int a2] M := by
  refine x_metS (by decide) (Nat.le_of_ble_eq_true rfl) (fun p e R s m args below meth c az B hho hex => ?_)
  refine s_iload_n B d_D_words_0 rfl ?_
  refine s_okU (av := [.int a1]) (rest := []) B (lk_S B d_D_words_1 (gl_D_61 _) (List.mem_cons_of_mem _ st_D_checkSlot) (List.mem_cons_of_mem _ in_D) (List.mem_cons_of_mem _ ml_D_61) rfl hs_D_checkSlot (by decide) (by decide)) rfl (by simp) rfl (ct_D_checkSlot a1 M (M, ()) (m_slot_ok h0)) ?_
  refine s_iload_n B d_D_words_4 rfl ?_
  refine s_bipush (v := (16:Int32)) B d_D_words_5 (by decide) ?_
  exact s_thrS (av := [.int a2, .int (16:Int32)]) (rest := []) rfl B hho hex d_D_words_7 cd_D_checkRange st_D_checkRange in_D ml_D_65 hs_D_checkRange rfl rfl (by simp) (by decide) (by decide) (ctT_checkRange htr a2 (16:Int32) M hb)
set_option maxRecDepth 100000 in
theorem tt_D_ends_0 {l : Launch} (htr : l.stackTraces = false) {D : va_G} {base : Nat} {g : Nat → ClassId} {gr : Nat → Bool} (a1 : Int32) (M : MS)  (hb : a1 < 0 ∨ ¬ a1 < 16) : CtT x_IO l y_D_ends (Cond.code y_D_ends b_D_ends 3 (some .int) :: x_T) 7 120 D x_cl (xty g) base (xwd g) gr [.ref 0, .int a1] M := by
  refine x_metS (by decide) (Nat.le_of_ble_eq_true rfl) (fun p e R s m args below meth c az B hho hex => ?_)
  refine s_iload_n B d_D_ends_0 rfl ?_
  exact s_thrS (av := [.int a1]) (rest := []) rfl B hho hex d_D_ends_1 cd_D_checkSlot st_D_checkSlot in_D ml_D_61 hs_D_checkSlot rfl rfl (by simp) (by decide) (by decide) (ctT_checkSlot htr a1 M hb)
set_option maxRecDepth 100000 in
theorem tt_D_find_0 {l : Launch} (htr : l.stackTraces = false) {D : va_G} {base : Nat} {g : Nat → ClassId} {gr : Nat → Bool} (a1 : Int32) (a2 : Int64) (M : MS)  (hb : a1 < 0 ∨ ¬ a1 < 16) : CtT x_IO l y_D_find (Cond.code y_D_find b_D_find 5 (some .long) :: x_T) 7 120 D x_cl (xty g) base (xwd g) gr [.ref 0, .int a1, .long a2] M := by
  refine x_metS (by decide) (Nat.le_of_ble_eq_true rfl) (fun p e R s m args below meth c az B hho hex => ?_)
  refine s_iload_n B d_D_find_0 rfl ?_
  exact s_thrS (av := [.int a1]) (rest := []) rfl B hho hex d_D_find_1 cd_D_checkSlot st_D_checkSlot in_D ml_D_61 hs_D_checkSlot rfl rfl (by simp) (by decide) (by decide) (ctT_checkSlot htr a1 M hb)
set_option maxRecDepth 100000 in
theorem tt_D_look_0 {l : Launch} (htr : l.stackTraces = false) {D : va_G} {base : Nat} {g : Nat → ClassId} {gr : Nat → Bool} (a1 : Int32) (a2 : Int32) (M : MS)  (hb : a1 < 0 ∨ ¬ a1 < 16) : CtT x_IO l y_D_look (Cond.code y_D_look b_D_look 4 (some .int) :: x_T) 7 120 D x_cl (xty g) base (xwd g) gr [.ref 0, .int a1, .int a2] M := by
  refine x_metS (by decide) (Nat.le_of_ble_eq_true rfl) (fun p e R s m args below meth c az B hho hex => ?_)
  refine s_iload_n B d_D_look_0 rfl ?_
  exact s_thrS (av := [.int a1]) (rest := []) rfl B hho hex d_D_look_1 cd_D_checkSlot st_D_checkSlot in_D ml_D_61 hs_D_checkSlot rfl rfl (by simp) (by decide) (by decide) (ctT_checkSlot htr a1 M hb)
