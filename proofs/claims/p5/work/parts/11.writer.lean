/-! Written by wip/gen/gen.py. -/
theorem s_Wr_52 : uCt "FrameFerry$Writer" 52 y_Wr_mustEscape 1 (.code y_Wr_mustEscape prog_8_method_10_code 2 (some .boolean)) := ⟨⟨tb_of 366 (by decide +kernel) rfl, tb_of 4 (by decide +kernel) rfl, tb_of 368 (by decide +kernel) rfl, by decide +kernel⟩, tb_of 367 (by decide +kernel) rfl⟩
theorem s_Wr_18 : uCv "FrameFerry$Writer" 18 y_Pi_add 1 (.code y_Pi_add prog_3_method_2_code 2 none) := ⟨⟨tb_of 345 (by decide +kernel) rfl, tb_of 3 (by decide +kernel) rfl, tb_of 348 (by decide +kernel) rfl, by decide +kernel⟩, tb_of 346 (by decide +kernel) rfl, tb_of 347 (by decide +kernel) rfl⟩
theorem s_Wr_24 : uCv "FrameFerry$Writer" 24 y_Ck_begin 1 (.code y_Ck_begin prog_2_method_2_code 2 none) := ⟨⟨tb_of 349 (by decide +kernel) rfl, tb_of 5 (by decide +kernel) rfl, tb_of 273 (by decide +kernel) rfl, by decide +kernel⟩, tb_of 271 (by decide +kernel) rfl, tb_of 272 (by decide +kernel) rfl⟩
theorem s_Wr_33 : uCv "FrameFerry$Writer" 33 y_Ck_size 0 (.code y_Ck_size prog_2_method_4_code 1 (some .int)) := ⟨⟨tb_of 354 (by decide +kernel) rfl, tb_of 5 (by decide +kernel) rfl, tb_of 313 (by decide +kernel) rfl, by decide +kernel⟩, tb_of 311 (by decide +kernel) rfl, tb_of 312 (by decide +kernel) rfl⟩
theorem s_Wr_37 : uCv "FrameFerry$Writer" 37 y_Ck_part 1 (.code y_Ck_part prog_2_method_5_code 2 (some .int)) := ⟨⟨tb_of 355 (by decide +kernel) rfl, tb_of 5 (by decide +kernel) rfl, tb_of 309 (by decide +kernel) rfl, by decide +kernel⟩, tb_of 307 (by decide +kernel) rfl, tb_of 308 (by decide +kernel) rfl⟩
theorem s_Wr_41 : uCt "FrameFerry$Writer" 41 y_Wr_digit 1 (.code y_Wr_digit prog_8_method_8_code 1 (some .int)) := ⟨⟨tb_of 356 (by decide +kernel) rfl, tb_of 4 (by decide +kernel) rfl, tb_of 358 (by decide +kernel) rfl, by decide +kernel⟩, tb_of 357 (by decide +kernel) rfl⟩
theorem s_Wr_28 : uCt "FrameFerry$Writer" 28 y_Wr_headerByte 3 (.code y_Wr_headerByte prog_8_method_7_code 3 (some .int)) := ⟨⟨tb_of 350 (by decide +kernel) rfl, tb_of 4 (by decide +kernel) rfl, tb_of 352 (by decide +kernel) rfl, by decide +kernel⟩, tb_of 351 (by decide +kernel) rfl⟩
theorem s_Wr_32 : uCv "FrameFerry$Writer" 32 y_Ck_add 1 (.code y_Ck_add prog_2_method_3_code 2 none) := ⟨⟨tb_of 353 (by decide +kernel) rfl, tb_of 5 (by decide +kernel) rfl, tb_of 296 (by decide +kernel) rfl, by decide +kernel⟩, tb_of 294 (by decide +kernel) rfl, tb_of 295 (by decide +kernel) rfl⟩
theorem f_Wr_44 : uF "FrameFerry$Writer" 44 6 1 false .boolean := ⟨R_Wr, T_Wr, 2, ty_Wr, rfl, by decide, tb_of 72 (by decide +kernel) rfl, l_Wr, ty_Wr_ok, n_Wr, rfl, rfl⟩
theorem s_Wr_48 : uCt "FrameFerry$Writer" 48 y_Wr_addEscaped 2 (.code y_Wr_addEscaped prog_8_method_9_code 2 none) := ⟨⟨tb_of 363 (by decide +kernel) rfl, tb_of 4 (by decide +kernel) rfl, tb_of 365 (by decide +kernel) rfl, by decide +kernel⟩, tb_of 364 (by decide +kernel) rfl⟩
section G
variable {p : Program} {l : Launch} {e : Env} {s : State} {m : MethodId} {args : Array Value} {below : List Frame} {meth : Method} {c : Code} {D : va_G} {cc : Nat → ClassId} {L L0 : List Nat} {A A0 : Nat → Nat} {J : Nat → Int64} {t16 t32 sz : Nat}
-- FrameFerry$Writer.headerByte (III)I
theorem d_Wr_headerByte_0 : decode prog_8_method_7_code 0 = .ok (.iload_n 2, 1) := by decide +kernel
theorem d_Wr_headerByte_1 : decode prog_8_method_7_code 1 = .ok (.ifCond .ne 7, 3) := by decide +kernel
theorem d_Wr_headerByte_4 : decode prog_8_method_7_code 4 = .ok (.iload_n 0, 1) := by decide +kernel
theorem d_Wr_headerByte_5 : decode prog_8_method_7_code 5 = .ok (.goto 15, 3) := by decide +kernel
theorem d_Wr_headerByte_8 : decode prog_8_method_7_code 8 = .ok (.iload_n 1, 1) := by decide +kernel
theorem d_Wr_headerByte_9 : decode prog_8_method_7_code 9 = .ok (.bipush 8, 2) := by decide +kernel
theorem d_Wr_headerByte_11 : decode prog_8_method_7_code 11 = .ok (.iload_n 2, 1) := by decide +kernel
theorem d_Wr_headerByte_12 : decode prog_8_method_7_code 12 = .ok (.iconst 1, 1) := by decide +kernel
theorem d_Wr_headerByte_13 : decode prog_8_method_7_code 13 = .ok (.isub, 1) := by decide +kernel
theorem d_Wr_headerByte_14 : decode prog_8_method_7_code 14 = .ok (.imul, 1) := by decide +kernel
theorem d_Wr_headerByte_15 : decode prog_8_method_7_code 15 = .ok (.iushr, 1) := by decide +kernel
theorem d_Wr_headerByte_16 : decode prog_8_method_7_code 16 = .ok (.sipush 255, 3) := by decide +kernel
theorem d_Wr_headerByte_19 : decode prog_8_method_7_code 19 = .ok (.iand, 1) := by decide +kernel
theorem d_Wr_headerByte_20 : decode prog_8_method_7_code 20 = .ok (.ireturn, 1) := by decide +kernel
def rm_Wr_headerByte : Room := { frames := 0, cells := 0, slots := 0, locals := 0 }
def wp_Wr_headerByte (I : UI) (R : UR) (x0 : Int32) (x1 : Int32) (x2 : Int32) (Q : Int32 → UI → UR → Prop) : Prop :=
  ((¬ x2 = 0 → Q ((ush x1 (8 * (x2 - 1))) &&& 255) I R) ∧ (x2 = 0 → Q x0 I R))
set_option maxHeartbeats 4000000 in
set_option maxRecDepth 100000 in
theorem c_Wr_headerByte (l : Launch) (D : va_G) (cc : Nat → ClassId) (L : List Nat) (A : Nat → Nat) (J : Nat → Int64) (t16 t32 : Nat) (I : UI) (R : UR) (x0 : Int32) (x1 : Int32) (x2 : Int32) (Q : Int32 → UI → UR → Prop) (h : wp_Wr_headerByte I R x0 x1 x2 Q) : uMi l y_Wr_headerByte (.code y_Wr_headerByte prog_8_method_7_code 3 (some .int)) rm_Wr_headerByte [.int x0, .int x1, .int x2] D cc L A J t16 t32 I R Q := by
  intro sz
  refine u_entry (by decide) (Nat.le_of_ble_eq_true rfl) (fun p e s m args below meth c hsz X V hr hlk ls hl => ?_)
  have X : uX p s m args c prog_8_method_7_code 3 "FrameFerry$Writer" D cc L A t16 t32 := X
  have hx := X.1
  have hb := X.2.1
  have hl : lv_has ls 3 [(0, .int x0), (1, .int x1), (2, .int x2)] := hl
  unfold wp_Wr_headerByte at h
  generalize hH : s.heap = H at V ⊢
  generalize hlo : ([] : List Loc) = locs at V ⊢
  refine lv_iload_n (pc := 0) hx hb d_Wr_headerByte_0 rfl (lv_at hl 2 rfl) ?_
  refine lv_if_ne (pc := 1) (tgt := 8) hx hb d_Wr_headerByte_1 (by decide) (fun hc => ?_) (fun hc => ?_)
  · have h := h.1 hc
    refine lv_iload_n (pc := 8) hx hb d_Wr_headerByte_8 rfl (lv_at hl 1 rfl) ?_
    refine lv_bipush (pc := 9) (v := 8) hx hb d_Wr_headerByte_9 (by decide) ?_
    refine lv_iload_n (pc := 11) hx hb d_Wr_headerByte_11 rfl (lv_at hl 2 rfl) ?_
    refine lv_iconst (pc := 12) (v := 1) hx hb d_Wr_headerByte_12 (by decide) ?_
    refine lv_isub (pc := 13) hx hb d_Wr_headerByte_13 ?_
    refine lv_imul (pc := 14) hx hb d_Wr_headerByte_14 ?_
    refine lv_iushr (pc := 15) (v := ush x1 (8 * (x2 - 1))) hx hb d_Wr_headerByte_15 rfl ?_
    refine lv_sipush (pc := 16) (v := 255) hx hb d_Wr_headerByte_16 (by decide) ?_
    refine lv_iand (pc := 19) hx hb d_Wr_headerByte_19 ?_
    exact u_reti (pc := 20) X V hr hlk hsz h d_Wr_headerByte_20
  · have h := h.2 hc
    refine lv_iload_n (pc := 4) hx hb d_Wr_headerByte_4 rfl (lv_at hl 0 rfl) ?_
    refine lv_goto (pc := 5) (tgt := 20) hx hb d_Wr_headerByte_5 (by decide) ?_
    exact u_reti (pc := 20) X V hr hlk hsz h d_Wr_headerByte_20
-- FrameFerry$Writer.digit (I)I
theorem d_Wr_digit_0 : decode prog_8_method_8_code 0 = .ok (.iload_n 0, 1) := by decide +kernel
theorem d_Wr_digit_1 : decode prog_8_method_8_code 1 = .ok (.bipush 10, 2) := by decide +kernel
theorem d_Wr_digit_3 : decode prog_8_method_8_code 3 = .ok (.if_icmp .ge 10, 3) := by decide +kernel
theorem d_Wr_digit_6 : decode prog_8_method_8_code 6 = .ok (.bipush 48, 2) := by decide +kernel
theorem d_Wr_digit_8 : decode prog_8_method_8_code 8 = .ok (.iload_n 0, 1) := by decide +kernel
theorem d_Wr_digit_9 : decode prog_8_method_8_code 9 = .ok (.iadd, 1) := by decide +kernel
theorem d_Wr_digit_10 : decode prog_8_method_8_code 10 = .ok (.goto 10, 3) := by decide +kernel
theorem d_Wr_digit_13 : decode prog_8_method_8_code 13 = .ok (.bipush 97, 2) := by decide +kernel
theorem d_Wr_digit_15 : decode prog_8_method_8_code 15 = .ok (.iload_n 0, 1) := by decide +kernel
theorem d_Wr_digit_16 : decode prog_8_method_8_code 16 = .ok (.iadd, 1) := by decide +kernel
theorem d_Wr_digit_17 : decode prog_8_method_8_code 17 = .ok (.bipush 10, 2) := by decide +kernel
theorem d_Wr_digit_19 : decode prog_8_method_8_code 19 = .ok (.isub, 1) := by decide +kernel
theorem d_Wr_digit_20 : decode prog_8_method_8_code 20 = .ok (.ireturn, 1) := by decide +kernel
def rm_Wr_digit : Room := { frames := 0, cells := 0, slots := 0, locals := 0 }
def wp_Wr_digit (I : UI) (R : UR) (x0 : Int32) (Q : Int32 → UI → UR → Prop) : Prop :=
  ((10 ≤ x0 → Q ((97 + x0) - 10) I R) ∧ (¬ 10 ≤ x0 → Q (48 + x0) I R))
set_option maxHeartbeats 4000000 in
set_option maxRecDepth 100000 in
theorem c_Wr_digit (l : Launch) (D : va_G) (cc : Nat → ClassId) (L : List Nat) (A : Nat → Nat) (J : Nat → Int64) (t16 t32 : Nat) (I : UI) (R : UR) (x0 : Int32) (Q : Int32 → UI → UR → Prop) (h : wp_Wr_digit I R x0 Q) : uMi l y_Wr_digit (.code y_Wr_digit prog_8_method_8_code 1 (some .int)) rm_Wr_digit [.int x0] D cc L A J t16 t32 I R Q := by
  intro sz
  refine u_entry (by decide) (Nat.le_of_ble_eq_true rfl) (fun p e s m args below meth c hsz X V hr hlk ls hl => ?_)
  have X : uX p s m args c prog_8_method_8_code 1 "FrameFerry$Writer" D cc L A t16 t32 := X
  have hx := X.1
  have hb := X.2.1
  have hl : lv_has ls 1 [(0, .int x0)] := hl
  unfold wp_Wr_digit at h
  generalize hH : s.heap = H at V ⊢
  generalize hlo : ([] : List Loc) = locs at V ⊢
  refine lv_iload_n (pc := 0) hx hb d_Wr_digit_0 rfl (lv_at hl 0 rfl) ?_
  refine lv_bipush (pc := 1) (v := 10) hx hb d_Wr_digit_1 (by decide) ?_
  refine lv_icmp_ge (pc := 3) (tgt := 13) hx hb d_Wr_digit_3 (by decide) (fun hc => ?_) (fun hc => ?_)
  · have h := h.1 hc
    refine lv_bipush (pc := 13) (v := 97) hx hb d_Wr_digit_13 (by decide) ?_
    refine lv_iload_n (pc := 15) hx hb d_Wr_digit_15 rfl (lv_at hl 0 rfl) ?_
    refine lv_iadd (pc := 16) hx hb d_Wr_digit_16 ?_
    refine lv_bipush (pc := 17) (v := 10) hx hb d_Wr_digit_17 (by decide) ?_
    refine lv_isub (pc := 19) hx hb d_Wr_digit_19 ?_
    exact u_reti (pc := 20) X V hr hlk hsz h d_Wr_digit_20
  · have h := h.2 hc
    refine lv_bipush (pc := 6) (v := 48) hx hb d_Wr_digit_6 (by decide) ?_
    refine lv_iload_n (pc := 8) hx hb d_Wr_digit_8 rfl (lv_at hl 0 rfl) ?_
    refine lv_iadd (pc := 9) hx hb d_Wr_digit_9 ?_
    refine lv_goto (pc := 10) (tgt := 20) hx hb d_Wr_digit_10 (by decide) ?_
    exact u_reti (pc := 20) X V hr hlk hsz h d_Wr_digit_20
-- FrameFerry$Writer.mustEscape (I)Z
theorem d_Wr_mustEscape_0 : decode prog_8_method_10_code 0 = .ok (.iload_n 0, 1) := by decide +kernel
theorem d_Wr_mustEscape_1 : decode prog_8_method_10_code 1 = .ok (.bipush 127, 2) := by decide +kernel
theorem d_Wr_mustEscape_3 : decode prog_8_method_10_code 3 = .ok (.iand, 1) := by decide +kernel
theorem d_Wr_mustEscape_4 : decode prog_8_method_10_code 4 = .ok (.istore_n 1, 1) := by decide +kernel
theorem d_Wr_mustEscape_5 : decode prog_8_method_10_code 5 = .ok (.iload_n 1, 1) := by decide +kernel
theorem d_Wr_mustEscape_6 : decode prog_8_method_10_code 6 = .ok (.bipush 16, 2) := by decide +kernel
theorem d_Wr_mustEscape_8 : decode prog_8_method_10_code 8 = .ok (.if_icmp .eq 21, 3) := by decide +kernel
theorem d_Wr_mustEscape_11 : decode prog_8_method_10_code 11 = .ok (.iload_n 1, 1) := by decide +kernel
theorem d_Wr_mustEscape_12 : decode prog_8_method_10_code 12 = .ok (.bipush 17, 2) := by decide +kernel
theorem d_Wr_mustEscape_14 : decode prog_8_method_10_code 14 = .ok (.if_icmp .eq 15, 3) := by decide +kernel
theorem d_Wr_mustEscape_17 : decode prog_8_method_10_code 17 = .ok (.iload_n 1, 1) := by decide +kernel
theorem d_Wr_mustEscape_18 : decode prog_8_method_10_code 18 = .ok (.bipush 19, 2) := by decide +kernel
theorem d_Wr_mustEscape_20 : decode prog_8_method_10_code 20 = .ok (.if_icmp .eq 9, 3) := by decide +kernel
theorem d_Wr_mustEscape_23 : decode prog_8_method_10_code 23 = .ok (.iload_n 0, 1) := by decide +kernel
theorem d_Wr_mustEscape_24 : decode prog_8_method_10_code 24 = .ok (.bipush 24, 2) := by decide +kernel
theorem d_Wr_mustEscape_26 : decode prog_8_method_10_code 26 = .ok (.if_icmp .ne 7, 3) := by decide +kernel
theorem d_Wr_mustEscape_29 : decode prog_8_method_10_code 29 = .ok (.iconst 1, 1) := by decide +kernel
theorem d_Wr_mustEscape_30 : decode prog_8_method_10_code 30 = .ok (.goto 4, 3) := by decide +kernel
theorem d_Wr_mustEscape_33 : decode prog_8_method_10_code 33 = .ok (.iconst 0, 1) := by decide +kernel
theorem d_Wr_mustEscape_34 : decode prog_8_method_10_code 34 = .ok (.ireturn, 1) := by decide +kernel
def rm_Wr_mustEscape : Room := { frames := 0, cells := 0, slots := 0, locals := 0 }
def wp_Wr_mustEscape_L29 (Q : Int32 → UI → UR → Prop) (I : UI) (R : UR) : Prop :=
  (zb 1 ∧ Q 1 I R)
set_option maxHeartbeats 4000000 in
set_option maxRecDepth 100000 in
theorem j_Wr_mustEscape_29 (X : uX p s m args c prog_8_method_10_code 2 "FrameFerry$Writer" D cc L A t16 t32) (hr : meth.sig.returnType = (some .boolean)) (hlk : meth.locks = false) (hsz : sz = s.heap.size) {Q : Int32 → UI → UR → Prop} {I : UI} {R : UR} {H : Heap} {locs : List Loc} {ls : Array Slot} (V : uV s D cc L A J I R H locs) (hl : lv_has ls 2 []) (h : wp_Wr_mustEscape_L29 Q I R) : W p l e rm_Wr_mustEscape s m args below meth c H locs 0 0 (MQ below (va_Qi (fun (r : Int32) (u : UI × UR) => Q r u.1 u.2) (uBv D cc L A J) (uA L A sz)) args s 0 0 (uA L A sz)) (F0 m 29 ls []) := by
  have hx := X.1
  have hb := X.2.1
  unfold wp_Wr_mustEscape_L29 at h
  refine lv_iconst (pc := 29) (v := 1) hx hb d_Wr_mustEscape_29 (by decide) ?_
  refine lv_goto (pc := 30) (tgt := 34) hx hb d_Wr_mustEscape_30 (by decide) ?_
  exact u_retz (pc := 34) X V hr hlk hsz h.1 h.2 d_Wr_mustEscape_34
def wp_Wr_mustEscape (I : UI) (R : UR) (x0 : Int32) (Q : Int32 → UI → UR → Prop) : Prop :=
  ∀ v1 : Int32, v1 = x0 &&& 127 → ((v1 = 16 → wp_Wr_mustEscape_L29 Q I R) ∧ (¬ v1 = 16 → ((v1 = 17 → wp_Wr_mustEscape_L29 Q I R) ∧ (¬ v1 = 17 → ((v1 = 19 → wp_Wr_mustEscape_L29 Q I R) ∧ (¬ v1 = 19 → ((¬ x0 = 24 → (zb 0 ∧ Q 0 I R)) ∧ (x0 = 24 → wp_Wr_mustEscape_L29 Q I R))))))))
set_option maxHeartbeats 4000000 in
set_option maxRecDepth 100000 in
theorem c_Wr_mustEscape (l : Launch) (D : va_G) (cc : Nat → ClassId) (L : List Nat) (A : Nat → Nat) (J : Nat → Int64) (t16 t32 : Nat) (I : UI) (R : UR) (x0 : Int32) (Q : Int32 → UI → UR → Prop) (h : wp_Wr_mustEscape I R x0 Q) : uMi l y_Wr_mustEscape (.code y_Wr_mustEscape prog_8_method_10_code 2 (some .boolean)) rm_Wr_mustEscape [.int x0] D cc L A J t16 t32 I R Q := by
  intro sz
  refine u_entry (by decide) (Nat.le_of_ble_eq_true rfl) (fun p e s m args below meth c hsz X V hr hlk ls hl => ?_)
  have X : uX p s m args c prog_8_method_10_code 2 "FrameFerry$Writer" D cc L A t16 t32 := X
  have hx := X.1
  have hb := X.2.1
  have hl : lv_has ls 2 [(0, .int x0)] := hl
  unfold wp_Wr_mustEscape at h
  generalize hH : s.heap = H at V ⊢
  generalize hlo : ([] : List Loc) = locs at V ⊢
  refine lv_iload_n (pc := 0) hx hb d_Wr_mustEscape_0 rfl (lv_at hl 0 rfl) ?_
  refine lv_bipush (pc := 1) (v := 127) hx hb d_Wr_mustEscape_1 (by decide) ?_
  refine lv_iand (pc := 3) hx hb d_Wr_mustEscape_3 ?_
  refine lv_topi (fun v1 ev1 => ?_)
  have h := h v1 ev1
  refine lv_istore_n (pc := 4) (lv' := [(1, .int v1), (0, .int x0)]) hx hb d_Wr_mustEscape_4 rfl hl (by decide) rfl (fun ls hl => ?_)
  refine lv_iload_n (pc := 5) hx hb d_Wr_mustEscape_5 rfl (lv_at hl 0 rfl) ?_
  refine lv_bipush (pc := 6) (v := 16) hx hb d_Wr_mustEscape_6 (by decide) ?_
  refine lv_icmp_eq (pc := 8) (tgt := 29) hx hb d_Wr_mustEscape_8 (by decide) (fun hc => ?_) (fun hc => ?_)
  · have h := h.1 hc
    exact j_Wr_mustEscape_29 X hr hlk hsz V (lv_sub hl [] rfl) h
  · have h := h.2 hc
    refine lv_iload_n (pc := 11) hx hb d_Wr_mustEscape_11 rfl (lv_at hl 0 rfl) ?_
    refine lv_bipush (pc := 12) (v := 17) hx hb d_Wr_mustEscape_12 (by decide) ?_
    refine lv_icmp_eq (pc := 14) (tgt := 29) hx hb d_Wr_mustEscape_14 (by decide) (fun hc => ?_) (fun hc => ?_)
    · have h := h.1 hc
      exact j_Wr_mustEscape_29 X hr hlk hsz V (lv_sub hl [] rfl) h
    · have h := h.2 hc
      refine lv_iload_n (pc := 17) hx hb d_Wr_mustEscape_17 rfl (lv_at hl 0 rfl) ?_
      refine lv_bipush (pc := 18) (v := 19) hx hb d_Wr_mustEscape_18 (by decide) ?_
      refine lv_icmp_eq (pc := 20) (tgt := 29) hx hb d_Wr_mustEscape_20 (by decide) (fun hc => ?_) (fun hc => ?_)
      · have h := h.1 hc
        exact j_Wr_mustEscape_29 X hr hlk hsz V (lv_sub hl [] rfl) h
      · have h := h.2 hc
        refine lv_iload_n (pc := 23) hx hb d_Wr_mustEscape_23 rfl (lv_at hl 1 rfl) ?_
        refine lv_bipush (pc := 24) (v := 24) hx hb d_Wr_mustEscape_24 (by decide) ?_
        refine lv_icmp_ne (pc := 26) (tgt := 33) hx hb d_Wr_mustEscape_26 (by decide) (fun hc => ?_) (fun hc => ?_)
        · have h := h.1 hc
          refine lv_iconst (pc := 33) (v := 0) hx hb d_Wr_mustEscape_33 (by decide) ?_
          exact u_retz (pc := 34) X V hr hlk hsz h.1 h.2 d_Wr_mustEscape_34
        · have h := h.2 hc
          exact j_Wr_mustEscape_29 X hr hlk hsz V (lv_sub hl [] rfl) h
-- FrameFerry$Writer.addEscaped (LFrameFerry$Pipe;I)V
theorem d_Wr_addEscaped_0 : decode prog_8_method_9_code 0 = .ok (.iload_n 1, 1) := by decide +kernel
theorem d_Wr_addEscaped_1 : decode prog_8_method_9_code 1 = .ok (.invokestatic 52, 3) := by decide +kernel
theorem d_Wr_addEscaped_4 : decode prog_8_method_9_code 4 = .ok (.ifCond .eq 20, 3) := by decide +kernel
theorem d_Wr_addEscaped_7 : decode prog_8_method_9_code 7 = .ok (.aload_n 0, 1) := by decide +kernel
theorem d_Wr_addEscaped_8 : decode prog_8_method_9_code 8 = .ok (.bipush 24, 2) := by decide +kernel
theorem d_Wr_addEscaped_10 : decode prog_8_method_9_code 10 = .ok (.invokevirtual 18, 3) := by decide +kernel
theorem d_Wr_addEscaped_13 : decode prog_8_method_9_code 13 = .ok (.aload_n 0, 1) := by decide +kernel
theorem d_Wr_addEscaped_14 : decode prog_8_method_9_code 14 = .ok (.iload_n 1, 1) := by decide +kernel
theorem d_Wr_addEscaped_15 : decode prog_8_method_9_code 15 = .ok (.bipush 64, 2) := by decide +kernel
theorem d_Wr_addEscaped_17 : decode prog_8_method_9_code 17 = .ok (.ixor, 1) := by decide +kernel
theorem d_Wr_addEscaped_18 : decode prog_8_method_9_code 18 = .ok (.invokevirtual 18, 3) := by decide +kernel
theorem d_Wr_addEscaped_21 : decode prog_8_method_9_code 21 = .ok (.goto 8, 3) := by decide +kernel
theorem d_Wr_addEscaped_24 : decode prog_8_method_9_code 24 = .ok (.aload_n 0, 1) := by decide +kernel
theorem d_Wr_addEscaped_25 : decode prog_8_method_9_code 25 = .ok (.iload_n 1, 1) := by decide +kernel
theorem d_Wr_addEscaped_26 : decode prog_8_method_9_code 26 = .ok (.invokevirtual 18, 3) := by decide +kernel
theorem d_Wr_addEscaped_29 : decode prog_8_method_9_code 29 = .ok (.return_, 1) := by decide +kernel
def rm_Wr_addEscaped : Room := { frames := 1, cells := 0, slots := 0, locals := 21 }
def wp_Wr_addEscaped (I : UI) (R : UR) (q0 : Nat) (x1 : Int32) (Q : UI → UR → Prop) : Prop :=
  wp_Wr_mustEscape I R x1 (fun r3 I1 R2 => ((r3 = 0 → wp_Pi_add I1 R2 q0 x1 (fun I4 R5 => Q I4 R5)) ∧ (¬ r3 = 0 → wp_Pi_add I1 R2 q0 24 (fun I6 R7 => wp_Pi_add I6 R7 q0 (x1 ^^^ 64) (fun I8 R9 => Q I8 R9)))))
set_option maxHeartbeats 4000000 in
set_option maxRecDepth 100000 in
theorem c_Wr_addEscaped (l : Launch) (D : va_G) (cc : Nat → ClassId) (L : List Nat) (A : Nat → Nat) (J : Nat → Int64) (t16 t32 : Nat) (I : UI) (R : UR) (q0 : Nat) (h_q0 : isPi L q0) (x1 : Int32) (Q : UI → UR → Prop) (h : wp_Wr_addEscaped I R q0 x1 Q) : uMv l y_Wr_addEscaped (.code y_Wr_addEscaped prog_8_method_9_code 2 none) rm_Wr_addEscaped [.ref (A q0), .int x1] D cc L A J t16 t32 I R Q := by
  intro sz
  refine u_entry (by decide) (Nat.le_of_ble_eq_true rfl) (fun p e s m args below meth c hsz X V hr hlk ls hl => ?_)
  have X : uX p s m args c prog_8_method_9_code 2 "FrameFerry$Writer" D cc L A t16 t32 := X
  have hx := X.1
  have hb := X.2.1
  have hl : lv_has ls 2 [(0, .ref (A q0)), (1, .int x1)] := hl
  unfold wp_Wr_addEscaped at h
  generalize hH : s.heap = H at V ⊢
  generalize hlo : ([] : List Loc) = locs at V ⊢
  refine lv_iload_n (pc := 0) hx hb d_Wr_addEscaped_0 rfl (lv_at hl 1 rfl) ?_
  refine u_cSi (pc := 1) (As := [.int x1]) X V s_Wr_52 (c_Wr_mustEscape l D cc L A J t16 t32 _ _ x1 _ h) ⟨rfl, rfl, Nat.le_of_ble_eq_true rfl, Nat.le_of_ble_eq_true rfl⟩ rfl hl.1 rfl (Nat.le_of_ble_eq_true rfl) d_Wr_addEscaped_1 ⟨Nat.zero_le _, Nat.zero_le _⟩ (fun r3 I1 R2 h H locs V => ?_)
  refine lv_if_eq (pc := 4) (tgt := 24) hx hb d_Wr_addEscaped_4 (by decide) (fun hc => ?_) (fun hc => ?_)
  · have h := h.1 hc
    refine lv_aload_n (pc := 24) hx hb d_Wr_addEscaped_24 rfl (lv_at hl 0 rfl) ?_
    refine lv_iload_n (pc := 25) hx hb d_Wr_addEscaped_25 rfl (lv_at hl 1 rfl) ?_
    refine u_cVv (pc := 26) (As := [.int x1]) X V s_Wr_18 h_q0.1 h_q0.2.1 rfl rfl (c_Pi_add l D cc L A J t16 t32 _ _ q0 h_q0 x1 _ h) ⟨rfl, rfl, Nat.le_of_ble_eq_true rfl, Nat.le_of_ble_eq_true rfl⟩ rfl hl.1 rfl (Nat.le_of_ble_eq_true rfl) d_Wr_addEscaped_26 ⟨Nat.zero_le _, Nat.zero_le _⟩ (fun I4 R5 h H locs V => ?_)
    exact u_retv (pc := 29) X V hr hlk hsz h d_Wr_addEscaped_29
  · have h := h.2 hc
    refine lv_aload_n (pc := 7) hx hb d_Wr_addEscaped_7 rfl (lv_at hl 0 rfl) ?_
    refine lv_bipush (pc := 8) (v := 24) hx hb d_Wr_addEscaped_8 (by decide) ?_
    refine u_cVv (pc := 10) (As := [.int 24]) X V s_Wr_18 h_q0.1 h_q0.2.1 rfl rfl (c_Pi_add l D cc L A J t16 t32 _ _ q0 h_q0 24 _ h) ⟨rfl, rfl, Nat.le_of_ble_eq_true rfl, Nat.le_of_ble_eq_true rfl⟩ rfl hl.1 rfl (Nat.le_of_ble_eq_true rfl) d_Wr_addEscaped_10 ⟨Nat.zero_le _, Nat.zero_le _⟩ (fun I6 R7 h H locs V => ?_)
    refine lv_aload_n (pc := 13) hx hb d_Wr_addEscaped_13 rfl (lv_at hl 0 rfl) ?_
    refine lv_iload_n (pc := 14) hx hb d_Wr_addEscaped_14 rfl (lv_at hl 1 rfl) ?_
    refine lv_bipush (pc := 15) (v := 64) hx hb d_Wr_addEscaped_15 (by decide) ?_
    refine lv_ixor (pc := 17) hx hb d_Wr_addEscaped_17 ?_
    refine u_cVv (pc := 18) (As := [.int (x1 ^^^ 64)]) X V s_Wr_18 h_q0.1 h_q0.2.1 rfl rfl (c_Pi_add l D cc L A J t16 t32 _ _ q0 h_q0 (x1 ^^^ 64) _ h) ⟨rfl, rfl, Nat.le_of_ble_eq_true rfl, Nat.le_of_ble_eq_true rfl⟩ rfl hl.1 rfl (Nat.le_of_ble_eq_true rfl) d_Wr_addEscaped_18 ⟨Nat.zero_le _, Nat.zero_le _⟩ (fun I8 R9 h H locs V => ?_)
    refine lv_goto (pc := 21) (tgt := 29) hx hb d_Wr_addEscaped_21 (by decide) ?_
    exact u_retv (pc := 29) X V hr hlk hsz h d_Wr_addEscaped_29
-- FrameFerry$Writer.hexHeader (LFrameFerry$Pipe;II)V
theorem d_Wr_hexHeader_0 : decode prog_8_method_2_code 0 = .ok (.aload_n 1, 1) := by decide +kernel
theorem d_Wr_hexHeader_1 : decode prog_8_method_2_code 1 = .ok (.bipush 42, 2) := by decide +kernel
theorem d_Wr_hexHeader_3 : decode prog_8_method_2_code 3 = .ok (.invokevirtual 18, 3) := by decide +kernel
theorem d_Wr_hexHeader_6 : decode prog_8_method_2_code 6 = .ok (.aload_n 1, 1) := by decide +kernel
theorem d_Wr_hexHeader_7 : decode prog_8_method_2_code 7 = .ok (.bipush 42, 2) := by decide +kernel
theorem d_Wr_hexHeader_9 : decode prog_8_method_2_code 9 = .ok (.invokevirtual 18, 3) := by decide +kernel
theorem d_Wr_hexHeader_12 : decode prog_8_method_2_code 12 = .ok (.aload_n 1, 1) := by decide +kernel
theorem d_Wr_hexHeader_13 : decode prog_8_method_2_code 13 = .ok (.bipush 24, 2) := by decide +kernel
theorem d_Wr_hexHeader_15 : decode prog_8_method_2_code 15 = .ok (.invokevirtual 18, 3) := by decide +kernel
theorem d_Wr_hexHeader_18 : decode prog_8_method_2_code 18 = .ok (.aload_n 1, 1) := by decide +kernel
theorem d_Wr_hexHeader_19 : decode prog_8_method_2_code 19 = .ok (.bipush 66, 2) := by decide +kernel
theorem d_Wr_hexHeader_21 : decode prog_8_method_2_code 21 = .ok (.invokevirtual 18, 3) := by decide +kernel
theorem d_Wr_hexHeader_24 : decode prog_8_method_2_code 24 = .ok (.aload_n 0, 1) := by decide +kernel
theorem d_Wr_hexHeader_25 : decode prog_8_method_2_code 25 = .ok (.getfield 12, 3) := by decide +kernel
theorem d_Wr_hexHeader_28 : decode prog_8_method_2_code 28 = .ok (.iconst 0, 1) := by decide +kernel
theorem d_Wr_hexHeader_29 : decode prog_8_method_2_code 29 = .ok (.invokevirtual 24, 3) := by decide +kernel
theorem d_Wr_hexHeader_32 : decode prog_8_method_2_code 32 = .ok (.iconst 0, 1) := by decide +kernel
theorem d_Wr_hexHeader_33 : decode prog_8_method_2_code 33 = .ok (.istore 4, 2) := by decide +kernel
theorem d_Wr_hexHeader_35 : decode prog_8_method_2_code 35 = .ok (.iload 4, 2) := by decide +kernel
theorem d_Wr_hexHeader_37 : decode prog_8_method_2_code 37 = .ok (.iconst 5, 1) := by decide +kernel
theorem d_Wr_hexHeader_38 : decode prog_8_method_2_code 38 = .ok (.if_icmp .ge 23, 3) := by decide +kernel
theorem d_Wr_hexHeader_41 : decode prog_8_method_2_code 41 = .ok (.aload_n 0, 1) := by decide +kernel
theorem d_Wr_hexHeader_42 : decode prog_8_method_2_code 42 = .ok (.getfield 12, 3) := by decide +kernel
theorem d_Wr_hexHeader_45 : decode prog_8_method_2_code 45 = .ok (.iload_n 2, 1) := by decide +kernel
theorem d_Wr_hexHeader_46 : decode prog_8_method_2_code 46 = .ok (.iload_n 3, 1) := by decide +kernel
theorem d_Wr_hexHeader_47 : decode prog_8_method_2_code 47 = .ok (.iload 4, 2) := by decide +kernel
theorem d_Wr_hexHeader_49 : decode prog_8_method_2_code 49 = .ok (.invokestatic 28, 3) := by decide +kernel
theorem d_Wr_hexHeader_52 : decode prog_8_method_2_code 52 = .ok (.invokevirtual 32, 3) := by decide +kernel
theorem d_Wr_hexHeader_55 : decode prog_8_method_2_code 55 = .ok (.iinc 4 1, 3) := by decide +kernel
theorem d_Wr_hexHeader_58 : decode prog_8_method_2_code 58 = .ok (.goto (-23), 3) := by decide +kernel
theorem d_Wr_hexHeader_61 : decode prog_8_method_2_code 61 = .ok (.iconst 0, 1) := by decide +kernel
theorem d_Wr_hexHeader_62 : decode prog_8_method_2_code 62 = .ok (.istore 4, 2) := by decide +kernel
theorem d_Wr_hexHeader_64 : decode prog_8_method_2_code 64 = .ok (.iload 4, 2) := by decide +kernel
theorem d_Wr_hexHeader_66 : decode prog_8_method_2_code 66 = .ok (.iconst 5, 1) := by decide +kernel
theorem d_Wr_hexHeader_67 : decode prog_8_method_2_code 67 = .ok (.aload_n 0, 1) := by decide +kernel
theorem d_Wr_hexHeader_68 : decode prog_8_method_2_code 68 = .ok (.getfield 12, 3) := by decide +kernel
theorem d_Wr_hexHeader_71 : decode prog_8_method_2_code 71 = .ok (.invokevirtual 33, 3) := by decide +kernel
theorem d_Wr_hexHeader_74 : decode prog_8_method_2_code 74 = .ok (.iadd, 1) := by decide +kernel
theorem d_Wr_hexHeader_75 : decode prog_8_method_2_code 75 = .ok (.if_icmp .ge 61, 3) := by decide +kernel
theorem d_Wr_hexHeader_78 : decode prog_8_method_2_code 78 = .ok (.iload 4, 2) := by decide +kernel
theorem d_Wr_hexHeader_80 : decode prog_8_method_2_code 80 = .ok (.iconst 5, 1) := by decide +kernel
theorem d_Wr_hexHeader_81 : decode prog_8_method_2_code 81 = .ok (.if_icmp .ge 13, 3) := by decide +kernel
theorem d_Wr_hexHeader_84 : decode prog_8_method_2_code 84 = .ok (.iload_n 2, 1) := by decide +kernel
theorem d_Wr_hexHeader_85 : decode prog_8_method_2_code 85 = .ok (.iload_n 3, 1) := by decide +kernel
theorem d_Wr_hexHeader_86 : decode prog_8_method_2_code 86 = .ok (.iload 4, 2) := by decide +kernel
theorem d_Wr_hexHeader_88 : decode prog_8_method_2_code 88 = .ok (.invokestatic 28, 3) := by decide +kernel
theorem d_Wr_hexHeader_91 : decode prog_8_method_2_code 91 = .ok (.goto 14, 3) := by decide +kernel
theorem d_Wr_hexHeader_94 : decode prog_8_method_2_code 94 = .ok (.aload_n 0, 1) := by decide +kernel
theorem d_Wr_hexHeader_95 : decode prog_8_method_2_code 95 = .ok (.getfield 12, 3) := by decide +kernel
theorem d_Wr_hexHeader_98 : decode prog_8_method_2_code 98 = .ok (.iload 4, 2) := by decide +kernel
theorem d_Wr_hexHeader_100 : decode prog_8_method_2_code 100 = .ok (.iconst 5, 1) := by decide +kernel
theorem d_Wr_hexHeader_101 : decode prog_8_method_2_code 101 = .ok (.isub, 1) := by decide +kernel
theorem d_Wr_hexHeader_102 : decode prog_8_method_2_code 102 = .ok (.invokevirtual 37, 3) := by decide +kernel
theorem d_Wr_hexHeader_105 : decode prog_8_method_2_code 105 = .ok (.istore 5, 2) := by decide +kernel
theorem d_Wr_hexHeader_107 : decode prog_8_method_2_code 107 = .ok (.aload_n 1, 1) := by decide +kernel
theorem d_Wr_hexHeader_108 : decode prog_8_method_2_code 108 = .ok (.iload 5, 2) := by decide +kernel
theorem d_Wr_hexHeader_110 : decode prog_8_method_2_code 110 = .ok (.iconst 4, 1) := by decide +kernel
theorem d_Wr_hexHeader_111 : decode prog_8_method_2_code 111 = .ok (.iushr, 1) := by decide +kernel
theorem d_Wr_hexHeader_112 : decode prog_8_method_2_code 112 = .ok (.invokestatic 41, 3) := by decide +kernel
theorem d_Wr_hexHeader_115 : decode prog_8_method_2_code 115 = .ok (.invokevirtual 18, 3) := by decide +kernel
theorem d_Wr_hexHeader_118 : decode prog_8_method_2_code 118 = .ok (.aload_n 1, 1) := by decide +kernel
theorem d_Wr_hexHeader_119 : decode prog_8_method_2_code 119 = .ok (.iload 5, 2) := by decide +kernel
theorem d_Wr_hexHeader_121 : decode prog_8_method_2_code 121 = .ok (.bipush 15, 2) := by decide +kernel
theorem d_Wr_hexHeader_123 : decode prog_8_method_2_code 123 = .ok (.iand, 1) := by decide +kernel
theorem d_Wr_hexHeader_124 : decode prog_8_method_2_code 124 = .ok (.invokestatic 41, 3) := by decide +kernel
theorem d_Wr_hexHeader_127 : decode prog_8_method_2_code 127 = .ok (.invokevirtual 18, 3) := by decide +kernel
theorem d_Wr_hexHeader_130 : decode prog_8_method_2_code 130 = .ok (.iinc 4 1, 3) := by decide +kernel
theorem d_Wr_hexHeader_133 : decode prog_8_method_2_code 133 = .ok (.goto (-69), 3) := by decide +kernel
theorem d_Wr_hexHeader_136 : decode prog_8_method_2_code 136 = .ok (.aload_n 1, 1) := by decide +kernel
theorem d_Wr_hexHeader_137 : decode prog_8_method_2_code 137 = .ok (.bipush 13, 2) := by decide +kernel
theorem d_Wr_hexHeader_139 : decode prog_8_method_2_code 139 = .ok (.invokevirtual 18, 3) := by decide +kernel
theorem d_Wr_hexHeader_142 : decode prog_8_method_2_code 142 = .ok (.aload_n 1, 1) := by decide +kernel
theorem d_Wr_hexHeader_143 : decode prog_8_method_2_code 143 = .ok (.bipush 10, 2) := by decide +kernel
theorem d_Wr_hexHeader_145 : decode prog_8_method_2_code 145 = .ok (.invokevirtual 18, 3) := by decide +kernel
theorem d_Wr_hexHeader_148 : decode prog_8_method_2_code 148 = .ok (.return_, 1) := by decide +kernel
def rm_Wr_hexHeader : Room := { frames := 1, cells := 0, slots := 0, locals := 22 }
def wp_Wr_hexHeader_L105 (o : Nat) (q1 : Nat) (Q : UI → UR → Prop) (K64 : UI → UR → Int32 → Int32 → Int32 → Prop) (I : UI) (R : UR) (x2 : Int32) (x3 : Int32) (x4 : Int32) (s0 : Int32) : Prop :=
  wp_Wr_digit I R (ush s0 4) (fun r23 I21 R22 => wp_Pi_add I21 R22 q1 r23 (fun I24 R25 => wp_Wr_digit I24 R25 (s0 &&& 15) (fun r28 I26 R27 => wp_Pi_add I26 R27 q1 r28 (fun I29 R30 => ∀ v31 : Int32, v31 = x4 + 1 → K64 I29 R30 x2 x3 v31))))
set_option maxHeartbeats 4000000 in
set_option maxRecDepth 100000 in
theorem j_Wr_hexHeader_105 (X : uX p s m args c prog_8_method_2_code 6 "FrameFerry$Writer" D cc L A t16 t32) (hr : meth.sig.returnType = none) (hlk : meth.locks = false) (hsz : sz = s.heap.size) {o : Nat} (h_o : isWr L o) {q1 : Nat} (h_q1 : isPi L q1) {Q : UI → UR → Prop} {K64 : UI → UR → Int32 → Int32 → Int32 → Prop} (hK64 : ∀ (I : UI) (R : UR) (x2 : Int32) (x3 : Int32) (x4 : Int32) (H : Heap) (locs : List Loc) (ls : Array Slot), uV s D cc L A J I R H locs → lv_has ls 6 [(0, .ref (A o)), (1, .ref (A q1)), (2, .int x2), (3, .int x3), (4, .int x4)] → K64 I R x2 x3 x4 → W p l e rm_Wr_hexHeader s m args below meth c H locs 0 0 (MQ below (va_Qv (fun u : UI × UR => Q u.1 u.2) (uBv D cc L A J) (uA L A sz)) args s 0 0 (uA L A sz)) (F0 m 64 ls [])) {I : UI} {R : UR} {x2 : Int32} {x3 : Int32} {x4 : Int32} {s0 : Int32} {H : Heap} {locs : List Loc} {ls : Array Slot} (V : uV s D cc L A J I R H locs) (hl : lv_has ls 6 [(0, .ref (A o)), (1, .ref (A q1)), (2, .int x2), (3, .int x3), (4, .int x4)]) (h : wp_Wr_hexHeader_L105 o q1 Q K64 I R x2 x3 x4 s0) : W p l e rm_Wr_hexHeader s m args below meth c H locs 0 0 (MQ below (va_Qv (fun u : UI × UR => Q u.1 u.2) (uBv D cc L A J) (uA L A sz)) args s 0 0 (uA L A sz)) (F0 m 105 ls [.int s0]) := by
  have hx := X.1
  have hb := X.2.1
  unfold wp_Wr_hexHeader_L105 at h
  refine lv_istore (pc := 105) (lv' := [(5, .int s0), (0, .ref (A o)), (1, .ref (A q1)), (2, .int x2), (3, .int x3), (4, .int x4)]) hx hb d_Wr_hexHeader_105 hl (by decide) rfl (fun ls hl => ?_)
  refine lv_aload_n (pc := 107) hx hb d_Wr_hexHeader_107 rfl (lv_at hl 2 rfl) ?_
  refine lv_iload (pc := 108) hx hb d_Wr_hexHeader_108 (lv_at hl 0 rfl) ?_
  refine lv_iconst (pc := 110) (v := 4) hx hb d_Wr_hexHeader_110 (by decide) ?_
  refine lv_iushr (pc := 111) (v := ush s0 4) hx hb d_Wr_hexHeader_111 rfl ?_
  refine u_cSi (pc := 112) (As := [.int (ush s0 4)]) X V s_Wr_41 (c_Wr_digit l D cc L A J t16 t32 _ _ (ush s0 4) _ h) ⟨rfl, rfl, Nat.le_of_ble_eq_true rfl, Nat.le_of_ble_eq_true rfl⟩ rfl hl.1 rfl (Nat.le_of_ble_eq_true rfl) d_Wr_hexHeader_112 ⟨Nat.zero_le _, Nat.zero_le _⟩ (fun r23 I21 R22 h H locs V => ?_)
  refine u_cVv (pc := 115) (As := [.int r23]) X V s_Wr_18 h_q1.1 h_q1.2.1 rfl rfl (c_Pi_add l D cc L A J t16 t32 _ _ q1 h_q1 r23 _ h) ⟨rfl, rfl, Nat.le_of_ble_eq_true rfl, Nat.le_of_ble_eq_true rfl⟩ rfl hl.1 rfl (Nat.le_of_ble_eq_true rfl) d_Wr_hexHeader_115 ⟨Nat.zero_le _, Nat.zero_le _⟩ (fun I24 R25 h H locs V => ?_)
  refine lv_aload_n (pc := 118) hx hb d_Wr_hexHeader_118 rfl (lv_at hl 2 rfl) ?_
  refine lv_iload (pc := 119) hx hb d_Wr_hexHeader_119 (lv_at hl 0 rfl) ?_
  refine lv_bipush (pc := 121) (v := 15) hx hb d_Wr_hexHeader_121 (by decide) ?_
  refine lv_iand (pc := 123) hx hb d_Wr_hexHeader_123 ?_
  refine u_cSi (pc := 124) (As := [.int (s0 &&& 15)]) X V s_Wr_41 (c_Wr_digit l D cc L A J t16 t32 _ _ (s0 &&& 15) _ h) ⟨rfl, rfl, Nat.le_of_ble_eq_true rfl, Nat.le_of_ble_eq_true rfl⟩ rfl hl.1 rfl (Nat.le_of_ble_eq_true rfl) d_Wr_hexHeader_124 ⟨Nat.zero_le _, Nat.zero_le _⟩ (fun r28 I26 R27 h H locs V => ?_)
  refine u_cVv (pc := 127) (As := [.int r28]) X V s_Wr_18 h_q1.1 h_q1.2.1 rfl rfl (c_Pi_add l D cc L A J t16 t32 _ _ q1 h_q1 r28 _ h) ⟨rfl, rfl, Nat.le_of_ble_eq_true rfl, Nat.le_of_ble_eq_true rfl⟩ rfl hl.1 rfl (Nat.le_of_ble_eq_true rfl) d_Wr_hexHeader_127 ⟨Nat.zero_le _, Nat.zero_le _⟩ (fun I29 R30 h H locs V => ?_)
  obtain ⟨v31, ev31⟩ : ∃ z : Int32, z = x4 + 1 := ⟨_, rfl⟩
  have h := h v31 ev31
  refine lv_iinc (pc := 130) (k := 5) (v := v31) (lv' := [(4, .int v31), (5, .int s0), (0, .ref (A o)), (1, .ref (A q1)), (2, .int x2), (3, .int x3)]) hx hb d_Wr_hexHeader_130 hl rfl (by rw [ev31]; rfl) (by decide) rfl (fun ls hl => ?_)
  refine lv_goto (pc := 133) (tgt := 64) hx hb d_Wr_hexHeader_133 (by decide) ?_
  exact hK64 I29 R30 x2 x3 v31 H locs ls V (lv_sub hl [2, 3, 4, 5, 0] rfl) h
def wp_Wr_hexHeader_L64 (o : Nat) (q1 : Nat) (Q : UI → UR → Prop) : Nat → UI → UR → Int32 → Int32 → Int32 → Prop
  | 0, _, _, _, _, _ => False
  | n + 1, I, R, x2, x3, x4 => wp_Ck_size I R (o + 1) (fun r13 I11 R12 => ((5 + r13 ≤ x4 → wp_Pi_add I11 R12 q1 13 (fun I14 R15 => wp_Pi_add I14 R15 q1 10 (fun I16 R17 => Q I16 R17))) ∧ (¬ 5 + r13 ≤ x4 → ((5 ≤ x4 → wp_Ck_part I11 R12 (o + 1) (x4 - 5) (fun r20 I18 R19 => wp_Wr_hexHeader_L105 o q1 Q (fun I R x2 x3 x4 => wp_Wr_hexHeader_L64 o q1 Q n I R x2 x3 x4) I18 R19 x2 x3 x4 r20)) ∧ (¬ 5 ≤ x4 → wp_Wr_headerByte I11 R12 x2 x3 x4 (fun r34 I32 R33 => wp_Wr_hexHeader_L105 o q1 Q (fun I R x2 x3 x4 => wp_Wr_hexHeader_L64 o q1 Q n I R x2 x3 x4) I32 R33 x2 x3 x4 r34))))))
set_option maxHeartbeats 4000000 in
set_option maxRecDepth 100000 in
theorem j_Wr_hexHeader_64 (X : uX p s m args c prog_8_method_2_code 6 "FrameFerry$Writer" D cc L A t16 t32) (hr : meth.sig.returnType = none) (hlk : meth.locks = false) (hsz : sz = s.heap.size) {o : Nat} (h_o : isWr L o) {q1 : Nat} (h_q1 : isPi L q1) {Q : UI → UR → Prop} : ∀ (n : Nat) (I : UI) (R : UR) (x2 : Int32) (x3 : Int32) (x4 : Int32) (H : Heap) (locs : List Loc) (ls : Array Slot), uV s D cc L A J I R H locs → lv_has ls 6 [(0, .ref (A o)), (1, .ref (A q1)), (2, .int x2), (3, .int x3), (4, .int x4)] → wp_Wr_hexHeader_L64 o q1 Q n I R x2 x3 x4 → W p l e rm_Wr_hexHeader s m args below meth c H locs 0 0 (MQ below (va_Qv (fun u : UI × UR => Q u.1 u.2) (uBv D cc L A J) (uA L A sz)) args s 0 0 (uA L A sz)) (F0 m 64 ls []) := by
  intro n
  induction n with
  | zero => exact fun I R x2 x3 x4 H locs ls V hl h => False.elim h
  | succ n ih =>
    intro I R x2 x3 x4 H locs ls V hl h
    have hx := X.1
    have hb := X.2.1
    rw [wp_Wr_hexHeader_L64] at h
    refine lv_iload (pc := 64) hx hb d_Wr_hexHeader_64 (lv_at hl 4 rfl) ?_
    refine lv_iconst (pc := 66) (v := 5) hx hb d_Wr_hexHeader_66 (by decide) ?_
    refine lv_aload_n (pc := 67) hx hb d_Wr_hexHeader_67 rfl (lv_at hl 0 rfl) ?_
    refine u_getr (pc := 68) (o' := (o + 1)) X V h_o.1 h_o.2.1 rfl f_Wr_12 rfl rfl d_Wr_hexHeader_68 ?_
    refine u_cVi (pc := 71) (As := []) X V s_Wr_33 h_o.2.2.1 h_o.2.2.2 rfl rfl (c_Ck_size l D cc L A J t16 t32 _ _ (o + 1) ⟨h_o.2.2.1, h_o.2.2.2⟩ _ h) ⟨rfl, rfl, Nat.le_of_ble_eq_true rfl, Nat.le_of_ble_eq_true rfl⟩ rfl hl.1 rfl (Nat.le_of_ble_eq_true rfl) d_Wr_hexHeader_71 ⟨Nat.zero_le _, Nat.zero_le _⟩ (fun r13 I11 R12 h H locs V => ?_)
    refine lv_iadd (pc := 74) hx hb d_Wr_hexHeader_74 ?_
    refine lv_icmp_ge (pc := 75) (tgt := 136) hx hb d_Wr_hexHeader_75 (by decide) (fun hc => ?_) (fun hc => ?_)
    · have h := h.1 hc
      refine lv_aload_n (pc := 136) hx hb d_Wr_hexHeader_136 rfl (lv_at hl 1 rfl) ?_
      refine lv_bipush (pc := 137) (v := 13) hx hb d_Wr_hexHeader_137 (by decide) ?_
      refine u_cVv (pc := 139) (As := [.int 13]) X V s_Wr_18 h_q1.1 h_q1.2.1 rfl rfl (c_Pi_add l D cc L A J t16 t32 _ _ q1 h_q1 13 _ h) ⟨rfl, rfl, Nat.le_of_ble_eq_true rfl, Nat.le_of_ble_eq_true rfl⟩ rfl hl.1 rfl (Nat.le_of_ble_eq_true rfl) d_Wr_hexHeader_139 ⟨Nat.zero_le _, Nat.zero_le _⟩ (fun I14 R15 h H locs V => ?_)
      refine lv_aload_n (pc := 142) hx hb d_Wr_hexHeader_142 rfl (lv_at hl 1 rfl) ?_
      refine lv_bipush (pc := 143) (v := 10) hx hb d_Wr_hexHeader_143 (by decide) ?_
      refine u_cVv (pc := 145) (As := [.int 10]) X V s_Wr_18 h_q1.1 h_q1.2.1 rfl rfl (c_Pi_add l D cc L A J t16 t32 _ _ q1 h_q1 10 _ h) ⟨rfl, rfl, Nat.le_of_ble_eq_true rfl, Nat.le_of_ble_eq_true rfl⟩ rfl hl.1 rfl (Nat.le_of_ble_eq_true rfl) d_Wr_hexHeader_145 ⟨Nat.zero_le _, Nat.zero_le _⟩ (fun I16 R17 h H locs V => ?_)
      exact u_retv (pc := 148) X V hr hlk hsz h d_Wr_hexHeader_148
    · have h := h.2 hc
      refine lv_iload (pc := 78) hx hb d_Wr_hexHeader_78 (lv_at hl 4 rfl) ?_
      refine lv_iconst (pc := 80) (v := 5) hx hb d_Wr_hexHeader_80 (by decide) ?_
      refine lv_icmp_ge (pc := 81) (tgt := 94) hx hb d_Wr_hexHeader_81 (by decide) (fun hc => ?_) (fun hc => ?_)
      · have h := h.1 hc
        refine lv_aload_n (pc := 94) hx hb d_Wr_hexHeader_94 rfl (lv_at hl 0 rfl) ?_
        refine u_getr (pc := 95) (o' := (o + 1)) X V h_o.1 h_o.2.1 rfl f_Wr_12 rfl rfl d_Wr_hexHeader_95 ?_
        refine lv_iload (pc := 98) hx hb d_Wr_hexHeader_98 (lv_at hl 4 rfl) ?_
        refine lv_iconst (pc := 100) (v := 5) hx hb d_Wr_hexHeader_100 (by decide) ?_
        refine lv_isub (pc := 101) hx hb d_Wr_hexHeader_101 ?_
        refine u_cVi (pc := 102) (As := [.int (x4 - 5)]) X V s_Wr_37 h_o.2.2.1 h_o.2.2.2 rfl rfl (c_Ck_part l D cc L A J t16 t32 _ _ (o + 1) ⟨h_o.2.2.1, h_o.2.2.2⟩ (x4 - 5) _ h) ⟨rfl, rfl, Nat.le_of_ble_eq_true rfl, Nat.le_of_ble_eq_true rfl⟩ rfl hl.1 rfl (Nat.le_of_ble_eq_true rfl) d_Wr_hexHeader_102 ⟨Nat.zero_le _, Nat.zero_le _⟩ (fun r20 I18 R19 h H locs V => ?_)
        exact j_Wr_hexHeader_105 X hr hlk hsz h_o h_q1 ih V (lv_sub hl [0, 1, 2, 3, 4] rfl) h
      · have h := h.2 hc
        refine lv_iload_n (pc := 84) hx hb d_Wr_hexHeader_84 rfl (lv_at hl 2 rfl) ?_
        refine lv_iload_n (pc := 85) hx hb d_Wr_hexHeader_85 rfl (lv_at hl 3 rfl) ?_
        refine lv_iload (pc := 86) hx hb d_Wr_hexHeader_86 (lv_at hl 4 rfl) ?_
        refine u_cSi (pc := 88) (As := [.int x2, .int x3, .int x4]) X V s_Wr_28 (c_Wr_headerByte l D cc L A J t16 t32 _ _ x2 x3 x4 _ h) ⟨rfl, rfl, Nat.le_of_ble_eq_true rfl, Nat.le_of_ble_eq_true rfl⟩ rfl hl.1 rfl (Nat.le_of_ble_eq_true rfl) d_Wr_hexHeader_88 ⟨Nat.zero_le _, Nat.zero_le _⟩ (fun r34 I32 R33 h H locs V => ?_)
        refine lv_goto (pc := 91) (tgt := 105) hx hb d_Wr_hexHeader_91 (by decide) ?_
        exact j_Wr_hexHeader_105 X hr hlk hsz h_o h_q1 ih V (lv_sub hl [0, 1, 2, 3, 4] rfl) h
def wp_Wr_hexHeader_L35 (o : Nat) (q1 : Nat) (Q : UI → UR → Prop) : Nat → UI → UR → Int32 → Int32 → Int32 → Prop
  | 0, _, _, _, _, _ => False
  | n + 1, I, R, x2, x3, x4 => ((5 ≤ x4 → (∃ n64 : Nat, wp_Wr_hexHeader_L64 o q1 Q n64 I R x2 x3 0)) ∧ (¬ 5 ≤ x4 → wp_Wr_headerByte I R x2 x3 x4 (fun r37 I35 R36 => wp_Ck_add I35 R36 (o + 1) r37 (fun I38 R39 => ∀ v40 : Int32, v40 = x4 + 1 → wp_Wr_hexHeader_L35 o q1 Q n I38 R39 x2 x3 v40))))
set_option maxHeartbeats 4000000 in
set_option maxRecDepth 100000 in
theorem j_Wr_hexHeader_35 (X : uX p s m args c prog_8_method_2_code 6 "FrameFerry$Writer" D cc L A t16 t32) (hr : meth.sig.returnType = none) (hlk : meth.locks = false) (hsz : sz = s.heap.size) {o : Nat} (h_o : isWr L o) {q1 : Nat} (h_q1 : isPi L q1) {Q : UI → UR → Prop} : ∀ (n : Nat) (I : UI) (R : UR) (x2 : Int32) (x3 : Int32) (x4 : Int32) (H : Heap) (locs : List Loc) (ls : Array Slot), uV s D cc L A J I R H locs → lv_has ls 6 [(0, .ref (A o)), (1, .ref (A q1)), (2, .int x2), (3, .int x3), (4, .int x4)] → wp_Wr_hexHeader_L35 o q1 Q n I R x2 x3 x4 → W p l e rm_Wr_hexHeader s m args below meth c H locs 0 0 (MQ below (va_Qv (fun u : UI × UR => Q u.1 u.2) (uBv D cc L A J) (uA L A sz)) args s 0 0 (uA L A sz)) (F0 m 35 ls []) := by
  intro n
  induction n with
  | zero => exact fun I R x2 x3 x4 H locs ls V hl h => False.elim h
  | succ n ih =>
    intro I R x2 x3 x4 H locs ls V hl h
    have hx := X.1
    have hb := X.2.1
    rw [wp_Wr_hexHeader_L35] at h
    refine lv_iload (pc := 35) hx hb d_Wr_hexHeader_35 (lv_at hl 4 rfl) ?_
    refine lv_iconst (pc := 37) (v := 5) hx hb d_Wr_hexHeader_37 (by decide) ?_
    refine lv_icmp_ge (pc := 38) (tgt := 61) hx hb d_Wr_hexHeader_38 (by decide) (fun hc => ?_) (fun hc => ?_)
    · have h := h.1 hc
      refine lv_iconst (pc := 61) (v := 0) hx hb d_Wr_hexHeader_61 (by decide) ?_
      refine lv_istore (pc := 62) (lv' := [(4, .int 0), (0, .ref (A o)), (1, .ref (A q1)), (2, .int x2), (3, .int x3)]) hx hb d_Wr_hexHeader_62 hl (by decide) rfl (fun ls hl => ?_)
      obtain ⟨n64, h⟩ := h
      exact j_Wr_hexHeader_64 X hr hlk hsz h_o h_q1 n64 I R x2 x3 0 H locs ls V (lv_sub hl [1, 2, 3, 4, 0] rfl) h
    · have h := h.2 hc
      refine lv_aload_n (pc := 41) hx hb d_Wr_hexHeader_41 rfl (lv_at hl 0 rfl) ?_
      refine u_getr (pc := 42) (o' := (o + 1)) X V h_o.1 h_o.2.1 rfl f_Wr_12 rfl rfl d_Wr_hexHeader_42 ?_
      refine lv_iload_n (pc := 45) hx hb d_Wr_hexHeader_45 rfl (lv_at hl 2 rfl) ?_
      refine lv_iload_n (pc := 46) hx hb d_Wr_hexHeader_46 rfl (lv_at hl 3 rfl) ?_
      refine lv_iload (pc := 47) hx hb d_Wr_hexHeader_47 (lv_at hl 4 rfl) ?_
      refine u_cSi (pc := 49) (As := [.int x2, .int x3, .int x4]) X V s_Wr_28 (c_Wr_headerByte l D cc L A J t16 t32 _ _ x2 x3 x4 _ h) ⟨rfl, rfl, Nat.le_of_ble_eq_true rfl, Nat.le_of_ble_eq_true rfl⟩ rfl hl.1 rfl (Nat.le_of_ble_eq_true rfl) d_Wr_hexHeader_49 ⟨Nat.zero_le _, Nat.zero_le _⟩ (fun r37 I35 R36 h H locs V => ?_)
      refine u_cVv (pc := 52) (As := [.int r37]) X V s_Wr_32 h_o.2.2.1 h_o.2.2.2 rfl rfl (c_Ck_add l D cc L A J t16 t32 _ _ (o + 1) ⟨h_o.2.2.1, h_o.2.2.2⟩ r37 _ h) ⟨rfl, rfl, Nat.le_of_ble_eq_true rfl, Nat.le_of_ble_eq_true rfl⟩ rfl hl.1 rfl (Nat.le_of_ble_eq_true rfl) d_Wr_hexHeader_52 ⟨Nat.zero_le _, Nat.zero_le _⟩ (fun I38 R39 h H locs V => ?_)
      obtain ⟨v40, ev40⟩ : ∃ z : Int32, z = x4 + 1 := ⟨_, rfl⟩
      have h := h v40 ev40
      refine lv_iinc (pc := 55) (k := 4) (v := v40) (lv' := [(4, .int v40), (0, .ref (A o)), (1, .ref (A q1)), (2, .int x2), (3, .int x3)]) hx hb d_Wr_hexHeader_55 hl rfl (by rw [ev40]; rfl) (by decide) rfl (fun ls hl => ?_)
      refine lv_goto (pc := 58) (tgt := 35) hx hb d_Wr_hexHeader_58 (by decide) ?_
      exact ih I38 R39 x2 x3 v40 H locs ls V (lv_sub hl [1, 2, 3, 4, 0] rfl) h
def wp_Wr_hexHeader (I : UI) (R : UR) (o : Nat) (q1 : Nat) (x2 : Int32) (x3 : Int32) (Q : UI → UR → Prop) : Prop :=
  wp_Pi_add I R q1 42 (fun I1 R2 => wp_Pi_add I1 R2 q1 42 (fun I3 R4 => wp_Pi_add I3 R4 q1 24 (fun I5 R6 => wp_Pi_add I5 R6 q1 66 (fun I7 R8 => wp_Ck_begin I7 R8 (o + 1) 0 (fun I9 R10 => (∃ n35 : Nat, wp_Wr_hexHeader_L35 o q1 Q n35 I9 R10 x2 x3 0))))))
set_option maxHeartbeats 4000000 in
set_option maxRecDepth 100000 in
theorem c_Wr_hexHeader (l : Launch) (D : va_G) (cc : Nat → ClassId) (L : List Nat) (A : Nat → Nat) (J : Nat → Int64) (t16 t32 : Nat) (I : UI) (R : UR) (o : Nat) (h_o : isWr L o) (q1 : Nat) (h_q1 : isPi L q1) (x2 : Int32) (x3 : Int32) (Q : UI → UR → Prop) (h : wp_Wr_hexHeader I R o q1 x2 x3 Q) : uMv l y_Wr_hexHeader (.code y_Wr_hexHeader prog_8_method_2_code 6 none) rm_Wr_hexHeader [.ref (A o), .ref (A q1), .int x2, .int x3] D cc L A J t16 t32 I R Q := by
  intro sz
  refine u_entry (by decide) (Nat.le_of_ble_eq_true rfl) (fun p e s m args below meth c hsz X V hr hlk ls hl => ?_)
  have X : uX p s m args c prog_8_method_2_code 6 "FrameFerry$Writer" D cc L A t16 t32 := X
  have hx := X.1
  have hb := X.2.1
  have hl : lv_has ls 6 [(0, .ref (A o)), (1, .ref (A q1)), (2, .int x2), (3, .int x3)] := hl
  unfold wp_Wr_hexHeader at h
  generalize hH : s.heap = H at V ⊢
  generalize hlo : ([] : List Loc) = locs at V ⊢
  refine lv_aload_n (pc := 0) hx hb d_Wr_hexHeader_0 rfl (lv_at hl 1 rfl) ?_
  refine lv_bipush (pc := 1) (v := 42) hx hb d_Wr_hexHeader_1 (by decide) ?_
  refine u_cVv (pc := 3) (As := [.int 42]) X V s_Wr_18 h_q1.1 h_q1.2.1 rfl rfl (c_Pi_add l D cc L A J t16 t32 _ _ q1 h_q1 42 _ h) ⟨rfl, rfl, Nat.le_of_ble_eq_true rfl, Nat.le_of_ble_eq_true rfl⟩ rfl hl.1 rfl (Nat.le_of_ble_eq_true rfl) d_Wr_hexHeader_3 ⟨Nat.zero_le _, Nat.zero_le _⟩ (fun I1 R2 h H locs V => ?_)
  refine lv_aload_n (pc := 6) hx hb d_Wr_hexHeader_6 rfl (lv_at hl 1 rfl) ?_
  refine lv_bipush (pc := 7) (v := 42) hx hb d_Wr_hexHeader_7 (by decide) ?_
  refine u_cVv (pc := 9) (As := [.int 42]) X V s_Wr_18 h_q1.1 h_q1.2.1 rfl rfl (c_Pi_add l D cc L A J t16 t32 _ _ q1 h_q1 42 _ h) ⟨rfl, rfl, Nat.le_of_ble_eq_true rfl, Nat.le_of_ble_eq_true rfl⟩ rfl hl.1 rfl (Nat.le_of_ble_eq_true rfl) d_Wr_hexHeader_9 ⟨Nat.zero_le _, Nat.zero_le _⟩ (fun I3 R4 h H locs V => ?_)
  refine lv_aload_n (pc := 12) hx hb d_Wr_hexHeader_12 rfl (lv_at hl 1 rfl) ?_
  refine lv_bipush (pc := 13) (v := 24) hx hb d_Wr_hexHeader_13 (by decide) ?_
  refine u_cVv (pc := 15) (As := [.int 24]) X V s_Wr_18 h_q1.1 h_q1.2.1 rfl rfl (c_Pi_add l D cc L A J t16 t32 _ _ q1 h_q1 24 _ h) ⟨rfl, rfl, Nat.le_of_ble_eq_true rfl, Nat.le_of_ble_eq_true rfl⟩ rfl hl.1 rfl (Nat.le_of_ble_eq_true rfl) d_Wr_hexHeader_15 ⟨Nat.zero_le _, Nat.zero_le _⟩ (fun I5 R6 h H locs V => ?_)
  refine lv_aload_n (pc := 18) hx hb d_Wr_hexHeader_18 rfl (lv_at hl 1 rfl) ?_
  refine lv_bipush (pc := 19) (v := 66) hx hb d_Wr_hexHeader_19 (by decide) ?_
  refine u_cVv (pc := 21) (As := [.int 66]) X V s_Wr_18 h_q1.1 h_q1.2.1 rfl rfl (c_Pi_add l D cc L A J t16 t32 _ _ q1 h_q1 66 _ h) ⟨rfl, rfl, Nat.le_of_ble_eq_true rfl, Nat.le_of_ble_eq_true rfl⟩ rfl hl.1 rfl (Nat.le_of_ble_eq_true rfl) d_Wr_hexHeader_21 ⟨Nat.zero_le _, Nat.zero_le _⟩ (fun I7 R8 h H locs V => ?_)
  refine lv_aload_n (pc := 24) hx hb d_Wr_hexHeader_24 rfl (lv_at hl 0 rfl) ?_
  refine u_getr (pc := 25) (o' := (o + 1)) X V h_o.1 h_o.2.1 rfl f_Wr_12 rfl rfl d_Wr_hexHeader_25 ?_
  refine lv_iconst (pc := 28) (v := 0) hx hb d_Wr_hexHeader_28 (by decide) ?_
  refine u_cVv (pc := 29) (As := [.int 0]) X V s_Wr_24 h_o.2.2.1 h_o.2.2.2 rfl rfl (c_Ck_begin l D cc L A J t16 t32 _ _ (o + 1) ⟨h_o.2.2.1, h_o.2.2.2⟩ 0 _ h) ⟨rfl, rfl, Nat.le_of_ble_eq_true rfl, Nat.le_of_ble_eq_true rfl⟩ rfl hl.1 rfl (Nat.le_of_ble_eq_true rfl) d_Wr_hexHeader_29 ⟨Nat.zero_le _, Nat.zero_le _⟩ (fun I9 R10 h H locs V => ?_)
  refine lv_iconst (pc := 32) (v := 0) hx hb d_Wr_hexHeader_32 (by decide) ?_
  refine lv_istore (pc := 33) (lv' := [(4, .int 0), (0, .ref (A o)), (1, .ref (A q1)), (2, .int x2), (3, .int x3)]) hx hb d_Wr_hexHeader_33 hl (by decide) rfl (fun ls hl => ?_)
  obtain ⟨n35, h⟩ := h
  exact j_Wr_hexHeader_35 X hr hlk hsz h_o h_q1 n35 I9 R10 x2 x3 0 H locs ls V (lv_sub hl [1, 2, 3, 4, 0] rfl) h
-- FrameFerry$Writer.bytesHeader (LFrameFerry$Pipe;IIZ)V
theorem d_Wr_bytesHeader_0 : decode prog_8_method_3_code 0 = .ok (.aload_n 1, 1) := by decide +kernel
theorem d_Wr_bytesHeader_1 : decode prog_8_method_3_code 1 = .ok (.bipush 42, 2) := by decide +kernel
theorem d_Wr_bytesHeader_3 : decode prog_8_method_3_code 3 = .ok (.invokevirtual 18, 3) := by decide +kernel
theorem d_Wr_bytesHeader_6 : decode prog_8_method_3_code 6 = .ok (.aload_n 1, 1) := by decide +kernel
theorem d_Wr_bytesHeader_7 : decode prog_8_method_3_code 7 = .ok (.bipush 24, 2) := by decide +kernel
theorem d_Wr_bytesHeader_9 : decode prog_8_method_3_code 9 = .ok (.invokevirtual 18, 3) := by decide +kernel
theorem d_Wr_bytesHeader_12 : decode prog_8_method_3_code 12 = .ok (.aload_n 1, 1) := by decide +kernel
theorem d_Wr_bytesHeader_13 : decode prog_8_method_3_code 13 = .ok (.iload 4, 2) := by decide +kernel
theorem d_Wr_bytesHeader_15 : decode prog_8_method_3_code 15 = .ok (.ifCond .eq 8, 3) := by decide +kernel
theorem d_Wr_bytesHeader_18 : decode prog_8_method_3_code 18 = .ok (.bipush 67, 2) := by decide +kernel
theorem d_Wr_bytesHeader_20 : decode prog_8_method_3_code 20 = .ok (.goto 5, 3) := by decide +kernel
theorem d_Wr_bytesHeader_23 : decode prog_8_method_3_code 23 = .ok (.bipush 65, 2) := by decide +kernel
theorem d_Wr_bytesHeader_25 : decode prog_8_method_3_code 25 = .ok (.invokevirtual 18, 3) := by decide +kernel
theorem d_Wr_bytesHeader_28 : decode prog_8_method_3_code 28 = .ok (.aload_n 0, 1) := by decide +kernel
theorem d_Wr_bytesHeader_29 : decode prog_8_method_3_code 29 = .ok (.iload 4, 2) := by decide +kernel
theorem d_Wr_bytesHeader_31 : decode prog_8_method_3_code 31 = .ok (.putfield 44, 3) := by decide +kernel
theorem d_Wr_bytesHeader_34 : decode prog_8_method_3_code 34 = .ok (.aload_n 0, 1) := by decide +kernel
theorem d_Wr_bytesHeader_35 : decode prog_8_method_3_code 35 = .ok (.getfield 12, 3) := by decide +kernel
theorem d_Wr_bytesHeader_38 : decode prog_8_method_3_code 38 = .ok (.iload 4, 2) := by decide +kernel
theorem d_Wr_bytesHeader_40 : decode prog_8_method_3_code 40 = .ok (.invokevirtual 24, 3) := by decide +kernel
theorem d_Wr_bytesHeader_43 : decode prog_8_method_3_code 43 = .ok (.iconst 0, 1) := by decide +kernel
theorem d_Wr_bytesHeader_44 : decode prog_8_method_3_code 44 = .ok (.istore 5, 2) := by decide +kernel
theorem d_Wr_bytesHeader_46 : decode prog_8_method_3_code 46 = .ok (.iload 5, 2) := by decide +kernel
theorem d_Wr_bytesHeader_48 : decode prog_8_method_3_code 48 = .ok (.iconst 5, 1) := by decide +kernel
theorem d_Wr_bytesHeader_49 : decode prog_8_method_3_code 49 = .ok (.if_icmp .ge 33, 3) := by decide +kernel
theorem d_Wr_bytesHeader_52 : decode prog_8_method_3_code 52 = .ok (.iload_n 2, 1) := by decide +kernel
theorem d_Wr_bytesHeader_53 : decode prog_8_method_3_code 53 = .ok (.iload_n 3, 1) := by decide +kernel
theorem d_Wr_bytesHeader_54 : decode prog_8_method_3_code 54 = .ok (.iload 5, 2) := by decide +kernel
theorem d_Wr_bytesHeader_56 : decode prog_8_method_3_code 56 = .ok (.invokestatic 28, 3) := by decide +kernel
theorem d_Wr_bytesHeader_59 : decode prog_8_method_3_code 59 = .ok (.istore 6, 2) := by decide +kernel
theorem d_Wr_bytesHeader_61 : decode prog_8_method_3_code 61 = .ok (.aload_n 0, 1) := by decide +kernel
theorem d_Wr_bytesHeader_62 : decode prog_8_method_3_code 62 = .ok (.getfield 12, 3) := by decide +kernel
theorem d_Wr_bytesHeader_65 : decode prog_8_method_3_code 65 = .ok (.iload 6, 2) := by decide +kernel
theorem d_Wr_bytesHeader_67 : decode prog_8_method_3_code 67 = .ok (.invokevirtual 32, 3) := by decide +kernel
theorem d_Wr_bytesHeader_70 : decode prog_8_method_3_code 70 = .ok (.aload_n 1, 1) := by decide +kernel
theorem d_Wr_bytesHeader_71 : decode prog_8_method_3_code 71 = .ok (.iload 6, 2) := by decide +kernel
theorem d_Wr_bytesHeader_73 : decode prog_8_method_3_code 73 = .ok (.invokestatic 48, 3) := by decide +kernel
theorem d_Wr_bytesHeader_76 : decode prog_8_method_3_code 76 = .ok (.iinc 5 1, 3) := by decide +kernel
theorem d_Wr_bytesHeader_79 : decode prog_8_method_3_code 79 = .ok (.goto (-33), 3) := by decide +kernel
theorem d_Wr_bytesHeader_82 : decode prog_8_method_3_code 82 = .ok (.iconst 0, 1) := by decide +kernel
theorem d_Wr_bytesHeader_83 : decode prog_8_method_3_code 83 = .ok (.istore 5, 2) := by decide +kernel
theorem d_Wr_bytesHeader_85 : decode prog_8_method_3_code 85 = .ok (.iload 5, 2) := by decide +kernel
theorem d_Wr_bytesHeader_87 : decode prog_8_method_3_code 87 = .ok (.aload_n 0, 1) := by decide +kernel
theorem d_Wr_bytesHeader_88 : decode prog_8_method_3_code 88 = .ok (.getfield 12, 3) := by decide +kernel
theorem d_Wr_bytesHeader_91 : decode prog_8_method_3_code 91 = .ok (.invokevirtual 33, 3) := by decide +kernel
theorem d_Wr_bytesHeader_94 : decode prog_8_method_3_code 94 = .ok (.if_icmp .ge 22, 3) := by decide +kernel
theorem d_Wr_bytesHeader_97 : decode prog_8_method_3_code 97 = .ok (.aload_n 1, 1) := by decide +kernel
theorem d_Wr_bytesHeader_98 : decode prog_8_method_3_code 98 = .ok (.aload_n 0, 1) := by decide +kernel
theorem d_Wr_bytesHeader_99 : decode prog_8_method_3_code 99 = .ok (.getfield 12, 3) := by decide +kernel
theorem d_Wr_bytesHeader_102 : decode prog_8_method_3_code 102 = .ok (.iload 5, 2) := by decide +kernel
theorem d_Wr_bytesHeader_104 : decode prog_8_method_3_code 104 = .ok (.invokevirtual 37, 3) := by decide +kernel
theorem d_Wr_bytesHeader_107 : decode prog_8_method_3_code 107 = .ok (.invokestatic 48, 3) := by decide +kernel
theorem d_Wr_bytesHeader_110 : decode prog_8_method_3_code 110 = .ok (.iinc 5 1, 3) := by decide +kernel
theorem d_Wr_bytesHeader_113 : decode prog_8_method_3_code 113 = .ok (.goto (-28), 3) := by decide +kernel
theorem d_Wr_bytesHeader_116 : decode prog_8_method_3_code 116 = .ok (.return_, 1) := by decide +kernel
def rm_Wr_bytesHeader : Room := { frames := 2, cells := 0, slots := 0, locals := 42 }
def wp_Wr_bytesHeader_L85 (o : Nat) (q1 : Nat) (Q : UI → UR → Prop) : Nat → UI → UR → Int32 → Prop
  | 0, _, _, _ => False
  | n + 1, I, R, x5 => wp_Ck_size I R (o + 1) (fun r12 I10 R11 => ((r12 ≤ x5 → Q I10 R11) ∧ (¬ r12 ≤ x5 → wp_Ck_part I10 R11 (o + 1) x5 (fun r15 I13 R14 => wp_Wr_addEscaped I13 R14 q1 r15 (fun I16 R17 => ∀ v18 : Int32, v18 = x5 + 1 → wp_Wr_bytesHeader_L85 o q1 Q n I16 R17 v18)))))
set_option maxHeartbeats 4000000 in
set_option maxRecDepth 100000 in
theorem j_Wr_bytesHeader_85 (X : uX p s m args c prog_8_method_3_code 7 "FrameFerry$Writer" D cc L A t16 t32) (hr : meth.sig.returnType = none) (hlk : meth.locks = false) (hsz : sz = s.heap.size) {o : Nat} (h_o : isWr L o) {q1 : Nat} (h_q1 : isPi L q1) {Q : UI → UR → Prop} : ∀ (n : Nat) (I : UI) (R : UR) (x5 : Int32) (H : Heap) (locs : List Loc) (ls : Array Slot), uV s D cc L A J I R H locs → lv_has ls 7 [(0, .ref (A o)), (1, .ref (A q1)), (5, .int x5)] → wp_Wr_bytesHeader_L85 o q1 Q n I R x5 → W p l e rm_Wr_bytesHeader s m args below meth c H locs 0 0 (MQ below (va_Qv (fun u : UI × UR => Q u.1 u.2) (uBv D cc L A J) (uA L A sz)) args s 0 0 (uA L A sz)) (F0 m 85 ls []) := by
  intro n
  induction n with
  | zero => exact fun I R x5 H locs ls V hl h => False.elim h
  | succ n ih =>
    intro I R x5 H locs ls V hl h
    have hx := X.1
    have hb := X.2.1
    rw [wp_Wr_bytesHeader_L85] at h
    refine lv_iload (pc := 85) hx hb d_Wr_bytesHeader_85 (lv_at hl 2 rfl) ?_
    refine lv_aload_n (pc := 87) hx hb d_Wr_bytesHeader_87 rfl (lv_at hl 0 rfl) ?_
    refine u_getr (pc := 88) (o' := (o + 1)) X V h_o.1 h_o.2.1 rfl f_Wr_12 rfl rfl d_Wr_bytesHeader_88 ?_
    refine u_cVi (pc := 91) (As := []) X V s_Wr_33 h_o.2.2.1 h_o.2.2.2 rfl rfl (c_Ck_size l D cc L A J t16 t32 _ _ (o + 1) ⟨h_o.2.2.1, h_o.2.2.2⟩ _ h) ⟨rfl, rfl, Nat.le_of_ble_eq_true rfl, Nat.le_of_ble_eq_true rfl⟩ rfl hl.1 rfl (Nat.le_of_ble_eq_true rfl) d_Wr_bytesHeader_91 ⟨Nat.zero_le _, Nat.zero_le _⟩ (fun r12 I10 R11 h H locs V => ?_)
    refine lv_icmp_ge (pc := 94) (tgt := 116) hx hb d_Wr_bytesHeader_94 (by decide) (fun hc => ?_) (fun hc => ?_)
    · have h := h.1 hc
      exact u_retv (pc := 116) X V hr hlk hsz h d_Wr_bytesHeader_116
    · have h := h.2 hc
      refine lv_aload_n (pc := 97) hx hb d_Wr_bytesHeader_97 rfl (lv_at hl 1 rfl) ?_
      refine lv_aload_n (pc := 98) hx hb d_Wr_bytesHeader_98 rfl (lv_at hl 0 rfl) ?_
      refine u_getr (pc := 99) (o' := (o + 1)) X V h_o.1 h_o.2.1 rfl f_Wr_12 rfl rfl d_Wr_bytesHeader_99 ?_
      refine lv_iload (pc := 102) hx hb d_Wr_bytesHeader_102 (lv_at hl 2 rfl) ?_
      refine u_cVi (pc := 104) (As := [.int x5]) X V s_Wr_37 h_o.2.2.1 h_o.2.2.2 rfl rfl (c_Ck_part l D cc L A J t16 t32 _ _ (o + 1) ⟨h_o.2.2.1, h_o.2.2.2⟩ x5 _ h) ⟨rfl, rfl, Nat.le_of_ble_eq_true rfl, Nat.le_of_ble_eq_true rfl⟩ rfl hl.1 rfl (Nat.le_of_ble_eq_true rfl) d_Wr_bytesHeader_104 ⟨Nat.zero_le _, Nat.zero_le _⟩ (fun r15 I13 R14 h H locs V => ?_)
      refine u_cSv (pc := 107) (As := [.ref (A q1), .int r15]) X V s_Wr_48 (c_Wr_addEscaped l D cc L A J t16 t32 _ _ q1 h_q1 r15 _ h) ⟨rfl, rfl, Nat.le_of_ble_eq_true rfl, Nat.le_of_ble_eq_true rfl⟩ rfl hl.1 rfl (Nat.le_of_ble_eq_true rfl) d_Wr_bytesHeader_107 ⟨Nat.zero_le _, Nat.zero_le _⟩ (fun I16 R17 h H locs V => ?_)
      obtain ⟨v18, ev18⟩ : ∃ z : Int32, z = x5 + 1 := ⟨_, rfl⟩
      have h := h v18 ev18
      refine lv_iinc (pc := 110) (k := 2) (v := v18) (lv' := [(5, .int v18), (0, .ref (A o)), (1, .ref (A q1))]) hx hb d_Wr_bytesHeader_110 hl rfl (by rw [ev18]; rfl) (by decide) rfl (fun ls hl => ?_)
      refine lv_goto (pc := 113) (tgt := 85) hx hb d_Wr_bytesHeader_113 (by decide) ?_
      exact ih I16 R17 v18 H locs ls V (lv_sub hl [1, 2, 0] rfl) h
def wp_Wr_bytesHeader_L46 (o : Nat) (q1 : Nat) (Q : UI → UR → Prop) : Nat → UI → UR → Int32 → Int32 → Int32 → Prop
  | 0, _, _, _, _, _ => False
  | n + 1, I, R, x2, x3, x5 => ((5 ≤ x5 → (∃ n85 : Nat, wp_Wr_bytesHeader_L85 o q1 Q n85 I R 0)) ∧ (¬ 5 ≤ x5 → wp_Wr_headerByte I R x2 x3 x5 (fun r21 I19 R20 => wp_Ck_add I19 R20 (o + 1) r21 (fun I22 R23 => wp_Wr_addEscaped I22 R23 q1 r21 (fun I24 R25 => ∀ v26 : Int32, v26 = x5 + 1 → wp_Wr_bytesHeader_L46 o q1 Q n I24 R25 x2 x3 v26)))))
set_option maxHeartbeats 4000000 in
set_option maxRecDepth 100000 in
theorem j_Wr_bytesHeader_46 (X : uX p s m args c prog_8_method_3_code 7 "FrameFerry$Writer" D cc L A t16 t32) (hr : meth.sig.returnType = none) (hlk : meth.locks = false) (hsz : sz = s.heap.size) {o : Nat} (h_o : isWr L o) {q1 : Nat} (h_q1 : isPi L q1) {Q : UI → UR → Prop} : ∀ (n : Nat) (I : UI) (R : UR) (x2 : Int32) (x3 : Int32) (x5 : Int32) (H : Heap) (locs : List Loc) (ls : Array Slot), uV s D cc L A J I R H locs → lv_has ls 7 [(0, .ref (A o)), (1, .ref (A q1)), (2, .int x2), (3, .int x3), (5, .int x5)] → wp_Wr_bytesHeader_L46 o q1 Q n I R x2 x3 x5 → W p l e rm_Wr_bytesHeader s m args below meth c H locs 0 0 (MQ below (va_Qv (fun u : UI × UR => Q u.1 u.2) (uBv D cc L A J) (uA L A sz)) args s 0 0 (uA L A sz)) (F0 m 46 ls []) := by
  intro n
  induction n with
  | zero => exact fun I R x2 x3 x5 H locs ls V hl h => False.elim h
  | succ n ih =>
    intro I R x2 x3 x5 H locs ls V hl h
    have hx := X.1
    have hb := X.2.1
    rw [wp_Wr_bytesHeader_L46] at h
    refine lv_iload (pc := 46) hx hb d_Wr_bytesHeader_46 (lv_at hl 4 rfl) ?_
    refine lv_iconst (pc := 48) (v := 5) hx hb d_Wr_bytesHeader_48 (by decide) ?_
    refine lv_icmp_ge (pc := 49) (tgt := 82) hx hb d_Wr_bytesHeader_49 (by decide) (fun hc => ?_) (fun hc => ?_)
    · have h := h.1 hc
      refine lv_iconst (pc := 82) (v := 0) hx hb d_Wr_bytesHeader_82 (by decide) ?_
      refine lv_istore (pc := 83) (lv' := [(5, .int 0), (0, .ref (A o)), (1, .ref (A q1)), (2, .int x2), (3, .int x3)]) hx hb d_Wr_bytesHeader_83 hl (by decide) rfl (fun ls hl => ?_)
      obtain ⟨n85, h⟩ := h
      exact j_Wr_bytesHeader_85 X hr hlk hsz h_o h_q1 n85 I R 0 H locs ls V (lv_sub hl [1, 2, 0] rfl) h
    · have h := h.2 hc
      refine lv_iload_n (pc := 52) hx hb d_Wr_bytesHeader_52 rfl (lv_at hl 2 rfl) ?_
      refine lv_iload_n (pc := 53) hx hb d_Wr_bytesHeader_53 rfl (lv_at hl 3 rfl) ?_
      refine lv_iload (pc := 54) hx hb d_Wr_bytesHeader_54 (lv_at hl 4 rfl) ?_
      refine u_cSi (pc := 56) (As := [.int x2, .int x3, .int x5]) X V s_Wr_28 (c_Wr_headerByte l D cc L A J t16 t32 _ _ x2 x3 x5 _ h) ⟨rfl, rfl, Nat.le_of_ble_eq_true rfl, Nat.le_of_ble_eq_true rfl⟩ rfl hl.1 rfl (Nat.le_of_ble_eq_true rfl) d_Wr_bytesHeader_56 ⟨Nat.zero_le _, Nat.zero_le _⟩ (fun r21 I19 R20 h H locs V => ?_)
      refine lv_istore (pc := 59) (lv' := [(6, .int r21), (0, .ref (A o)), (1, .ref (A q1)), (2, .int x2), (3, .int x3), (5, .int x5)]) hx hb d_Wr_bytesHeader_59 hl (by decide) rfl (fun ls hl => ?_)
      refine lv_aload_n (pc := 61) hx hb d_Wr_bytesHeader_61 rfl (lv_at hl 1 rfl) ?_
      refine u_getr (pc := 62) (o' := (o + 1)) X V h_o.1 h_o.2.1 rfl f_Wr_12 rfl rfl d_Wr_bytesHeader_62 ?_
      refine lv_iload (pc := 65) hx hb d_Wr_bytesHeader_65 (lv_at hl 0 rfl) ?_
      refine u_cVv (pc := 67) (As := [.int r21]) X V s_Wr_32 h_o.2.2.1 h_o.2.2.2 rfl rfl (c_Ck_add l D cc L A J t16 t32 _ _ (o + 1) ⟨h_o.2.2.1, h_o.2.2.2⟩ r21 _ h) ⟨rfl, rfl, Nat.le_of_ble_eq_true rfl, Nat.le_of_ble_eq_true rfl⟩ rfl hl.1 rfl (Nat.le_of_ble_eq_true rfl) d_Wr_bytesHeader_67 ⟨Nat.zero_le _, Nat.zero_le _⟩ (fun I22 R23 h H locs V => ?_)
      refine lv_aload_n (pc := 70) hx hb d_Wr_bytesHeader_70 rfl (lv_at hl 2 rfl) ?_
      refine lv_iload (pc := 71) hx hb d_Wr_bytesHeader_71 (lv_at hl 0 rfl) ?_
      refine u_cSv (pc := 73) (As := [.ref (A q1), .int r21]) X V s_Wr_48 (c_Wr_addEscaped l D cc L A J t16 t32 _ _ q1 h_q1 r21 _ h) ⟨rfl, rfl, Nat.le_of_ble_eq_true rfl, Nat.le_of_ble_eq_true rfl⟩ rfl hl.1 rfl (Nat.le_of_ble_eq_true rfl) d_Wr_bytesHeader_73 ⟨Nat.zero_le _, Nat.zero_le _⟩ (fun I24 R25 h H locs V => ?_)
      obtain ⟨v26, ev26⟩ : ∃ z : Int32, z = x5 + 1 := ⟨_, rfl⟩
      have h := h v26 ev26
      refine lv_iinc (pc := 76) (k := 5) (v := v26) (lv' := [(5, .int v26), (6, .int r21), (0, .ref (A o)), (1, .ref (A q1)), (2, .int x2), (3, .int x3)]) hx hb d_Wr_bytesHeader_76 hl rfl (by rw [ev26]; rfl) (by decide) rfl (fun ls hl => ?_)
      refine lv_goto (pc := 79) (tgt := 46) hx hb d_Wr_bytesHeader_79 (by decide) ?_
      exact ih I24 R25 x2 x3 v26 H locs ls V (lv_sub hl [2, 3, 4, 5, 0] rfl) h
def wp_Wr_bytesHeader_L25 (o : Nat) (q1 : Nat) (Q : UI → UR → Prop) (I : UI) (R : UR) (x2 : Int32) (x3 : Int32) (x4 : Int32) (s0 : Int32) : Prop :=
  wp_Pi_add I R q1 s0 (fun I5 R6 => zb x4 ∧ ∀ I7 : UI, I7 = u2 I5 o 1 x4 → wp_Ck_begin I7 R6 (o + 1) x4 (fun I8 R9 => (∃ n46 : Nat, wp_Wr_bytesHeader_L46 o q1 Q n46 I8 R9 x2 x3 0)))
set_option maxHeartbeats 4000000 in
set_option maxRecDepth 100000 in
theorem j_Wr_bytesHeader_25 (X : uX p s m args c prog_8_method_3_code 7 "FrameFerry$Writer" D cc L A t16 t32) (hr : meth.sig.returnType = none) (hlk : meth.locks = false) (hsz : sz = s.heap.size) {o : Nat} (h_o : isWr L o) {q1 : Nat} (h_q1 : isPi L q1) {Q : UI → UR → Prop} {I : UI} {R : UR} {x2 : Int32} {x3 : Int32} {x4 : Int32} {s0 : Int32} {H : Heap} {locs : List Loc} {ls : Array Slot} (V : uV s D cc L A J I R H locs) (hl : lv_has ls 7 [(0, .ref (A o)), (1, .ref (A q1)), (2, .int x2), (3, .int x3), (4, .int x4)]) (h : wp_Wr_bytesHeader_L25 o q1 Q I R x2 x3 x4 s0) : W p l e rm_Wr_bytesHeader s m args below meth c H locs 0 0 (MQ below (va_Qv (fun u : UI × UR => Q u.1 u.2) (uBv D cc L A J) (uA L A sz)) args s 0 0 (uA L A sz)) (F0 m 25 ls [.int s0, .ref (A q1)]) := by
  have hx := X.1
  have hb := X.2.1
  unfold wp_Wr_bytesHeader_L25 at h
  refine u_cVv (pc := 25) (As := [.int s0]) X V s_Wr_18 h_q1.1 h_q1.2.1 rfl rfl (c_Pi_add l D cc L A J t16 t32 _ _ q1 h_q1 s0 _ h) ⟨rfl, rfl, Nat.le_of_ble_eq_true rfl, Nat.le_of_ble_eq_true rfl⟩ rfl hl.1 rfl (Nat.le_of_ble_eq_true rfl) d_Wr_bytesHeader_25 ⟨Nat.zero_le _, Nat.zero_le _⟩ (fun I5 R6 h H locs V => ?_)
  refine lv_aload_n (pc := 28) hx hb d_Wr_bytesHeader_28 rfl (lv_at hl 0 rfl) ?_
  refine lv_iload (pc := 29) hx hb d_Wr_bytesHeader_29 (lv_at hl 4 rfl) ?_
  refine u_putz (pc := 31) X V h_o.1 h_o.2.1 rfl f_Wr_44 rfl h.1 d_Wr_bytesHeader_31 (fun I7 eI7 H locs V => ?_)
  have h := h.2 I7 eI7
  refine lv_aload_n (pc := 34) hx hb d_Wr_bytesHeader_34 rfl (lv_at hl 0 rfl) ?_
  refine u_getr (pc := 35) (o' := (o + 1)) X V h_o.1 h_o.2.1 rfl f_Wr_12 rfl rfl d_Wr_bytesHeader_35 ?_
  refine lv_iload (pc := 38) hx hb d_Wr_bytesHeader_38 (lv_at hl 4 rfl) ?_
  refine u_cVv (pc := 40) (As := [.int x4]) X V s_Wr_24 h_o.2.2.1 h_o.2.2.2 rfl rfl (c_Ck_begin l D cc L A J t16 t32 _ _ (o + 1) ⟨h_o.2.2.1, h_o.2.2.2⟩ x4 _ h) ⟨rfl, rfl, Nat.le_of_ble_eq_true rfl, Nat.le_of_ble_eq_true rfl⟩ rfl hl.1 rfl (Nat.le_of_ble_eq_true rfl) d_Wr_bytesHeader_40 ⟨Nat.zero_le _, Nat.zero_le _⟩ (fun I8 R9 h H locs V => ?_)
  refine lv_iconst (pc := 43) (v := 0) hx hb d_Wr_bytesHeader_43 (by decide) ?_
  refine lv_istore (pc := 44) (lv' := [(5, .int 0), (0, .ref (A o)), (1, .ref (A q1)), (2, .int x2), (3, .int x3), (4, .int x4)]) hx hb d_Wr_bytesHeader_44 hl (by decide) rfl (fun ls hl => ?_)
  obtain ⟨n46, h⟩ := h
  exact j_Wr_bytesHeader_46 X hr hlk hsz h_o h_q1 n46 I8 R9 x2 x3 0 H locs ls V (lv_sub hl [1, 2, 3, 4, 0] rfl) h
def wp_Wr_bytesHeader (I : UI) (R : UR) (o : Nat) (q1 : Nat) (x2 : Int32) (x3 : Int32) (x4 : Int32) (Q : UI → UR → Prop) : Prop :=
  wp_Pi_add I R q1 42 (fun I1 R2 => wp_Pi_add I1 R2 q1 24 (fun I3 R4 => ((x4 = 0 → wp_Wr_bytesHeader_L25 o q1 Q I3 R4 x2 x3 x4 65) ∧ (¬ x4 = 0 → wp_Wr_bytesHeader_L25 o q1 Q I3 R4 x2 x3 x4 67))))
set_option maxHeartbeats 4000000 in
set_option maxRecDepth 100000 in
theorem c_Wr_bytesHeader (l : Launch) (D : va_G) (cc : Nat → ClassId) (L : List Nat) (A : Nat → Nat) (J : Nat → Int64) (t16 t32 : Nat) (I : UI) (R : UR) (o : Nat) (h_o : isWr L o) (q1 : Nat) (h_q1 : isPi L q1) (x2 : Int32) (x3 : Int32) (x4 : Int32) (Q : UI → UR → Prop) (h : wp_Wr_bytesHeader I R o q1 x2 x3 x4 Q) : uMv l y_Wr_bytesHeader (.code y_Wr_bytesHeader prog_8_method_3_code 7 none) rm_Wr_bytesHeader [.ref (A o), .ref (A q1), .int x2, .int x3, .int x4] D cc L A J t16 t32 I R Q := by
  intro sz
  refine u_entry (by decide) (Nat.le_of_ble_eq_true rfl) (fun p e s m args below meth c hsz X V hr hlk ls hl => ?_)
  have X : uX p s m args c prog_8_method_3_code 7 "FrameFerry$Writer" D cc L A t16 t32 := X
  have hx := X.1
  have hb := X.2.1
  have hl : lv_has ls 7 [(0, .ref (A o)), (1, .ref (A q1)), (2, .int x2), (3, .int x3), (4, .int x4)] := hl
  unfold wp_Wr_bytesHeader at h
  generalize hH : s.heap = H at V ⊢
  generalize hlo : ([] : List Loc) = locs at V ⊢
  refine lv_aload_n (pc := 0) hx hb d_Wr_bytesHeader_0 rfl (lv_at hl 1 rfl) ?_
  refine lv_bipush (pc := 1) (v := 42) hx hb d_Wr_bytesHeader_1 (by decide) ?_
  refine u_cVv (pc := 3) (As := [.int 42]) X V s_Wr_18 h_q1.1 h_q1.2.1 rfl rfl (c_Pi_add l D cc L A J t16 t32 _ _ q1 h_q1 42 _ h) ⟨rfl, rfl, Nat.le_of_ble_eq_true rfl, Nat.le_of_ble_eq_true rfl⟩ rfl hl.1 rfl (Nat.le_of_ble_eq_true rfl) d_Wr_bytesHeader_3 ⟨Nat.zero_le _, Nat.zero_le _⟩ (fun I1 R2 h H locs V => ?_)
  refine lv_aload_n (pc := 6) hx hb d_Wr_bytesHeader_6 rfl (lv_at hl 1 rfl) ?_
  refine lv_bipush (pc := 7) (v := 24) hx hb d_Wr_bytesHeader_7 (by decide) ?_
  refine u_cVv (pc := 9) (As := [.int 24]) X V s_Wr_18 h_q1.1 h_q1.2.1 rfl rfl (c_Pi_add l D cc L A J t16 t32 _ _ q1 h_q1 24 _ h) ⟨rfl, rfl, Nat.le_of_ble_eq_true rfl, Nat.le_of_ble_eq_true rfl⟩ rfl hl.1 rfl (Nat.le_of_ble_eq_true rfl) d_Wr_bytesHeader_9 ⟨Nat.zero_le _, Nat.zero_le _⟩ (fun I3 R4 h H locs V => ?_)
  refine lv_aload_n (pc := 12) hx hb d_Wr_bytesHeader_12 rfl (lv_at hl 1 rfl) ?_
  refine lv_iload (pc := 13) hx hb d_Wr_bytesHeader_13 (lv_at hl 4 rfl) ?_
  refine lv_if_eq (pc := 15) (tgt := 23) hx hb d_Wr_bytesHeader_15 (by decide) (fun hc => ?_) (fun hc => ?_)
  · have h := h.1 hc
    refine lv_bipush (pc := 23) (v := 65) hx hb d_Wr_bytesHeader_23 (by decide) ?_
    exact j_Wr_bytesHeader_25 X hr hlk hsz h_o h_q1 V (lv_sub hl [0, 1, 2, 3, 4] rfl) h
  · have h := h.2 hc
    refine lv_bipush (pc := 18) (v := 67) hx hb d_Wr_bytesHeader_18 (by decide) ?_
    refine lv_goto (pc := 20) (tgt := 25) hx hb d_Wr_bytesHeader_20 (by decide) ?_
    exact j_Wr_bytesHeader_25 X hr hlk hsz h_o h_q1 V (lv_sub hl [0, 1, 2, 3, 4] rfl) h
-- FrameFerry$Writer.beginPacket ()V
theorem d_Wr_beginPacket_0 : decode prog_8_method_4_code 0 = .ok (.aload_n 0, 1) := by decide +kernel
theorem d_Wr_beginPacket_1 : decode prog_8_method_4_code 1 = .ok (.getfield 12, 3) := by decide +kernel
theorem d_Wr_beginPacket_4 : decode prog_8_method_4_code 4 = .ok (.aload_n 0, 1) := by decide +kernel
theorem d_Wr_beginPacket_5 : decode prog_8_method_4_code 5 = .ok (.getfield 44, 3) := by decide +kernel
theorem d_Wr_beginPacket_8 : decode prog_8_method_4_code 8 = .ok (.invokevirtual 24, 3) := by decide +kernel
theorem d_Wr_beginPacket_11 : decode prog_8_method_4_code 11 = .ok (.return_, 1) := by decide +kernel
def rm_Wr_beginPacket : Room := { frames := 1, cells := 0, slots := 0, locals := 21 }
def wp_Wr_beginPacket (I : UI) (R : UR) (o : Nat) (Q : UI → UR → Prop) : Prop :=
  wp_Ck_begin I R (o + 1) (I o 1) (fun I1 R2 => Q I1 R2)
set_option maxHeartbeats 4000000 in
set_option maxRecDepth 100000 in
theorem c_Wr_beginPacket (l : Launch) (D : va_G) (cc : Nat → ClassId) (L : List Nat) (A : Nat → Nat) (J : Nat → Int64) (t16 t32 : Nat) (I : UI) (R : UR) (o : Nat) (h_o : isWr L o) (Q : UI → UR → Prop) (h : wp_Wr_beginPacket I R o Q) : uMv l y_Wr_beginPacket (.code y_Wr_beginPacket prog_8_method_4_code 1 none) rm_Wr_beginPacket [.ref (A o)] D cc L A J t16 t32 I R Q := by
  intro sz
  refine u_entry (by decide) (Nat.le_of_ble_eq_true rfl) (fun p e s m args below meth c hsz X V hr hlk ls hl => ?_)
  have X : uX p s m args c prog_8_method_4_code 1 "FrameFerry$Writer" D cc L A t16 t32 := X
  have hx := X.1
  have hb := X.2.1
  have hl : lv_has ls 1 [(0, .ref (A o))] := hl
  unfold wp_Wr_beginPacket at h
  generalize hH : s.heap = H at V ⊢
  generalize hlo : ([] : List Loc) = locs at V ⊢
  refine lv_aload_n (pc := 0) hx hb d_Wr_beginPacket_0 rfl (lv_at hl 0 rfl) ?_
  refine u_getr (pc := 1) (o' := (o + 1)) X V h_o.1 h_o.2.1 rfl f_Wr_12 rfl rfl d_Wr_beginPacket_1 ?_
  refine lv_aload_n (pc := 4) hx hb d_Wr_beginPacket_4 rfl (lv_at hl 0 rfl) ?_
  refine u_geti (pc := 5) X V h_o.1 h_o.2.1 rfl f_Wr_44 rfl d_Wr_beginPacket_5 ?_
  refine u_cVv (pc := 8) (As := [.int (I o 1)]) X V s_Wr_24 h_o.2.2.1 h_o.2.2.2 rfl rfl (c_Ck_begin l D cc L A J t16 t32 _ _ (o + 1) ⟨h_o.2.2.1, h_o.2.2.2⟩ (I o 1) _ h) ⟨rfl, rfl, Nat.le_of_ble_eq_true rfl, Nat.le_of_ble_eq_true rfl⟩ rfl hl.1 rfl (Nat.le_of_ble_eq_true rfl) d_Wr_beginPacket_8 ⟨Nat.zero_le _, Nat.zero_le _⟩ (fun I1 R2 h H locs V => ?_)
  exact u_retv (pc := 11) X V hr hlk hsz h d_Wr_beginPacket_11
-- FrameFerry$Writer.packetByte (LFrameFerry$Pipe;I)V
theorem d_Wr_packetByte_0 : decode prog_8_method_5_code 0 = .ok (.aload_n 0, 1) := by decide +kernel
theorem d_Wr_packetByte_1 : decode prog_8_method_5_code 1 = .ok (.getfield 12, 3) := by decide +kernel
theorem d_Wr_packetByte_4 : decode prog_8_method_5_code 4 = .ok (.iload_n 2, 1) := by decide +kernel
theorem d_Wr_packetByte_5 : decode prog_8_method_5_code 5 = .ok (.invokevirtual 32, 3) := by decide +kernel
theorem d_Wr_packetByte_8 : decode prog_8_method_5_code 8 = .ok (.aload_n 1, 1) := by decide +kernel
theorem d_Wr_packetByte_9 : decode prog_8_method_5_code 9 = .ok (.iload_n 2, 1) := by decide +kernel
theorem d_Wr_packetByte_10 : decode prog_8_method_5_code 10 = .ok (.invokestatic 48, 3) := by decide +kernel
theorem d_Wr_packetByte_13 : decode prog_8_method_5_code 13 = .ok (.return_, 1) := by decide +kernel
def rm_Wr_packetByte : Room := { frames := 2, cells := 0, slots := 0, locals := 42 }
def wp_Wr_packetByte (I : UI) (R : UR) (o : Nat) (q1 : Nat) (x2 : Int32) (Q : UI → UR → Prop) : Prop :=
  wp_Ck_add I R (o + 1) x2 (fun I1 R2 => wp_Wr_addEscaped I1 R2 q1 x2 (fun I3 R4 => Q I3 R4))
set_option maxHeartbeats 4000000 in
set_option maxRecDepth 100000 in
theorem c_Wr_packetByte (l : Launch) (D : va_G) (cc : Nat → ClassId) (L : List Nat) (A : Nat → Nat) (J : Nat → Int64) (t16 t32 : Nat) (I : UI) (R : UR) (o : Nat) (h_o : isWr L o) (q1 : Nat) (h_q1 : isPi L q1) (x2 : Int32) (Q : UI → UR → Prop) (h : wp_Wr_packetByte I R o q1 x2 Q) : uMv l y_Wr_packetByte (.code y_Wr_packetByte prog_8_method_5_code 3 none) rm_Wr_packetByte [.ref (A o), .ref (A q1), .int x2] D cc L A J t16 t32 I R Q := by
  intro sz
  refine u_entry (by decide) (Nat.le_of_ble_eq_true rfl) (fun p e s m args below meth c hsz X V hr hlk ls hl => ?_)
  have X : uX p s m args c prog_8_method_5_code 3 "FrameFerry$Writer" D cc L A t16 t32 := X
  have hx := X.1
  have hb := X.2.1
  have hl : lv_has ls 3 [(0, .ref (A o)), (1, .ref (A q1)), (2, .int x2)] := hl
  unfold wp_Wr_packetByte at h
  generalize hH : s.heap = H at V ⊢
  generalize hlo : ([] : List Loc) = locs at V ⊢
  refine lv_aload_n (pc := 0) hx hb d_Wr_packetByte_0 rfl (lv_at hl 0 rfl) ?_
  refine u_getr (pc := 1) (o' := (o + 1)) X V h_o.1 h_o.2.1 rfl f_Wr_12 rfl rfl d_Wr_packetByte_1 ?_
  refine lv_iload_n (pc := 4) hx hb d_Wr_packetByte_4 rfl (lv_at hl 2 rfl) ?_
  refine u_cVv (pc := 5) (As := [.int x2]) X V s_Wr_32 h_o.2.2.1 h_o.2.2.2 rfl rfl (c_Ck_add l D cc L A J t16 t32 _ _ (o + 1) ⟨h_o.2.2.1, h_o.2.2.2⟩ x2 _ h) ⟨rfl, rfl, Nat.le_of_ble_eq_true rfl, Nat.le_of_ble_eq_true rfl⟩ rfl hl.1 rfl (Nat.le_of_ble_eq_true rfl) d_Wr_packetByte_5 ⟨Nat.zero_le _, Nat.zero_le _⟩ (fun I1 R2 h H locs V => ?_)
  refine lv_aload_n (pc := 8) hx hb d_Wr_packetByte_8 rfl (lv_at hl 1 rfl) ?_
  refine lv_iload_n (pc := 9) hx hb d_Wr_packetByte_9 rfl (lv_at hl 2 rfl) ?_
  refine u_cSv (pc := 10) (As := [.ref (A q1), .int x2]) X V s_Wr_48 (c_Wr_addEscaped l D cc L A J t16 t32 _ _ q1 h_q1 x2 _ h) ⟨rfl, rfl, Nat.le_of_ble_eq_true rfl, Nat.le_of_ble_eq_true rfl⟩ rfl hl.1 rfl (Nat.le_of_ble_eq_true rfl) d_Wr_packetByte_10 ⟨Nat.zero_le _, Nat.zero_le _⟩ (fun I3 R4 h H locs V => ?_)
  exact u_retv (pc := 13) X V hr hlk hsz h d_Wr_packetByte_13
-- FrameFerry$Writer.endPacket (LFrameFerry$Pipe;I)V
theorem d_Wr_endPacket_0 : decode prog_8_method_6_code 0 = .ok (.aload_n 1, 1) := by decide +kernel
theorem d_Wr_endPacket_1 : decode prog_8_method_6_code 1 = .ok (.bipush 24, 2) := by decide +kernel
theorem d_Wr_endPacket_3 : decode prog_8_method_6_code 3 = .ok (.invokevirtual 18, 3) := by decide +kernel
theorem d_Wr_endPacket_6 : decode prog_8_method_6_code 6 = .ok (.aload_n 1, 1) := by decide +kernel
theorem d_Wr_endPacket_7 : decode prog_8_method_6_code 7 = .ok (.iload_n 2, 1) := by decide +kernel
theorem d_Wr_endPacket_8 : decode prog_8_method_6_code 8 = .ok (.invokevirtual 18, 3) := by decide +kernel
theorem d_Wr_endPacket_11 : decode prog_8_method_6_code 11 = .ok (.aload_n 0, 1) := by decide +kernel
theorem d_Wr_endPacket_12 : decode prog_8_method_6_code 12 = .ok (.getfield 12, 3) := by decide +kernel
theorem d_Wr_endPacket_15 : decode prog_8_method_6_code 15 = .ok (.iload_n 2, 1) := by decide +kernel
theorem d_Wr_endPacket_16 : decode prog_8_method_6_code 16 = .ok (.invokevirtual 32, 3) := by decide +kernel
theorem d_Wr_endPacket_19 : decode prog_8_method_6_code 19 = .ok (.iconst 0, 1) := by decide +kernel
theorem d_Wr_endPacket_20 : decode prog_8_method_6_code 20 = .ok (.istore_n 3, 1) := by decide +kernel
theorem d_Wr_endPacket_21 : decode prog_8_method_6_code 21 = .ok (.iload_n 3, 1) := by decide +kernel
theorem d_Wr_endPacket_22 : decode prog_8_method_6_code 22 = .ok (.aload_n 0, 1) := by decide +kernel
theorem d_Wr_endPacket_23 : decode prog_8_method_6_code 23 = .ok (.getfield 12, 3) := by decide +kernel
theorem d_Wr_endPacket_26 : decode prog_8_method_6_code 26 = .ok (.invokevirtual 33, 3) := by decide +kernel
theorem d_Wr_endPacket_29 : decode prog_8_method_6_code 29 = .ok (.if_icmp .ge 21, 3) := by decide +kernel
theorem d_Wr_endPacket_32 : decode prog_8_method_6_code 32 = .ok (.aload_n 1, 1) := by decide +kernel
theorem d_Wr_endPacket_33 : decode prog_8_method_6_code 33 = .ok (.aload_n 0, 1) := by decide +kernel
theorem d_Wr_endPacket_34 : decode prog_8_method_6_code 34 = .ok (.getfield 12, 3) := by decide +kernel
theorem d_Wr_endPacket_37 : decode prog_8_method_6_code 37 = .ok (.iload_n 3, 1) := by decide +kernel
theorem d_Wr_endPacket_38 : decode prog_8_method_6_code 38 = .ok (.invokevirtual 37, 3) := by decide +kernel
theorem d_Wr_endPacket_41 : decode prog_8_method_6_code 41 = .ok (.invokestatic 48, 3) := by decide +kernel
theorem d_Wr_endPacket_44 : decode prog_8_method_6_code 44 = .ok (.iinc 3 1, 3) := by decide +kernel
theorem d_Wr_endPacket_47 : decode prog_8_method_6_code 47 = .ok (.goto (-26), 3) := by decide +kernel
theorem d_Wr_endPacket_50 : decode prog_8_method_6_code 50 = .ok (.return_, 1) := by decide +kernel
def rm_Wr_endPacket : Room := { frames := 2, cells := 0, slots := 0, locals := 42 }
def wp_Wr_endPacket_L21 (o : Nat) (q1 : Nat) (Q : UI → UR → Prop) : Nat → UI → UR → Int32 → Prop
  | 0, _, _, _ => False
  | n + 1, I, R, x3 => wp_Ck_size I R (o + 1) (fun r9 I7 R8 => ((r9 ≤ x3 → Q I7 R8) ∧ (¬ r9 ≤ x3 → wp_Ck_part I7 R8 (o + 1) x3 (fun r12 I10 R11 => wp_Wr_addEscaped I10 R11 q1 r12 (fun I13 R14 => ∀ v15 : Int32, v15 = x3 + 1 → wp_Wr_endPacket_L21 o q1 Q n I13 R14 v15)))))
set_option maxHeartbeats 4000000 in
set_option maxRecDepth 100000 in
theorem j_Wr_endPacket_21 (X : uX p s m args c prog_8_method_6_code 4 "FrameFerry$Writer" D cc L A t16 t32) (hr : meth.sig.returnType = none) (hlk : meth.locks = false) (hsz : sz = s.heap.size) {o : Nat} (h_o : isWr L o) {q1 : Nat} (h_q1 : isPi L q1) {Q : UI → UR → Prop} : ∀ (n : Nat) (I : UI) (R : UR) (x3 : Int32) (H : Heap) (locs : List Loc) (ls : Array Slot), uV s D cc L A J I R H locs → lv_has ls 4 [(0, .ref (A o)), (1, .ref (A q1)), (3, .int x3)] → wp_Wr_endPacket_L21 o q1 Q n I R x3 → W p l e rm_Wr_endPacket s m args below meth c H locs 0 0 (MQ below (va_Qv (fun u : UI × UR => Q u.1 u.2) (uBv D cc L A J) (uA L A sz)) args s 0 0 (uA L A sz)) (F0 m 21 ls []) := by
  intro n
  induction n with
  | zero => exact fun I R x3 H locs ls V hl h => False.elim h
  | succ n ih =>
    intro I R x3 H locs ls V hl h
    have hx := X.1
    have hb := X.2.1
    rw [wp_Wr_endPacket_L21] at h
    refine lv_iload_n (pc := 21) hx hb d_Wr_endPacket_21 rfl (lv_at hl 2 rfl) ?_
    refine lv_aload_n (pc := 22) hx hb d_Wr_endPacket_22 rfl (lv_at hl 0 rfl) ?_
    refine u_getr (pc := 23) (o' := (o + 1)) X V h_o.1 h_o.2.1 rfl f_Wr_12 rfl rfl d_Wr_endPacket_23 ?_
    refine u_cVi (pc := 26) (As := []) X V s_Wr_33 h_o.2.2.1 h_o.2.2.2 rfl rfl (c_Ck_size l D cc L A J t16 t32 _ _ (o + 1) ⟨h_o.2.2.1, h_o.2.2.2⟩ _ h) ⟨rfl, rfl, Nat.le_of_ble_eq_true rfl, Nat.le_of_ble_eq_true rfl⟩ rfl hl.1 rfl (Nat.le_of_ble_eq_true rfl) d_Wr_endPacket_26 ⟨Nat.zero_le _, Nat.zero_le _⟩ (fun r9 I7 R8 h H locs V => ?_)
    refine lv_icmp_ge (pc := 29) (tgt := 50) hx hb d_Wr_endPacket_29 (by decide) (fun hc => ?_) (fun hc => ?_)
    · have h := h.1 hc
      exact u_retv (pc := 50) X V hr hlk hsz h d_Wr_endPacket_50
    · have h := h.2 hc
      refine lv_aload_n (pc := 32) hx hb d_Wr_endPacket_32 rfl (lv_at hl 1 rfl) ?_
      refine lv_aload_n (pc := 33) hx hb d_Wr_endPacket_33 rfl (lv_at hl 0 rfl) ?_
      refine u_getr (pc := 34) (o' := (o + 1)) X V h_o.1 h_o.2.1 rfl f_Wr_12 rfl rfl d_Wr_endPacket_34 ?_
      refine lv_iload_n (pc := 37) hx hb d_Wr_endPacket_37 rfl (lv_at hl 2 rfl) ?_
      refine u_cVi (pc := 38) (As := [.int x3]) X V s_Wr_37 h_o.2.2.1 h_o.2.2.2 rfl rfl (c_Ck_part l D cc L A J t16 t32 _ _ (o + 1) ⟨h_o.2.2.1, h_o.2.2.2⟩ x3 _ h) ⟨rfl, rfl, Nat.le_of_ble_eq_true rfl, Nat.le_of_ble_eq_true rfl⟩ rfl hl.1 rfl (Nat.le_of_ble_eq_true rfl) d_Wr_endPacket_38 ⟨Nat.zero_le _, Nat.zero_le _⟩ (fun r12 I10 R11 h H locs V => ?_)
      refine u_cSv (pc := 41) (As := [.ref (A q1), .int r12]) X V s_Wr_48 (c_Wr_addEscaped l D cc L A J t16 t32 _ _ q1 h_q1 r12 _ h) ⟨rfl, rfl, Nat.le_of_ble_eq_true rfl, Nat.le_of_ble_eq_true rfl⟩ rfl hl.1 rfl (Nat.le_of_ble_eq_true rfl) d_Wr_endPacket_41 ⟨Nat.zero_le _, Nat.zero_le _⟩ (fun I13 R14 h H locs V => ?_)
      obtain ⟨v15, ev15⟩ : ∃ z : Int32, z = x3 + 1 := ⟨_, rfl⟩
      have h := h v15 ev15
      refine lv_iinc (pc := 44) (k := 2) (v := v15) (lv' := [(3, .int v15), (0, .ref (A o)), (1, .ref (A q1))]) hx hb d_Wr_endPacket_44 hl rfl (by rw [ev15]; rfl) (by decide) rfl (fun ls hl => ?_)
      refine lv_goto (pc := 47) (tgt := 21) hx hb d_Wr_endPacket_47 (by decide) ?_
      exact ih I13 R14 v15 H locs ls V (lv_sub hl [1, 2, 0] rfl) h
def wp_Wr_endPacket (I : UI) (R : UR) (o : Nat) (q1 : Nat) (x2 : Int32) (Q : UI → UR → Prop) : Prop :=
  wp_Pi_add I R q1 24 (fun I1 R2 => wp_Pi_add I1 R2 q1 x2 (fun I3 R4 => wp_Ck_add I3 R4 (o + 1) x2 (fun I5 R6 => (∃ n21 : Nat, wp_Wr_endPacket_L21 o q1 Q n21 I5 R6 0))))
set_option maxHeartbeats 4000000 in
set_option maxRecDepth 100000 in
theorem c_Wr_endPacket (l : Launch) (D : va_G) (cc : Nat → ClassId) (L : List Nat) (A : Nat → Nat) (J : Nat → Int64) (t16 t32 : Nat) (I : UI) (R : UR) (o : Nat) (h_o : isWr L o) (q1 : Nat) (h_q1 : isPi L q1) (x2 : Int32) (Q : UI → UR → Prop) (h : wp_Wr_endPacket I R o q1 x2 Q) : uMv l y_Wr_endPacket (.code y_Wr_endPacket prog_8_method_6_code 4 none) rm_Wr_endPacket [.ref (A o), .ref (A q1), .int x2] D cc L A J t16 t32 I R Q := by
  intro sz
  refine u_entry (by decide) (Nat.le_of_ble_eq_true rfl) (fun p e s m args below meth c hsz X V hr hlk ls hl => ?_)
  have X : uX p s m args c prog_8_method_6_code 4 "FrameFerry$Writer" D cc L A t16 t32 := X
  have hx := X.1
  have hb := X.2.1
  have hl : lv_has ls 4 [(0, .ref (A o)), (1, .ref (A q1)), (2, .int x2)] := hl
  unfold wp_Wr_endPacket at h
  generalize hH : s.heap = H at V ⊢
  generalize hlo : ([] : List Loc) = locs at V ⊢
  refine lv_aload_n (pc := 0) hx hb d_Wr_endPacket_0 rfl (lv_at hl 1 rfl) ?_
  refine lv_bipush (pc := 1) (v := 24) hx hb d_Wr_endPacket_1 (by decide) ?_
  refine u_cVv (pc := 3) (As := [.int 24]) X V s_Wr_18 h_q1.1 h_q1.2.1 rfl rfl (c_Pi_add l D cc L A J t16 t32 _ _ q1 h_q1 24 _ h) ⟨rfl, rfl, Nat.le_of_ble_eq_true rfl, Nat.le_of_ble_eq_true rfl⟩ rfl hl.1 rfl (Nat.le_of_ble_eq_true rfl) d_Wr_endPacket_3 ⟨Nat.zero_le _, Nat.zero_le _⟩ (fun I1 R2 h H locs V => ?_)
  refine lv_aload_n (pc := 6) hx hb d_Wr_endPacket_6 rfl (lv_at hl 1 rfl) ?_
  refine lv_iload_n (pc := 7) hx hb d_Wr_endPacket_7 rfl (lv_at hl 2 rfl) ?_
  refine u_cVv (pc := 8) (As := [.int x2]) X V s_Wr_18 h_q1.1 h_q1.2.1 rfl rfl (c_Pi_add l D cc L A J t16 t32 _ _ q1 h_q1 x2 _ h) ⟨rfl, rfl, Nat.le_of_ble_eq_true rfl, Nat.le_of_ble_eq_true rfl⟩ rfl hl.1 rfl (Nat.le_of_ble_eq_true rfl) d_Wr_endPacket_8 ⟨Nat.zero_le _, Nat.zero_le _⟩ (fun I3 R4 h H locs V => ?_)
  refine lv_aload_n (pc := 11) hx hb d_Wr_endPacket_11 rfl (lv_at hl 0 rfl) ?_
  refine u_getr (pc := 12) (o' := (o + 1)) X V h_o.1 h_o.2.1 rfl f_Wr_12 rfl rfl d_Wr_endPacket_12 ?_
  refine lv_iload_n (pc := 15) hx hb d_Wr_endPacket_15 rfl (lv_at hl 2 rfl) ?_
  refine u_cVv (pc := 16) (As := [.int x2]) X V s_Wr_32 h_o.2.2.1 h_o.2.2.2 rfl rfl (c_Ck_add l D cc L A J t16 t32 _ _ (o + 1) ⟨h_o.2.2.1, h_o.2.2.2⟩ x2 _ h) ⟨rfl, rfl, Nat.le_of_ble_eq_true rfl, Nat.le_of_ble_eq_true rfl⟩ rfl hl.1 rfl (Nat.le_of_ble_eq_true rfl) d_Wr_endPacket_16 ⟨Nat.zero_le _, Nat.zero_le _⟩ (fun I5 R6 h H locs V => ?_)
  refine lv_iconst (pc := 19) (v := 0) hx hb d_Wr_endPacket_19 (by decide) ?_
  refine lv_istore_n (pc := 20) (lv' := [(3, .int 0), (0, .ref (A o)), (1, .ref (A q1)), (2, .int x2)]) hx hb d_Wr_endPacket_20 rfl hl (by decide) rfl (fun ls hl => ?_)
  obtain ⟨n21, h⟩ := h
  exact j_Wr_endPacket_21 X hr hlk hsz h_o h_q1 n21 I5 R6 0 H locs ls V (lv_sub hl [1, 2, 0] rfl) h
end G
