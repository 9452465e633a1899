/-! Written by wip/gen/gen.py. -/
theorem f_Rc_64 : uF "FrameFerry$Receiver" 64 3 2 false (.object "FrameFerry$StoredFile") := ⟨R_Rc, T_Rc, 12, ty_Rc, rfl, by decide, tb_of 194 (by decide +kernel) rfl, l_Rc, ty_Rc_ok, n_Rc, rfl, rfl⟩
theorem f_Rc_116 : uF "FrameFerry$Receiver" 116 5 2 false .int := ⟨R_Sf, T_Sf, 3, ty_Sf, rfl, by decide, tb_of 467 (by decide +kernel) rfl, l_Sf, ty_Sf_ok, n_Sf, rfl, rfl⟩
theorem f_Rc_46 : uF "FrameFerry$Receiver" 46 3 10 false .boolean := ⟨R_Rc, T_Rc, 12, ty_Rc, rfl, by decide, tb_of 208 (by decide +kernel) rfl, l_Rc, ty_Rc_ok, n_Rc, rfl, rfl⟩
theorem s_Rc_138 : uCv "FrameFerry$Receiver" 138 y_Rc_numberFor 1 (.code y_Rc_numberFor prog_5_method_11_code 2 (some .int)) := ⟨⟨tb_of 439 (by decide +kernel) rfl, tb_of 7 (by decide +kernel) rfl, tb_of 442 (by decide +kernel) rfl, by decide +kernel⟩, tb_of 441 (by decide +kernel) rfl, tb_sel 19 (by decide +kernel) rfl⟩
theorem s_Rc_141 : uCv "FrameFerry$Receiver" 141 y_Wr_hexHeader 3 (.code y_Wr_hexHeader prog_8_method_2_code 6 none) := ⟨⟨tb_of 443 (by decide +kernel) rfl, tb_of 4 (by decide +kernel) rfl, tb_of 344 (by decide +kernel) rfl, by decide +kernel⟩, tb_of 342 (by decide +kernel) rfl, tb_of 343 (by decide +kernel) rfl⟩
theorem f_Rc_121 : uF "FrameFerry$Receiver" 121 2 1 false .int := ⟨R_Rd, T_Rd, 14, ty_Rd, rfl, by decide, tb_of 89 (by decide +kernel) rfl, l_Rd, ty_Rd_ok, n_Rd, rfl, rfl⟩
theorem f_Rc_135 : uF "FrameFerry$Receiver" 135 2 2 false .int := ⟨R_Rd, T_Rd, 14, ty_Rd, rfl, by decide, tb_of 91 (by decide +kernel) rfl, l_Rd, ty_Rd_ok, n_Rd, rfl, rfl⟩
theorem s_Rc_86 : uCv "FrameFerry$Receiver" 86 y_Rc_answer 1 (.code y_Rc_answer prog_5_method_10_code 2 none) := ⟨⟨tb_of 435 (by decide +kernel) rfl, tb_of 7 (by decide +kernel) rfl, tb_of 438 (by decide +kernel) rfl, by decide +kernel⟩, tb_of 437 (by decide +kernel) rfl, tb_sel 18 (by decide +kernel) rfl⟩
theorem f_Rc_117 : uF "FrameFerry$Receiver" 117 2 0 true (.array .byte) := ⟨R_Rd, T_Rd, 14, ty_Rd, rfl, by decide, tb_of 87 (by decide +kernel) rfl, l_Rd, ty_Rd_ok, n_Rd, rfl, rfl⟩
theorem s_Rc_132 : uCv "FrameFerry$Receiver" 132 y_Sf_append 1 (.code y_Sf_append prog_7_method_2_code 2 none) := ⟨⟨tb_of 479 (by decide +kernel) rfl, tb_of 14 (by decide +kernel) rfl, tb_of 482 (by decide +kernel) rfl, by decide +kernel⟩, tb_of 480 (by decide +kernel) rfl, tb_of 481 (by decide +kernel) rfl⟩
theorem f_Rc_104 : uF "FrameFerry$Receiver" 104 2 3 false .int := ⟨R_Rd, T_Rd, 14, ty_Rd, rfl, by decide, tb_of 92 (by decide +kernel) rfl, l_Rd, ty_Rd_ok, n_Rd, rfl, rfl⟩
theorem f_Rc_107 : uF "FrameFerry$Receiver" 107 2 5 false .boolean := ⟨R_Rd, T_Rd, 14, ty_Rd, rfl, by decide, tb_of 99 (by decide +kernel) rfl, l_Rd, ty_Rd_ok, n_Rd, rfl, rfl⟩
theorem f_Rc_92 : uF "FrameFerry$Receiver" 92 3 11 false .boolean := ⟨R_Rc, T_Rc, 12, ty_Rc, rfl, by decide, tb_of 209 (by decide +kernel) rfl, l_Rc, ty_Rc_ok, n_Rc, rfl, rfl⟩
theorem s_Rc_110 : uCv "FrameFerry$Receiver" 110 y_Rd_beginPacket 0 (.code y_Rd_beginPacket prog_4_method_3_code 1 none) := ⟨⟨tb_of 444 (by decide +kernel) rfl, tb_of 6 (by decide +kernel) rfl, tb_of 447 (by decide +kernel) rfl, by decide +kernel⟩, tb_of 445 (by decide +kernel) rfl, tb_of 446 (by decide +kernel) rfl⟩
theorem f_Rc_113 : uF "FrameFerry$Receiver" 113 2 4 false .int := ⟨R_Rd, T_Rd, 14, ty_Rd, rfl, by decide, tb_of 96 (by decide +kernel) rfl, l_Rd, ty_Rd_ok, n_Rd, rfl, rfl⟩
theorem s_Rc_68 : uCv "FrameFerry$Receiver" 68 y_Rd_goOutside 0 (.code y_Rd_goOutside prog_4_method_2_code 1 none) := ⟨⟨tb_of 506 (by decide +kernel) rfl, tb_of 6 (by decide +kernel) rfl, tb_of 509 (by decide +kernel) rfl, by decide +kernel⟩, tb_of 507 (by decide +kernel) rfl, tb_of 508 (by decide +kernel) rfl⟩
theorem f_Rc_42 : uF "FrameFerry$Receiver" 42 1 1 false .int := ⟨R_Pi, T_Pi, 3, ty_Pi, rfl, by decide, tb_of 38 (by decide +kernel) rfl, l_Pi, ty_Pi_ok, n_Pi, rfl, rfl⟩
theorem f_Rc_49 : uF "FrameFerry$Receiver" 49 3 4 false .int := ⟨R_Rc, T_Rc, 12, ty_Rc, rfl, by decide, tb_of 198 (by decide +kernel) rfl, l_Rc, ty_Rc_ok, n_Rc, rfl, rfl⟩
theorem f_Rc_52 : uF "FrameFerry$Receiver" 52 3 5 false .int := ⟨R_Rc, T_Rc, 12, ty_Rc, rfl, by decide, tb_of 200 (by decide +kernel) rfl, l_Rc, ty_Rc_ok, n_Rc, rfl, rfl⟩
theorem f_Rc_55 : uF "FrameFerry$Receiver" 55 3 6 false .int := ⟨R_Rc, T_Rc, 12, ty_Rc, rfl, by decide, tb_of 202 (by decide +kernel) rfl, l_Rc, ty_Rc_ok, n_Rc, rfl, rfl⟩
theorem f_Rc_58 : uF "FrameFerry$Receiver" 58 3 7 false .int := ⟨R_Rc, T_Rc, 12, ty_Rc, rfl, by decide, tb_of 204 (by decide +kernel) rfl, l_Rc, ty_Rc_ok, n_Rc, rfl, rfl⟩
theorem s_Rc_61 : uCv "FrameFerry$Receiver" 61 y_Rc_beginAnew 0 (.code y_Rc_beginAnew prog_5_method_3_code 1 none) := ⟨⟨tb_of 650 (by decide +kernel) rfl, tb_of 7 (by decide +kernel) rfl, tb_of 517 (by decide +kernel) rfl, by decide +kernel⟩, tb_of 515 (by decide +kernel) rfl, tb_of 516 (by decide +kernel) rfl⟩
theorem s_Rc_124 : (Cond.initialized y_FF_isLetter.cls ∈ tb ∧ Cond.static y_FF_isLetter ∈ tb ∧ Cond.code y_FF_isLetter prog_1_method_16_code 1 (some .boolean) ∈ tb) ∧ Cond.methodLinkNest "FrameFerry$Receiver" 124 y_FF_isLetter "FrameFerry" ∈ nw ∧ (y_FF_isLetter.cls ≠ "java/lang/invoke/MethodHandle" ∧ y_FF_isLetter.cls ≠ "java/lang/invoke/VarHandle" ∧ (parseMethodDescriptor y_FF_isLetter.desc).map (fun d => d.parameters.length) = some 1) := ⟨⟨tb_of 1 (by decide +kernel) rfl, tb_of 453 (by decide +kernel) rfl, tb_of 454 (by decide +kernel) rfl⟩, by decide +kernel, by decide +kernel⟩
theorem f_Rc_129 : uF "FrameFerry$Receiver" 129 5 1 false .int := ⟨R_Sf, T_Sf, 3, ty_Sf, rfl, by decide, tb_of 462 (by decide +kernel) rfl, l_Sf, ty_Sf_ok, n_Sf, rfl, rfl⟩
theorem s_Rc_89 : uCv "FrameFerry$Receiver" 89 y_Rc_takeHeader 0 (.code y_Rc_takeHeader prog_5_method_7_code 1 none) := ⟨⟨tb_of 431 (by decide +kernel) rfl, tb_of 7 (by decide +kernel) rfl, tb_of 434 (by decide +kernel) rfl, by decide +kernel⟩, tb_of 433 (by decide +kernel) rfl, tb_sel 17 (by decide +kernel) rfl⟩
theorem s_Rc_98 : uCv "FrameFerry$Receiver" 98 y_Rc_takeContent 0 (.code y_Rc_takeContent prog_5_method_9_code 2 none) := ⟨⟨tb_of 475 (by decide +kernel) rfl, tb_of 7 (by decide +kernel) rfl, tb_of 478 (by decide +kernel) rfl, by decide +kernel⟩, tb_of 477 (by decide +kernel) rfl, tb_sel 21 (by decide +kernel) rfl⟩
theorem s_Rc_101 : uCv "FrameFerry$Receiver" 101 y_Rd_passPacket 0 (.code y_Rd_passPacket prog_4_method_4_code 1 none) := ⟨⟨tb_of 483 (by decide +kernel) rfl, tb_of 6 (by decide +kernel) rfl, tb_of 486 (by decide +kernel) rfl, by decide +kernel⟩, tb_of 484 (by decide +kernel) rfl, tb_of 485 (by decide +kernel) rfl⟩
theorem s_Rc_95 : uCv "FrameFerry$Receiver" 95 y_Rc_takeName 0 (.code y_Rc_takeName prog_5_method_8_code 4 none) := ⟨⟨tb_of 448 (by decide +kernel) rfl, tb_of 7 (by decide +kernel) rfl, tb_of 451 (by decide +kernel) rfl, by decide +kernel⟩, tb_of 450 (by decide +kernel) rfl, tb_sel 20 (by decide +kernel) rfl⟩
theorem s_Rc_82 : uCv "FrameFerry$Receiver" 82 y_Pi_drop 2 (.code y_Pi_drop prog_3_method_6_code 4 (some .int)) := ⟨⟨tb_of 488 (by decide +kernel) rfl, tb_of 3 (by decide +kernel) rfl, tb_of 397 (by decide +kernel) rfl, by decide +kernel⟩, tb_of 395 (by decide +kernel) rfl, tb_of 396 (by decide +kernel) rfl⟩
theorem s_Rc_71 : uCv "FrameFerry$Receiver" 71 y_Pi_byteAt 1 (.code y_Pi_byteAt prog_3_method_4_code 2 (some .int)) := ⟨⟨tb_of 425 (by decide +kernel) rfl, tb_of 3 (by decide +kernel) rfl, tb_of 253 (by decide +kernel) rfl, by decide +kernel⟩, tb_of 251 (by decide +kernel) rfl, tb_of 252 (by decide +kernel) rfl⟩
theorem s_Rc_75 : uCv "FrameFerry$Receiver" 75 y_Rd_take 1 (.code y_Rd_take prog_4_method_5_code 2 (some .int)) := ⟨⟨tb_of 426 (by decide +kernel) rfl, tb_of 6 (by decide +kernel) rfl, tb_of 261 (by decide +kernel) rfl, by decide +kernel⟩, tb_of 259 (by decide +kernel) rfl, tb_of 260 (by decide +kernel) rfl⟩
theorem s_Rc_78 : uCv "FrameFerry$Receiver" 78 y_Rc_act 1 (.code y_Rc_act prog_5_method_6_code 2 none) := ⟨⟨tb_of 427 (by decide +kernel) rfl, tb_of 7 (by decide +kernel) rfl, tb_of 430 (by decide +kernel) rfl, by decide +kernel⟩, tb_of 429 (by decide +kernel) rfl, tb_sel 16 (by decide +kernel) rfl⟩
theorem n_Rc_18 : Cond.classLink "FrameFerry$Receiver" 18 "FrameFerry$StoredFile" ∈ tb ∧ Cond.instantiable "FrameFerry$StoredFile" 3 ∈ tb ∧ Cond.initialized "FrameFerry$StoredFile" ∈ tb := ⟨tb_of 185 (by decide +kernel) rfl, tb_of 455 (by decide +kernel) rfl, tb_of 14 (by decide +kernel) rfl⟩
theorem i_Rc_128 : (Cond.initialized y_Sf_init.cls ∈ tb ∧ Cond.instanceMethod y_Sf_init ∈ tb ∧ Cond.code y_Sf_init prog_7_method_1_code 1 none ∈ tb) ∧ Cond.methodLinkNest "FrameFerry$Receiver" 128 y_Sf_init "FrameFerry" ∈ nw ∧ y_Sf_init.name = "<init>" ∧ (y_Sf_init.cls ≠ "java/lang/invoke/MethodHandle" ∧ y_Sf_init.cls ≠ "java/lang/invoke/VarHandle" ∧ (parseMethodDescriptor y_Sf_init.desc).map (fun d => d.parameters.length) = some 0) := ⟨⟨tb_of 14 (by decide +kernel) rfl, tb_of 457 (by decide +kernel) rfl, tb_of 458 (by decide +kernel) rfl⟩, by decide +kernel, rfl, by decide +kernel⟩
theorem n_Se_36 : Cond.classLink "FrameFerry$Sender" 36 "FrameFerry$StoredFile" ∈ tb ∧ Cond.instantiable "FrameFerry$StoredFile" 3 ∈ tb ∧ Cond.initialized "FrameFerry$StoredFile" ∈ tb := ⟨tb_of 137 (by decide +kernel) rfl, tb_of 455 (by decide +kernel) rfl, tb_of 14 (by decide +kernel) rfl⟩
theorem i_Se_51 : (Cond.initialized y_Sf_init.cls ∈ tb ∧ Cond.instanceMethod y_Sf_init ∈ tb ∧ Cond.code y_Sf_init prog_7_method_1_code 1 none ∈ tb) ∧ Cond.methodLinkNest "FrameFerry$Sender" 51 y_Sf_init "FrameFerry" ∈ nw ∧ y_Sf_init.name = "<init>" ∧ (y_Sf_init.cls ≠ "java/lang/invoke/MethodHandle" ∧ y_Sf_init.cls ≠ "java/lang/invoke/VarHandle" ∧ (parseMethodDescriptor y_Sf_init.desc).map (fun d => d.parameters.length) = some 0) := ⟨⟨tb_of 14 (by decide +kernel) rfl, tb_of 457 (by decide +kernel) rfl, tb_of 458 (by decide +kernel) rfl⟩, by decide +kernel, rfl, by decide +kernel⟩
section G
variable {p : Program} {l : Launch} {e : Env} {s : State} {m : MethodId} {args : Array Value} {below : List Frame} {meth : Method} {c : Code} {D : va_G} {cc : Nat → ClassId} {L L0 : List Nat} {A A0 : Nat → Nat} {J : Nat → Int64} {t16 t32 sz : Nat}
-- FrameFerry.isLetter (I)Z
theorem d_FF_isLetter_0 : decode prog_1_method_16_code 0 = .ok (.iload_n 0, 1) := by decide +kernel
theorem d_FF_isLetter_1 : decode prog_1_method_16_code 1 = .ok (.ifCond .lt 13, 3) := by decide +kernel
theorem d_FF_isLetter_4 : decode prog_1_method_16_code 4 = .ok (.iload_n 0, 1) := by decide +kernel
theorem d_FF_isLetter_5 : decode prog_1_method_16_code 5 = .ok (.bipush 26, 2) := by decide +kernel
theorem d_FF_isLetter_7 : decode prog_1_method_16_code 7 = .ok (.if_icmp .ge 7, 3) := by decide +kernel
theorem d_FF_isLetter_10 : decode prog_1_method_16_code 10 = .ok (.iconst 1, 1) := by decide +kernel
theorem d_FF_isLetter_11 : decode prog_1_method_16_code 11 = .ok (.goto 4, 3) := by decide +kernel
theorem d_FF_isLetter_14 : decode prog_1_method_16_code 14 = .ok (.iconst 0, 1) := by decide +kernel
theorem d_FF_isLetter_15 : decode prog_1_method_16_code 15 = .ok (.ireturn, 1) := by decide +kernel
def rm_FF_isLetter : Room := { frames := 0, cells := 0, slots := 0, locals := 0 }
def wp_FF_isLetter (L : List Nat) (I : UI) (R : UR) (x0 : Int32) (Q : Int32 → UI → UR → Prop) : Prop :=
  ((x0 < 0 → (zb 0 ∧ Q 0 I R)) ∧ (¬ x0 < 0 → ((26 ≤ x0 → (zb 0 ∧ Q 0 I R)) ∧ (¬ 26 ≤ x0 → (zb 1 ∧ Q 1 I R)))))
set_option maxHeartbeats 4000000 in
set_option maxRecDepth 100000 in
theorem c_FF_isLetter (l : Launch) (D : va_G) (cc : Nat → ClassId) (L : List Nat) (A : Nat → Nat) (J : Nat → Int64) (t16 t32 : Nat) (I : UI) (R : UR) (x0 : Int32) (Q : Int32 → UI → UR → Prop) (h : wp_FF_isLetter L I R x0 Q) : uMi l y_FF_isLetter (.code y_FF_isLetter prog_1_method_16_code 1 (some .boolean)) rm_FF_isLetter [.int x0] D cc L A J t16 t32 I R Q := by
  intro sz
  refine u_entry (by decide) (Nat.le_of_ble_eq_true rfl) (fun p e s m args below meth c hsz X V hr hlk ls hl => ?_)
  have X : uX p s m args c prog_1_method_16_code 1 "FrameFerry" D cc L A t16 t32 := X
  have hx := X.1
  have hb := X.2.1
  have hl : lv_has ls 1 [(0, .int x0)] := hl
  unfold wp_FF_isLetter at h
  generalize hH : s.heap = H at V ⊢
  generalize hlo : ([] : List Loc) = locs at V ⊢
  refine lv_iload_n (pc := 0) hx hb d_FF_isLetter_0 rfl (lv_at hl 0 rfl) ?_
  refine lv_if_lt (pc := 1) (tgt := 14) hx hb d_FF_isLetter_1 (by decide) (fun hc => ?_) (fun hc => ?_)
  · have h := h.1 hc
    refine lv_iconst (pc := 14) (v := 0) hx hb d_FF_isLetter_14 (by decide) ?_
    exact u_retz (pc := 15) X V hr hlk hsz h.1 h.2 d_FF_isLetter_15
  · have h := h.2 hc
    refine lv_iload_n (pc := 4) hx hb d_FF_isLetter_4 rfl (lv_at hl 0 rfl) ?_
    refine lv_bipush (pc := 5) (v := 26) hx hb d_FF_isLetter_5 (by decide) ?_
    refine lv_icmp_ge (pc := 7) (tgt := 14) hx hb d_FF_isLetter_7 (by decide) (fun hc => ?_) (fun hc => ?_)
    · have h := h.1 hc
      refine lv_iconst (pc := 14) (v := 0) hx hb d_FF_isLetter_14 (by decide) ?_
      exact u_retz (pc := 15) X V hr hlk hsz h.1 h.2 d_FF_isLetter_15
    · have h := h.2 hc
      refine lv_iconst (pc := 10) (v := 1) hx hb d_FF_isLetter_10 (by decide) ?_
      refine lv_goto (pc := 11) (tgt := 15) hx hb d_FF_isLetter_11 (by decide) ?_
      exact u_retz (pc := 15) X V hr hlk hsz h.1 h.2 d_FF_isLetter_15
-- FrameFerry.isLetter (I)Z
set_option maxHeartbeats 4000000 in
set_option maxRecDepth 100000 in
theorem cp_FF_isLetter (l : Launch) (D : va_G) (cc : Nat → ClassId) (L : List Nat) (A : Nat → Nat) (J : Nat → Int64) (t16 t32 : Nat) (I : UI) (R : UR) (x0 : Int32) (Q : Int32 → Prop) (h : wp_FF_isLetter L I R x0 (fun r _ _ => Q r)) : uMiP l y_FF_isLetter (.code y_FF_isLetter prog_1_method_16_code 1 (some .boolean)) rm_FF_isLetter [.int x0] D cc L A J t16 t32 I R Q := by
  intro sz
  refine u_entryP (by decide) (Nat.le_of_ble_eq_true rfl) (fun p e s m args below meth c hsz X V hr hlk ls hl => ?_)
  have X : uX p s m args c prog_1_method_16_code 1 "FrameFerry" D cc L A t16 t32 := X
  have hx := X.1
  have hb := X.2.1
  have hl : lv_has ls 1 [(0, .int x0)] := hl
  unfold wp_FF_isLetter at h
  refine lv_iload_n (pc := 0) hx hb d_FF_isLetter_0 rfl (lv_at hl 0 rfl) ?_
  refine lv_if_lt (pc := 1) (tgt := 14) hx hb d_FF_isLetter_1 (by decide) (fun hc => ?_) (fun hc => ?_)
  · have h := h.1 hc
    refine lv_iconst (pc := 14) (v := 0) hx hb d_FF_isLetter_14 (by decide) ?_
    exact u_retzP (pc := 15) X hr hlk h.1 h.2 d_FF_isLetter_15
  · have h := h.2 hc
    refine lv_iload_n (pc := 4) hx hb d_FF_isLetter_4 rfl (lv_at hl 0 rfl) ?_
    refine lv_bipush (pc := 5) (v := 26) hx hb d_FF_isLetter_5 (by decide) ?_
    refine lv_icmp_ge (pc := 7) (tgt := 14) hx hb d_FF_isLetter_7 (by decide) (fun hc => ?_) (fun hc => ?_)
    · have h := h.1 hc
      refine lv_iconst (pc := 14) (v := 0) hx hb d_FF_isLetter_14 (by decide) ?_
      exact u_retzP (pc := 15) X hr hlk h.1 h.2 d_FF_isLetter_15
    · have h := h.2 hc
      refine lv_iconst (pc := 10) (v := 1) hx hb d_FF_isLetter_10 (by decide) ?_
      refine lv_goto (pc := 11) (tgt := 15) hx hb d_FF_isLetter_11 (by decide) ?_
      exact u_retzP (pc := 15) X hr hlk h.1 h.2 d_FF_isLetter_15
-- FrameFerry$Receiver.numberFor (I)I
theorem d_Rc_numberFor_0 : decode prog_5_method_11_code 0 = .ok (.iload_n 1, 1) := by decide +kernel
theorem d_Rc_numberFor_1 : decode prog_5_method_11_code 1 = .ok (.iconst 1, 1) := by decide +kernel
theorem d_Rc_numberFor_2 : decode prog_5_method_11_code 2 = .ok (.if_icmp .ne 17, 3) := by decide +kernel
theorem d_Rc_numberFor_5 : decode prog_5_method_11_code 5 = .ok (.aload_n 0, 1) := by decide +kernel
theorem d_Rc_numberFor_6 : decode prog_5_method_11_code 6 = .ok (.getfield 46, 3) := by decide +kernel
theorem d_Rc_numberFor_9 : decode prog_5_method_11_code 9 = .ok (.ifCond .eq 8, 3) := by decide +kernel
theorem d_Rc_numberFor_12 : decode prog_5_method_11_code 12 = .ok (.bipush 32, 2) := by decide +kernel
theorem d_Rc_numberFor_14 : decode prog_5_method_11_code 14 = .ok (.goto 4, 3) := by decide +kernel
theorem d_Rc_numberFor_17 : decode prog_5_method_11_code 17 = .ok (.iconst 0, 1) := by decide +kernel
theorem d_Rc_numberFor_18 : decode prog_5_method_11_code 18 = .ok (.ireturn, 1) := by decide +kernel
theorem d_Rc_numberFor_19 : decode prog_5_method_11_code 19 = .ok (.aload_n 0, 1) := by decide +kernel
theorem d_Rc_numberFor_20 : decode prog_5_method_11_code 20 = .ok (.getfield 64, 3) := by decide +kernel
theorem d_Rc_numberFor_23 : decode prog_5_method_11_code 23 = .ok (.ifnull 24, 3) := by decide +kernel
theorem d_Rc_numberFor_26 : decode prog_5_method_11_code 26 = .ok (.iload_n 1, 1) := by decide +kernel
theorem d_Rc_numberFor_27 : decode prog_5_method_11_code 27 = .ok (.bipush 9, 2) := by decide +kernel
theorem d_Rc_numberFor_29 : decode prog_5_method_11_code 29 = .ok (.if_icmp .eq 8, 3) := by decide +kernel
theorem d_Rc_numberFor_32 : decode prog_5_method_11_code 32 = .ok (.iload_n 1, 1) := by decide +kernel
theorem d_Rc_numberFor_33 : decode prog_5_method_11_code 33 = .ok (.iconst 3, 1) := by decide +kernel
theorem d_Rc_numberFor_34 : decode prog_5_method_11_code 34 = .ok (.if_icmp .ne 13, 3) := by decide +kernel
theorem d_Rc_numberFor_37 : decode prog_5_method_11_code 37 = .ok (.aload_n 0, 1) := by decide +kernel
theorem d_Rc_numberFor_38 : decode prog_5_method_11_code 38 = .ok (.getfield 64, 3) := by decide +kernel
theorem d_Rc_numberFor_41 : decode prog_5_method_11_code 41 = .ok (.getfield 116, 3) := by decide +kernel
theorem d_Rc_numberFor_44 : decode prog_5_method_11_code 44 = .ok (.goto 4, 3) := by decide +kernel
theorem d_Rc_numberFor_47 : decode prog_5_method_11_code 47 = .ok (.iconst 0, 1) := by decide +kernel
theorem d_Rc_numberFor_48 : decode prog_5_method_11_code 48 = .ok (.ireturn, 1) := by decide +kernel
def rm_Rc_numberFor : Room := { frames := 0, cells := 0, slots := 0, locals := 0 }
def wp_Rc_numberFor_L37 (L : List Nat) (Q : Int32 → UI → UR → Prop) (I : UI) (R : UR) : Prop :=
  (∃ i3 : Nat, R 3 2 = some i3 ∧ isSf L i3 ∧ Q (I i3 2) I R)
set_option maxHeartbeats 4000000 in
set_option maxRecDepth 100000 in
theorem j_Rc_numberFor_37 (X : uX p s m args c prog_5_method_11_code 2 "FrameFerry$Receiver" D cc L A t16 t32) (hr : meth.sig.returnType = (some .int)) (hlk : meth.locks = false) (hsz : sz = s.heap.size) {Q : Int32 → UI → UR → Prop} {I : UI} {R : UR} {H : Heap} {locs : List Loc} {ls : Array Slot} (V : uV s D cc L A J I R H locs) (hl : lv_has ls 2 [(0, .ref (A 3))]) (h : wp_Rc_numberFor_L37 L Q I R) : W p l e rm_Rc_numberFor s m args below meth c H locs 0 0 (MQ below (va_Qi (fun (r : Int32) (u : UI × UR) => Q r u.1 u.2) (uBv D cc L A J) (uA L A sz)) args s 0 0 (uA L A sz)) (F0 m 37 ls []) := by
  have hx := X.1
  have hb := X.2.1
  unfold wp_Rc_numberFor_L37 at h
  refine lv_aload_n (pc := 37) hx hb d_Rc_numberFor_37 rfl (lv_at hl 0 rfl) ?_
  refine u_getd (pc := 38) X V (X.fix rfl) rfl rfl f_Rc_64 rfl d_Rc_numberFor_38 ?_
  obtain ⟨i3, hi_i3, h_i3, h⟩ := h
  rw [hi_i3]
  try rw [hi_i3] at hl
  refine u_geti (pc := 41) X V h_i3.1 h_i3.2.1 rfl f_Rc_116 rfl d_Rc_numberFor_41 ?_
  refine lv_goto (pc := 44) (tgt := 48) hx hb d_Rc_numberFor_44 (by decide) ?_
  exact u_reti (pc := 48) X V hr hlk hsz h d_Rc_numberFor_48
def wp_Rc_numberFor (L : List Nat) (I : UI) (R : UR) (x1 : Int32) (Q : Int32 → UI → UR → Prop) : Prop :=
  ((¬ x1 = 1 → ∀ z1 : Option Nat, z1 = R 3 2 → ((z1 = none → Q 0 I R) ∧ (∀ i2 : Nat, z1 = some i2 → ((x1 = 9 → wp_Rc_numberFor_L37 L Q I R) ∧ (¬ x1 = 9 → ((¬ x1 = 3 → Q 0 I R) ∧ (x1 = 3 → wp_Rc_numberFor_L37 L Q I R))))))) ∧ (x1 = 1 → ((I 3 10 = 0 → Q 0 I R) ∧ (¬ I 3 10 = 0 → Q 32 I R))))
set_option maxHeartbeats 4000000 in
set_option maxRecDepth 100000 in
theorem c_Rc_numberFor (l : Launch) (D : va_G) (cc : Nat → ClassId) (L : List Nat) (A : Nat → Nat) (J : Nat → Int64) (t16 t32 : Nat) (I : UI) (R : UR) (x1 : Int32) (Q : Int32 → UI → UR → Prop) (h : wp_Rc_numberFor L I R x1 Q) : uMi l y_Rc_numberFor (.code y_Rc_numberFor prog_5_method_11_code 2 (some .int)) rm_Rc_numberFor [.ref (A 3), .int x1] D cc L A J t16 t32 I R Q := by
  intro sz
  refine u_entry (by decide) (Nat.le_of_ble_eq_true rfl) (fun p e s m args below meth c hsz X V hr hlk ls hl => ?_)
  have X : uX p s m args c prog_5_method_11_code 2 "FrameFerry$Receiver" D cc L A t16 t32 := X
  have hx := X.1
  have hb := X.2.1
  have hl : lv_has ls 2 [(0, .ref (A 3)), (1, .int x1)] := hl
  unfold wp_Rc_numberFor at h
  generalize hH : s.heap = H at V ⊢
  generalize hlo : ([] : List Loc) = locs at V ⊢
  refine lv_iload_n (pc := 0) hx hb d_Rc_numberFor_0 rfl (lv_at hl 1 rfl) ?_
  refine lv_iconst (pc := 1) (v := 1) hx hb d_Rc_numberFor_1 (by decide) ?_
  refine lv_icmp_ne (pc := 2) (tgt := 19) hx hb d_Rc_numberFor_2 (by decide) (fun hc => ?_) (fun hc => ?_)
  · have h := h.1 hc
    refine lv_aload_n (pc := 19) hx hb d_Rc_numberFor_19 rfl (lv_at hl 0 rfl) ?_
    refine u_getd (pc := 20) X V (X.fix rfl) rfl rfl f_Rc_64 rfl d_Rc_numberFor_20 ?_
    refine u_topo (fun z1 ez1 => ?_)
    have h := h z1 ez1
    rcases z1 with _ | i2
    · have h := h.1 rfl
      refine lv_ifnullN (pc := 23) (tgt := 47) hx hb d_Rc_numberFor_23 (by decide) ?_
      refine lv_iconst (pc := 47) (v := 0) hx hb d_Rc_numberFor_47 (by decide) ?_
      exact u_reti (pc := 48) X V hr hlk hsz h d_Rc_numberFor_48
    · have h := h.2 i2 rfl
      refine lv_ifnull (pc := 23) hx hb d_Rc_numberFor_23 ?_
      refine lv_iload_n (pc := 26) hx hb d_Rc_numberFor_26 rfl (lv_at hl 1 rfl) ?_
      refine lv_bipush (pc := 27) (v := 9) hx hb d_Rc_numberFor_27 (by decide) ?_
      refine lv_icmp_eq (pc := 29) (tgt := 37) hx hb d_Rc_numberFor_29 (by decide) (fun hc => ?_) (fun hc => ?_)
      · have h := h.1 hc
        exact j_Rc_numberFor_37 X hr hlk hsz V (lv_sub hl [0] rfl) h
      · have h := h.2 hc
        refine lv_iload_n (pc := 32) hx hb d_Rc_numberFor_32 rfl (lv_at hl 1 rfl) ?_
        refine lv_iconst (pc := 33) (v := 3) hx hb d_Rc_numberFor_33 (by decide) ?_
        refine lv_icmp_ne (pc := 34) (tgt := 47) hx hb d_Rc_numberFor_34 (by decide) (fun hc => ?_) (fun hc => ?_)
        · have h := h.1 hc
          refine lv_iconst (pc := 47) (v := 0) hx hb d_Rc_numberFor_47 (by decide) ?_
          exact u_reti (pc := 48) X V hr hlk hsz h d_Rc_numberFor_48
        · have h := h.2 hc
          exact j_Rc_numberFor_37 X hr hlk hsz V (lv_sub hl [0] rfl) h
  · have h := h.2 hc
    refine lv_aload_n (pc := 5) hx hb d_Rc_numberFor_5 rfl (lv_at hl 0 rfl) ?_
    refine u_geti (pc := 6) X V (X.fix rfl) rfl rfl f_Rc_46 rfl d_Rc_numberFor_6 ?_
    refine lv_if_eq (pc := 9) (tgt := 17) hx hb d_Rc_numberFor_9 (by decide) (fun hc => ?_) (fun hc => ?_)
    · have h := h.1 hc
      refine lv_iconst (pc := 17) (v := 0) hx hb d_Rc_numberFor_17 (by decide) ?_
      exact u_reti (pc := 18) X V hr hlk hsz h d_Rc_numberFor_18
    · have h := h.2 hc
      refine lv_bipush (pc := 12) (v := 32) hx hb d_Rc_numberFor_12 (by decide) ?_
      refine lv_goto (pc := 14) (tgt := 18) hx hb d_Rc_numberFor_14 (by decide) ?_
      exact u_reti (pc := 18) X V hr hlk hsz h d_Rc_numberFor_18
-- FrameFerry$Receiver.answer (I)V
theorem d_Rc_answer_0 : decode prog_5_method_10_code 0 = .ok (.aload_n 0, 1) := by decide +kernel
theorem d_Rc_answer_1 : decode prog_5_method_10_code 1 = .ok (.getfield 31, 3) := by decide +kernel
theorem d_Rc_answer_4 : decode prog_5_method_10_code 4 = .ok (.aload_n 0, 1) := by decide +kernel
theorem d_Rc_answer_5 : decode prog_5_method_10_code 5 = .ok (.getfield 12, 3) := by decide +kernel
theorem d_Rc_answer_8 : decode prog_5_method_10_code 8 = .ok (.iload_n 1, 1) := by decide +kernel
theorem d_Rc_answer_9 : decode prog_5_method_10_code 9 = .ok (.aload_n 0, 1) := by decide +kernel
theorem d_Rc_answer_10 : decode prog_5_method_10_code 10 = .ok (.iload_n 1, 1) := by decide +kernel
theorem d_Rc_answer_11 : decode prog_5_method_10_code 11 = .ok (.invokevirtual 138, 3) := by decide +kernel
theorem d_Rc_answer_14 : decode prog_5_method_10_code 14 = .ok (.invokevirtual 141, 3) := by decide +kernel
theorem d_Rc_answer_17 : decode prog_5_method_10_code 17 = .ok (.return_, 1) := by decide +kernel
def rm_Rc_answer : Room := { frames := 2, cells := 0, slots := 0, locals := 47 }
def wp_Rc_answer (L : List Nat) (I : UI) (R : UR) (x1 : Int32) (Q : UI → UR → Prop) : Prop :=
  wp_Rc_numberFor L I R x1 (fun r3 I1 R2 => wp_Wr_hexHeader I1 R2 10 6 x1 r3 (fun I4 R5 => Q I4 R5))
set_option maxHeartbeats 4000000 in
set_option maxRecDepth 100000 in
theorem c_Rc_answer (l : Launch) (D : va_G) (cc : Nat → ClassId) (L : List Nat) (A : Nat → Nat) (J : Nat → Int64) (t16 t32 : Nat) (I : UI) (R : UR) (x1 : Int32) (Q : UI → UR → Prop) (h : wp_Rc_answer L I R x1 Q) : uMv l y_Rc_answer (.code y_Rc_answer prog_5_method_10_code 2 none) rm_Rc_answer [.ref (A 3), .int x1] D cc L A J t16 t32 I R Q := by
  intro sz
  refine u_entry (by decide) (Nat.le_of_ble_eq_true rfl) (fun p e s m args below meth c hsz X V hr hlk ls hl => ?_)
  have X : uX p s m args c prog_5_method_10_code 2 "FrameFerry$Receiver" D cc L A t16 t32 := X
  have hx := X.1
  have hb := X.2.1
  have hl : lv_has ls 2 [(0, .ref (A 3)), (1, .int x1)] := hl
  unfold wp_Rc_answer at h
  generalize hH : s.heap = H at V ⊢
  generalize hlo : ([] : List Loc) = locs at V ⊢
  refine lv_aload_n (pc := 0) hx hb d_Rc_answer_0 rfl (lv_at hl 0 rfl) ?_
  refine u_getr (pc := 1) (o' := 10) X V (X.fix rfl) rfl rfl f_Rc_31 rfl rfl d_Rc_answer_1 ?_
  refine lv_aload_n (pc := 4) hx hb d_Rc_answer_4 rfl (lv_at hl 0 rfl) ?_
  refine u_getr (pc := 5) (o' := 6) X V (X.fix rfl) rfl rfl f_Rc_12 rfl rfl d_Rc_answer_5 ?_
  refine lv_iload_n (pc := 8) hx hb d_Rc_answer_8 rfl (lv_at hl 1 rfl) ?_
  refine lv_aload_n (pc := 9) hx hb d_Rc_answer_9 rfl (lv_at hl 0 rfl) ?_
  refine lv_iload_n (pc := 10) hx hb d_Rc_answer_10 rfl (lv_at hl 1 rfl) ?_
  refine u_cVi (pc := 11) (As := [.int x1]) X V s_Rc_138 (X.fix rfl) rfl rfl rfl (c_Rc_numberFor l D cc L A J t16 t32 _ _ x1 _ h) ⟨rfl, rfl, Nat.le_of_ble_eq_true rfl, Nat.le_of_ble_eq_true rfl⟩ rfl hl.1 rfl (Nat.le_of_ble_eq_true rfl) d_Rc_answer_11 ⟨Nat.zero_le _, Nat.zero_le _⟩ (fun r3 I1 R2 h H locs V => ?_)
  refine u_cVv (pc := 14) (As := [.ref (A 6), .int x1, .int r3]) X V s_Rc_141 (X.fix rfl) rfl rfl rfl (c_Wr_hexHeader l D cc L A J t16 t32 _ _ 10 ⟨(X.fix rfl), rfl, (X.fix rfl), rfl⟩ 6 ⟨(X.fix rfl), rfl, (X.fix rfl), rfl⟩ x1 r3 _ h) ⟨rfl, rfl, Nat.le_of_ble_eq_true rfl, Nat.le_of_ble_eq_true rfl⟩ rfl hl.1 rfl (Nat.le_of_ble_eq_true rfl) d_Rc_answer_14 ⟨Nat.zero_le _, Nat.zero_le _⟩ (fun I4 R5 h H locs V => ?_)
  exact u_retv (pc := 17) X V hr hlk hsz h d_Rc_answer_17
-- FrameFerry$Receiver.takeContent ()V
theorem d_Rc_takeContent_0 : decode prog_5_method_9_code 0 = .ok (.aload_n 0, 1) := by decide +kernel
theorem d_Rc_takeContent_1 : decode prog_5_method_9_code 1 = .ok (.getfield 64, 3) := by decide +kernel
theorem d_Rc_takeContent_4 : decode prog_5_method_9_code 4 = .ok (.ifnonnull 4, 3) := by decide +kernel
theorem d_Rc_takeContent_7 : decode prog_5_method_9_code 7 = .ok (.return_, 1) := by decide +kernel
theorem d_Rc_takeContent_8 : decode prog_5_method_9_code 8 = .ok (.iconst 0, 1) := by decide +kernel
theorem d_Rc_takeContent_9 : decode prog_5_method_9_code 9 = .ok (.istore_n 1, 1) := by decide +kernel
theorem d_Rc_takeContent_10 : decode prog_5_method_9_code 10 = .ok (.iload_n 1, 1) := by decide +kernel
theorem d_Rc_takeContent_11 : decode prog_5_method_9_code 11 = .ok (.aload_n 0, 1) := by decide +kernel
theorem d_Rc_takeContent_12 : decode prog_5_method_9_code 12 = .ok (.getfield 38, 3) := by decide +kernel
theorem d_Rc_takeContent_15 : decode prog_5_method_9_code 15 = .ok (.getfield 121, 3) := by decide +kernel
theorem d_Rc_takeContent_18 : decode prog_5_method_9_code 18 = .ok (.if_icmp .ge 25, 3) := by decide +kernel
theorem d_Rc_takeContent_21 : decode prog_5_method_9_code 21 = .ok (.aload_n 0, 1) := by decide +kernel
theorem d_Rc_takeContent_22 : decode prog_5_method_9_code 22 = .ok (.getfield 64, 3) := by decide +kernel
theorem d_Rc_takeContent_25 : decode prog_5_method_9_code 25 = .ok (.aload_n 0, 1) := by decide +kernel
theorem d_Rc_takeContent_26 : decode prog_5_method_9_code 26 = .ok (.getfield 38, 3) := by decide +kernel
theorem d_Rc_takeContent_29 : decode prog_5_method_9_code 29 = .ok (.getfield 117, 3) := by decide +kernel
theorem d_Rc_takeContent_32 : decode prog_5_method_9_code 32 = .ok (.iload_n 1, 1) := by decide +kernel
theorem d_Rc_takeContent_33 : decode prog_5_method_9_code 33 = .ok (.baload, 1) := by decide +kernel
theorem d_Rc_takeContent_34 : decode prog_5_method_9_code 34 = .ok (.invokevirtual 132, 3) := by decide +kernel
theorem d_Rc_takeContent_37 : decode prog_5_method_9_code 37 = .ok (.iinc 1 1, 3) := by decide +kernel
theorem d_Rc_takeContent_40 : decode prog_5_method_9_code 40 = .ok (.goto (-30), 3) := by decide +kernel
theorem d_Rc_takeContent_43 : decode prog_5_method_9_code 43 = .ok (.aload_n 0, 1) := by decide +kernel
theorem d_Rc_takeContent_44 : decode prog_5_method_9_code 44 = .ok (.getfield 38, 3) := by decide +kernel
theorem d_Rc_takeContent_47 : decode prog_5_method_9_code 47 = .ok (.getfield 135, 3) := by decide +kernel
theorem d_Rc_takeContent_50 : decode prog_5_method_9_code 50 = .ok (.bipush 106, 2) := by decide +kernel
theorem d_Rc_takeContent_52 : decode prog_5_method_9_code 52 = .ok (.if_icmp .eq 15, 3) := by decide +kernel
theorem d_Rc_takeContent_55 : decode prog_5_method_9_code 55 = .ok (.aload_n 0, 1) := by decide +kernel
theorem d_Rc_takeContent_56 : decode prog_5_method_9_code 56 = .ok (.getfield 38, 3) := by decide +kernel
theorem d_Rc_takeContent_59 : decode prog_5_method_9_code 59 = .ok (.getfield 135, 3) := by decide +kernel
theorem d_Rc_takeContent_62 : decode prog_5_method_9_code 62 = .ok (.bipush 107, 2) := by decide +kernel
theorem d_Rc_takeContent_64 : decode prog_5_method_9_code 64 = .ok (.if_icmp .ne 8, 3) := by decide +kernel
theorem d_Rc_takeContent_67 : decode prog_5_method_9_code 67 = .ok (.aload_n 0, 1) := by decide +kernel
theorem d_Rc_takeContent_68 : decode prog_5_method_9_code 68 = .ok (.iconst 3, 1) := by decide +kernel
theorem d_Rc_takeContent_69 : decode prog_5_method_9_code 69 = .ok (.invokevirtual 86, 3) := by decide +kernel
theorem d_Rc_takeContent_72 : decode prog_5_method_9_code 72 = .ok (.return_, 1) := by decide +kernel
def rm_Rc_takeContent : Room := { frames := 3, cells := 0, slots := 0, locals := 68 }
def wp_Rc_takeContent_L67 (L : List Nat) (Q : UI → UR → Prop) (I : UI) (R : UR) : Prop :=
  wp_Rc_answer L I R 3 (fun I3 R4 => Q I3 R4)
set_option maxHeartbeats 4000000 in
set_option maxRecDepth 100000 in
theorem j_Rc_takeContent_67 (X : uX p s m args c prog_5_method_9_code 2 "FrameFerry$Receiver" D cc L A t16 t32) (hr : meth.sig.returnType = none) (hlk : meth.locks = false) (hsz : sz = s.heap.size) {Q : UI → UR → Prop} {I : UI} {R : UR} {H : Heap} {locs : List Loc} {ls : Array Slot} (V : uV s D cc L A J I R H locs) (hl : lv_has ls 2 [(0, .ref (A 3))]) (h : wp_Rc_takeContent_L67 L Q I R) : W p l e rm_Rc_takeContent s m args below meth c H locs 0 0 (MQ below (va_Qv (fun u : UI × UR => Q u.1 u.2) (uBv D cc L A J) (uA L A sz)) args s 0 0 (uA L A sz)) (F0 m 67 ls []) := by
  have hx := X.1
  have hb := X.2.1
  unfold wp_Rc_takeContent_L67 at h
  refine lv_aload_n (pc := 67) hx hb d_Rc_takeContent_67 rfl (lv_at hl 0 rfl) ?_
  refine lv_iconst (pc := 68) (v := 3) hx hb d_Rc_takeContent_68 (by decide) ?_
  refine u_cVv (pc := 69) (As := [.int 3]) X V s_Rc_86 (X.fix rfl) rfl rfl rfl (c_Rc_answer l D cc L A J t16 t32 _ _ 3 _ h) ⟨rfl, rfl, Nat.le_of_ble_eq_true rfl, Nat.le_of_ble_eq_true rfl⟩ rfl hl.1 rfl (Nat.le_of_ble_eq_true rfl) d_Rc_takeContent_69 ⟨Nat.zero_le _, Nat.zero_le _⟩ (fun I3 R4 h H locs V => ?_)
  exact u_retv (pc := 72) X V hr hlk hsz h d_Rc_takeContent_72
def wp_Rc_takeContent_L10 (L : List Nat) (Q : UI → UR → Prop) : Nat → UI → UR → Int32 → Prop
  | 0, _, _, _ => False
  | n + 1, I, R, x1 => ((I 15 1 ≤ x1 → ((I 15 2 = 106 → wp_Rc_takeContent_L67 L Q I R) ∧ (¬ I 15 2 = 106 → ((¬ I 15 2 = 107 → Q I R) ∧ (I 15 2 = 107 → wp_Rc_takeContent_L67 L Q I R))))) ∧ (¬ I 15 1 ≤ x1 → vp_in x1 64 ∧ (∃ i5 : Nat, R 3 2 = some i5 ∧ isSf L i5 ∧ wp_Sf_append I R i5 (I 16 x1.toNatClampNeg) (fun I6 R7 => ∀ v8 : Int32, v8 = x1 + 1 → wp_Rc_takeContent_L10 L Q n I6 R7 v8))))
set_option maxHeartbeats 4000000 in
set_option maxRecDepth 100000 in
theorem j_Rc_takeContent_10 (X : uX p s m args c prog_5_method_9_code 2 "FrameFerry$Receiver" D cc L A t16 t32) (hr : meth.sig.returnType = none) (hlk : meth.locks = false) (hsz : sz = s.heap.size) {Q : UI → UR → Prop} : ∀ (n : Nat) (I : UI) (R : UR) (x1 : Int32) (H : Heap) (locs : List Loc) (ls : Array Slot), uV s D cc L A J I R H locs → lv_has ls 2 [(0, .ref (A 3)), (1, .int x1)] → wp_Rc_takeContent_L10 L Q n I R x1 → W p l e rm_Rc_takeContent s m args below meth c H locs 0 0 (MQ below (va_Qv (fun u : UI × UR => Q u.1 u.2) (uBv D cc L A J) (uA L A sz)) args s 0 0 (uA L A sz)) (F0 m 10 ls []) := by
  intro n
  induction n with
  | zero => exact fun I R x1 H locs ls V hl h => False.elim h
  | succ n ih =>
    intro I R x1 H locs ls V hl h
    have hx := X.1
    have hb := X.2.1
    rw [wp_Rc_takeContent_L10] at h
    refine lv_iload_n (pc := 10) hx hb d_Rc_takeContent_10 rfl (lv_at hl 1 rfl) ?_
    refine lv_aload_n (pc := 11) hx hb d_Rc_takeContent_11 rfl (lv_at hl 0 rfl) ?_
    refine u_getr (pc := 12) (o' := 15) X V (X.fix rfl) rfl rfl f_Rc_38 rfl rfl d_Rc_takeContent_12 ?_
    refine u_geti (pc := 15) X V (X.fix rfl) rfl rfl f_Rc_121 rfl d_Rc_takeContent_15 ?_
    refine lv_icmp_ge (pc := 18) (tgt := 43) hx hb d_Rc_takeContent_18 (by decide) (fun hc => ?_) (fun hc => ?_)
    · have h := h.1 hc
      refine lv_aload_n (pc := 43) hx hb d_Rc_takeContent_43 rfl (lv_at hl 0 rfl) ?_
      refine u_getr (pc := 44) (o' := 15) X V (X.fix rfl) rfl rfl f_Rc_38 rfl rfl d_Rc_takeContent_44 ?_
      refine u_geti (pc := 47) X V (X.fix rfl) rfl rfl f_Rc_135 rfl d_Rc_takeContent_47 ?_
      refine lv_bipush (pc := 50) (v := 106) hx hb d_Rc_takeContent_50 (by decide) ?_
      refine lv_icmp_eq (pc := 52) (tgt := 67) hx hb d_Rc_takeContent_52 (by decide) (fun hc => ?_) (fun hc => ?_)
      · have h := h.1 hc
        exact j_Rc_takeContent_67 X hr hlk hsz V (lv_sub hl [0] rfl) h
      · have h := h.2 hc
        refine lv_aload_n (pc := 55) hx hb d_Rc_takeContent_55 rfl (lv_at hl 0 rfl) ?_
        refine u_getr (pc := 56) (o' := 15) X V (X.fix rfl) rfl rfl f_Rc_38 rfl rfl d_Rc_takeContent_56 ?_
        refine u_geti (pc := 59) X V (X.fix rfl) rfl rfl f_Rc_135 rfl d_Rc_takeContent_59 ?_
        refine lv_bipush (pc := 62) (v := 107) hx hb d_Rc_takeContent_62 (by decide) ?_
        refine lv_icmp_ne (pc := 64) (tgt := 72) hx hb d_Rc_takeContent_64 (by decide) (fun hc => ?_) (fun hc => ?_)
        · have h := h.1 hc
          exact u_retv (pc := 72) X V hr hlk hsz h d_Rc_takeContent_72
        · have h := h.2 hc
          exact j_Rc_takeContent_67 X hr hlk hsz V (lv_sub hl [0] rfl) h
    · have h := h.2 hc
      refine lv_aload_n (pc := 21) hx hb d_Rc_takeContent_21 rfl (lv_at hl 0 rfl) ?_
      refine u_getd (pc := 22) X V (X.fix rfl) rfl rfl f_Rc_64 rfl d_Rc_takeContent_22 ?_
      refine lv_aload_n (pc := 25) hx hb d_Rc_takeContent_25 rfl (lv_at hl 0 rfl) ?_
      refine u_getr (pc := 26) (o' := 15) X V (X.fix rfl) rfl rfl f_Rc_38 rfl rfl d_Rc_takeContent_26 ?_
      refine u_getr (pc := 29) (o' := 16) X V (X.fix rfl) rfl rfl f_Rc_117 rfl rfl d_Rc_takeContent_29 ?_
      refine lv_iload_n (pc := 32) hx hb d_Rc_takeContent_32 rfl (lv_at hl 1 rfl) ?_
      refine u_bald (pc := 33) X V (X.fix rfl) rfl rfl rfl h.1 d_Rc_takeContent_33 ?_
      have h := h.2
      obtain ⟨i5, hi_i5, h_i5, h⟩ := h
      rw [hi_i5]
      try rw [hi_i5] at hl
      refine u_cVv (pc := 34) (As := [.int (I 16 x1.toNatClampNeg)]) X V s_Rc_132 h_i5.1 h_i5.2.1 rfl rfl (c_Sf_append l D cc L A J t16 t32 _ _ i5 h_i5 (I 16 x1.toNatClampNeg) _ h) ⟨rfl, rfl, Nat.le_of_ble_eq_true rfl, Nat.le_of_ble_eq_true rfl⟩ rfl hl.1 rfl (Nat.le_of_ble_eq_true rfl) d_Rc_takeContent_34 ⟨Nat.zero_le _, Nat.zero_le _⟩ (fun I6 R7 h H locs V => ?_)
      obtain ⟨v8, ev8⟩ : ∃ z : Int32, z = x1 + 1 := ⟨_, rfl⟩
      have h := h v8 ev8
      refine lv_iinc (pc := 37) (k := 1) (v := v8) (lv' := [(1, .int v8), (0, .ref (A 3))]) hx hb d_Rc_takeContent_37 hl rfl (by rw [ev8]; rfl) (by decide) rfl (fun ls hl => ?_)
      refine lv_goto (pc := 40) (tgt := 10) hx hb d_Rc_takeContent_40 (by decide) ?_
      exact ih I6 R7 v8 H locs ls V (lv_sub hl [1, 0] rfl) h
def wp_Rc_takeContent (L : List Nat) (I : UI) (R : UR) (Q : UI → UR → Prop) : Prop :=
  ∀ z1 : Option Nat, z1 = R 3 2 → ((z1 = none → Q I R) ∧ (∀ i2 : Nat, z1 = some i2 → (∃ n10 : Nat, wp_Rc_takeContent_L10 L Q n10 I R 0)))
set_option maxHeartbeats 4000000 in
set_option maxRecDepth 100000 in
theorem c_Rc_takeContent (l : Launch) (D : va_G) (cc : Nat → ClassId) (L : List Nat) (A : Nat → Nat) (J : Nat → Int64) (t16 t32 : Nat) (I : UI) (R : UR) (Q : UI → UR → Prop) (h : wp_Rc_takeContent L I R Q) : uMv l y_Rc_takeContent (.code y_Rc_takeContent prog_5_method_9_code 2 none) rm_Rc_takeContent [.ref (A 3)] D cc L A J t16 t32 I R Q := by
  intro sz
  refine u_entry (by decide) (Nat.le_of_ble_eq_true rfl) (fun p e s m args below meth c hsz X V hr hlk ls hl => ?_)
  have X : uX p s m args c prog_5_method_9_code 2 "FrameFerry$Receiver" D cc L A t16 t32 := X
  have hx := X.1
  have hb := X.2.1
  have hl : lv_has ls 2 [(0, .ref (A 3))] := hl
  unfold wp_Rc_takeContent at h
  generalize hH : s.heap = H at V ⊢
  generalize hlo : ([] : List Loc) = locs at V ⊢
  refine lv_aload_n (pc := 0) hx hb d_Rc_takeContent_0 rfl (lv_at hl 0 rfl) ?_
  refine u_getd (pc := 1) X V (X.fix rfl) rfl rfl f_Rc_64 rfl d_Rc_takeContent_1 ?_
  refine u_topo (fun z1 ez1 => ?_)
  have h := h z1 ez1
  rcases z1 with _ | i2
  · have h := h.1 rfl
    refine lv_ifnonnullN (pc := 4) hx hb d_Rc_takeContent_4 ?_
    exact u_retv (pc := 7) X V hr hlk hsz h d_Rc_takeContent_7
  · have h := h.2 i2 rfl
    refine lv_ifnonnull (pc := 4) (tgt := 8) hx hb d_Rc_takeContent_4 (by decide) ?_
    refine lv_iconst (pc := 8) (v := 0) hx hb d_Rc_takeContent_8 (by decide) ?_
    refine lv_istore_n (pc := 9) (lv' := [(1, .int 0), (0, .ref (A 3))]) hx hb d_Rc_takeContent_9 rfl hl (by decide) rfl (fun ls hl => ?_)
    obtain ⟨n10, h⟩ := h
    exact j_Rc_takeContent_10 X hr hlk hsz n10 I R 0 H locs ls V (lv_sub hl [1, 0] rfl) h
-- FrameFerry$Receiver.takeHeader ()V
theorem d_Rc_takeHeader_0 : decode prog_5_method_7_code 0 = .ok (.aload_n 0, 1) := by decide +kernel
theorem d_Rc_takeHeader_1 : decode prog_5_method_7_code 1 = .ok (.getfield 38, 3) := by decide +kernel
theorem d_Rc_takeHeader_4 : decode prog_5_method_7_code 4 = .ok (.getfield 104, 3) := by decide +kernel
theorem d_Rc_takeHeader_7 : decode prog_5_method_7_code 7 = .ok (.tableswitch 211 0 11 #[61, 211, 211, 211, 69, 211, 211, 211, 197, 211, 99, 160], 61) := by decide +kernel
theorem d_Rc_takeHeader_68 : decode prog_5_method_7_code 68 = .ok (.aload_n 0, 1) := by decide +kernel
theorem d_Rc_takeHeader_69 : decode prog_5_method_7_code 69 = .ok (.iconst 1, 1) := by decide +kernel
theorem d_Rc_takeHeader_70 : decode prog_5_method_7_code 70 = .ok (.invokevirtual 86, 3) := by decide +kernel
theorem d_Rc_takeHeader_73 : decode prog_5_method_7_code 73 = .ok (.goto 145, 3) := by decide +kernel
theorem d_Rc_takeHeader_76 : decode prog_5_method_7_code 76 = .ok (.aload_n 0, 1) := by decide +kernel
theorem d_Rc_takeHeader_77 : decode prog_5_method_7_code 77 = .ok (.getfield 38, 3) := by decide +kernel
theorem d_Rc_takeHeader_80 : decode prog_5_method_7_code 80 = .ok (.getfield 107, 3) := by decide +kernel
theorem d_Rc_takeHeader_83 : decode prog_5_method_7_code 83 = .ok (.ifCond .ne 135, 3) := by decide +kernel
theorem d_Rc_takeHeader_86 : decode prog_5_method_7_code 86 = .ok (.aload_n 0, 1) := by decide +kernel
theorem d_Rc_takeHeader_87 : decode prog_5_method_7_code 87 = .ok (.aconst_null, 1) := by decide +kernel
theorem d_Rc_takeHeader_88 : decode prog_5_method_7_code 88 = .ok (.putfield 64, 3) := by decide +kernel
theorem d_Rc_takeHeader_91 : decode prog_5_method_7_code 91 = .ok (.aload_n 0, 1) := by decide +kernel
theorem d_Rc_takeHeader_92 : decode prog_5_method_7_code 92 = .ok (.iconst 1, 1) := by decide +kernel
theorem d_Rc_takeHeader_93 : decode prog_5_method_7_code 93 = .ok (.putfield 92, 3) := by decide +kernel
theorem d_Rc_takeHeader_96 : decode prog_5_method_7_code 96 = .ok (.aload_n 0, 1) := by decide +kernel
theorem d_Rc_takeHeader_97 : decode prog_5_method_7_code 97 = .ok (.getfield 38, 3) := by decide +kernel
theorem d_Rc_takeHeader_100 : decode prog_5_method_7_code 100 = .ok (.invokevirtual 110, 3) := by decide +kernel
theorem d_Rc_takeHeader_103 : decode prog_5_method_7_code 103 = .ok (.goto 115, 3) := by decide +kernel
theorem d_Rc_takeHeader_106 : decode prog_5_method_7_code 106 = .ok (.aload_n 0, 1) := by decide +kernel
theorem d_Rc_takeHeader_107 : decode prog_5_method_7_code 107 = .ok (.getfield 38, 3) := by decide +kernel
theorem d_Rc_takeHeader_110 : decode prog_5_method_7_code 110 = .ok (.getfield 107, 3) := by decide +kernel
theorem d_Rc_takeHeader_113 : decode prog_5_method_7_code 113 = .ok (.ifCond .ne 105, 3) := by decide +kernel
theorem d_Rc_takeHeader_116 : decode prog_5_method_7_code 116 = .ok (.aload_n 0, 1) := by decide +kernel
theorem d_Rc_takeHeader_117 : decode prog_5_method_7_code 117 = .ok (.getfield 64, 3) := by decide +kernel
theorem d_Rc_takeHeader_120 : decode prog_5_method_7_code 120 = .ok (.ifnonnull 6, 3) := by decide +kernel
theorem d_Rc_takeHeader_123 : decode prog_5_method_7_code 123 = .ok (.goto 95, 3) := by decide +kernel
theorem d_Rc_takeHeader_126 : decode prog_5_method_7_code 126 = .ok (.aload_n 0, 1) := by decide +kernel
theorem d_Rc_takeHeader_127 : decode prog_5_method_7_code 127 = .ok (.getfield 38, 3) := by decide +kernel
theorem d_Rc_takeHeader_130 : decode prog_5_method_7_code 130 = .ok (.getfield 113, 3) := by decide +kernel
theorem d_Rc_takeHeader_133 : decode prog_5_method_7_code 133 = .ok (.aload_n 0, 1) := by decide +kernel
theorem d_Rc_takeHeader_134 : decode prog_5_method_7_code 134 = .ok (.getfield 64, 3) := by decide +kernel
theorem d_Rc_takeHeader_137 : decode prog_5_method_7_code 137 = .ok (.getfield 116, 3) := by decide +kernel
theorem d_Rc_takeHeader_140 : decode prog_5_method_7_code 140 = .ok (.if_icmp .ne 18, 3) := by decide +kernel
theorem d_Rc_takeHeader_143 : decode prog_5_method_7_code 143 = .ok (.aload_n 0, 1) := by decide +kernel
theorem d_Rc_takeHeader_144 : decode prog_5_method_7_code 144 = .ok (.iconst 0, 1) := by decide +kernel
theorem d_Rc_takeHeader_145 : decode prog_5_method_7_code 145 = .ok (.putfield 92, 3) := by decide +kernel
theorem d_Rc_takeHeader_148 : decode prog_5_method_7_code 148 = .ok (.aload_n 0, 1) := by decide +kernel
theorem d_Rc_takeHeader_149 : decode prog_5_method_7_code 149 = .ok (.getfield 38, 3) := by decide +kernel
theorem d_Rc_takeHeader_152 : decode prog_5_method_7_code 152 = .ok (.invokevirtual 110, 3) := by decide +kernel
theorem d_Rc_takeHeader_155 : decode prog_5_method_7_code 155 = .ok (.goto 63, 3) := by decide +kernel
theorem d_Rc_takeHeader_158 : decode prog_5_method_7_code 158 = .ok (.aload_n 0, 1) := by decide +kernel
theorem d_Rc_takeHeader_159 : decode prog_5_method_7_code 159 = .ok (.bipush 9, 2) := by decide +kernel
theorem d_Rc_takeHeader_161 : decode prog_5_method_7_code 161 = .ok (.invokevirtual 86, 3) := by decide +kernel
theorem d_Rc_takeHeader_164 : decode prog_5_method_7_code 164 = .ok (.goto 54, 3) := by decide +kernel
theorem d_Rc_takeHeader_167 : decode prog_5_method_7_code 167 = .ok (.aload_n 0, 1) := by decide +kernel
theorem d_Rc_takeHeader_168 : decode prog_5_method_7_code 168 = .ok (.getfield 64, 3) := by decide +kernel
theorem d_Rc_takeHeader_171 : decode prog_5_method_7_code 171 = .ok (.ifnull 47, 3) := by decide +kernel
theorem d_Rc_takeHeader_174 : decode prog_5_method_7_code 174 = .ok (.aload_n 0, 1) := by decide +kernel
theorem d_Rc_takeHeader_175 : decode prog_5_method_7_code 175 = .ok (.getfield 38, 3) := by decide +kernel
theorem d_Rc_takeHeader_178 : decode prog_5_method_7_code 178 = .ok (.getfield 113, 3) := by decide +kernel
theorem d_Rc_takeHeader_181 : decode prog_5_method_7_code 181 = .ok (.aload_n 0, 1) := by decide +kernel
theorem d_Rc_takeHeader_182 : decode prog_5_method_7_code 182 = .ok (.getfield 64, 3) := by decide +kernel
theorem d_Rc_takeHeader_185 : decode prog_5_method_7_code 185 = .ok (.getfield 116, 3) := by decide +kernel
theorem d_Rc_takeHeader_188 : decode prog_5_method_7_code 188 = .ok (.if_icmp .ne 30, 3) := by decide +kernel
theorem d_Rc_takeHeader_191 : decode prog_5_method_7_code 191 = .ok (.aload_n 0, 1) := by decide +kernel
theorem d_Rc_takeHeader_192 : decode prog_5_method_7_code 192 = .ok (.aconst_null, 1) := by decide +kernel
theorem d_Rc_takeHeader_193 : decode prog_5_method_7_code 193 = .ok (.putfield 64, 3) := by decide +kernel
theorem d_Rc_takeHeader_196 : decode prog_5_method_7_code 196 = .ok (.aload_n 0, 1) := by decide +kernel
theorem d_Rc_takeHeader_197 : decode prog_5_method_7_code 197 = .ok (.iconst 1, 1) := by decide +kernel
theorem d_Rc_takeHeader_198 : decode prog_5_method_7_code 198 = .ok (.invokevirtual 86, 3) := by decide +kernel
theorem d_Rc_takeHeader_201 : decode prog_5_method_7_code 201 = .ok (.goto 17, 3) := by decide +kernel
theorem d_Rc_takeHeader_204 : decode prog_5_method_7_code 204 = .ok (.aload_n 0, 1) := by decide +kernel
theorem d_Rc_takeHeader_205 : decode prog_5_method_7_code 205 = .ok (.bipush 8, 2) := by decide +kernel
theorem d_Rc_takeHeader_207 : decode prog_5_method_7_code 207 = .ok (.invokevirtual 86, 3) := by decide +kernel
theorem d_Rc_takeHeader_210 : decode prog_5_method_7_code 210 = .ok (.aload_n 0, 1) := by decide +kernel
theorem d_Rc_takeHeader_211 : decode prog_5_method_7_code 211 = .ok (.iconst 1, 1) := by decide +kernel
theorem d_Rc_takeHeader_212 : decode prog_5_method_7_code 212 = .ok (.putfield 24, 3) := by decide +kernel
theorem d_Rc_takeHeader_215 : decode prog_5_method_7_code 215 = .ok (.goto 3, 3) := by decide +kernel
theorem d_Rc_takeHeader_218 : decode prog_5_method_7_code 218 = .ok (.return_, 1) := by decide +kernel
def rm_Rc_takeHeader : Room := { frames := 3, cells := 0, slots := 0, locals := 68 }
def wp_Rc_takeHeader (L : List Nat) (I : UI) (R : UR) (Q : UI → UR → Prop) : Prop :=
  ∀ v1 : Int32, v1 = I 15 3 → ((v1 = 0 → wp_Rc_answer L I R 1 (fun I2 R3 => Q I2 R3)) ∧ (¬ v1 = 0 → ((v1 = 1 → Q I R) ∧ (¬ v1 = 1 → ((v1 = 2 → Q I R) ∧ (¬ v1 = 2 → ((v1 = 3 → Q I R) ∧ (¬ v1 = 3 → ((v1 = 4 → ((¬ I 15 5 = 0 → Q I R) ∧ (I 15 5 = 0 → ∀ R4 : UR, R4 = r2 R 3 2 none → zb 1 ∧ ∀ I5 : UI, I5 = u2 I 3 11 1 → wp_Rd_beginPacket I5 R4 15 (fun I6 R7 => Q I6 R7)))) ∧ (¬ v1 = 4 → ((v1 = 5 → Q I R) ∧ (¬ v1 = 5 → ((v1 = 6 → Q I R) ∧ (¬ v1 = 6 → ((v1 = 7 → Q I R) ∧ (¬ v1 = 7 → ((v1 = 8 → wp_Rc_answer L I R 8 (fun I8 R9 => zb 1 ∧ ∀ I10 : UI, I10 = u2 I8 3 3 1 → Q I10 R9)) ∧ (¬ v1 = 8 → ((v1 = 9 → Q I R) ∧ (¬ v1 = 9 → ((v1 = 10 → ((¬ I 15 5 = 0 → Q I R) ∧ (I 15 5 = 0 → ∀ z11 : Option Nat, z11 = R 3 2 → ((z11 = none → Q I R) ∧ (∀ i12 : Nat, z11 = some i12 → (∃ i13 : Nat, R 3 2 = some i13 ∧ isSf L i13 ∧ ((¬ I 15 4 = I i13 2 → wp_Rc_answer L I R 9 (fun I14 R15 => Q I14 R15)) ∧ (I 15 4 = I i13 2 → zb 0 ∧ ∀ I16 : UI, I16 = u2 I 3 11 0 → wp_Rd_beginPacket I16 R 15 (fun I17 R18 => Q I17 R18))))))))) ∧ (¬ v1 = 10 → ((v1 = 11 → ∀ z19 : Option Nat, z19 = R 3 2 → ((z19 = none → Q I R) ∧ (∀ i20 : Nat, z19 = some i20 → (∃ i21 : Nat, R 3 2 = some i21 ∧ isSf L i21 ∧ ((¬ I 15 4 = I i21 2 → Q I R) ∧ (I 15 4 = I i21 2 → ∀ R22 : UR, R22 = r2 R 3 2 none → wp_Rc_answer L I R22 1 (fun I23 R24 => Q I23 R24))))))) ∧ (¬ v1 = 11 → Q I R))))))))))))))))))))))))
set_option maxHeartbeats 4000000 in
set_option maxRecDepth 100000 in
theorem c_Rc_takeHeader (l : Launch) (D : va_G) (cc : Nat → ClassId) (L : List Nat) (A : Nat → Nat) (J : Nat → Int64) (t16 t32 : Nat) (I : UI) (R : UR) (Q : UI → UR → Prop) (h : wp_Rc_takeHeader L I R Q) : uMv l y_Rc_takeHeader (.code y_Rc_takeHeader prog_5_method_7_code 1 none) rm_Rc_takeHeader [.ref (A 3)] D cc L A J t16 t32 I R Q := by
  intro sz
  refine u_entry (by decide) (Nat.le_of_ble_eq_true rfl) (fun p e s m args below meth c hsz X V hr hlk ls hl => ?_)
  have X : uX p s m args c prog_5_method_7_code 1 "FrameFerry$Receiver" D cc L A t16 t32 := X
  have hx := X.1
  have hb := X.2.1
  have hl : lv_has ls 1 [(0, .ref (A 3))] := hl
  unfold wp_Rc_takeHeader at h
  generalize hH : s.heap = H at V ⊢
  generalize hlo : ([] : List Loc) = locs at V ⊢
  refine lv_aload_n (pc := 0) hx hb d_Rc_takeHeader_0 rfl (lv_at hl 0 rfl) ?_
  refine u_getr (pc := 1) (o' := 15) X V (X.fix rfl) rfl rfl f_Rc_38 rfl rfl d_Rc_takeHeader_1 ?_
  refine u_geti (pc := 4) X V (X.fix rfl) rfl rfl f_Rc_104 rfl d_Rc_takeHeader_4 ?_
  refine lv_topi (fun v1 ev1 => ?_)
  have h := h v1 ev1
  by_cases hn0 : v1 = 0
  · have h := h.1 hn0
    rw [hn0]
    refine lv_tableIn (pc := 7) (tgt := 68) (off := 61) hx hb d_Rc_takeHeader_7 (by decide) (by decide) rfl (by decide) ?_
    refine lv_aload_n (pc := 68) hx hb d_Rc_takeHeader_68 rfl (lv_at hl 0 rfl) ?_
    refine lv_iconst (pc := 69) (v := 1) hx hb d_Rc_takeHeader_69 (by decide) ?_
    refine u_cVv (pc := 70) (As := [.int 1]) X V s_Rc_86 (X.fix rfl) rfl rfl rfl (c_Rc_answer l D cc L A J t16 t32 _ _ 1 _ h) ⟨rfl, rfl, Nat.le_of_ble_eq_true rfl, Nat.le_of_ble_eq_true rfl⟩ rfl hl.1 rfl (Nat.le_of_ble_eq_true rfl) d_Rc_takeHeader_70 ⟨Nat.zero_le _, Nat.zero_le _⟩ (fun I2 R3 h H locs V => ?_)
    refine lv_goto (pc := 73) (tgt := 218) hx hb d_Rc_takeHeader_73 (by decide) ?_
    exact u_retv (pc := 218) X V hr hlk hsz h d_Rc_takeHeader_218
  · have h := h.2 hn0
    by_cases hn1 : v1 = 1
    · have h := h.1 hn1
      rw [hn1]
      refine lv_tableIn (pc := 7) (tgt := 218) (off := 211) hx hb d_Rc_takeHeader_7 (by decide) (by decide) rfl (by decide) ?_
      exact u_retv (pc := 218) X V hr hlk hsz h d_Rc_takeHeader_218
    · have h := h.2 hn1
      by_cases hn2 : v1 = 2
      · have h := h.1 hn2
        rw [hn2]
        refine lv_tableIn (pc := 7) (tgt := 218) (off := 211) hx hb d_Rc_takeHeader_7 (by decide) (by decide) rfl (by decide) ?_
        exact u_retv (pc := 218) X V hr hlk hsz h d_Rc_takeHeader_218
      · have h := h.2 hn2
        by_cases hn3 : v1 = 3
        · have h := h.1 hn3
          rw [hn3]
          refine lv_tableIn (pc := 7) (tgt := 218) (off := 211) hx hb d_Rc_takeHeader_7 (by decide) (by decide) rfl (by decide) ?_
          exact u_retv (pc := 218) X V hr hlk hsz h d_Rc_takeHeader_218
        · have h := h.2 hn3
          by_cases hn4 : v1 = 4
          · have h := h.1 hn4
            rw [hn4]
            refine lv_tableIn (pc := 7) (tgt := 76) (off := 69) hx hb d_Rc_takeHeader_7 (by decide) (by decide) rfl (by decide) ?_
            refine lv_aload_n (pc := 76) hx hb d_Rc_takeHeader_76 rfl (lv_at hl 0 rfl) ?_
            refine u_getr (pc := 77) (o' := 15) X V (X.fix rfl) rfl rfl f_Rc_38 rfl rfl d_Rc_takeHeader_77 ?_
            refine u_geti (pc := 80) X V (X.fix rfl) rfl rfl f_Rc_107 rfl d_Rc_takeHeader_80 ?_
            refine lv_if_ne (pc := 83) (tgt := 218) hx hb d_Rc_takeHeader_83 (by decide) (fun hc => ?_) (fun hc => ?_)
            · have h := h.1 hc
              exact u_retv (pc := 218) X V hr hlk hsz h d_Rc_takeHeader_218
            · have h := h.2 hc
              refine lv_aload_n (pc := 86) hx hb d_Rc_takeHeader_86 rfl (lv_at hl 0 rfl) ?_
              refine lv_null (pc := 87) hx hb d_Rc_takeHeader_87 ?_
              refine u_putd (pc := 88) (x := none) X V (X.fix rfl) rfl rfl f_Rc_64 rfl rfl d_Rc_takeHeader_88 (fun R4 eR4 H locs V => ?_)
              have h := h R4 eR4
              refine lv_aload_n (pc := 91) hx hb d_Rc_takeHeader_91 rfl (lv_at hl 0 rfl) ?_
              refine lv_iconst (pc := 92) (v := 1) hx hb d_Rc_takeHeader_92 (by decide) ?_
              refine u_putz (pc := 93) X V (X.fix rfl) rfl rfl f_Rc_92 rfl h.1 d_Rc_takeHeader_93 (fun I5 eI5 H locs V => ?_)
              have h := h.2 I5 eI5
              refine lv_aload_n (pc := 96) hx hb d_Rc_takeHeader_96 rfl (lv_at hl 0 rfl) ?_
              refine u_getr (pc := 97) (o' := 15) X V (X.fix rfl) rfl rfl f_Rc_38 rfl rfl d_Rc_takeHeader_97 ?_
              refine u_cVv (pc := 100) (As := []) X V s_Rc_110 (X.fix rfl) rfl rfl rfl (c_Rd_beginPacket l D cc L A J t16 t32 _ _ 15 ⟨(X.fix rfl), rfl, (X.fix rfl), rfl, (X.fix rfl), rfl⟩ _ h) ⟨rfl, rfl, Nat.le_of_ble_eq_true rfl, Nat.le_of_ble_eq_true rfl⟩ rfl hl.1 rfl (Nat.le_of_ble_eq_true rfl) d_Rc_takeHeader_100 ⟨Nat.zero_le _, Nat.zero_le _⟩ (fun I6 R7 h H locs V => ?_)
              refine lv_goto (pc := 103) (tgt := 218) hx hb d_Rc_takeHeader_103 (by decide) ?_
              exact u_retv (pc := 218) X V hr hlk hsz h d_Rc_takeHeader_218
          · have h := h.2 hn4
            by_cases hn5 : v1 = 5
            · have h := h.1 hn5
              rw [hn5]
              refine lv_tableIn (pc := 7) (tgt := 218) (off := 211) hx hb d_Rc_takeHeader_7 (by decide) (by decide) rfl (by decide) ?_
              exact u_retv (pc := 218) X V hr hlk hsz h d_Rc_takeHeader_218
            · have h := h.2 hn5
              by_cases hn6 : v1 = 6
              · have h := h.1 hn6
                rw [hn6]
                refine lv_tableIn (pc := 7) (tgt := 218) (off := 211) hx hb d_Rc_takeHeader_7 (by decide) (by decide) rfl (by decide) ?_
                exact u_retv (pc := 218) X V hr hlk hsz h d_Rc_takeHeader_218
              · have h := h.2 hn6
                by_cases hn7 : v1 = 7
                · have h := h.1 hn7
                  rw [hn7]
                  refine lv_tableIn (pc := 7) (tgt := 218) (off := 211) hx hb d_Rc_takeHeader_7 (by decide) (by decide) rfl (by decide) ?_
                  exact u_retv (pc := 218) X V hr hlk hsz h d_Rc_takeHeader_218
                · have h := h.2 hn7
                  by_cases hn8 : v1 = 8
                  · have h := h.1 hn8
                    rw [hn8]
                    refine lv_tableIn (pc := 7) (tgt := 204) (off := 197) hx hb d_Rc_takeHeader_7 (by decide) (by decide) rfl (by decide) ?_
                    refine lv_aload_n (pc := 204) hx hb d_Rc_takeHeader_204 rfl (lv_at hl 0 rfl) ?_
                    refine lv_bipush (pc := 205) (v := 8) hx hb d_Rc_takeHeader_205 (by decide) ?_
                    refine u_cVv (pc := 207) (As := [.int 8]) X V s_Rc_86 (X.fix rfl) rfl rfl rfl (c_Rc_answer l D cc L A J t16 t32 _ _ 8 _ h) ⟨rfl, rfl, Nat.le_of_ble_eq_true rfl, Nat.le_of_ble_eq_true rfl⟩ rfl hl.1 rfl (Nat.le_of_ble_eq_true rfl) d_Rc_takeHeader_207 ⟨Nat.zero_le _, Nat.zero_le _⟩ (fun I8 R9 h H locs V => ?_)
                    refine lv_aload_n (pc := 210) hx hb d_Rc_takeHeader_210 rfl (lv_at hl 0 rfl) ?_
                    refine lv_iconst (pc := 211) (v := 1) hx hb d_Rc_takeHeader_211 (by decide) ?_
                    refine u_putz (pc := 212) X V (X.fix rfl) rfl rfl f_Rc_24 rfl h.1 d_Rc_takeHeader_212 (fun I10 eI10 H locs V => ?_)
                    have h := h.2 I10 eI10
                    refine lv_goto (pc := 215) (tgt := 218) hx hb d_Rc_takeHeader_215 (by decide) ?_
                    exact u_retv (pc := 218) X V hr hlk hsz h d_Rc_takeHeader_218
                  · have h := h.2 hn8
                    by_cases hn9 : v1 = 9
                    · have h := h.1 hn9
                      rw [hn9]
                      refine lv_tableIn (pc := 7) (tgt := 218) (off := 211) hx hb d_Rc_takeHeader_7 (by decide) (by decide) rfl (by decide) ?_
                      exact u_retv (pc := 218) X V hr hlk hsz h d_Rc_takeHeader_218
                    · have h := h.2 hn9
                      by_cases hn10 : v1 = 10
                      · have h := h.1 hn10
                        rw [hn10]
                        refine lv_tableIn (pc := 7) (tgt := 106) (off := 99) hx hb d_Rc_takeHeader_7 (by decide) (by decide) rfl (by decide) ?_
                        refine lv_aload_n (pc := 106) hx hb d_Rc_takeHeader_106 rfl (lv_at hl 0 rfl) ?_
                        refine u_getr (pc := 107) (o' := 15) X V (X.fix rfl) rfl rfl f_Rc_38 rfl rfl d_Rc_takeHeader_107 ?_
                        refine u_geti (pc := 110) X V (X.fix rfl) rfl rfl f_Rc_107 rfl d_Rc_takeHeader_110 ?_
                        refine lv_if_ne (pc := 113) (tgt := 218) hx hb d_Rc_takeHeader_113 (by decide) (fun hc => ?_) (fun hc => ?_)
                        · have h := h.1 hc
                          exact u_retv (pc := 218) X V hr hlk hsz h d_Rc_takeHeader_218
                        · have h := h.2 hc
                          refine lv_aload_n (pc := 116) hx hb d_Rc_takeHeader_116 rfl (lv_at hl 0 rfl) ?_
                          refine u_getd (pc := 117) X V (X.fix rfl) rfl rfl f_Rc_64 rfl d_Rc_takeHeader_117 ?_
                          refine u_topo (fun z11 ez11 => ?_)
                          have h := h z11 ez11
                          rcases z11 with _ | i12
                          · have h := h.1 rfl
                            refine lv_ifnonnullN (pc := 120) hx hb d_Rc_takeHeader_120 ?_
                            refine lv_goto (pc := 123) (tgt := 218) hx hb d_Rc_takeHeader_123 (by decide) ?_
                            exact u_retv (pc := 218) X V hr hlk hsz h d_Rc_takeHeader_218
                          · have h := h.2 i12 rfl
                            refine lv_ifnonnull (pc := 120) (tgt := 126) hx hb d_Rc_takeHeader_120 (by decide) ?_
                            refine lv_aload_n (pc := 126) hx hb d_Rc_takeHeader_126 rfl (lv_at hl 0 rfl) ?_
                            refine u_getr (pc := 127) (o' := 15) X V (X.fix rfl) rfl rfl f_Rc_38 rfl rfl d_Rc_takeHeader_127 ?_
                            refine u_geti (pc := 130) X V (X.fix rfl) rfl rfl f_Rc_113 rfl d_Rc_takeHeader_130 ?_
                            refine lv_aload_n (pc := 133) hx hb d_Rc_takeHeader_133 rfl (lv_at hl 0 rfl) ?_
                            refine u_getd (pc := 134) X V (X.fix rfl) rfl rfl f_Rc_64 rfl d_Rc_takeHeader_134 ?_
                            obtain ⟨i13, hi_i13, h_i13, h⟩ := h
                            rw [hi_i13]
                            try rw [hi_i13] at hl
                            refine u_geti (pc := 137) X V h_i13.1 h_i13.2.1 rfl f_Rc_116 rfl d_Rc_takeHeader_137 ?_
                            refine lv_icmp_ne (pc := 140) (tgt := 158) hx hb d_Rc_takeHeader_140 (by decide) (fun hc => ?_) (fun hc => ?_)
                            · have h := h.1 hc
                              refine lv_aload_n (pc := 158) hx hb d_Rc_takeHeader_158 rfl (lv_at hl 0 rfl) ?_
                              refine lv_bipush (pc := 159) (v := 9) hx hb d_Rc_takeHeader_159 (by decide) ?_
                              refine u_cVv (pc := 161) (As := [.int 9]) X V s_Rc_86 (X.fix rfl) rfl rfl rfl (c_Rc_answer l D cc L A J t16 t32 _ _ 9 _ h) ⟨rfl, rfl, Nat.le_of_ble_eq_true rfl, Nat.le_of_ble_eq_true rfl⟩ rfl hl.1 rfl (Nat.le_of_ble_eq_true rfl) d_Rc_takeHeader_161 ⟨Nat.zero_le _, Nat.zero_le _⟩ (fun I14 R15 h H locs V => ?_)
                              refine lv_goto (pc := 164) (tgt := 218) hx hb d_Rc_takeHeader_164 (by decide) ?_
                              exact u_retv (pc := 218) X V hr hlk hsz h d_Rc_takeHeader_218
                            · have h := h.2 hc
                              refine lv_aload_n (pc := 143) hx hb d_Rc_takeHeader_143 rfl (lv_at hl 0 rfl) ?_
                              refine lv_iconst (pc := 144) (v := 0) hx hb d_Rc_takeHeader_144 (by decide) ?_
                              refine u_putz (pc := 145) X V (X.fix rfl) rfl rfl f_Rc_92 rfl h.1 d_Rc_takeHeader_145 (fun I16 eI16 H locs V => ?_)
                              have h := h.2 I16 eI16
                              refine lv_aload_n (pc := 148) hx hb d_Rc_takeHeader_148 rfl (lv_at hl 0 rfl) ?_
                              refine u_getr (pc := 149) (o' := 15) X V (X.fix rfl) rfl rfl f_Rc_38 rfl rfl d_Rc_takeHeader_149 ?_
                              refine u_cVv (pc := 152) (As := []) X V s_Rc_110 (X.fix rfl) rfl rfl rfl (c_Rd_beginPacket l D cc L A J t16 t32 _ _ 15 ⟨(X.fix rfl), rfl, (X.fix rfl), rfl, (X.fix rfl), rfl⟩ _ h) ⟨rfl, rfl, Nat.le_of_ble_eq_true rfl, Nat.le_of_ble_eq_true rfl⟩ rfl hl.1 rfl (Nat.le_of_ble_eq_true rfl) d_Rc_takeHeader_152 ⟨Nat.zero_le _, Nat.zero_le _⟩ (fun I17 R18 h H locs V => ?_)
                              refine lv_goto (pc := 155) (tgt := 218) hx hb d_Rc_takeHeader_155 (by decide) ?_
                              exact u_retv (pc := 218) X V hr hlk hsz h d_Rc_takeHeader_218
                      · have h := h.2 hn10
                        by_cases hn11 : v1 = 11
                        · have h := h.1 hn11
                          rw [hn11]
                          refine lv_tableIn (pc := 7) (tgt := 167) (off := 160) hx hb d_Rc_takeHeader_7 (by decide) (by decide) rfl (by decide) ?_
                          refine lv_aload_n (pc := 167) hx hb d_Rc_takeHeader_167 rfl (lv_at hl 0 rfl) ?_
                          refine u_getd (pc := 168) X V (X.fix rfl) rfl rfl f_Rc_64 rfl d_Rc_takeHeader_168 ?_
                          refine u_topo (fun z19 ez19 => ?_)
                          have h := h z19 ez19
                          rcases z19 with _ | i20
                          · have h := h.1 rfl
                            refine lv_ifnullN (pc := 171) (tgt := 218) hx hb d_Rc_takeHeader_171 (by decide) ?_
                            exact u_retv (pc := 218) X V hr hlk hsz h d_Rc_takeHeader_218
                          · have h := h.2 i20 rfl
                            refine lv_ifnull (pc := 171) hx hb d_Rc_takeHeader_171 ?_
                            refine lv_aload_n (pc := 174) hx hb d_Rc_takeHeader_174 rfl (lv_at hl 0 rfl) ?_
                            refine u_getr (pc := 175) (o' := 15) X V (X.fix rfl) rfl rfl f_Rc_38 rfl rfl d_Rc_takeHeader_175 ?_
                            refine u_geti (pc := 178) X V (X.fix rfl) rfl rfl f_Rc_113 rfl d_Rc_takeHeader_178 ?_
                            refine lv_aload_n (pc := 181) hx hb d_Rc_takeHeader_181 rfl (lv_at hl 0 rfl) ?_
                            refine u_getd (pc := 182) X V (X.fix rfl) rfl rfl f_Rc_64 rfl d_Rc_takeHeader_182 ?_
                            obtain ⟨i21, hi_i21, h_i21, h⟩ := h
                            rw [hi_i21]
                            try rw [hi_i21] at hl
                            refine u_geti (pc := 185) X V h_i21.1 h_i21.2.1 rfl f_Rc_116 rfl d_Rc_takeHeader_185 ?_
                            refine lv_icmp_ne (pc := 188) (tgt := 218) hx hb d_Rc_takeHeader_188 (by decide) (fun hc => ?_) (fun hc => ?_)
                            · have h := h.1 hc
                              exact u_retv (pc := 218) X V hr hlk hsz h d_Rc_takeHeader_218
                            · have h := h.2 hc
                              refine lv_aload_n (pc := 191) hx hb d_Rc_takeHeader_191 rfl (lv_at hl 0 rfl) ?_
                              refine lv_null (pc := 192) hx hb d_Rc_takeHeader_192 ?_
                              refine u_putd (pc := 193) (x := none) X V (X.fix rfl) rfl rfl f_Rc_64 rfl rfl d_Rc_takeHeader_193 (fun R22 eR22 H locs V => ?_)
                              have h := h R22 eR22
                              refine lv_aload_n (pc := 196) hx hb d_Rc_takeHeader_196 rfl (lv_at hl 0 rfl) ?_
                              refine lv_iconst (pc := 197) (v := 1) hx hb d_Rc_takeHeader_197 (by decide) ?_
                              refine u_cVv (pc := 198) (As := [.int 1]) X V s_Rc_86 (X.fix rfl) rfl rfl rfl (c_Rc_answer l D cc L A J t16 t32 _ _ 1 _ h) ⟨rfl, rfl, Nat.le_of_ble_eq_true rfl, Nat.le_of_ble_eq_true rfl⟩ rfl hl.1 rfl (Nat.le_of_ble_eq_true rfl) d_Rc_takeHeader_198 ⟨Nat.zero_le _, Nat.zero_le _⟩ (fun I23 R24 h H locs V => ?_)
                              refine lv_goto (pc := 201) (tgt := 218) hx hb d_Rc_takeHeader_201 (by decide) ?_
                              exact u_retv (pc := 218) X V hr hlk hsz h d_Rc_takeHeader_218
                        · have h := h.2 hn11
                          have hd0 := nr_ok (a := 0) hn0 rfl
                          have hd1 := nr_ok (a := 1) hn1 rfl
                          have hd2 := nr_ok (a := 2) hn2 rfl
                          have hd3 := nr_ok (a := 3) hn3 rfl
                          have hd4 := nr_ok (a := 4) hn4 rfl
                          have hd5 := nr_ok (a := 5) hn5 rfl
                          have hd6 := nr_ok (a := 6) hn6 rfl
                          have hd7 := nr_ok (a := 7) hn7 rfl
                          have hd8 := nr_ok (a := 8) hn8 rfl
                          have hd9 := nr_ok (a := 9) hn9 rfl
                          have hd10 := nr_ok (a := 10) hn10 rfl
                          have hd11 := nr_ok (a := 11) hn11 rfl
                          refine lv_tableOut (pc := 7) (tgt := 218) hx hb d_Rc_takeHeader_7 (by omega) (by decide) ?_
                          exact u_retv (pc := 218) X V hr hlk hsz h d_Rc_takeHeader_218
-- FrameFerry$Receiver.beginAnew ()V
theorem d_Rc_beginAnew_0 : decode prog_5_method_3_code 0 = .ok (.aload_n 0, 1) := by decide +kernel
theorem d_Rc_beginAnew_1 : decode prog_5_method_3_code 1 = .ok (.aconst_null, 1) := by decide +kernel
theorem d_Rc_beginAnew_2 : decode prog_5_method_3_code 2 = .ok (.putfield 64, 3) := by decide +kernel
theorem d_Rc_beginAnew_5 : decode prog_5_method_3_code 5 = .ok (.aload_n 0, 1) := by decide +kernel
theorem d_Rc_beginAnew_6 : decode prog_5_method_3_code 6 = .ok (.iconst 0, 1) := by decide +kernel
theorem d_Rc_beginAnew_7 : decode prog_5_method_3_code 7 = .ok (.putfield 24, 3) := by decide +kernel
theorem d_Rc_beginAnew_10 : decode prog_5_method_3_code 10 = .ok (.aload_n 0, 1) := by decide +kernel
theorem d_Rc_beginAnew_11 : decode prog_5_method_3_code 11 = .ok (.getfield 38, 3) := by decide +kernel
theorem d_Rc_beginAnew_14 : decode prog_5_method_3_code 14 = .ok (.invokevirtual 68, 3) := by decide +kernel
theorem d_Rc_beginAnew_17 : decode prog_5_method_3_code 17 = .ok (.return_, 1) := by decide +kernel
def rm_Rc_beginAnew : Room := { frames := 1, cells := 0, slots := 0, locals := 20 }
def wp_Rc_beginAnew (L : List Nat) (I : UI) (R : UR) (Q : UI → UR → Prop) : Prop :=
  ∀ R1 : UR, R1 = r2 R 3 2 none → zb 0 ∧ ∀ I2 : UI, I2 = u2 I 3 3 0 → wp_Rd_goOutside I2 R1 15 (fun I3 R4 => Q I3 R4)
set_option maxHeartbeats 4000000 in
set_option maxRecDepth 100000 in
theorem c_Rc_beginAnew (l : Launch) (D : va_G) (cc : Nat → ClassId) (L : List Nat) (A : Nat → Nat) (J : Nat → Int64) (t16 t32 : Nat) (I : UI) (R : UR) (Q : UI → UR → Prop) (h : wp_Rc_beginAnew L I R Q) : uMv l y_Rc_beginAnew (.code y_Rc_beginAnew prog_5_method_3_code 1 none) rm_Rc_beginAnew [.ref (A 3)] D cc L A J t16 t32 I R Q := by
  intro sz
  refine u_entry (by decide) (Nat.le_of_ble_eq_true rfl) (fun p e s m args below meth c hsz X V hr hlk ls hl => ?_)
  have X : uX p s m args c prog_5_method_3_code 1 "FrameFerry$Receiver" D cc L A t16 t32 := X
  have hx := X.1
  have hb := X.2.1
  have hl : lv_has ls 1 [(0, .ref (A 3))] := hl
  unfold wp_Rc_beginAnew at h
  generalize hH : s.heap = H at V ⊢
  generalize hlo : ([] : List Loc) = locs at V ⊢
  refine lv_aload_n (pc := 0) hx hb d_Rc_beginAnew_0 rfl (lv_at hl 0 rfl) ?_
  refine lv_null (pc := 1) hx hb d_Rc_beginAnew_1 ?_
  refine u_putd (pc := 2) (x := none) X V (X.fix rfl) rfl rfl f_Rc_64 rfl rfl d_Rc_beginAnew_2 (fun R1 eR1 H locs V => ?_)
  have h := h R1 eR1
  refine lv_aload_n (pc := 5) hx hb d_Rc_beginAnew_5 rfl (lv_at hl 0 rfl) ?_
  refine lv_iconst (pc := 6) (v := 0) hx hb d_Rc_beginAnew_6 (by decide) ?_
  refine u_putz (pc := 7) X V (X.fix rfl) rfl rfl f_Rc_24 rfl h.1 d_Rc_beginAnew_7 (fun I2 eI2 H locs V => ?_)
  have h := h.2 I2 eI2
  refine lv_aload_n (pc := 10) hx hb d_Rc_beginAnew_10 rfl (lv_at hl 0 rfl) ?_
  refine u_getr (pc := 11) (o' := 15) X V (X.fix rfl) rfl rfl f_Rc_38 rfl rfl d_Rc_beginAnew_11 ?_
  refine u_cVv (pc := 14) (As := []) X V s_Rc_68 (X.fix rfl) rfl rfl rfl (c_Rd_goOutside l D cc L A J t16 t32 _ _ 15 ⟨(X.fix rfl), rfl, (X.fix rfl), rfl, (X.fix rfl), rfl⟩ _ h) ⟨rfl, rfl, Nat.le_of_ble_eq_true rfl, Nat.le_of_ble_eq_true rfl⟩ rfl hl.1 rfl (Nat.le_of_ble_eq_true rfl) d_Rc_beginAnew_14 ⟨Nat.zero_le _, Nat.zero_le _⟩ (fun I3 R4 h H locs V => ?_)
  exact u_retv (pc := 17) X V hr hlk hsz h d_Rc_beginAnew_17
-- FrameFerry$Receiver.begin (Z)V
theorem d_Rc_begin_0 : decode prog_5_method_2_code 0 = .ok (.aload_n 0, 1) := by decide +kernel
theorem d_Rc_begin_1 : decode prog_5_method_2_code 1 = .ok (.getfield 12, 3) := by decide +kernel
theorem d_Rc_begin_4 : decode prog_5_method_2_code 4 = .ok (.iconst 0, 1) := by decide +kernel
theorem d_Rc_begin_5 : decode prog_5_method_2_code 5 = .ok (.putfield 42, 3) := by decide +kernel
theorem d_Rc_begin_8 : decode prog_5_method_2_code 8 = .ok (.aload_n 0, 1) := by decide +kernel
theorem d_Rc_begin_9 : decode prog_5_method_2_code 9 = .ok (.iload_n 1, 1) := by decide +kernel
theorem d_Rc_begin_10 : decode prog_5_method_2_code 10 = .ok (.putfield 46, 3) := by decide +kernel
theorem d_Rc_begin_13 : decode prog_5_method_2_code 13 = .ok (.aload_n 0, 1) := by decide +kernel
theorem d_Rc_begin_14 : decode prog_5_method_2_code 14 = .ok (.iconst 0, 1) := by decide +kernel
theorem d_Rc_begin_15 : decode prog_5_method_2_code 15 = .ok (.putfield 49, 3) := by decide +kernel
theorem d_Rc_begin_18 : decode prog_5_method_2_code 18 = .ok (.aload_n 0, 1) := by decide +kernel
theorem d_Rc_begin_19 : decode prog_5_method_2_code 19 = .ok (.iconst 0, 1) := by decide +kernel
theorem d_Rc_begin_20 : decode prog_5_method_2_code 20 = .ok (.putfield 52, 3) := by decide +kernel
theorem d_Rc_begin_23 : decode prog_5_method_2_code 23 = .ok (.aload_n 0, 1) := by decide +kernel
theorem d_Rc_begin_24 : decode prog_5_method_2_code 24 = .ok (.iconst 0, 1) := by decide +kernel
theorem d_Rc_begin_25 : decode prog_5_method_2_code 25 = .ok (.putfield 55, 3) := by decide +kernel
theorem d_Rc_begin_28 : decode prog_5_method_2_code 28 = .ok (.aload_n 0, 1) := by decide +kernel
theorem d_Rc_begin_29 : decode prog_5_method_2_code 29 = .ok (.iconst 0, 1) := by decide +kernel
theorem d_Rc_begin_30 : decode prog_5_method_2_code 30 = .ok (.putfield 58, 3) := by decide +kernel
theorem d_Rc_begin_33 : decode prog_5_method_2_code 33 = .ok (.aload_n 0, 1) := by decide +kernel
theorem d_Rc_begin_34 : decode prog_5_method_2_code 34 = .ok (.invokevirtual 61, 3) := by decide +kernel
theorem d_Rc_begin_37 : decode prog_5_method_2_code 37 = .ok (.return_, 1) := by decide +kernel
def rm_Rc_begin : Room := { frames := 2, cells := 0, slots := 0, locals := 40 }
def wp_Rc_begin (L : List Nat) (I : UI) (R : UR) (x1 : Int32) (Q : UI → UR → Prop) : Prop :=
  ∀ I1 : UI, I1 = u2 I 6 1 0 → zb x1 ∧ ∀ I2 : UI, I2 = u2 I1 3 10 x1 → ∀ I3 : UI, I3 = u2 I2 3 4 0 → ∀ I4 : UI, I4 = u2 I3 3 5 0 → ∀ I5 : UI, I5 = u2 I4 3 6 0 → ∀ I6 : UI, I6 = u2 I5 3 7 0 → wp_Rc_beginAnew L I6 R (fun I7 R8 => Q I7 R8)
set_option maxHeartbeats 4000000 in
set_option maxRecDepth 100000 in
theorem c_Rc_begin (l : Launch) (D : va_G) (cc : Nat → ClassId) (L : List Nat) (A : Nat → Nat) (J : Nat → Int64) (t16 t32 : Nat) (I : UI) (R : UR) (x1 : Int32) (Q : UI → UR → Prop) (h : wp_Rc_begin L I R x1 Q) : uMv l y_Rc_begin (.code y_Rc_begin prog_5_method_2_code 2 none) rm_Rc_begin [.ref (A 3), .int x1] D cc L A J t16 t32 I R Q := by
  intro sz
  refine u_entry (by decide) (Nat.le_of_ble_eq_true rfl) (fun p e s m args below meth c hsz X V hr hlk ls hl => ?_)
  have X : uX p s m args c prog_5_method_2_code 2 "FrameFerry$Receiver" D cc L A t16 t32 := X
  have hx := X.1
  have hb := X.2.1
  have hl : lv_has ls 2 [(0, .ref (A 3)), (1, .int x1)] := hl
  unfold wp_Rc_begin at h
  generalize hH : s.heap = H at V ⊢
  generalize hlo : ([] : List Loc) = locs at V ⊢
  refine lv_aload_n (pc := 0) hx hb d_Rc_begin_0 rfl (lv_at hl 0 rfl) ?_
  refine u_getr (pc := 1) (o' := 6) X V (X.fix rfl) rfl rfl f_Rc_12 rfl rfl d_Rc_begin_1 ?_
  refine lv_iconst (pc := 4) (v := 0) hx hb d_Rc_begin_4 (by decide) ?_
  refine u_puti (pc := 5) X V (X.fix rfl) rfl rfl f_Rc_42 rfl d_Rc_begin_5 (fun I1 eI1 H locs V => ?_)
  have h := h I1 eI1
  refine lv_aload_n (pc := 8) hx hb d_Rc_begin_8 rfl (lv_at hl 0 rfl) ?_
  refine lv_iload_n (pc := 9) hx hb d_Rc_begin_9 rfl (lv_at hl 1 rfl) ?_
  refine u_putz (pc := 10) X V (X.fix rfl) rfl rfl f_Rc_46 rfl h.1 d_Rc_begin_10 (fun I2 eI2 H locs V => ?_)
  have h := h.2 I2 eI2
  refine lv_aload_n (pc := 13) hx hb d_Rc_begin_13 rfl (lv_at hl 0 rfl) ?_
  refine lv_iconst (pc := 14) (v := 0) hx hb d_Rc_begin_14 (by decide) ?_
  refine u_puti (pc := 15) X V (X.fix rfl) rfl rfl f_Rc_49 rfl d_Rc_begin_15 (fun I3 eI3 H locs V => ?_)
  have h := h I3 eI3
  refine lv_aload_n (pc := 18) hx hb d_Rc_begin_18 rfl (lv_at hl 0 rfl) ?_
  refine lv_iconst (pc := 19) (v := 0) hx hb d_Rc_begin_19 (by decide) ?_
  refine u_puti (pc := 20) X V (X.fix rfl) rfl rfl f_Rc_52 rfl d_Rc_begin_20 (fun I4 eI4 H locs V => ?_)
  have h := h I4 eI4
  refine lv_aload_n (pc := 23) hx hb d_Rc_begin_23 rfl (lv_at hl 0 rfl) ?_
  refine lv_iconst (pc := 24) (v := 0) hx hb d_Rc_begin_24 (by decide) ?_
  refine u_puti (pc := 25) X V (X.fix rfl) rfl rfl f_Rc_55 rfl d_Rc_begin_25 (fun I5 eI5 H locs V => ?_)
  have h := h I5 eI5
  refine lv_aload_n (pc := 28) hx hb d_Rc_begin_28 rfl (lv_at hl 0 rfl) ?_
  refine lv_iconst (pc := 29) (v := 0) hx hb d_Rc_begin_29 (by decide) ?_
  refine u_puti (pc := 30) X V (X.fix rfl) rfl rfl f_Rc_58 rfl d_Rc_begin_30 (fun I6 eI6 H locs V => ?_)
  have h := h I6 eI6
  refine lv_aload_n (pc := 33) hx hb d_Rc_begin_33 rfl (lv_at hl 0 rfl) ?_
  refine u_cVv (pc := 34) (As := []) X V s_Rc_61 (X.fix rfl) rfl rfl rfl (c_Rc_beginAnew l D cc L A J t16 t32 _ _  _ h) ⟨rfl, rfl, Nat.le_of_ble_eq_true rfl, Nat.le_of_ble_eq_true rfl⟩ rfl hl.1 rfl (Nat.le_of_ble_eq_true rfl) d_Rc_begin_34 ⟨Nat.zero_le _, Nat.zero_le _⟩ (fun I7 R8 h H locs V => ?_)
  exact u_retv (pc := 37) X V hr hlk hsz h d_Rc_begin_37
-- FrameFerry$Receiver.sendLate ()V
theorem d_Rc_sendLate_0 : decode prog_5_method_5_code 0 = .ok (.aload_n 0, 1) := by decide +kernel
theorem d_Rc_sendLate_1 : decode prog_5_method_5_code 1 = .ok (.getfield 24, 3) := by decide +kernel
theorem d_Rc_sendLate_4 : decode prog_5_method_5_code 4 = .ok (.ifCond .eq 4, 3) := by decide +kernel
theorem d_Rc_sendLate_7 : decode prog_5_method_5_code 7 = .ok (.return_, 1) := by decide +kernel
theorem d_Rc_sendLate_8 : decode prog_5_method_5_code 8 = .ok (.aload_n 0, 1) := by decide +kernel
theorem d_Rc_sendLate_9 : decode prog_5_method_5_code 9 = .ok (.getfield 38, 3) := by decide +kernel
theorem d_Rc_sendLate_12 : decode prog_5_method_5_code 12 = .ok (.invokevirtual 68, 3) := by decide +kernel
theorem d_Rc_sendLate_15 : decode prog_5_method_5_code 15 = .ok (.aload_n 0, 1) := by decide +kernel
theorem d_Rc_sendLate_16 : decode prog_5_method_5_code 16 = .ok (.aload_n 0, 1) := by decide +kernel
theorem d_Rc_sendLate_17 : decode prog_5_method_5_code 17 = .ok (.getfield 64, 3) := by decide +kernel
theorem d_Rc_sendLate_20 : decode prog_5_method_5_code 20 = .ok (.ifnonnull 7, 3) := by decide +kernel
theorem d_Rc_sendLate_23 : decode prog_5_method_5_code 23 = .ok (.iconst 1, 1) := by decide +kernel
theorem d_Rc_sendLate_24 : decode prog_5_method_5_code 24 = .ok (.goto 5, 3) := by decide +kernel
theorem d_Rc_sendLate_27 : decode prog_5_method_5_code 27 = .ok (.bipush 9, 2) := by decide +kernel
theorem d_Rc_sendLate_29 : decode prog_5_method_5_code 29 = .ok (.invokevirtual 86, 3) := by decide +kernel
theorem d_Rc_sendLate_32 : decode prog_5_method_5_code 32 = .ok (.return_, 1) := by decide +kernel
def rm_Rc_sendLate : Room := { frames := 3, cells := 0, slots := 0, locals := 68 }
def wp_Rc_sendLate_L29 (L : List Nat) (Q : UI → UR → Prop) (I : UI) (R : UR) (s0 : Int32) : Prop :=
  wp_Rc_answer L I R s0 (fun I5 R6 => Q I5 R6)
set_option maxHeartbeats 4000000 in
set_option maxRecDepth 100000 in
theorem j_Rc_sendLate_29 (X : uX p s m args c prog_5_method_5_code 1 "FrameFerry$Receiver" D cc L A t16 t32) (hr : meth.sig.returnType = none) (hlk : meth.locks = false) (hsz : sz = s.heap.size) {Q : UI → UR → Prop} {I : UI} {R : UR} {s0 : Int32} {H : Heap} {locs : List Loc} {ls : Array Slot} (V : uV s D cc L A J I R H locs) (hl : lv_has ls 1 []) (h : wp_Rc_sendLate_L29 L Q I R s0) : W p l e rm_Rc_sendLate s m args below meth c H locs 0 0 (MQ below (va_Qv (fun u : UI × UR => Q u.1 u.2) (uBv D cc L A J) (uA L A sz)) args s 0 0 (uA L A sz)) (F0 m 29 ls [.int s0, .ref (A 3)]) := by
  have hx := X.1
  have hb := X.2.1
  unfold wp_Rc_sendLate_L29 at h
  refine u_cVv (pc := 29) (As := [.int s0]) X V s_Rc_86 (X.fix rfl) rfl rfl rfl (c_Rc_answer l D cc L A J t16 t32 _ _ s0 _ h) ⟨rfl, rfl, Nat.le_of_ble_eq_true rfl, Nat.le_of_ble_eq_true rfl⟩ rfl hl.1 rfl (Nat.le_of_ble_eq_true rfl) d_Rc_sendLate_29 ⟨Nat.zero_le _, Nat.zero_le _⟩ (fun I5 R6 h H locs V => ?_)
  exact u_retv (pc := 32) X V hr hlk hsz h d_Rc_sendLate_32
def wp_Rc_sendLate (L : List Nat) (I : UI) (R : UR) (Q : UI → UR → Prop) : Prop :=
  ((I 3 3 = 0 → wp_Rd_goOutside I R 15 (fun I1 R2 => ∀ z3 : Option Nat, z3 = R2 3 2 → ((z3 = none → wp_Rc_sendLate_L29 L Q I1 R2 1) ∧ (∀ i4 : Nat, z3 = some i4 → wp_Rc_sendLate_L29 L Q I1 R2 9)))) ∧ (¬ I 3 3 = 0 → Q I R))
set_option maxHeartbeats 4000000 in
set_option maxRecDepth 100000 in
theorem c_Rc_sendLate (l : Launch) (D : va_G) (cc : Nat → ClassId) (L : List Nat) (A : Nat → Nat) (J : Nat → Int64) (t16 t32 : Nat) (I : UI) (R : UR) (Q : UI → UR → Prop) (h : wp_Rc_sendLate L I R Q) : uMv l y_Rc_sendLate (.code y_Rc_sendLate prog_5_method_5_code 1 none) rm_Rc_sendLate [.ref (A 3)] D cc L A J t16 t32 I R Q := by
  intro sz
  refine u_entry (by decide) (Nat.le_of_ble_eq_true rfl) (fun p e s m args below meth c hsz X V hr hlk ls hl => ?_)
  have X : uX p s m args c prog_5_method_5_code 1 "FrameFerry$Receiver" D cc L A t16 t32 := X
  have hx := X.1
  have hb := X.2.1
  have hl : lv_has ls 1 [(0, .ref (A 3))] := hl
  unfold wp_Rc_sendLate at h
  generalize hH : s.heap = H at V ⊢
  generalize hlo : ([] : List Loc) = locs at V ⊢
  refine lv_aload_n (pc := 0) hx hb d_Rc_sendLate_0 rfl (lv_at hl 0 rfl) ?_
  refine u_geti (pc := 1) X V (X.fix rfl) rfl rfl f_Rc_24 rfl d_Rc_sendLate_1 ?_
  refine lv_if_eq (pc := 4) (tgt := 8) hx hb d_Rc_sendLate_4 (by decide) (fun hc => ?_) (fun hc => ?_)
  · have h := h.1 hc
    refine lv_aload_n (pc := 8) hx hb d_Rc_sendLate_8 rfl (lv_at hl 0 rfl) ?_
    refine u_getr (pc := 9) (o' := 15) X V (X.fix rfl) rfl rfl f_Rc_38 rfl rfl d_Rc_sendLate_9 ?_
    refine u_cVv (pc := 12) (As := []) X V s_Rc_68 (X.fix rfl) rfl rfl rfl (c_Rd_goOutside l D cc L A J t16 t32 _ _ 15 ⟨(X.fix rfl), rfl, (X.fix rfl), rfl, (X.fix rfl), rfl⟩ _ h) ⟨rfl, rfl, Nat.le_of_ble_eq_true rfl, Nat.le_of_ble_eq_true rfl⟩ rfl hl.1 rfl (Nat.le_of_ble_eq_true rfl) d_Rc_sendLate_12 ⟨Nat.zero_le _, Nat.zero_le _⟩ (fun I1 R2 h H locs V => ?_)
    refine lv_aload_n (pc := 15) hx hb d_Rc_sendLate_15 rfl (lv_at hl 0 rfl) ?_
    refine lv_aload_n (pc := 16) hx hb d_Rc_sendLate_16 rfl (lv_at hl 0 rfl) ?_
    refine u_getd (pc := 17) X V (X.fix rfl) rfl rfl f_Rc_64 rfl d_Rc_sendLate_17 ?_
    refine u_topo (fun z3 ez3 => ?_)
    have h := h z3 ez3
    rcases z3 with _ | i4
    · have h := h.1 rfl
      refine lv_ifnonnullN (pc := 20) hx hb d_Rc_sendLate_20 ?_
      refine lv_iconst (pc := 23) (v := 1) hx hb d_Rc_sendLate_23 (by decide) ?_
      refine lv_goto (pc := 24) (tgt := 29) hx hb d_Rc_sendLate_24 (by decide) ?_
      exact j_Rc_sendLate_29 X hr hlk hsz V (lv_sub hl [] rfl) h
    · have h := h.2 i4 rfl
      refine lv_ifnonnull (pc := 20) (tgt := 27) hx hb d_Rc_sendLate_20 (by decide) ?_
      refine lv_bipush (pc := 27) (v := 9) hx hb d_Rc_sendLate_27 (by decide) ?_
      exact j_Rc_sendLate_29 X hr hlk hsz V (lv_sub hl [] rfl) h
  · have h := h.2 hc
    exact u_retv (pc := 7) X V hr hlk hsz h d_Rc_sendLate_7
-- FrameFerry$Receiver.takeName ()V
theorem d_Rc_takeName_0 : decode prog_5_method_8_code 0 = .ok (.aload_n 0, 1) := by decide +kernel
theorem d_Rc_takeName_1 : decode prog_5_method_8_code 1 = .ok (.getfield 38, 3) := by decide +kernel
theorem d_Rc_takeName_4 : decode prog_5_method_8_code 4 = .ok (.getfield 117, 3) := by decide +kernel
theorem d_Rc_takeName_7 : decode prog_5_method_8_code 7 = .ok (.iconst 0, 1) := by decide +kernel
theorem d_Rc_takeName_8 : decode prog_5_method_8_code 8 = .ok (.baload, 1) := by decide +kernel
theorem d_Rc_takeName_9 : decode prog_5_method_8_code 9 = .ok (.sipush 255, 3) := by decide +kernel
theorem d_Rc_takeName_12 : decode prog_5_method_8_code 12 = .ok (.iand, 1) := by decide +kernel
theorem d_Rc_takeName_13 : decode prog_5_method_8_code 13 = .ok (.bipush 97, 2) := by decide +kernel
theorem d_Rc_takeName_15 : decode prog_5_method_8_code 15 = .ok (.isub, 1) := by decide +kernel
theorem d_Rc_takeName_16 : decode prog_5_method_8_code 16 = .ok (.istore_n 1, 1) := by decide +kernel
theorem d_Rc_takeName_17 : decode prog_5_method_8_code 17 = .ok (.aload_n 0, 1) := by decide +kernel
theorem d_Rc_takeName_18 : decode prog_5_method_8_code 18 = .ok (.getfield 38, 3) := by decide +kernel
theorem d_Rc_takeName_21 : decode prog_5_method_8_code 21 = .ok (.getfield 121, 3) := by decide +kernel
theorem d_Rc_takeName_24 : decode prog_5_method_8_code 24 = .ok (.iconst 3, 1) := by decide +kernel
theorem d_Rc_takeName_25 : decode prog_5_method_8_code 25 = .ok (.if_icmp .ne 10, 3) := by decide +kernel
theorem d_Rc_takeName_28 : decode prog_5_method_8_code 28 = .ok (.iload_n 1, 1) := by decide +kernel
theorem d_Rc_takeName_29 : decode prog_5_method_8_code 29 = .ok (.invokestatic 124, 3) := by decide +kernel
theorem d_Rc_takeName_32 : decode prog_5_method_8_code 32 = .ok (.ifCond .ne 10, 3) := by decide +kernel
theorem d_Rc_takeName_35 : decode prog_5_method_8_code 35 = .ok (.aload_n 0, 1) := by decide +kernel
theorem d_Rc_takeName_36 : decode prog_5_method_8_code 36 = .ok (.bipush 6, 2) := by decide +kernel
theorem d_Rc_takeName_38 : decode prog_5_method_8_code 38 = .ok (.invokevirtual 86, 3) := by decide +kernel
theorem d_Rc_takeName_41 : decode prog_5_method_8_code 41 = .ok (.return_, 1) := by decide +kernel
theorem d_Rc_takeName_42 : decode prog_5_method_8_code 42 = .ok (.aload_n 0, 1) := by decide +kernel
theorem d_Rc_takeName_43 : decode prog_5_method_8_code 43 = .ok (.getfield 38, 3) := by decide +kernel
theorem d_Rc_takeName_46 : decode prog_5_method_8_code 46 = .ok (.getfield 117, 3) := by decide +kernel
theorem d_Rc_takeName_49 : decode prog_5_method_8_code 49 = .ok (.iconst 1, 1) := by decide +kernel
theorem d_Rc_takeName_50 : decode prog_5_method_8_code 50 = .ok (.baload, 1) := by decide +kernel
theorem d_Rc_takeName_51 : decode prog_5_method_8_code 51 = .ok (.sipush 255, 3) := by decide +kernel
theorem d_Rc_takeName_54 : decode prog_5_method_8_code 54 = .ok (.iand, 1) := by decide +kernel
theorem d_Rc_takeName_55 : decode prog_5_method_8_code 55 = .ok (.bipush 8, 2) := by decide +kernel
theorem d_Rc_takeName_57 : decode prog_5_method_8_code 57 = .ok (.ishl, 1) := by decide +kernel
theorem d_Rc_takeName_58 : decode prog_5_method_8_code 58 = .ok (.aload_n 0, 1) := by decide +kernel
theorem d_Rc_takeName_59 : decode prog_5_method_8_code 59 = .ok (.getfield 38, 3) := by decide +kernel
theorem d_Rc_takeName_62 : decode prog_5_method_8_code 62 = .ok (.getfield 117, 3) := by decide +kernel
theorem d_Rc_takeName_65 : decode prog_5_method_8_code 65 = .ok (.iconst 2, 1) := by decide +kernel
theorem d_Rc_takeName_66 : decode prog_5_method_8_code 66 = .ok (.baload, 1) := by decide +kernel
theorem d_Rc_takeName_67 : decode prog_5_method_8_code 67 = .ok (.sipush 255, 3) := by decide +kernel
theorem d_Rc_takeName_70 : decode prog_5_method_8_code 70 = .ok (.iand, 1) := by decide +kernel
theorem d_Rc_takeName_71 : decode prog_5_method_8_code 71 = .ok (.ior, 1) := by decide +kernel
theorem d_Rc_takeName_72 : decode prog_5_method_8_code 72 = .ok (.istore_n 2, 1) := by decide +kernel
theorem d_Rc_takeName_73 : decode prog_5_method_8_code 73 = .ok (.aload_n 0, 1) := by decide +kernel
theorem d_Rc_takeName_74 : decode prog_5_method_8_code 74 = .ok (.getfield 20, 3) := by decide +kernel
theorem d_Rc_takeName_77 : decode prog_5_method_8_code 77 = .ok (.iload_n 1, 1) := by decide +kernel
theorem d_Rc_takeName_78 : decode prog_5_method_8_code 78 = .ok (.aaload, 1) := by decide +kernel
theorem d_Rc_takeName_79 : decode prog_5_method_8_code 79 = .ok (.astore_n 3, 1) := by decide +kernel
theorem d_Rc_takeName_80 : decode prog_5_method_8_code 80 = .ok (.aload_n 3, 1) := by decide +kernel
theorem d_Rc_takeName_81 : decode prog_5_method_8_code 81 = .ok (.ifnull 17, 3) := by decide +kernel
theorem d_Rc_takeName_84 : decode prog_5_method_8_code 84 = .ok (.aload_n 3, 1) := by decide +kernel
theorem d_Rc_takeName_85 : decode prog_5_method_8_code 85 = .ok (.getfield 116, 3) := by decide +kernel
theorem d_Rc_takeName_88 : decode prog_5_method_8_code 88 = .ok (.iload_n 2, 1) := by decide +kernel
theorem d_Rc_takeName_89 : decode prog_5_method_8_code 89 = .ok (.if_icmp .lt 9, 3) := by decide +kernel
theorem d_Rc_takeName_92 : decode prog_5_method_8_code 92 = .ok (.aload_n 0, 1) := by decide +kernel
theorem d_Rc_takeName_93 : decode prog_5_method_8_code 93 = .ok (.iconst 5, 1) := by decide +kernel
theorem d_Rc_takeName_94 : decode prog_5_method_8_code 94 = .ok (.invokevirtual 86, 3) := by decide +kernel
theorem d_Rc_takeName_97 : decode prog_5_method_8_code 97 = .ok (.return_, 1) := by decide +kernel
theorem d_Rc_takeName_98 : decode prog_5_method_8_code 98 = .ok (.aload_n 3, 1) := by decide +kernel
theorem d_Rc_takeName_99 : decode prog_5_method_8_code 99 = .ok (.ifnonnull 23, 3) := by decide +kernel
theorem d_Rc_takeName_102 : decode prog_5_method_8_code 102 = .ok (.new 18, 3) := by decide +kernel
theorem d_Rc_takeName_105 : decode prog_5_method_8_code 105 = .ok (.dup, 1) := by decide +kernel
theorem d_Rc_takeName_106 : decode prog_5_method_8_code 106 = .ok (.invokespecial 128, 3) := by decide +kernel
theorem d_Rc_takeName_109 : decode prog_5_method_8_code 109 = .ok (.astore_n 3, 1) := by decide +kernel
theorem d_Rc_takeName_110 : decode prog_5_method_8_code 110 = .ok (.aload_n 3, 1) := by decide +kernel
theorem d_Rc_takeName_111 : decode prog_5_method_8_code 111 = .ok (.iload_n 1, 1) := by decide +kernel
theorem d_Rc_takeName_112 : decode prog_5_method_8_code 112 = .ok (.putfield 129, 3) := by decide +kernel
theorem d_Rc_takeName_115 : decode prog_5_method_8_code 115 = .ok (.aload_n 0, 1) := by decide +kernel
theorem d_Rc_takeName_116 : decode prog_5_method_8_code 116 = .ok (.getfield 20, 3) := by decide +kernel
theorem d_Rc_takeName_119 : decode prog_5_method_8_code 119 = .ok (.iload_n 1, 1) := by decide +kernel
theorem d_Rc_takeName_120 : decode prog_5_method_8_code 120 = .ok (.aload_n 3, 1) := by decide +kernel
theorem d_Rc_takeName_121 : decode prog_5_method_8_code 121 = .ok (.aastore, 1) := by decide +kernel
theorem d_Rc_takeName_122 : decode prog_5_method_8_code 122 = .ok (.aload_n 0, 1) := by decide +kernel
theorem d_Rc_takeName_123 : decode prog_5_method_8_code 123 = .ok (.aload_n 3, 1) := by decide +kernel
theorem d_Rc_takeName_124 : decode prog_5_method_8_code 124 = .ok (.putfield 64, 3) := by decide +kernel
theorem d_Rc_takeName_127 : decode prog_5_method_8_code 127 = .ok (.aload_n 0, 1) := by decide +kernel
theorem d_Rc_takeName_128 : decode prog_5_method_8_code 128 = .ok (.bipush 9, 2) := by decide +kernel
theorem d_Rc_takeName_130 : decode prog_5_method_8_code 130 = .ok (.invokevirtual 86, 3) := by decide +kernel
theorem d_Rc_takeName_133 : decode prog_5_method_8_code 133 = .ok (.return_, 1) := by decide +kernel
def rm_Rc_takeName (mc ms : Nat) : Room := { frames := 3, cells := mc, slots := ms, locals := 68 }
def wp_Rc_takeName_L35 (mc ms : Nat) (Q : List Nat → UI → UR → Prop) (kc : Nat) (ks : Nat) (L : List Nat) (I : UI) (R : UR) : Prop :=
  wp_Rc_answer L I R 6 (fun I2 R3 => Q L I2 R3)
set_option maxHeartbeats 4000000 in
set_option maxRecDepth 100000 in
theorem j_Rc_takeName_35 {mc ms : Nat} (hr : meth.sig.returnType = none) (hlk : meth.locks = false) (hsz : sz = s.heap.size) {Q : List Nat → UI → UR → Prop} {kc : Nat} {ks : Nat} {L : List Nat} {A : Nat → Nat} {I : UI} {R : UR} {H : Heap} {locs : List Loc} {ls : Array Slot} (hk : kc ≤ mc ∧ ks ≤ ms) (hE : uEx s.heap.size L0 A0 L A) (X : uX p s m args c prog_5_method_8_code 4 "FrameFerry$Receiver" D cc L A t16 t32) (V : uV s D cc L A J I R H locs) (hl : lv_has ls 4 [(0, .ref (A 3))]) (h : wp_Rc_takeName_L35 mc ms Q kc ks L I R) : W p l e (rm_Rc_takeName mc ms) s m args below meth c H locs kc ks (MQ below (va_Qv (fun u : List Nat × (Nat → Nat) × UI × UR => Q u.1 u.2.2.1 u.2.2.2) (uBa D cc L0 A0 J sz) (uA L0 A0 sz)) args s mc ms (uA L0 A0 sz)) (F0 m 35 ls []) := by
  have hx := X.1
  have hb := X.2.1
  unfold wp_Rc_takeName_L35 at h
  refine lv_aload_n (pc := 35) hx hb d_Rc_takeName_35 rfl (lv_at hl 0 rfl) ?_
  refine lv_bipush (pc := 36) (v := 6) hx hb d_Rc_takeName_36 (by decide) ?_
  refine u_cVv (pc := 38) (As := [.int 6]) X V s_Rc_86 (X.fix rfl) rfl rfl rfl (c_Rc_answer l D cc L A J t16 t32 _ _ 6 _ h) ⟨rfl, rfl, Nat.le_of_ble_eq_true rfl, Nat.le_of_ble_eq_true rfl⟩ rfl hl.1 rfl (Nat.le_of_ble_eq_true rfl) d_Rc_takeName_38 hk (fun I2 R3 h H locs V => ?_)
  exact u_retvA (pc := 41) X V hE hk hr hlk hsz h d_Rc_takeName_41
def wp_Rc_takeName_L122 (mc ms : Nat) (Q : List Nat → UI → UR → Prop) (kc : Nat) (ks : Nat) (L : List Nat) (I : UI) (R : UR) (z3 : Option Nat) : Prop :=
  ∀ R17 : UR, R17 = r2 R 3 2 z3 → wp_Rc_answer L I R17 9 (fun I18 R19 => Q L I18 R19)
set_option maxHeartbeats 4000000 in
set_option maxRecDepth 100000 in
theorem j_Rc_takeName_122 {mc ms : Nat} (hr : meth.sig.returnType = none) (hlk : meth.locks = false) (hsz : sz = s.heap.size) {Q : List Nat → UI → UR → Prop} {kc : Nat} {ks : Nat} {L : List Nat} {A : Nat → Nat} {I : UI} {R : UR} {z3 : Option Nat} {H : Heap} {locs : List Loc} {ls : Array Slot} (hk : kc ≤ mc ∧ ks ≤ ms) (hE : uEx s.heap.size L0 A0 L A) (X : uX p s m args c prog_5_method_8_code 4 "FrameFerry$Receiver" D cc L A t16 t32) (V : uV s D cc L A J I R H locs) (hl : lv_has ls 4 [(0, .ref (A 3)), (3, va_rf (Option.map A z3))]) (h : wp_Rc_takeName_L122 mc ms Q kc ks L I R z3) : W p l e (rm_Rc_takeName mc ms) s m args below meth c H locs kc ks (MQ below (va_Qv (fun u : List Nat × (Nat → Nat) × UI × UR => Q u.1 u.2.2.1 u.2.2.2) (uBa D cc L0 A0 J sz) (uA L0 A0 sz)) args s mc ms (uA L0 A0 sz)) (F0 m 122 ls []) := by
  have hx := X.1
  have hb := X.2.1
  unfold wp_Rc_takeName_L122 at h
  refine lv_aload_n (pc := 122) hx hb d_Rc_takeName_122 rfl (lv_at hl 0 rfl) ?_
  refine u_aload_n (pc := 123) hx hb d_Rc_takeName_123 rfl (lv_at hl 1 rfl) ?_
  refine u_putd (pc := 124) (x := z3) X V (X.fix rfl) rfl rfl f_Rc_64 rfl rfl d_Rc_takeName_124 (fun R17 eR17 H locs V => ?_)
  have h := h R17 eR17
  refine lv_aload_n (pc := 127) hx hb d_Rc_takeName_127 rfl (lv_at hl 0 rfl) ?_
  refine lv_bipush (pc := 128) (v := 9) hx hb d_Rc_takeName_128 (by decide) ?_
  refine u_cVv (pc := 130) (As := [.int 9]) X V s_Rc_86 (X.fix rfl) rfl rfl rfl (c_Rc_answer l D cc L A J t16 t32 _ _ 9 _ h) ⟨rfl, rfl, Nat.le_of_ble_eq_true rfl, Nat.le_of_ble_eq_true rfl⟩ rfl hl.1 rfl (Nat.le_of_ble_eq_true rfl) d_Rc_takeName_130 hk (fun I18 R19 h H locs V => ?_)
  exact u_retvA (pc := 133) X V hE hk hr hlk hsz h d_Rc_takeName_133
def wp_Rc_takeName_L98 (mc ms : Nat) (Q : List Nat → UI → UR → Prop) (kc : Nat) (ks : Nat) (L : List Nat) (I : UI) (R : UR) (x1 : Int32) (z3 : Option Nat) : Prop :=
  ((z3 = none → (∃ i11 : Nat, uFr L R i11 ∧ (kc + 2 ≤ mc ∧ ks + 303 ≤ ms) ∧ ∀ L14 : List Nat, L14 = L ++ [i11, i11 + 1] → ∀ I13 : UI, I13 = uz I i11 → ∀ I15 : UI, I15 = u2 I13 i11 1 x1 → vp_in x1 26 ∧ ∀ R16 : UR, R16 = r2 R 19 x1.toNatClampNeg (some i11) → wp_Rc_takeName_L122 mc ms Q (kc + 2) (ks + 303) L14 I15 R16 (some i11))) ∧ (∀ i10 : Nat, z3 = some i10 → wp_Rc_takeName_L122 mc ms Q kc ks L I R (some i10)))
set_option maxHeartbeats 4000000 in
set_option maxRecDepth 100000 in
theorem j_Rc_takeName_98 {mc ms : Nat} (hr : meth.sig.returnType = none) (hlk : meth.locks = false) (hsz : sz = s.heap.size) {Q : List Nat → UI → UR → Prop} {kc : Nat} {ks : Nat} {L : List Nat} {A : Nat → Nat} {I : UI} {R : UR} {x1 : Int32} {z3 : Option Nat} {H : Heap} {locs : List Loc} {ls : Array Slot} (hk : kc ≤ mc ∧ ks ≤ ms) (hE : uEx s.heap.size L0 A0 L A) (X : uX p s m args c prog_5_method_8_code 4 "FrameFerry$Receiver" D cc L A t16 t32) (V : uV s D cc L A J I R H locs) (hl : lv_has ls 4 [(0, .ref (A 3)), (1, .int x1), (3, va_rf (Option.map A z3))]) (h : wp_Rc_takeName_L98 mc ms Q kc ks L I R x1 z3) : W p l e (rm_Rc_takeName mc ms) s m args below meth c H locs kc ks (MQ below (va_Qv (fun u : List Nat × (Nat → Nat) × UI × UR => Q u.1 u.2.2.1 u.2.2.2) (uBa D cc L0 A0 J sz) (uA L0 A0 sz)) args s mc ms (uA L0 A0 sz)) (F0 m 98 ls []) := by
  have hx := X.1
  have hb := X.2.1
  unfold wp_Rc_takeName_L98 at h
  refine u_aload_n (pc := 98) hx hb d_Rc_takeName_98 rfl (lv_at hl 2 rfl) ?_
  rcases z3 with _ | i10
  · have h := h.1 rfl
    refine lv_ifnonnullN (pc := 99) hx hb d_Rc_takeName_99 ?_
    obtain ⟨i11, hf, hk1, h⟩ := h
    have X0 := X
    refine u_newSf (pc := 102) (i := i11) X V hE hf n_Rc_18 i_Rc_128 hl.1 (Nat.le_of_ble_eq_true rfl) ⟨Nat.le_of_ble_eq_true rfl, Nat.le_of_ble_eq_true rfl⟩ hk1 d_Rc_takeName_102 d_Rc_takeName_105 d_Rc_takeName_106 (fun A12 I13 eI13 hG hE X H locs V => ?_)
    have hk := hk1
    obtain ⟨L14, eL14⟩ : ∃ z : List Nat, z = L ++ [i11, i11 + 1] := ⟨_, rfl⟩
    rw [← eL14] at hG hE X V
    have h := h L14 eL14 I13 eI13
    have h_i11 : isSf L14 i11 := by rw [eL14]; exact ⟨by simp, hf.1, by simp, hf.2.1⟩
    have hl : lv_has ls 4 [(0, .ref (A 3)), (1, .int x1)] := lv_sub hl [0, 1] rfl
    have ea0 := (hG.2.2.1 3 (X0.fix rfl)).2
    try rw [← ea0] at hl
    try rw [← ea0]
    refine lv_astore_n (pc := 109) (lv' := [(3, .ref (A12 i11)), (0, .ref (A12 3)), (1, .int x1)]) hx hb d_Rc_takeName_109 rfl hl (by decide) rfl (fun ls hl => ?_)
    refine lv_aload_n (pc := 110) hx hb d_Rc_takeName_110 rfl (lv_at hl 0 rfl) ?_
    refine lv_iload_n (pc := 111) hx hb d_Rc_takeName_111 rfl (lv_at hl 2 rfl) ?_
    refine u_puti (pc := 112) X V h_i11.1 h_i11.2.1 rfl f_Rc_129 rfl d_Rc_takeName_112 (fun I15 eI15 H locs V => ?_)
    have h := h I15 eI15
    refine lv_aload_n (pc := 115) hx hb d_Rc_takeName_115 rfl (lv_at hl 1 rfl) ?_
    refine u_getr (pc := 116) (o' := 19) X V (X.fix rfl) rfl rfl f_Rc_20 rfl rfl d_Rc_takeName_116 ?_
    refine lv_iload_n (pc := 119) hx hb d_Rc_takeName_119 rfl (lv_at hl 2 rfl) ?_
    refine lv_aload_n (pc := 120) hx hb d_Rc_takeName_120 rfl (lv_at hl 0 rfl) ?_
    refine u_aast (pc := 121) X V (X.fix rfl) rfl (by decide) rfl h_i11 h.1 d_Rc_takeName_121 (fun R16 eR16 H locs V => ?_)
    have h := h.2 R16 eR16
    exact j_Rc_takeName_122 hr hlk hsz hk hE X V (lv_sub hl [1, 0] rfl) h
  · have h := h.2 i10 rfl
    refine lv_ifnonnull (pc := 99) (tgt := 122) hx hb d_Rc_takeName_99 (by decide) ?_
    exact j_Rc_takeName_122 hr hlk hsz hk hE X V (lv_sub hl [0, 2] rfl) h
def wp_Rc_takeName (mc ms : Nat) (L : List Nat) (I : UI) (R : UR) (Q : List Nat → UI → UR → Prop) : Prop :=
  vp_in 0 64 ∧ ∀ v1 : Int32, v1 = ((I 16 (0 : Int32).toNatClampNeg) &&& 255) - 97 → ((¬ I 15 1 = 3 → wp_Rc_takeName_L35 mc ms Q 0 0 L I R) ∧ (I 15 1 = 3 → wp_FF_isLetter L I R v1 (fun r6 I4 R5 => ((¬ r6 = 0 → vp_in 1 64 ∧ vp_in 2 64 ∧ ∀ v7 : Int32, v7 = (((I4 16 (1 : Int32).toNatClampNeg) &&& 255) <<< (8 &&& 31)) ||| ((I4 16 (2 : Int32).toNatClampNeg) &&& 255) → vp_in v1 26 ∧ ∀ z8 : Option Nat, z8 = R5 19 v1.toNatClampNeg → ((z8 = none → wp_Rc_takeName_L98 mc ms Q 0 0 L I4 R5 v1 none) ∧ (∀ i9 : Nat, z8 = some i9 → isSf L i9 ∧ ((I4 i9 2 < v7 → wp_Rc_takeName_L98 mc ms Q 0 0 L I4 R5 v1 (some i9)) ∧ (¬ I4 i9 2 < v7 → wp_Rc_answer L I4 R5 5 (fun I20 R21 => Q L I20 R21)))))) ∧ (r6 = 0 → wp_Rc_takeName_L35 mc ms Q 0 0 L I4 R5)))))
set_option maxHeartbeats 4000000 in
set_option maxRecDepth 100000 in
theorem c_Rc_takeName (l : Launch) (D : va_G) (cc : Nat → ClassId) (L : List Nat) (A : Nat → Nat) (J : Nat → Int64) (t16 t32 : Nat) (mc ms : Nat) (I : UI) (R : UR) (Q : List Nat → UI → UR → Prop) (h : wp_Rc_takeName mc ms L I R Q) : uMvA l y_Rc_takeName (.code y_Rc_takeName prog_5_method_8_code 4 none) (rm_Rc_takeName mc ms) mc ms [.ref (A 3)] D cc L A J t16 t32 I R Q := by
  intro sz
  refine u_entry (by decide) (Nat.le_of_ble_eq_true rfl) (fun p e s m args below meth c hsz X V hr hlk ls hl => ?_)
  have X : uX p s m args c prog_5_method_8_code 4 "FrameFerry$Receiver" D cc L A t16 t32 := X
  have hx := X.1
  have hb := X.2.1
  have hl : lv_has ls 4 [(0, .ref (A 3))] := hl
  unfold wp_Rc_takeName at h
  have hE : uEx s.heap.size L A L A := uEx.rf X.2.2.2.2.2.2.1 X.2.2.2.2.2.2.2.1
  have hk : 0 ≤ mc ∧ 0 ≤ ms := ⟨Nat.zero_le _, Nat.zero_le _⟩
  generalize hH : s.heap = H at V ⊢
  generalize hlo : ([] : List Loc) = locs at V ⊢
  refine lv_aload_n (pc := 0) hx hb d_Rc_takeName_0 rfl (lv_at hl 0 rfl) ?_
  refine u_getr (pc := 1) (o' := 15) X V (X.fix rfl) rfl rfl f_Rc_38 rfl rfl d_Rc_takeName_1 ?_
  refine u_getr (pc := 4) (o' := 16) X V (X.fix rfl) rfl rfl f_Rc_117 rfl rfl d_Rc_takeName_4 ?_
  refine lv_iconst (pc := 7) (v := 0) hx hb d_Rc_takeName_7 (by decide) ?_
  refine u_bald (pc := 8) X V (X.fix rfl) rfl rfl rfl h.1 d_Rc_takeName_8 ?_
  have h := h.2
  refine lv_sipush (pc := 9) (v := 255) hx hb d_Rc_takeName_9 (by decide) ?_
  refine lv_iand (pc := 12) hx hb d_Rc_takeName_12 ?_
  refine lv_bipush (pc := 13) (v := 97) hx hb d_Rc_takeName_13 (by decide) ?_
  refine lv_isub (pc := 15) hx hb d_Rc_takeName_15 ?_
  refine lv_topi (fun v1 ev1 => ?_)
  have h := h v1 ev1
  refine lv_istore_n (pc := 16) (lv' := [(1, .int v1), (0, .ref (A 3))]) hx hb d_Rc_takeName_16 rfl hl (by decide) rfl (fun ls hl => ?_)
  refine lv_aload_n (pc := 17) hx hb d_Rc_takeName_17 rfl (lv_at hl 1 rfl) ?_
  refine u_getr (pc := 18) (o' := 15) X V (X.fix rfl) rfl rfl f_Rc_38 rfl rfl d_Rc_takeName_18 ?_
  refine u_geti (pc := 21) X V (X.fix rfl) rfl rfl f_Rc_121 rfl d_Rc_takeName_21 ?_
  refine lv_iconst (pc := 24) (v := 3) hx hb d_Rc_takeName_24 (by decide) ?_
  refine lv_icmp_ne (pc := 25) (tgt := 35) hx hb d_Rc_takeName_25 (by decide) (fun hc => ?_) (fun hc => ?_)
  · have h := h.1 hc
    exact j_Rc_takeName_35 hr hlk hsz hk hE X V (lv_sub hl [1] rfl) h
  · have h := h.2 hc
    refine lv_iload_n (pc := 28) hx hb d_Rc_takeName_28 rfl (lv_at hl 0 rfl) ?_
    refine u_cSiN (pc := 29) (As := [.int v1]) X V s_Rc_124 (c_FF_isLetter l D cc L A J t16 t32 _ _ v1 _ h) ⟨rfl, rfl, Nat.le_of_ble_eq_true rfl, Nat.le_of_ble_eq_true rfl⟩ rfl hl.1 rfl (Nat.le_of_ble_eq_true rfl) d_Rc_takeName_29 hk (fun r6 I4 R5 h H locs V => ?_)
    refine lv_if_ne (pc := 32) (tgt := 42) hx hb d_Rc_takeName_32 (by decide) (fun hc => ?_) (fun hc => ?_)
    · have h := h.1 hc
      refine lv_aload_n (pc := 42) hx hb d_Rc_takeName_42 rfl (lv_at hl 1 rfl) ?_
      refine u_getr (pc := 43) (o' := 15) X V (X.fix rfl) rfl rfl f_Rc_38 rfl rfl d_Rc_takeName_43 ?_
      refine u_getr (pc := 46) (o' := 16) X V (X.fix rfl) rfl rfl f_Rc_117 rfl rfl d_Rc_takeName_46 ?_
      refine lv_iconst (pc := 49) (v := 1) hx hb d_Rc_takeName_49 (by decide) ?_
      refine u_bald (pc := 50) X V (X.fix rfl) rfl rfl rfl h.1 d_Rc_takeName_50 ?_
      have h := h.2
      refine lv_sipush (pc := 51) (v := 255) hx hb d_Rc_takeName_51 (by decide) ?_
      refine lv_iand (pc := 54) hx hb d_Rc_takeName_54 ?_
      refine lv_bipush (pc := 55) (v := 8) hx hb d_Rc_takeName_55 (by decide) ?_
      refine lv_ishl (pc := 57) hx hb d_Rc_takeName_57 ?_
      refine lv_aload_n (pc := 58) hx hb d_Rc_takeName_58 rfl (lv_at hl 1 rfl) ?_
      refine u_getr (pc := 59) (o' := 15) X V (X.fix rfl) rfl rfl f_Rc_38 rfl rfl d_Rc_takeName_59 ?_
      refine u_getr (pc := 62) (o' := 16) X V (X.fix rfl) rfl rfl f_Rc_117 rfl rfl d_Rc_takeName_62 ?_
      refine lv_iconst (pc := 65) (v := 2) hx hb d_Rc_takeName_65 (by decide) ?_
      refine u_bald (pc := 66) X V (X.fix rfl) rfl rfl rfl h.1 d_Rc_takeName_66 ?_
      have h := h.2
      refine lv_sipush (pc := 67) (v := 255) hx hb d_Rc_takeName_67 (by decide) ?_
      refine lv_iand (pc := 70) hx hb d_Rc_takeName_70 ?_
      refine lv_ior (pc := 71) hx hb d_Rc_takeName_71 ?_
      refine lv_topi (fun v7 ev7 => ?_)
      have h := h v7 ev7
      refine lv_istore_n (pc := 72) (lv' := [(2, .int v7), (1, .int v1), (0, .ref (A 3))]) hx hb d_Rc_takeName_72 rfl hl (by decide) rfl (fun ls hl => ?_)
      refine lv_aload_n (pc := 73) hx hb d_Rc_takeName_73 rfl (lv_at hl 2 rfl) ?_
      refine u_getr (pc := 74) (o' := 19) X V (X.fix rfl) rfl rfl f_Rc_20 rfl rfl d_Rc_takeName_74 ?_
      refine lv_iload_n (pc := 77) hx hb d_Rc_takeName_77 rfl (lv_at hl 1 rfl) ?_
      refine u_aald (pc := 78) X V (X.fix rfl) rfl (by decide) rfl h.1 d_Rc_takeName_78 (fun z8 ez8 => ?_)
      have h := h.2 z8 ez8
      refine u_astore_n (pc := 79) (lv' := [(3, va_rf (Option.map A z8)), (2, .int v7), (1, .int v1), (0, .ref (A 3))]) hx hb d_Rc_takeName_79 rfl hl (by decide) rfl (fun ls hl => ?_)
      refine u_aload_n (pc := 80) hx hb d_Rc_takeName_80 rfl (lv_at hl 0 rfl) ?_
      rcases z8 with _ | i9
      · have h := h.1 rfl
        refine lv_ifnullN (pc := 81) (tgt := 98) hx hb d_Rc_takeName_81 (by decide) ?_
        exact j_Rc_takeName_98 hr hlk hsz hk hE X V (lv_sub hl [3, 2, 0] rfl) h
      · have h := h.2 i9 rfl
        refine lv_ifnull (pc := 81) hx hb d_Rc_takeName_81 ?_
        refine lv_aload_n (pc := 84) hx hb d_Rc_takeName_84 rfl (lv_at hl 0 rfl) ?_
        have h_i9 := h.1
        have h := h.2
        refine u_geti (pc := 85) X V h_i9.1 h_i9.2.1 rfl f_Rc_116 rfl d_Rc_takeName_85 ?_
        refine lv_iload_n (pc := 88) hx hb d_Rc_takeName_88 rfl (lv_at hl 1 rfl) ?_
        refine lv_icmp_lt (pc := 89) (tgt := 98) hx hb d_Rc_takeName_89 (by decide) (fun hc => ?_) (fun hc => ?_)
        · have h := h.1 hc
          exact j_Rc_takeName_98 hr hlk hsz hk hE X V (lv_sub hl [3, 2, 0] rfl) h
        · have h := h.2 hc
          refine lv_aload_n (pc := 92) hx hb d_Rc_takeName_92 rfl (lv_at hl 3 rfl) ?_
          refine lv_iconst (pc := 93) (v := 5) hx hb d_Rc_takeName_93 (by decide) ?_
          refine u_cVv (pc := 94) (As := [.int 5]) X V s_Rc_86 (X.fix rfl) rfl rfl rfl (c_Rc_answer l D cc L A J t16 t32 _ _ 5 _ h) ⟨rfl, rfl, Nat.le_of_ble_eq_true rfl, Nat.le_of_ble_eq_true rfl⟩ rfl hl.1 rfl (Nat.le_of_ble_eq_true rfl) d_Rc_takeName_94 hk (fun I20 R21 h H locs V => ?_)
          exact u_retvA (pc := 97) X V hE hk hr hlk hsz h d_Rc_takeName_97
    · have h := h.2 hc
      exact j_Rc_takeName_35 hr hlk hsz hk hE X V (lv_sub hl [1] rfl) h
-- FrameFerry$Receiver.act (I)V
theorem d_Rc_act_0 : decode prog_5_method_6_code 0 = .ok (.iload_n 1, 1) := by decide +kernel
theorem d_Rc_act_1 : decode prog_5_method_6_code 1 = .ok (.tableswitch 136 1 4 #[31, 48, 67, 105], 31) := by decide +kernel
theorem d_Rc_act_32 : decode prog_5_method_6_code 32 = .ok (.aload_n 0, 1) := by decide +kernel
theorem d_Rc_act_33 : decode prog_5_method_6_code 33 = .ok (.dup, 1) := by decide +kernel
theorem d_Rc_act_34 : decode prog_5_method_6_code 34 = .ok (.getfield 49, 3) := by decide +kernel
theorem d_Rc_act_37 : decode prog_5_method_6_code 37 = .ok (.iconst 1, 1) := by decide +kernel
theorem d_Rc_act_38 : decode prog_5_method_6_code 38 = .ok (.iadd, 1) := by decide +kernel
theorem d_Rc_act_39 : decode prog_5_method_6_code 39 = .ok (.putfield 49, 3) := by decide +kernel
theorem d_Rc_act_42 : decode prog_5_method_6_code 42 = .ok (.aload_n 0, 1) := by decide +kernel
theorem d_Rc_act_43 : decode prog_5_method_6_code 43 = .ok (.invokevirtual 89, 3) := by decide +kernel
theorem d_Rc_act_46 : decode prog_5_method_6_code 46 = .ok (.goto 91, 3) := by decide +kernel
theorem d_Rc_act_49 : decode prog_5_method_6_code 49 = .ok (.aload_n 0, 1) := by decide +kernel
theorem d_Rc_act_50 : decode prog_5_method_6_code 50 = .ok (.dup, 1) := by decide +kernel
theorem d_Rc_act_51 : decode prog_5_method_6_code 51 = .ok (.getfield 52, 3) := by decide +kernel
theorem d_Rc_act_54 : decode prog_5_method_6_code 54 = .ok (.iconst 1, 1) := by decide +kernel
theorem d_Rc_act_55 : decode prog_5_method_6_code 55 = .ok (.iadd, 1) := by decide +kernel
theorem d_Rc_act_56 : decode prog_5_method_6_code 56 = .ok (.putfield 52, 3) := by decide +kernel
theorem d_Rc_act_59 : decode prog_5_method_6_code 59 = .ok (.aload_n 0, 1) := by decide +kernel
theorem d_Rc_act_60 : decode prog_5_method_6_code 60 = .ok (.bipush 6, 2) := by decide +kernel
theorem d_Rc_act_62 : decode prog_5_method_6_code 62 = .ok (.invokevirtual 86, 3) := by decide +kernel
theorem d_Rc_act_65 : decode prog_5_method_6_code 65 = .ok (.goto 72, 3) := by decide +kernel
theorem d_Rc_act_68 : decode prog_5_method_6_code 68 = .ok (.aload_n 0, 1) := by decide +kernel
theorem d_Rc_act_69 : decode prog_5_method_6_code 69 = .ok (.dup, 1) := by decide +kernel
theorem d_Rc_act_70 : decode prog_5_method_6_code 70 = .ok (.getfield 55, 3) := by decide +kernel
theorem d_Rc_act_73 : decode prog_5_method_6_code 73 = .ok (.iconst 1, 1) := by decide +kernel
theorem d_Rc_act_74 : decode prog_5_method_6_code 74 = .ok (.iadd, 1) := by decide +kernel
theorem d_Rc_act_75 : decode prog_5_method_6_code 75 = .ok (.putfield 55, 3) := by decide +kernel
theorem d_Rc_act_78 : decode prog_5_method_6_code 78 = .ok (.aload_n 0, 1) := by decide +kernel
theorem d_Rc_act_79 : decode prog_5_method_6_code 79 = .ok (.getfield 92, 3) := by decide +kernel
theorem d_Rc_act_82 : decode prog_5_method_6_code 82 = .ok (.ifCond .eq 10, 3) := by decide +kernel
theorem d_Rc_act_85 : decode prog_5_method_6_code 85 = .ok (.aload_n 0, 1) := by decide +kernel
theorem d_Rc_act_86 : decode prog_5_method_6_code 86 = .ok (.invokevirtual 95, 3) := by decide +kernel
theorem d_Rc_act_89 : decode prog_5_method_6_code 89 = .ok (.goto 7, 3) := by decide +kernel
theorem d_Rc_act_92 : decode prog_5_method_6_code 92 = .ok (.aload_n 0, 1) := by decide +kernel
theorem d_Rc_act_93 : decode prog_5_method_6_code 93 = .ok (.invokevirtual 98, 3) := by decide +kernel
theorem d_Rc_act_96 : decode prog_5_method_6_code 96 = .ok (.aload_n 0, 1) := by decide +kernel
theorem d_Rc_act_97 : decode prog_5_method_6_code 97 = .ok (.getfield 38, 3) := by decide +kernel
theorem d_Rc_act_100 : decode prog_5_method_6_code 100 = .ok (.invokevirtual 101, 3) := by decide +kernel
theorem d_Rc_act_103 : decode prog_5_method_6_code 103 = .ok (.goto 34, 3) := by decide +kernel
theorem d_Rc_act_106 : decode prog_5_method_6_code 106 = .ok (.aload_n 0, 1) := by decide +kernel
theorem d_Rc_act_107 : decode prog_5_method_6_code 107 = .ok (.dup, 1) := by decide +kernel
theorem d_Rc_act_108 : decode prog_5_method_6_code 108 = .ok (.getfield 58, 3) := by decide +kernel
theorem d_Rc_act_111 : decode prog_5_method_6_code 111 = .ok (.iconst 1, 1) := by decide +kernel
theorem d_Rc_act_112 : decode prog_5_method_6_code 112 = .ok (.iadd, 1) := by decide +kernel
theorem d_Rc_act_113 : decode prog_5_method_6_code 113 = .ok (.putfield 58, 3) := by decide +kernel
theorem d_Rc_act_116 : decode prog_5_method_6_code 116 = .ok (.aload_n 0, 1) := by decide +kernel
theorem d_Rc_act_117 : decode prog_5_method_6_code 117 = .ok (.aload_n 0, 1) := by decide +kernel
theorem d_Rc_act_118 : decode prog_5_method_6_code 118 = .ok (.getfield 92, 3) := by decide +kernel
theorem d_Rc_act_121 : decode prog_5_method_6_code 121 = .ok (.ifCond .eq 8, 3) := by decide +kernel
theorem d_Rc_act_124 : decode prog_5_method_6_code 124 = .ok (.bipush 6, 2) := by decide +kernel
theorem d_Rc_act_126 : decode prog_5_method_6_code 126 = .ok (.goto 5, 3) := by decide +kernel
theorem d_Rc_act_129 : decode prog_5_method_6_code 129 = .ok (.bipush 9, 2) := by decide +kernel
theorem d_Rc_act_131 : decode prog_5_method_6_code 131 = .ok (.invokevirtual 86, 3) := by decide +kernel
theorem d_Rc_act_134 : decode prog_5_method_6_code 134 = .ok (.goto 3, 3) := by decide +kernel
theorem d_Rc_act_137 : decode prog_5_method_6_code 137 = .ok (.return_, 1) := by decide +kernel
def rm_Rc_act (mc ms : Nat) : Room := { frames := 4, cells := mc, slots := ms, locals := 91 }
def wp_Rc_act_L96 (mc ms : Nat) (Q : List Nat → UI → UR → Prop) (kc : Nat) (ks : Nat) (L : List Nat) (I : UI) (R : UR) : Prop :=
  wp_Rd_passPacket I R 15 (fun I11 R12 => Q L I11 R12)
set_option maxHeartbeats 4000000 in
set_option maxRecDepth 100000 in
theorem j_Rc_act_96 {mc ms : Nat} (hr : meth.sig.returnType = none) (hlk : meth.locks = false) (hsz : sz = s.heap.size) {Q : List Nat → UI → UR → Prop} {kc : Nat} {ks : Nat} {L : List Nat} {A : Nat → Nat} {I : UI} {R : UR} {H : Heap} {locs : List Loc} {ls : Array Slot} (hk : kc ≤ mc ∧ ks ≤ ms) (hE : uEx s.heap.size L0 A0 L A) (X : uX p s m args c prog_5_method_6_code 2 "FrameFerry$Receiver" D cc L A t16 t32) (V : uV s D cc L A J I R H locs) (hl : lv_has ls 2 [(0, .ref (A 3))]) (h : wp_Rc_act_L96 mc ms Q kc ks L I R) : W p l e (rm_Rc_act mc ms) s m args below meth c H locs kc ks (MQ below (va_Qv (fun u : List Nat × (Nat → Nat) × UI × UR => Q u.1 u.2.2.1 u.2.2.2) (uBa D cc L0 A0 J sz) (uA L0 A0 sz)) args s mc ms (uA L0 A0 sz)) (F0 m 96 ls []) := by
  have hx := X.1
  have hb := X.2.1
  unfold wp_Rc_act_L96 at h
  refine lv_aload_n (pc := 96) hx hb d_Rc_act_96 rfl (lv_at hl 0 rfl) ?_
  refine u_getr (pc := 97) (o' := 15) X V (X.fix rfl) rfl rfl f_Rc_38 rfl rfl d_Rc_act_97 ?_
  refine u_cVv (pc := 100) (As := []) X V s_Rc_101 (X.fix rfl) rfl rfl rfl (c_Rd_passPacket l D cc L A J t16 t32 _ _ 15 ⟨(X.fix rfl), rfl, (X.fix rfl), rfl, (X.fix rfl), rfl⟩ _ h) ⟨rfl, rfl, Nat.le_of_ble_eq_true rfl, Nat.le_of_ble_eq_true rfl⟩ rfl hl.1 rfl (Nat.le_of_ble_eq_true rfl) d_Rc_act_100 hk (fun I11 R12 h H locs V => ?_)
  refine lv_goto (pc := 103) (tgt := 137) hx hb d_Rc_act_103 (by decide) ?_
  exact u_retvA (pc := 137) X V hE hk hr hlk hsz h d_Rc_act_137
def wp_Rc_act_L131 (mc ms : Nat) (Q : List Nat → UI → UR → Prop) (kc : Nat) (ks : Nat) (L : List Nat) (I : UI) (R : UR) (s0 : Int32) : Prop :=
  wp_Rc_answer L I R s0 (fun I20 R21 => Q L I20 R21)
set_option maxHeartbeats 4000000 in
set_option maxRecDepth 100000 in
theorem j_Rc_act_131 {mc ms : Nat} (hr : meth.sig.returnType = none) (hlk : meth.locks = false) (hsz : sz = s.heap.size) {Q : List Nat → UI → UR → Prop} {kc : Nat} {ks : Nat} {L : List Nat} {A : Nat → Nat} {I : UI} {R : UR} {s0 : Int32} {H : Heap} {locs : List Loc} {ls : Array Slot} (hk : kc ≤ mc ∧ ks ≤ ms) (hE : uEx s.heap.size L0 A0 L A) (X : uX p s m args c prog_5_method_6_code 2 "FrameFerry$Receiver" D cc L A t16 t32) (V : uV s D cc L A J I R H locs) (hl : lv_has ls 2 []) (h : wp_Rc_act_L131 mc ms Q kc ks L I R s0) : W p l e (rm_Rc_act mc ms) s m args below meth c H locs kc ks (MQ below (va_Qv (fun u : List Nat × (Nat → Nat) × UI × UR => Q u.1 u.2.2.1 u.2.2.2) (uBa D cc L0 A0 J sz) (uA L0 A0 sz)) args s mc ms (uA L0 A0 sz)) (F0 m 131 ls [.int s0, .ref (A 3)]) := by
  have hx := X.1
  have hb := X.2.1
  unfold wp_Rc_act_L131 at h
  refine u_cVv (pc := 131) (As := [.int s0]) X V s_Rc_86 (X.fix rfl) rfl rfl rfl (c_Rc_answer l D cc L A J t16 t32 _ _ s0 _ h) ⟨rfl, rfl, Nat.le_of_ble_eq_true rfl, Nat.le_of_ble_eq_true rfl⟩ rfl hl.1 rfl (Nat.le_of_ble_eq_true rfl) d_Rc_act_131 hk (fun I20 R21 h H locs V => ?_)
  refine lv_goto (pc := 134) (tgt := 137) hx hb d_Rc_act_134 (by decide) ?_
  exact u_retvA (pc := 137) X V hE hk hr hlk hsz h d_Rc_act_137
def wp_Rc_act (mc ms : Nat) (L : List Nat) (I : UI) (R : UR) (x1 : Int32) (Q : List Nat → UI → UR → Prop) : Prop :=
  ∀ v1 : Int32, v1 = x1 → ((v1 = 1 → ∀ I2 : UI, I2 = u2 I 3 4 ((I 3 4) + 1) → wp_Rc_takeHeader L I2 R (fun I3 R4 => Q L I3 R4)) ∧ (¬ v1 = 1 → ((v1 = 2 → ∀ I5 : UI, I5 = u2 I 3 5 ((I 3 5) + 1) → wp_Rc_answer L I5 R 6 (fun I6 R7 => Q L I6 R7)) ∧ (¬ v1 = 2 → ((v1 = 3 → ∀ I8 : UI, I8 = u2 I 3 6 ((I 3 6) + 1) → ((I8 3 11 = 0 → wp_Rc_takeContent L I8 R (fun I9 R10 => wp_Rc_act_L96 mc ms Q 0 0 L I9 R10)) ∧ (¬ I8 3 11 = 0 → (∃ c15 s16 : Nat, (0 + c15 ≤ mc ∧ 0 + s16 ≤ ms) ∧ wp_Rc_takeName c15 s16 L I8 R (fun L17 I13 R14 => wp_Rc_act_L96 mc ms Q (0 + c15) (0 + s16) L17 I13 R14))))) ∧ (¬ v1 = 3 → ((v1 = 4 → ∀ I19 : UI, I19 = u2 I 3 7 ((I 3 7) + 1) → ((I19 3 11 = 0 → wp_Rc_act_L131 mc ms Q 0 0 L I19 R 9) ∧ (¬ I19 3 11 = 0 → wp_Rc_act_L131 mc ms Q 0 0 L I19 R 6))) ∧ (¬ v1 = 4 → Q L I R))))))))
set_option maxHeartbeats 4000000 in
set_option maxRecDepth 100000 in
theorem c_Rc_act (l : Launch) (D : va_G) (cc : Nat → ClassId) (L : List Nat) (A : Nat → Nat) (J : Nat → Int64) (t16 t32 : Nat) (mc ms : Nat) (I : UI) (R : UR) (x1 : Int32) (Q : List Nat → UI → UR → Prop) (h : wp_Rc_act mc ms L I R x1 Q) : uMvA l y_Rc_act (.code y_Rc_act prog_5_method_6_code 2 none) (rm_Rc_act mc ms) mc ms [.ref (A 3), .int x1] D cc L A J t16 t32 I R Q := by
  intro sz
  refine u_entry (by decide) (Nat.le_of_ble_eq_true rfl) (fun p e s m args below meth c hsz X V hr hlk ls hl => ?_)
  have X : uX p s m args c prog_5_method_6_code 2 "FrameFerry$Receiver" D cc L A t16 t32 := X
  have hx := X.1
  have hb := X.2.1
  have hl : lv_has ls 2 [(0, .ref (A 3)), (1, .int x1)] := hl
  unfold wp_Rc_act at h
  have hE : uEx s.heap.size L A L A := uEx.rf X.2.2.2.2.2.2.1 X.2.2.2.2.2.2.2.1
  have hk : 0 ≤ mc ∧ 0 ≤ ms := ⟨Nat.zero_le _, Nat.zero_le _⟩
  generalize hH : s.heap = H at V ⊢
  generalize hlo : ([] : List Loc) = locs at V ⊢
  refine lv_iload_n (pc := 0) hx hb d_Rc_act_0 rfl (lv_at hl 1 rfl) ?_
  refine lv_topi (fun v1 ev1 => ?_)
  have h := h v1 ev1
  by_cases hn0 : v1 = 1
  · have h := h.1 hn0
    rw [hn0]
    refine lv_tableIn (pc := 1) (tgt := 32) (off := 31) hx hb d_Rc_act_1 (by decide) (by decide) rfl (by decide) ?_
    refine lv_aload_n (pc := 32) hx hb d_Rc_act_32 rfl (lv_at hl 0 rfl) ?_
    refine lv_dup (pc := 33) hx hb d_Rc_act_33 rfl ?_
    refine u_geti (pc := 34) X V (X.fix rfl) rfl rfl f_Rc_49 rfl d_Rc_act_34 ?_
    refine lv_iconst (pc := 37) (v := 1) hx hb d_Rc_act_37 (by decide) ?_
    refine lv_iadd (pc := 38) hx hb d_Rc_act_38 ?_
    refine u_puti (pc := 39) X V (X.fix rfl) rfl rfl f_Rc_49 rfl d_Rc_act_39 (fun I2 eI2 H locs V => ?_)
    have h := h I2 eI2
    refine lv_aload_n (pc := 42) hx hb d_Rc_act_42 rfl (lv_at hl 0 rfl) ?_
    refine u_cVv (pc := 43) (As := []) X V s_Rc_89 (X.fix rfl) rfl rfl rfl (c_Rc_takeHeader l D cc L A J t16 t32 _ _  _ h) ⟨rfl, rfl, Nat.le_of_ble_eq_true rfl, Nat.le_of_ble_eq_true rfl⟩ rfl hl.1 rfl (Nat.le_of_ble_eq_true rfl) d_Rc_act_43 hk (fun I3 R4 h H locs V => ?_)
    refine lv_goto (pc := 46) (tgt := 137) hx hb d_Rc_act_46 (by decide) ?_
    exact u_retvA (pc := 137) X V hE hk hr hlk hsz h d_Rc_act_137
  · have h := h.2 hn0
    by_cases hn1 : v1 = 2
    · have h := h.1 hn1
      rw [hn1]
      refine lv_tableIn (pc := 1) (tgt := 49) (off := 48) hx hb d_Rc_act_1 (by decide) (by decide) rfl (by decide) ?_
      refine lv_aload_n (pc := 49) hx hb d_Rc_act_49 rfl (lv_at hl 0 rfl) ?_
      refine lv_dup (pc := 50) hx hb d_Rc_act_50 rfl ?_
      refine u_geti (pc := 51) X V (X.fix rfl) rfl rfl f_Rc_52 rfl d_Rc_act_51 ?_
      refine lv_iconst (pc := 54) (v := 1) hx hb d_Rc_act_54 (by decide) ?_
      refine lv_iadd (pc := 55) hx hb d_Rc_act_55 ?_
      refine u_puti (pc := 56) X V (X.fix rfl) rfl rfl f_Rc_52 rfl d_Rc_act_56 (fun I5 eI5 H locs V => ?_)
      have h := h I5 eI5
      refine lv_aload_n (pc := 59) hx hb d_Rc_act_59 rfl (lv_at hl 0 rfl) ?_
      refine lv_bipush (pc := 60) (v := 6) hx hb d_Rc_act_60 (by decide) ?_
      refine u_cVv (pc := 62) (As := [.int 6]) X V s_Rc_86 (X.fix rfl) rfl rfl rfl (c_Rc_answer l D cc L A J t16 t32 _ _ 6 _ h) ⟨rfl, rfl, Nat.le_of_ble_eq_true rfl, Nat.le_of_ble_eq_true rfl⟩ rfl hl.1 rfl (Nat.le_of_ble_eq_true rfl) d_Rc_act_62 hk (fun I6 R7 h H locs V => ?_)
      refine lv_goto (pc := 65) (tgt := 137) hx hb d_Rc_act_65 (by decide) ?_
      exact u_retvA (pc := 137) X V hE hk hr hlk hsz h d_Rc_act_137
    · have h := h.2 hn1
      by_cases hn2 : v1 = 3
      · have h := h.1 hn2
        rw [hn2]
        refine lv_tableIn (pc := 1) (tgt := 68) (off := 67) hx hb d_Rc_act_1 (by decide) (by decide) rfl (by decide) ?_
        refine lv_aload_n (pc := 68) hx hb d_Rc_act_68 rfl (lv_at hl 0 rfl) ?_
        refine lv_dup (pc := 69) hx hb d_Rc_act_69 rfl ?_
        refine u_geti (pc := 70) X V (X.fix rfl) rfl rfl f_Rc_55 rfl d_Rc_act_70 ?_
        refine lv_iconst (pc := 73) (v := 1) hx hb d_Rc_act_73 (by decide) ?_
        refine lv_iadd (pc := 74) hx hb d_Rc_act_74 ?_
        refine u_puti (pc := 75) X V (X.fix rfl) rfl rfl f_Rc_55 rfl d_Rc_act_75 (fun I8 eI8 H locs V => ?_)
        have h := h I8 eI8
        refine lv_aload_n (pc := 78) hx hb d_Rc_act_78 rfl (lv_at hl 0 rfl) ?_
        refine u_geti (pc := 79) X V (X.fix rfl) rfl rfl f_Rc_92 rfl d_Rc_act_79 ?_
        refine lv_if_eq (pc := 82) (tgt := 92) hx hb d_Rc_act_82 (by decide) (fun hc => ?_) (fun hc => ?_)
        · have h := h.1 hc
          refine lv_aload_n (pc := 92) hx hb d_Rc_act_92 rfl (lv_at hl 0 rfl) ?_
          refine u_cVv (pc := 93) (As := []) X V s_Rc_98 (X.fix rfl) rfl rfl rfl (c_Rc_takeContent l D cc L A J t16 t32 _ _  _ h) ⟨rfl, rfl, Nat.le_of_ble_eq_true rfl, Nat.le_of_ble_eq_true rfl⟩ rfl hl.1 rfl (Nat.le_of_ble_eq_true rfl) d_Rc_act_93 hk (fun I9 R10 h H locs V => ?_)
          exact j_Rc_act_96 hr hlk hsz hk hE X V (lv_sub hl [0] rfl) h
        · have h := h.2 hc
          refine lv_aload_n (pc := 85) hx hb d_Rc_act_85 rfl (lv_at hl 0 rfl) ?_
          obtain ⟨c15, s16, hk1, h⟩ := h
          have X0 := X
          refine u_cVvA (pc := 86) (As := []) X V hE s_Rc_95 (X.fix rfl) rfl rfl rfl (c_Rc_takeName l D cc L A J t16 t32 c15 s16 _ _  _ h) ⟨rfl, rfl, Nat.le_of_ble_eq_true rfl, Nat.le_of_ble_eq_true rfl⟩ rfl hl.1 rfl (Nat.le_of_ble_eq_true rfl) d_Rc_act_86 hk1 (fun L17 A18 I13 R14 h hG hE X H locs V => ?_)
          have hk := hk1
          have hl : lv_has ls 2 [(0, .ref (A 3))] := lv_sub hl [0] rfl
          have ea0 := (hG.2.2.1 3 (X0.fix rfl)).2
          try rw [← ea0] at hl
          try rw [← ea0]
          refine lv_goto (pc := 89) (tgt := 96) hx hb d_Rc_act_89 (by decide) ?_
          exact j_Rc_act_96 hr hlk hsz hk hE X V (lv_sub hl [0] rfl) h
      · have h := h.2 hn2
        by_cases hn3 : v1 = 4
        · have h := h.1 hn3
          rw [hn3]
          refine lv_tableIn (pc := 1) (tgt := 106) (off := 105) hx hb d_Rc_act_1 (by decide) (by decide) rfl (by decide) ?_
          refine lv_aload_n (pc := 106) hx hb d_Rc_act_106 rfl (lv_at hl 0 rfl) ?_
          refine lv_dup (pc := 107) hx hb d_Rc_act_107 rfl ?_
          refine u_geti (pc := 108) X V (X.fix rfl) rfl rfl f_Rc_58 rfl d_Rc_act_108 ?_
          refine lv_iconst (pc := 111) (v := 1) hx hb d_Rc_act_111 (by decide) ?_
          refine lv_iadd (pc := 112) hx hb d_Rc_act_112 ?_
          refine u_puti (pc := 113) X V (X.fix rfl) rfl rfl f_Rc_58 rfl d_Rc_act_113 (fun I19 eI19 H locs V => ?_)
          have h := h I19 eI19
          refine lv_aload_n (pc := 116) hx hb d_Rc_act_116 rfl (lv_at hl 0 rfl) ?_
          refine lv_aload_n (pc := 117) hx hb d_Rc_act_117 rfl (lv_at hl 0 rfl) ?_
          refine u_geti (pc := 118) X V (X.fix rfl) rfl rfl f_Rc_92 rfl d_Rc_act_118 ?_
          refine lv_if_eq (pc := 121) (tgt := 129) hx hb d_Rc_act_121 (by decide) (fun hc => ?_) (fun hc => ?_)
          · have h := h.1 hc
            refine lv_bipush (pc := 129) (v := 9) hx hb d_Rc_act_129 (by decide) ?_
            exact j_Rc_act_131 hr hlk hsz hk hE X V (lv_sub hl [] rfl) h
          · have h := h.2 hc
            refine lv_bipush (pc := 124) (v := 6) hx hb d_Rc_act_124 (by decide) ?_
            refine lv_goto (pc := 126) (tgt := 131) hx hb d_Rc_act_126 (by decide) ?_
            exact j_Rc_act_131 hr hlk hsz hk hE X V (lv_sub hl [] rfl) h
        · have h := h.2 hn3
          have hd0 := nr_ok (a := 1) hn0 rfl
          have hd1 := nr_ok (a := 2) hn1 rfl
          have hd2 := nr_ok (a := 3) hn2 rfl
          have hd3 := nr_ok (a := 4) hn3 rfl
          refine lv_tableOut (pc := 1) (tgt := 137) hx hb d_Rc_act_1 (by omega) (by decide) ?_
          exact u_retvA (pc := 137) X V hE hk hr hlk hsz h d_Rc_act_137
-- FrameFerry$Receiver.readAll (LFrameFerry$Pipe;)V
theorem d_Rc_readAll_0 : decode prog_5_method_4_code 0 = .ok (.aload_n 1, 1) := by decide +kernel
theorem d_Rc_readAll_1 : decode prog_5_method_4_code 1 = .ok (.getfield 42, 3) := by decide +kernel
theorem d_Rc_readAll_4 : decode prog_5_method_4_code 4 = .ok (.istore_n 2, 1) := by decide +kernel
theorem d_Rc_readAll_5 : decode prog_5_method_4_code 5 = .ok (.iconst 0, 1) := by decide +kernel
theorem d_Rc_readAll_6 : decode prog_5_method_4_code 6 = .ok (.istore_n 3, 1) := by decide +kernel
theorem d_Rc_readAll_7 : decode prog_5_method_4_code 7 = .ok (.iload_n 3, 1) := by decide +kernel
theorem d_Rc_readAll_8 : decode prog_5_method_4_code 8 = .ok (.iload_n 2, 1) := by decide +kernel
theorem d_Rc_readAll_9 : decode prog_5_method_4_code 9 = .ok (.if_icmp .ge 32, 3) := by decide +kernel
theorem d_Rc_readAll_12 : decode prog_5_method_4_code 12 = .ok (.aload_n 0, 1) := by decide +kernel
theorem d_Rc_readAll_13 : decode prog_5_method_4_code 13 = .ok (.getfield 24, 3) := by decide +kernel
theorem d_Rc_readAll_16 : decode prog_5_method_4_code 16 = .ok (.ifCond .ne 25, 3) := by decide +kernel
theorem d_Rc_readAll_19 : decode prog_5_method_4_code 19 = .ok (.aload_n 0, 1) := by decide +kernel
theorem d_Rc_readAll_20 : decode prog_5_method_4_code 20 = .ok (.aload_n 0, 1) := by decide +kernel
theorem d_Rc_readAll_21 : decode prog_5_method_4_code 21 = .ok (.getfield 38, 3) := by decide +kernel
theorem d_Rc_readAll_24 : decode prog_5_method_4_code 24 = .ok (.aload_n 1, 1) := by decide +kernel
theorem d_Rc_readAll_25 : decode prog_5_method_4_code 25 = .ok (.iload_n 3, 1) := by decide +kernel
theorem d_Rc_readAll_26 : decode prog_5_method_4_code 26 = .ok (.invokevirtual 71, 3) := by decide +kernel
theorem d_Rc_readAll_29 : decode prog_5_method_4_code 29 = .ok (.invokevirtual 75, 3) := by decide +kernel
theorem d_Rc_readAll_32 : decode prog_5_method_4_code 32 = .ok (.invokevirtual 78, 3) := by decide +kernel
theorem d_Rc_readAll_35 : decode prog_5_method_4_code 35 = .ok (.iinc 3 1, 3) := by decide +kernel
theorem d_Rc_readAll_38 : decode prog_5_method_4_code 38 = .ok (.goto (-31), 3) := by decide +kernel
theorem d_Rc_readAll_41 : decode prog_5_method_4_code 41 = .ok (.aload_n 1, 1) := by decide +kernel
theorem d_Rc_readAll_42 : decode prog_5_method_4_code 42 = .ok (.iconst 0, 1) := by decide +kernel
theorem d_Rc_readAll_43 : decode prog_5_method_4_code 43 = .ok (.iload_n 3, 1) := by decide +kernel
theorem d_Rc_readAll_44 : decode prog_5_method_4_code 44 = .ok (.invokevirtual 82, 3) := by decide +kernel
theorem d_Rc_readAll_47 : decode prog_5_method_4_code 47 = .ok (.pop, 1) := by decide +kernel
theorem d_Rc_readAll_48 : decode prog_5_method_4_code 48 = .ok (.return_, 1) := by decide +kernel
def rm_Rc_readAll (mc ms : Nat) : Room := { frames := 5, cells := mc, slots := ms, locals := 112 }
def wp_Rc_readAll_L41 (mc ms : Nat) (q1 : Nat) (Q : List Nat → UI → UR → Prop) (kc : Nat) (ks : Nat) (L : List Nat) (I : UI) (R : UR) (x3 : Int32) : Prop :=
  wp_Pi_drop I R q1 0 x3 (fun r4 I2 R3 => Q L I2 R3)
set_option maxHeartbeats 4000000 in
set_option maxRecDepth 100000 in
theorem j_Rc_readAll_41 {mc ms : Nat} (hr : meth.sig.returnType = none) (hlk : meth.locks = false) (hsz : sz = s.heap.size) {q1 : Nat} (h0_q1 : isPi L0 q1) {Q : List Nat → UI → UR → Prop} {kc : Nat} {ks : Nat} {L : List Nat} {A : Nat → Nat} {I : UI} {R : UR} {x3 : Int32} {H : Heap} {locs : List Loc} {ls : Array Slot} (hk : kc ≤ mc ∧ ks ≤ ms) (hE : uEx s.heap.size L0 A0 L A) (X : uX p s m args c prog_5_method_4_code 4 "FrameFerry$Receiver" D cc L A t16 t32) (V : uV s D cc L A J I R H locs) (hl : lv_has ls 4 [(1, .ref (A q1)), (3, .int x3)]) (h : wp_Rc_readAll_L41 mc ms q1 Q kc ks L I R x3) : W p l e (rm_Rc_readAll mc ms) s m args below meth c H locs kc ks (MQ below (va_Qv (fun u : List Nat × (Nat → Nat) × UI × UR => Q u.1 u.2.2.1 u.2.2.2) (uBa D cc L0 A0 J sz) (uA L0 A0 sz)) args s mc ms (uA L0 A0 sz)) (F0 m 41 ls []) := by
  have hx := X.1
  have hb := X.2.1
  unfold wp_Rc_readAll_L41 at h
  have h_q1 : isPi L q1 := ⟨(hE.2.2.1 _ h0_q1.1).1, h0_q1.2.1, (hE.2.2.1 _ h0_q1.2.2.1).1, h0_q1.2.2.2⟩
  refine lv_aload_n (pc := 41) hx hb d_Rc_readAll_41 rfl (lv_at hl 0 rfl) ?_
  refine lv_iconst (pc := 42) (v := 0) hx hb d_Rc_readAll_42 (by decide) ?_
  refine lv_iload_n (pc := 43) hx hb d_Rc_readAll_43 rfl (lv_at hl 1 rfl) ?_
  refine u_cVi (pc := 44) (As := [.int 0, .int x3]) X V s_Rc_82 h_q1.1 h_q1.2.1 rfl rfl (c_Pi_drop l D cc L A J t16 t32 _ _ q1 h_q1 0 x3 _ h) ⟨rfl, rfl, Nat.le_of_ble_eq_true rfl, Nat.le_of_ble_eq_true rfl⟩ rfl hl.1 rfl (Nat.le_of_ble_eq_true rfl) d_Rc_readAll_44 hk (fun r4 I2 R3 h H locs V => ?_)
  refine lv_pop (pc := 47) hx hb d_Rc_readAll_47 rfl ?_
  exact u_retvA (pc := 48) X V hE hk hr hlk hsz h d_Rc_readAll_48
def wp_Rc_readAll_L7 (mc ms : Nat) (q1 : Nat) (Q : List Nat → UI → UR → Prop) : Nat → Nat → Nat → List Nat → UI → UR → Int32 → Int32 → Prop
  | 0, _, _, _, _, _, _, _ => False
  | n + 1, kc, ks, L, I, R, x2, x3 => ((x2 ≤ x3 → wp_Rc_readAll_L41 mc ms q1 Q kc ks L I R x3) ∧ (¬ x2 ≤ x3 → ((¬ I 3 3 = 0 → wp_Rc_readAll_L41 mc ms q1 Q kc ks L I R x3) ∧ (I 3 3 = 0 → wp_Pi_byteAt I R q1 x3 (fun r7 I5 R6 => wp_Rd_take I5 R6 15 r7 (fun r10 I8 R9 => (∃ c13 s14 : Nat, (kc + c13 ≤ mc ∧ ks + s14 ≤ ms) ∧ wp_Rc_act c13 s14 L I8 R9 r10 (fun L15 I11 R12 => ∀ v17 : Int32, v17 = x3 + 1 → wp_Rc_readAll_L7 mc ms q1 Q n (kc + c13) (ks + s14) L15 I11 R12 x2 v17))))))))
set_option maxHeartbeats 4000000 in
set_option maxRecDepth 100000 in
theorem j_Rc_readAll_7 {mc ms : Nat} (hr : meth.sig.returnType = none) (hlk : meth.locks = false) (hsz : sz = s.heap.size) {q1 : Nat} (h0_q1 : isPi L0 q1) {Q : List Nat → UI → UR → Prop} : ∀ (n : Nat) (kc : Nat) (ks : Nat) (L : List Nat) (A : Nat → Nat) (I : UI) (R : UR) (x2 : Int32) (x3 : Int32) (H : Heap) (locs : List Loc) (ls : Array Slot), kc ≤ mc ∧ ks ≤ ms → uEx s.heap.size L0 A0 L A → uX p s m args c prog_5_method_4_code 4 "FrameFerry$Receiver" D cc L A t16 t32 → uV s D cc L A J I R H locs → lv_has ls 4 [(0, .ref (A 3)), (1, .ref (A q1)), (2, .int x2), (3, .int x3)] → wp_Rc_readAll_L7 mc ms q1 Q n kc ks L I R x2 x3 → W p l e (rm_Rc_readAll mc ms) s m args below meth c H locs kc ks (MQ below (va_Qv (fun u : List Nat × (Nat → Nat) × UI × UR => Q u.1 u.2.2.1 u.2.2.2) (uBa D cc L0 A0 J sz) (uA L0 A0 sz)) args s mc ms (uA L0 A0 sz)) (F0 m 7 ls []) := by
  intro n
  induction n with
  | zero => exact fun kc ks L A I R x2 x3 H locs ls hk hE X V hl h => False.elim h
  | succ n ih =>
    intro kc ks L A I R x2 x3 H locs ls hk hE X V hl h
    have hx := X.1
    have hb := X.2.1
    rw [wp_Rc_readAll_L7] at h
    have h_q1 : isPi L q1 := ⟨(hE.2.2.1 _ h0_q1.1).1, h0_q1.2.1, (hE.2.2.1 _ h0_q1.2.2.1).1, h0_q1.2.2.2⟩
    refine lv_iload_n (pc := 7) hx hb d_Rc_readAll_7 rfl (lv_at hl 3 rfl) ?_
    refine lv_iload_n (pc := 8) hx hb d_Rc_readAll_8 rfl (lv_at hl 2 rfl) ?_
    refine lv_icmp_ge (pc := 9) (tgt := 41) hx hb d_Rc_readAll_9 (by decide) (fun hc => ?_) (fun hc => ?_)
    · have h := h.1 hc
      exact j_Rc_readAll_41 hr hlk hsz h0_q1 hk hE X V (lv_sub hl [1, 3] rfl) h
    · have h := h.2 hc
      refine lv_aload_n (pc := 12) hx hb d_Rc_readAll_12 rfl (lv_at hl 0 rfl) ?_
      refine u_geti (pc := 13) X V (X.fix rfl) rfl rfl f_Rc_24 rfl d_Rc_readAll_13 ?_
      refine lv_if_ne (pc := 16) (tgt := 41) hx hb d_Rc_readAll_16 (by decide) (fun hc => ?_) (fun hc => ?_)
      · have h := h.1 hc
        exact j_Rc_readAll_41 hr hlk hsz h0_q1 hk hE X V (lv_sub hl [1, 3] rfl) h
      · have h := h.2 hc
        refine lv_aload_n (pc := 19) hx hb d_Rc_readAll_19 rfl (lv_at hl 0 rfl) ?_
        refine lv_aload_n (pc := 20) hx hb d_Rc_readAll_20 rfl (lv_at hl 0 rfl) ?_
        refine u_getr (pc := 21) (o' := 15) X V (X.fix rfl) rfl rfl f_Rc_38 rfl rfl d_Rc_readAll_21 ?_
        refine lv_aload_n (pc := 24) hx hb d_Rc_readAll_24 rfl (lv_at hl 1 rfl) ?_
        refine lv_iload_n (pc := 25) hx hb d_Rc_readAll_25 rfl (lv_at hl 3 rfl) ?_
        refine u_cVi (pc := 26) (As := [.int x3]) X V s_Rc_71 h_q1.1 h_q1.2.1 rfl rfl (c_Pi_byteAt l D cc L A J t16 t32 _ _ q1 h_q1 x3 _ h) ⟨rfl, rfl, Nat.le_of_ble_eq_true rfl, Nat.le_of_ble_eq_true rfl⟩ rfl hl.1 rfl (Nat.le_of_ble_eq_true rfl) d_Rc_readAll_26 hk (fun r7 I5 R6 h H locs V => ?_)
        refine u_cVi (pc := 29) (As := [.int r7]) X V s_Rc_75 (X.fix rfl) rfl rfl rfl (c_Rd_take l D cc L A J t16 t32 _ _ 15 ⟨(X.fix rfl), rfl, (X.fix rfl), rfl, (X.fix rfl), rfl⟩ r7 _ h) ⟨rfl, rfl, Nat.le_of_ble_eq_true rfl, Nat.le_of_ble_eq_true rfl⟩ rfl hl.1 rfl (Nat.le_of_ble_eq_true rfl) d_Rc_readAll_29 hk (fun r10 I8 R9 h H locs V => ?_)
        obtain ⟨c13, s14, hk1, h⟩ := h
        have X0 := X
        refine u_cVvA (pc := 32) (As := [.int r10]) X V hE s_Rc_78 (X.fix rfl) rfl rfl rfl (c_Rc_act l D cc L A J t16 t32 c13 s14 _ _ r10 _ h) ⟨rfl, rfl, Nat.le_of_ble_eq_true rfl, Nat.le_of_ble_eq_true rfl⟩ rfl hl.1 rfl (Nat.le_of_ble_eq_true rfl) d_Rc_readAll_32 hk1 (fun L15 A16 I11 R12 h hG hE X H locs V => ?_)
        have hk := hk1
        have hl : lv_has ls 4 [(0, .ref (A 3)), (1, .ref (A q1)), (2, .int x2), (3, .int x3)] := lv_sub hl [0, 1, 2, 3] rfl
        have ea0 := (hG.2.2.1 3 (X0.fix rfl)).2
        try rw [← ea0] at hl
        try rw [← ea0]
        have ea1 := (hG.2.2.1 q1 h_q1.1).2
        try rw [← ea1] at hl
        try rw [← ea1]
        have h_q1 : isPi L15 q1 := ⟨(hG.2.2.1 _ h_q1.1).1, h_q1.2.1, (hG.2.2.1 _ h_q1.2.2.1).1, h_q1.2.2.2⟩
        obtain ⟨v17, ev17⟩ : ∃ z : Int32, z = x3 + 1 := ⟨_, rfl⟩
        have h := h v17 ev17
        refine lv_iinc (pc := 35) (k := 3) (v := v17) (lv' := [(3, .int v17), (0, .ref (A16 3)), (1, .ref (A16 q1)), (2, .int x2)]) hx hb d_Rc_readAll_35 hl rfl (by rw [ev17]; rfl) (by decide) rfl (fun ls hl => ?_)
        refine lv_goto (pc := 38) (tgt := 7) hx hb d_Rc_readAll_38 (by decide) ?_
        exact ih (kc + c13) (ks + s14) L15 A16 I11 R12 x2 v17 H locs ls hk hE X V (lv_sub hl [1, 2, 3, 0] rfl) h
def wp_Rc_readAll (mc ms : Nat) (L : List Nat) (I : UI) (R : UR) (q1 : Nat) (Q : List Nat → UI → UR → Prop) : Prop :=
  ∀ v1 : Int32, v1 = I q1 1 → (∃ n7 : Nat, wp_Rc_readAll_L7 mc ms q1 Q n7 0 0 L I R v1 0)
set_option maxHeartbeats 4000000 in
set_option maxRecDepth 100000 in
theorem c_Rc_readAll (l : Launch) (D : va_G) (cc : Nat → ClassId) (L : List Nat) (A : Nat → Nat) (J : Nat → Int64) (t16 t32 : Nat) (mc ms : Nat) (I : UI) (R : UR) (q1 : Nat) (h_q1 : isPi L q1) (Q : List Nat → UI → UR → Prop) (h : wp_Rc_readAll mc ms L I R q1 Q) : uMvA l y_Rc_readAll (.code y_Rc_readAll prog_5_method_4_code 4 none) (rm_Rc_readAll mc ms) mc ms [.ref (A 3), .ref (A q1)] D cc L A J t16 t32 I R Q := by
  intro sz
  refine u_entry (by decide) (Nat.le_of_ble_eq_true rfl) (fun p e s m args below meth c hsz X V hr hlk ls hl => ?_)
  have X : uX p s m args c prog_5_method_4_code 4 "FrameFerry$Receiver" D cc L A t16 t32 := X
  have hx := X.1
  have hb := X.2.1
  have hl : lv_has ls 4 [(0, .ref (A 3)), (1, .ref (A q1))] := hl
  unfold wp_Rc_readAll at h
  have h0_q1 := h_q1
  have hE : uEx s.heap.size L A L A := uEx.rf X.2.2.2.2.2.2.1 X.2.2.2.2.2.2.2.1
  have hk : 0 ≤ mc ∧ 0 ≤ ms := ⟨Nat.zero_le _, Nat.zero_le _⟩
  generalize hH : s.heap = H at V ⊢
  generalize hlo : ([] : List Loc) = locs at V ⊢
  refine lv_aload_n (pc := 0) hx hb d_Rc_readAll_0 rfl (lv_at hl 1 rfl) ?_
  refine u_geti (pc := 1) X V h_q1.1 h_q1.2.1 rfl f_Rc_42 rfl d_Rc_readAll_1 ?_
  refine lv_topi (fun v1 ev1 => ?_)
  have h := h v1 ev1
  refine lv_istore_n (pc := 4) (lv' := [(2, .int v1), (0, .ref (A 3)), (1, .ref (A q1))]) hx hb d_Rc_readAll_4 rfl hl (by decide) rfl (fun ls hl => ?_)
  refine lv_iconst (pc := 5) (v := 0) hx hb d_Rc_readAll_5 (by decide) ?_
  refine lv_istore_n (pc := 6) (lv' := [(3, .int 0), (2, .int v1), (0, .ref (A 3)), (1, .ref (A q1))]) hx hb d_Rc_readAll_6 rfl hl (by decide) rfl (fun ls hl => ?_)
  obtain ⟨n7, h⟩ := h
  exact j_Rc_readAll_7 hr hlk hsz h0_q1 n7 0 0 L A I R v1 0 H locs ls hk hE X V (lv_sub hl [2, 3, 1, 0] rfl) h
-- FrameFerry$Sender.addFile (I)V
theorem d_Se_addFile_0 : decode prog_6_method_4_code 0 = .ok (.aload_n 0, 1) := by decide +kernel
theorem d_Se_addFile_1 : decode prog_6_method_4_code 1 = .ok (.getfield 45, 3) := by decide +kernel
theorem d_Se_addFile_4 : decode prog_6_method_4_code 4 = .ok (.iconst 4, 1) := by decide +kernel
theorem d_Se_addFile_5 : decode prog_6_method_4_code 5 = .ok (.if_icmp .lt 4, 3) := by decide +kernel
theorem d_Se_addFile_8 : decode prog_6_method_4_code 8 = .ok (.return_, 1) := by decide +kernel
theorem d_Se_addFile_9 : decode prog_6_method_4_code 9 = .ok (.aload_n 0, 1) := by decide +kernel
theorem d_Se_addFile_10 : decode prog_6_method_4_code 10 = .ok (.getfield 38, 3) := by decide +kernel
theorem d_Se_addFile_13 : decode prog_6_method_4_code 13 = .ok (.aload_n 0, 1) := by decide +kernel
theorem d_Se_addFile_14 : decode prog_6_method_4_code 14 = .ok (.getfield 45, 3) := by decide +kernel
theorem d_Se_addFile_17 : decode prog_6_method_4_code 17 = .ok (.aaload, 1) := by decide +kernel
theorem d_Se_addFile_18 : decode prog_6_method_4_code 18 = .ok (.ifnonnull 19, 3) := by decide +kernel
theorem d_Se_addFile_21 : decode prog_6_method_4_code 21 = .ok (.aload_n 0, 1) := by decide +kernel
theorem d_Se_addFile_22 : decode prog_6_method_4_code 22 = .ok (.getfield 38, 3) := by decide +kernel
theorem d_Se_addFile_25 : decode prog_6_method_4_code 25 = .ok (.aload_n 0, 1) := by decide +kernel
theorem d_Se_addFile_26 : decode prog_6_method_4_code 26 = .ok (.getfield 45, 3) := by decide +kernel
theorem d_Se_addFile_29 : decode prog_6_method_4_code 29 = .ok (.new 36, 3) := by decide +kernel
theorem d_Se_addFile_32 : decode prog_6_method_4_code 32 = .ok (.dup, 1) := by decide +kernel
theorem d_Se_addFile_33 : decode prog_6_method_4_code 33 = .ok (.invokespecial 51, 3) := by decide +kernel
theorem d_Se_addFile_36 : decode prog_6_method_4_code 36 = .ok (.aastore, 1) := by decide +kernel
theorem d_Se_addFile_37 : decode prog_6_method_4_code 37 = .ok (.aload_n 0, 1) := by decide +kernel
theorem d_Se_addFile_38 : decode prog_6_method_4_code 38 = .ok (.getfield 38, 3) := by decide +kernel
theorem d_Se_addFile_41 : decode prog_6_method_4_code 41 = .ok (.aload_n 0, 1) := by decide +kernel
theorem d_Se_addFile_42 : decode prog_6_method_4_code 42 = .ok (.getfield 45, 3) := by decide +kernel
theorem d_Se_addFile_45 : decode prog_6_method_4_code 45 = .ok (.aaload, 1) := by decide +kernel
theorem d_Se_addFile_46 : decode prog_6_method_4_code 46 = .ok (.iload_n 1, 1) := by decide +kernel
theorem d_Se_addFile_47 : decode prog_6_method_4_code 47 = .ok (.putfield 48, 3) := by decide +kernel
theorem d_Se_addFile_50 : decode prog_6_method_4_code 50 = .ok (.aload_n 0, 1) := by decide +kernel
theorem d_Se_addFile_51 : decode prog_6_method_4_code 51 = .ok (.getfield 38, 3) := by decide +kernel
theorem d_Se_addFile_54 : decode prog_6_method_4_code 54 = .ok (.aload_n 0, 1) := by decide +kernel
theorem d_Se_addFile_55 : decode prog_6_method_4_code 55 = .ok (.getfield 45, 3) := by decide +kernel
theorem d_Se_addFile_58 : decode prog_6_method_4_code 58 = .ok (.aaload, 1) := by decide +kernel
theorem d_Se_addFile_59 : decode prog_6_method_4_code 59 = .ok (.iconst 0, 1) := by decide +kernel
theorem d_Se_addFile_60 : decode prog_6_method_4_code 60 = .ok (.putfield 52, 3) := by decide +kernel
theorem d_Se_addFile_63 : decode prog_6_method_4_code 63 = .ok (.aload_n 0, 1) := by decide +kernel
theorem d_Se_addFile_64 : decode prog_6_method_4_code 64 = .ok (.dup, 1) := by decide +kernel
theorem d_Se_addFile_65 : decode prog_6_method_4_code 65 = .ok (.getfield 45, 3) := by decide +kernel
theorem d_Se_addFile_68 : decode prog_6_method_4_code 68 = .ok (.iconst 1, 1) := by decide +kernel
theorem d_Se_addFile_69 : decode prog_6_method_4_code 69 = .ok (.iadd, 1) := by decide +kernel
theorem d_Se_addFile_70 : decode prog_6_method_4_code 70 = .ok (.putfield 45, 3) := by decide +kernel
theorem d_Se_addFile_73 : decode prog_6_method_4_code 73 = .ok (.return_, 1) := by decide +kernel
def rm_Se_addFile (mc ms : Nat) : Room := { frames := 2, cells := mc, slots := ms, locals := 40 }
def wp_Se_addFile_L37 (mc ms : Nat) (Q : List Nat → UI → UR → Prop) (kc : Nat) (ks : Nat) (L : List Nat) (I : UI) (R : UR) (x1 : Int32) : Prop :=
  vp_in (I 2 1) 4 ∧ ∀ z8 : Option Nat, z8 = R 18 (I 2 1).toNatClampNeg → (∃ i9 : Nat, z8 = some i9 ∧ isSf L i9 ∧ ∀ I10 : UI, I10 = u2 I i9 1 x1 → vp_in (I10 2 1) 4 ∧ ∀ z11 : Option Nat, z11 = R 18 (I10 2 1).toNatClampNeg → (∃ i12 : Nat, z11 = some i12 ∧ isSf L i12 ∧ ∀ I13 : UI, I13 = u2 I10 i12 2 0 → ∀ I14 : UI, I14 = u2 I13 2 1 ((I13 2 1) + 1) → Q L I14 R))
set_option maxHeartbeats 4000000 in
set_option maxRecDepth 100000 in
theorem j_Se_addFile_37 {mc ms : Nat} (hr : meth.sig.returnType = none) (hlk : meth.locks = false) (hsz : sz = s.heap.size) {Q : List Nat → UI → UR → Prop} {kc : Nat} {ks : Nat} {L : List Nat} {A : Nat → Nat} {I : UI} {R : UR} {x1 : Int32} {H : Heap} {locs : List Loc} {ls : Array Slot} (hk : kc ≤ mc ∧ ks ≤ ms) (hE : uEx s.heap.size L0 A0 L A) (X : uX p s m args c prog_6_method_4_code 2 "FrameFerry$Sender" D cc L A t16 t32) (V : uV s D cc L A J I R H locs) (hl : lv_has ls 2 [(0, .ref (A 2)), (1, .int x1)]) (h : wp_Se_addFile_L37 mc ms Q kc ks L I R x1) : W p l e (rm_Se_addFile mc ms) s m args below meth c H locs kc ks (MQ below (va_Qv (fun u : List Nat × (Nat → Nat) × UI × UR => Q u.1 u.2.2.1 u.2.2.2) (uBa D cc L0 A0 J sz) (uA L0 A0 sz)) args s mc ms (uA L0 A0 sz)) (F0 m 37 ls []) := by
  have hx := X.1
  have hb := X.2.1
  unfold wp_Se_addFile_L37 at h
  refine lv_aload_n (pc := 37) hx hb d_Se_addFile_37 rfl (lv_at hl 0 rfl) ?_
  refine u_getr (pc := 38) (o' := 18) X V (X.fix rfl) rfl rfl f_Se_38 rfl rfl d_Se_addFile_38 ?_
  refine lv_aload_n (pc := 41) hx hb d_Se_addFile_41 rfl (lv_at hl 0 rfl) ?_
  refine u_geti (pc := 42) X V (X.fix rfl) rfl rfl f_Se_45 rfl d_Se_addFile_42 ?_
  refine u_aald (pc := 45) X V (X.fix rfl) rfl (by decide) rfl h.1 d_Se_addFile_45 (fun z8 ez8 => ?_)
  have h := h.2 z8 ez8
  refine lv_iload_n (pc := 46) hx hb d_Se_addFile_46 rfl (lv_at hl 1 rfl) ?_
  obtain ⟨i9, rfl, h_i9, h⟩ := h
  refine u_puti (pc := 47) X V h_i9.1 h_i9.2.1 rfl f_Se_48 rfl d_Se_addFile_47 (fun I10 eI10 H locs V => ?_)
  have h := h I10 eI10
  refine lv_aload_n (pc := 50) hx hb d_Se_addFile_50 rfl (lv_at hl 0 rfl) ?_
  refine u_getr (pc := 51) (o' := 18) X V (X.fix rfl) rfl rfl f_Se_38 rfl rfl d_Se_addFile_51 ?_
  refine lv_aload_n (pc := 54) hx hb d_Se_addFile_54 rfl (lv_at hl 0 rfl) ?_
  refine u_geti (pc := 55) X V (X.fix rfl) rfl rfl f_Se_45 rfl d_Se_addFile_55 ?_
  refine u_aald (pc := 58) X V (X.fix rfl) rfl (by decide) rfl h.1 d_Se_addFile_58 (fun z11 ez11 => ?_)
  have h := h.2 z11 ez11
  refine lv_iconst (pc := 59) (v := 0) hx hb d_Se_addFile_59 (by decide) ?_
  obtain ⟨i12, rfl, h_i12, h⟩ := h
  refine u_puti (pc := 60) X V h_i12.1 h_i12.2.1 rfl f_Se_52 rfl d_Se_addFile_60 (fun I13 eI13 H locs V => ?_)
  have h := h I13 eI13
  refine lv_aload_n (pc := 63) hx hb d_Se_addFile_63 rfl (lv_at hl 0 rfl) ?_
  refine lv_dup (pc := 64) hx hb d_Se_addFile_64 rfl ?_
  refine u_geti (pc := 65) X V (X.fix rfl) rfl rfl f_Se_45 rfl d_Se_addFile_65 ?_
  refine lv_iconst (pc := 68) (v := 1) hx hb d_Se_addFile_68 (by decide) ?_
  refine lv_iadd (pc := 69) hx hb d_Se_addFile_69 ?_
  refine u_puti (pc := 70) X V (X.fix rfl) rfl rfl f_Se_45 rfl d_Se_addFile_70 (fun I14 eI14 H locs V => ?_)
  have h := h I14 eI14
  exact u_retvA (pc := 73) X V hE hk hr hlk hsz h d_Se_addFile_73
def wp_Se_addFile (mc ms : Nat) (L : List Nat) (I : UI) (R : UR) (x1 : Int32) (Q : List Nat → UI → UR → Prop) : Prop :=
  ((I 2 1 < 4 → vp_in (I 2 1) 4 ∧ ∀ z1 : Option Nat, z1 = R 18 (I 2 1).toNatClampNeg → ((z1 = none → (∃ i3 : Nat, uFr L R i3 ∧ (0 + 2 ≤ mc ∧ 0 + 303 ≤ ms) ∧ ∀ L6 : List Nat, L6 = L ++ [i3, i3 + 1] → ∀ I5 : UI, I5 = uz I i3 → vp_in (I 2 1) 4 ∧ ∀ R7 : UR, R7 = r2 R 18 ((I 2 1).toNatClampNeg) (some i3) → wp_Se_addFile_L37 mc ms Q (0 + 2) (0 + 303) L6 I5 R7 x1)) ∧ (∀ i2 : Nat, z1 = some i2 → wp_Se_addFile_L37 mc ms Q 0 0 L I R x1))) ∧ (¬ I 2 1 < 4 → Q L I R))
set_option maxHeartbeats 4000000 in
set_option maxRecDepth 100000 in
theorem c_Se_addFile (l : Launch) (D : va_G) (cc : Nat → ClassId) (L : List Nat) (A : Nat → Nat) (J : Nat → Int64) (t16 t32 : Nat) (mc ms : Nat) (I : UI) (R : UR) (x1 : Int32) (Q : List Nat → UI → UR → Prop) (h : wp_Se_addFile mc ms L I R x1 Q) : uMvA l y_Se_addFile (.code y_Se_addFile prog_6_method_4_code 2 none) (rm_Se_addFile mc ms) mc ms [.ref (A 2), .int x1] D cc L A J t16 t32 I R Q := by
  intro sz
  refine u_entry (by decide) (Nat.le_of_ble_eq_true rfl) (fun p e s m args below meth c hsz X V hr hlk ls hl => ?_)
  have X : uX p s m args c prog_6_method_4_code 2 "FrameFerry$Sender" D cc L A t16 t32 := X
  have hx := X.1
  have hb := X.2.1
  have hl : lv_has ls 2 [(0, .ref (A 2)), (1, .int x1)] := hl
  unfold wp_Se_addFile at h
  have hE : uEx s.heap.size L A L A := uEx.rf X.2.2.2.2.2.2.1 X.2.2.2.2.2.2.2.1
  have hk : 0 ≤ mc ∧ 0 ≤ ms := ⟨Nat.zero_le _, Nat.zero_le _⟩
  generalize hH : s.heap = H at V ⊢
  generalize hlo : ([] : List Loc) = locs at V ⊢
  refine lv_aload_n (pc := 0) hx hb d_Se_addFile_0 rfl (lv_at hl 0 rfl) ?_
  refine u_geti (pc := 1) X V (X.fix rfl) rfl rfl f_Se_45 rfl d_Se_addFile_1 ?_
  refine lv_iconst (pc := 4) (v := 4) hx hb d_Se_addFile_4 (by decide) ?_
  refine lv_icmp_lt (pc := 5) (tgt := 9) hx hb d_Se_addFile_5 (by decide) (fun hc => ?_) (fun hc => ?_)
  · have h := h.1 hc
    refine lv_aload_n (pc := 9) hx hb d_Se_addFile_9 rfl (lv_at hl 0 rfl) ?_
    refine u_getr (pc := 10) (o' := 18) X V (X.fix rfl) rfl rfl f_Se_38 rfl rfl d_Se_addFile_10 ?_
    refine lv_aload_n (pc := 13) hx hb d_Se_addFile_13 rfl (lv_at hl 0 rfl) ?_
    refine u_geti (pc := 14) X V (X.fix rfl) rfl rfl f_Se_45 rfl d_Se_addFile_14 ?_
    refine u_aald (pc := 17) X V (X.fix rfl) rfl (by decide) rfl h.1 d_Se_addFile_17 (fun z1 ez1 => ?_)
    have h := h.2 z1 ez1
    rcases z1 with _ | i2
    · have h := h.1 rfl
      refine lv_ifnonnullN (pc := 18) hx hb d_Se_addFile_18 ?_
      refine lv_aload_n (pc := 21) hx hb d_Se_addFile_21 rfl (lv_at hl 0 rfl) ?_
      refine u_getr (pc := 22) (o' := 18) X V (X.fix rfl) rfl rfl f_Se_38 rfl rfl d_Se_addFile_22 ?_
      refine lv_aload_n (pc := 25) hx hb d_Se_addFile_25 rfl (lv_at hl 0 rfl) ?_
      refine u_geti (pc := 26) X V (X.fix rfl) rfl rfl f_Se_45 rfl d_Se_addFile_26 ?_
      obtain ⟨i3, hf, hk1, h⟩ := h
      have X0 := X
      refine u_newSf (pc := 29) (i := i3) X V hE hf n_Se_36 i_Se_51 hl.1 (Nat.le_of_ble_eq_true rfl) ⟨Nat.le_of_ble_eq_true rfl, Nat.le_of_ble_eq_true rfl⟩ hk1 d_Se_addFile_29 d_Se_addFile_32 d_Se_addFile_33 (fun A4 I5 eI5 hG hE X H locs V => ?_)
      have hk := hk1
      obtain ⟨L6, eL6⟩ : ∃ z : List Nat, z = L ++ [i3, i3 + 1] := ⟨_, rfl⟩
      rw [← eL6] at hG hE X V
      have h := h L6 eL6 I5 eI5
      have h_i3 : isSf L6 i3 := by rw [eL6]; exact ⟨by simp, hf.1, by simp, hf.2.1⟩
      have hl : lv_has ls 2 [(0, .ref (A 2)), (1, .int x1)] := lv_sub hl [0, 1] rfl
      have ea0 := (hG.2.2.1 2 (X0.fix rfl)).2
      try rw [← ea0] at hl
      try rw [← ea0]
      have ea1 := (hG.2.2.1 18 (X0.fix rfl)).2
      try rw [← ea1] at hl
      try rw [← ea1]
      refine u_aast (pc := 36) X V (X.fix rfl) rfl (by decide) rfl h_i3 h.1 d_Se_addFile_36 (fun R7 eR7 H locs V => ?_)
      have h := h.2 R7 eR7
      exact j_Se_addFile_37 hr hlk hsz hk hE X V (lv_sub hl [0, 1] rfl) h
    · have h := h.2 i2 rfl
      refine lv_ifnonnull (pc := 18) (tgt := 37) hx hb d_Se_addFile_18 (by decide) ?_
      exact j_Se_addFile_37 hr hlk hsz hk hE X V (lv_sub hl [0, 1] rfl) h
  · have h := h.2 hc
    exact u_retvA (pc := 8) X V hE hk hr hlk hsz h d_Se_addFile_8
end G
