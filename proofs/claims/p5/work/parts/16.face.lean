/-! Written by wip/gen/gen.py. -/
theorem f_FF_37 : uF "FrameFerry" 37 4 2 false .int := ⟨R_Se, T_Se, 11, ty_Se, rfl, by decide, tb_of 144 (by decide +kernel) rfl, l_Se, ty_Se_ok, n_Se, rfl, rfl⟩
theorem s_FF_59 : uCv "FrameFerry" 59 y_Se_dropFiles 0 (.code y_Se_dropFiles prog_6_method_5_code 2 (some .int)) := ⟨⟨tb_of 635 (by decide +kernel) rfl, tb_of 2 (by decide +kernel) rfl, tb_of 638 (by decide +kernel) rfl, by decide +kernel⟩, tb_of 636 (by decide +kernel) rfl, tb_of 637 (by decide +kernel) rfl⟩
theorem s_FF_63 : uCv "FrameFerry" 63 y_Rc_begin 1 (.code y_Rc_begin prog_5_method_2_code 2 none) := ⟨⟨tb_of 646 (by decide +kernel) rfl, tb_of 7 (by decide +kernel) rfl, tb_of 649 (by decide +kernel) rfl, by decide +kernel⟩, tb_of 647 (by decide +kernel) rfl, tb_of 648 (by decide +kernel) rfl⟩
theorem s_FF_67 : uCv "FrameFerry" 67 y_Se_begin 1 (.code y_Se_begin prog_6_method_7_code 2 none) := ⟨⟨tb_of 651 (by decide +kernel) rfl, tb_of 2 (by decide +kernel) rfl, tb_of 654 (by decide +kernel) rfl, by decide +kernel⟩, tb_of 652 (by decide +kernel) rfl, tb_of 653 (by decide +kernel) rfl⟩
theorem s_FF_98 : uCv "FrameFerry" 98 y_Pi_turnBit 2 (.code y_Pi_turnBit prog_3_method_5_code 3 (some .boolean)) := ⟨⟨tb_of 663 (by decide +kernel) rfl, tb_of 3 (by decide +kernel) rfl, tb_of 666 (by decide +kernel) rfl, by decide +kernel⟩, tb_of 664 (by decide +kernel) rfl, tb_of 665 (by decide +kernel) rfl⟩
theorem s_FF_102 : uCv "FrameFerry" 102 y_Pi_drop 2 (.code y_Pi_drop prog_3_method_6_code 4 (some .int)) := ⟨⟨tb_of 674 (by decide +kernel) rfl, tb_of 3 (by decide +kernel) rfl, tb_of 397 (by decide +kernel) rfl, by decide +kernel⟩, tb_of 395 (by decide +kernel) rfl, tb_of 396 (by decide +kernel) rfl⟩
theorem s_FF_115 : uCv "FrameFerry" 115 y_Se_fileNumber 0 (.code y_Se_fileNumber prog_6_method_6_code 1 (some .int)) := ⟨⟨tb_of 690 (by decide +kernel) rfl, tb_of 2 (by decide +kernel) rfl, tb_of 693 (by decide +kernel) rfl, by decide +kernel⟩, tb_of 691 (by decide +kernel) rfl, tb_of 692 (by decide +kernel) rfl⟩
theorem f_FF_118 : uF "FrameFerry" 118 4 3 false .int := ⟨R_Se, T_Se, 11, ty_Se, rfl, by decide, tb_of 146 (by decide +kernel) rfl, l_Se, ty_Se_ok, n_Se, rfl, rfl⟩
theorem f_FF_121 : uF "FrameFerry" 121 3 3 false .boolean := ⟨R_Rc, T_Rc, 12, ty_Rc, rfl, by decide, tb_of 197 (by decide +kernel) rfl, l_Rc, ty_Rc_ok, n_Rc, rfl, rfl⟩
theorem f_FF_125 : uF "FrameFerry" 125 3 2 false (.object "FrameFerry$StoredFile") := ⟨R_Rc, T_Rc, 12, ty_Rc, rfl, by decide, tb_of 195 (by decide +kernel) rfl, l_Rc, ty_Rc_ok, n_Rc, rfl, rfl⟩
theorem f_FF_129 : uF "FrameFerry" 129 5 1 false .int := ⟨R_Sf, T_Sf, 3, ty_Sf, rfl, by decide, tb_of 463 (by decide +kernel) rfl, l_Sf, ty_Sf_ok, n_Sf, rfl, rfl⟩
theorem f_FF_51 : uF "FrameFerry" 51 5 2 false .int := ⟨R_Sf, T_Sf, 3, ty_Sf, rfl, by decide, tb_of 465 (by decide +kernel) rfl, l_Sf, ty_Sf_ok, n_Sf, rfl, rfl⟩
theorem f_FF_132 : uF "FrameFerry" 132 1 1 false .int := ⟨R_Pi, T_Pi, 3, ty_Pi, rfl, by decide, tb_of 41 (by decide +kernel) rfl, l_Pi, ty_Pi_ok, n_Pi, rfl, rfl⟩
theorem f_FF_133 : uF "FrameFerry" 133 3 4 false .int := ⟨R_Rc, T_Rc, 12, ty_Rc, rfl, by decide, tb_of 199 (by decide +kernel) rfl, l_Rc, ty_Rc_ok, n_Rc, rfl, rfl⟩
theorem f_FF_136 : uF "FrameFerry" 136 3 5 false .int := ⟨R_Rc, T_Rc, 12, ty_Rc, rfl, by decide, tb_of 201 (by decide +kernel) rfl, l_Rc, ty_Rc_ok, n_Rc, rfl, rfl⟩
theorem f_FF_139 : uF "FrameFerry" 139 3 6 false .int := ⟨R_Rc, T_Rc, 12, ty_Rc, rfl, by decide, tb_of 203 (by decide +kernel) rfl, l_Rc, ty_Rc_ok, n_Rc, rfl, rfl⟩
theorem f_FF_142 : uF "FrameFerry" 142 3 7 false .int := ⟨R_Rc, T_Rc, 12, ty_Rc, rfl, by decide, tb_of 205 (by decide +kernel) rfl, l_Rc, ty_Rc_ok, n_Rc, rfl, rfl⟩
theorem s_FF_23 : uCt "FrameFerry" 23 y_FF_isLetter 1 (.code y_FF_isLetter prog_1_method_16_code 1 (some .boolean)) := ⟨⟨tb_of 532 (by decide +kernel) rfl, tb_of 1 (by decide +kernel) rfl, tb_of 454 (by decide +kernel) rfl, by decide +kernel⟩, tb_of 453 (by decide +kernel) rfl⟩
theorem f_FF_110 : uF "FrameFerry" 110 3 1 true (.array (.object "FrameFerry$StoredFile")) := ⟨R_Rc, T_Rc, 12, ty_Rc, rfl, by decide, tb_of 193 (by decide +kernel) rfl, l_Rc, ty_Rc_ok, n_Rc, rfl, rfl⟩
theorem s_FF_114 : uCv "FrameFerry" 114 y_Sf_byteAt 1 (.code y_Sf_byteAt prog_7_method_3_code 2 (some .int)) := ⟨⟨tb_of 682 (by decide +kernel) rfl, tb_of 14 (by decide +kernel) rfl, tb_of 416 (by decide +kernel) rfl, by decide +kernel⟩, tb_of 414 (by decide +kernel) rfl, tb_of 415 (by decide +kernel) rfl⟩
theorem f_FF_33 : uF "FrameFerry" 33 4 1 false .int := ⟨R_Se, T_Se, 11, ty_Se, rfl, by decide, tb_of 142 (by decide +kernel) rfl, l_Se, ty_Se_ok, n_Se, rfl, rfl⟩
theorem s_FF_47 : uCv "FrameFerry" 47 y_Se_fileAt 1 (.code y_Se_fileAt prog_6_method_2_code 2 (some (.object "FrameFerry$StoredFile"))) := ⟨⟨tb_of 626 (by decide +kernel) rfl, tb_of 2 (by decide +kernel) rfl, tb_of 340 (by decide +kernel) rfl, by decide +kernel⟩, tb_of 338 (by decide +kernel) rfl, tb_of 339 (by decide +kernel) rfl⟩
theorem s_FF_56 : uCv "FrameFerry" 56 y_Sf_append 1 (.code y_Sf_append prog_7_method_2_code 2 none) := ⟨⟨tb_of 627 (by decide +kernel) rfl, tb_of 14 (by decide +kernel) rfl, tb_of 482 (by decide +kernel) rfl, by decide +kernel⟩, tb_of 480 (by decide +kernel) rfl, tb_of 481 (by decide +kernel) rfl⟩
theorem s_FF_27 : uCv "FrameFerry" 27 y_Se_hasFile 1 (.code y_Se_hasFile prog_6_method_3_code 4 (some .boolean)) := ⟨⟨tb_of 533 (by decide +kernel) rfl, tb_of 2 (by decide +kernel) rfl, tb_of 536 (by decide +kernel) rfl, by decide +kernel⟩, tb_of 534 (by decide +kernel) rfl, tb_of 535 (by decide +kernel) rfl⟩
theorem s_FF_43 : uCv "FrameFerry" 43 y_Se_addFile 1 (.code y_Se_addFile prog_6_method_4_code 2 none) := ⟨⟨tb_of 614 (by decide +kernel) rfl, tb_of 2 (by decide +kernel) rfl, tb_of 617 (by decide +kernel) rfl, by decide +kernel⟩, tb_of 615 (by decide +kernel) rfl, tb_of 616 (by decide +kernel) rfl⟩
theorem n_FF_40 : Cond.classLink "FrameFerry" 40 (xN 2) ∈ tb ∧ Cond.instantiable (xN 2) 6 ∈ tb ∧ Cond.initialized (xN 2) ∈ tb := ⟨tb_of 599 (by decide +kernel) rfl, tb_of 600 (by decide +kernel) rfl, tb_of 13 (by decide +kernel) rfl⟩
theorem n_FF_30 : Cond.classLink "FrameFerry" 30 (xN 1) ∈ tb ∧ Cond.instantiable (xN 1) 6 ∈ tb ∧ Cond.initialized (xN 1) ∈ tb := ⟨tb_of 537 (by decide +kernel) rfl, tb_of 538 (by decide +kernel) rfl, tb_of 12 (by decide +kernel) rfl⟩
section G
variable {p : Program} {l : Launch} {e : Env} {s : State} {m : MethodId} {args : Array Value} {below : List Frame} {meth : Method} {c : Code} {D : va_G} {cc : Nat → ClassId} {L L0 : List Nat} {A A0 : Nat → Nat} {J : Nat → Int64} {t16 t32 sz : Nat}
-- FrameFerry.clear ()I
theorem d_FF_clear_0 : decode prog_1_method_4_code 0 = .ok (.aload_n 0, 1) := by decide +kernel
theorem d_FF_clear_1 : decode prog_1_method_4_code 1 = .ok (.getfield 10, 3) := by decide +kernel
theorem d_FF_clear_4 : decode prog_1_method_4_code 4 = .ok (.getfield 37, 3) := by decide +kernel
theorem d_FF_clear_7 : decode prog_1_method_4_code 7 = .ok (.iconst 5, 1) := by decide +kernel
theorem d_FF_clear_8 : decode prog_1_method_4_code 8 = .ok (.if_icmp .eq 11, 3) := by decide +kernel
theorem d_FF_clear_11 : decode prog_1_method_4_code 11 = .ok (.new 40, 3) := by decide +kernel
theorem d_FF_clear_14 : decode prog_1_method_4_code 14 = .ok (.dup, 1) := by decide +kernel
theorem d_FF_clear_15 : decode prog_1_method_4_code 15 = .ok (.invokespecial 42, 3) := by decide +kernel
theorem d_FF_clear_18 : decode prog_1_method_4_code 18 = .ok (.athrow, 1) := by decide +kernel
theorem d_FF_clear_19 : decode prog_1_method_4_code 19 = .ok (.aload_n 0, 1) := by decide +kernel
theorem d_FF_clear_20 : decode prog_1_method_4_code 20 = .ok (.getfield 10, 3) := by decide +kernel
theorem d_FF_clear_23 : decode prog_1_method_4_code 23 = .ok (.invokevirtual 59, 3) := by decide +kernel
theorem d_FF_clear_26 : decode prog_1_method_4_code 26 = .ok (.ireturn, 1) := by decide +kernel
def rm_FF_clear (mc ms : Nat) : Room := { frames := 6, cells := mc, slots := ms, locals := 110 }
def wp_FF_clear (mc ms : Nat) (L : List Nat) (I : UI) (R : UR) (Q : Int32 → List Nat → UI → UR → Prop) (QE : Nat → Prop) : Prop :=
  ((I 2 2 = 5 → wp_Se_dropFiles L I R (fun r3 I1 R2 => Q r3 L I1 R2)) ∧ (¬ I 2 2 = 5 → ((0 + 1 ≤ mc ∧ 0 + 6 ≤ ms) ∧ QE 2)))
set_option maxHeartbeats 4000000 in
set_option maxRecDepth 100000 in
theorem c_FF_clear (l : Launch) (hfl : l.flags = pinnedFlags ++ [noTraceFlag]) (D : va_G) (cc : Nat → ClassId) (L : List Nat) (A : Nat → Nat) (J : Nat → Int64) (t16 t32 : Nat) (mc ms : Nat) (I : UI) (R : UR) (Q : Int32 → List Nat → UI → UR → Prop) (QE : Nat → Prop) (h : wp_FF_clear mc ms L I R Q QE) : uMX l y_FF_clear (.code y_FF_clear prog_1_method_4_code 1 (some .int)) (rm_FF_clear mc ms) mc ms [.ref (A 1)] D cc L A J t16 t32 I R Q QE := by
  intro sz
  refine u_entryX (by decide) (Nat.le_of_ble_eq_true rfl) (fun p e s m args below meth c hsz X V hr hlk hne ls hl => ?_)
  have X : uX p s m args c prog_1_method_4_code 1 "FrameFerry" D cc L A t16 t32 := X
  have hx := X.1
  have hb := X.2.1
  have hl : lv_has ls 1 [(0, .ref (A 1))] := hl
  unfold wp_FF_clear at h
  have hE : uEx s.heap.size L A L A := uEx.rf X.2.2.2.2.2.2.1 X.2.2.2.2.2.2.2.1
  have hk : 0 ≤ mc ∧ 0 ≤ ms := ⟨Nat.zero_le _, Nat.zero_le _⟩
  refine lv_aload_n (pc := 0) hx hb d_FF_clear_0 rfl (lv_at hl 0 rfl) ?_
  refine u_getr (pc := 1) (o' := 2) X V (X.fix rfl) rfl rfl f_FF_10 rfl rfl d_FF_clear_1 ?_
  refine u_geti (pc := 4) X V (X.fix rfl) rfl rfl f_FF_37 rfl d_FF_clear_4 ?_
  refine lv_iconst (pc := 7) (v := 5) hx hb d_FF_clear_7 (by decide) ?_
  refine lv_icmp_eq (pc := 8) (tgt := 19) hx hb d_FF_clear_8 (by decide) (fun hc => ?_) (fun hc => ?_)
  · have h := h.1 hc
    refine lv_aload_n (pc := 19) hx hb d_FF_clear_19 rfl (lv_at hl 0 rfl) ?_
    refine u_getr (pc := 20) (o' := 2) X V (X.fix rfl) rfl rfl f_FF_10 rfl rfl d_FF_clear_20 ?_
    refine u_cVi (pc := 23) (As := []) X V s_FF_59 (X.fix rfl) rfl rfl rfl (c_Se_dropFiles l D cc L A J t16 t32 _ _  _ h) ⟨rfl, rfl, Nat.le_of_ble_eq_true rfl, Nat.le_of_ble_eq_true rfl⟩ rfl hl.1 rfl (Nat.le_of_ble_eq_true rfl) d_FF_clear_23 hk (fun r3 I1 R2 h H locs V => ?_)
    exact u_retiX (pc := 26) X V hE hk hr hlk hsz h d_FF_clear_26
  · have h := h.2 hc
    exact u_throw (pc := 11) (k := 2) X V hfl hne hlk hsz h.2 n_FF_40 xW2 ⟨xFit.2.1, xFit.2.2⟩ hl.1 (Nat.le_of_ble_eq_true rfl) (Nat.le_of_ble_eq_true rfl) h.1 ⟨Nat.le_refl _, Nat.le_refl _⟩ d_FF_clear_11 d_FF_clear_14 d_FF_clear_15 d_FF_clear_18
-- FrameFerry.start (ZI)V
theorem d_FF_start_0 : decode prog_1_method_5_code 0 = .ok (.iload_n 2, 1) := by decide +kernel
theorem d_FF_start_1 : decode prog_1_method_5_code 1 = .ok (.iconst 1, 1) := by decide +kernel
theorem d_FF_start_2 : decode prog_1_method_5_code 2 = .ok (.if_icmp .lt 9, 3) := by decide +kernel
theorem d_FF_start_5 : decode prog_1_method_5_code 5 = .ok (.iload_n 2, 1) := by decide +kernel
theorem d_FF_start_6 : decode prog_1_method_5_code 6 = .ok (.bipush 64, 2) := by decide +kernel
theorem d_FF_start_8 : decode prog_1_method_5_code 8 = .ok (.if_icmp .le 11, 3) := by decide +kernel
theorem d_FF_start_11 : decode prog_1_method_5_code 11 = .ok (.new 30, 3) := by decide +kernel
theorem d_FF_start_14 : decode prog_1_method_5_code 14 = .ok (.dup, 1) := by decide +kernel
theorem d_FF_start_15 : decode prog_1_method_5_code 15 = .ok (.invokespecial 32, 3) := by decide +kernel
theorem d_FF_start_18 : decode prog_1_method_5_code 18 = .ok (.athrow, 1) := by decide +kernel
theorem d_FF_start_19 : decode prog_1_method_5_code 19 = .ok (.aload_n 0, 1) := by decide +kernel
theorem d_FF_start_20 : decode prog_1_method_5_code 20 = .ok (.getfield 19, 3) := by decide +kernel
theorem d_FF_start_23 : decode prog_1_method_5_code 23 = .ok (.iload_n 1, 1) := by decide +kernel
theorem d_FF_start_24 : decode prog_1_method_5_code 24 = .ok (.invokevirtual 63, 3) := by decide +kernel
theorem d_FF_start_27 : decode prog_1_method_5_code 27 = .ok (.aload_n 0, 1) := by decide +kernel
theorem d_FF_start_28 : decode prog_1_method_5_code 28 = .ok (.getfield 10, 3) := by decide +kernel
theorem d_FF_start_31 : decode prog_1_method_5_code 31 = .ok (.iload_n 2, 1) := by decide +kernel
theorem d_FF_start_32 : decode prog_1_method_5_code 32 = .ok (.invokevirtual 67, 3) := by decide +kernel
theorem d_FF_start_35 : decode prog_1_method_5_code 35 = .ok (.return_, 1) := by decide +kernel
def rm_FF_start (mc ms : Nat) : Room := { frames := 6, cells := mc, slots := ms, locals := 110 }
def wp_FF_start (mc ms : Nat) (L : List Nat) (I : UI) (R : UR) (x1 : Int32) (x2 : Int32) (Q : List Nat → UI → UR → Prop) (QE : Nat → Prop) : Prop :=
  ((x2 < 1 → ((0 + 1 ≤ mc ∧ 0 + 6 ≤ ms) ∧ QE 1)) ∧ (¬ x2 < 1 → ((x2 ≤ 64 → wp_Rc_begin L I R x1 (fun I1 R2 => wp_Se_begin L I1 R2 x2 (fun I3 R4 => Q L I3 R4))) ∧ (¬ x2 ≤ 64 → ((0 + 1 ≤ mc ∧ 0 + 6 ≤ ms) ∧ QE 1)))))
set_option maxHeartbeats 4000000 in
set_option maxRecDepth 100000 in
theorem c_FF_start (l : Launch) (hfl : l.flags = pinnedFlags ++ [noTraceFlag]) (D : va_G) (cc : Nat → ClassId) (L : List Nat) (A : Nat → Nat) (J : Nat → Int64) (t16 t32 : Nat) (mc ms : Nat) (I : UI) (R : UR) (x1 : Int32) (x2 : Int32) (Q : List Nat → UI → UR → Prop) (QE : Nat → Prop) (h : wp_FF_start mc ms L I R x1 x2 Q QE) : uMXv l y_FF_start (.code y_FF_start prog_1_method_5_code 3 none) (rm_FF_start mc ms) mc ms [.ref (A 1), .int x1, .int x2] D cc L A J t16 t32 I R Q QE := by
  intro sz
  refine u_entryX (by decide) (Nat.le_of_ble_eq_true rfl) (fun p e s m args below meth c hsz X V hr hlk hne ls hl => ?_)
  have X : uX p s m args c prog_1_method_5_code 3 "FrameFerry" D cc L A t16 t32 := X
  have hx := X.1
  have hb := X.2.1
  have hl : lv_has ls 3 [(0, .ref (A 1)), (1, .int x1), (2, .int x2)] := hl
  unfold wp_FF_start at h
  have hE : uEx s.heap.size L A L A := uEx.rf X.2.2.2.2.2.2.1 X.2.2.2.2.2.2.2.1
  have hk : 0 ≤ mc ∧ 0 ≤ ms := ⟨Nat.zero_le _, Nat.zero_le _⟩
  refine lv_iload_n (pc := 0) hx hb d_FF_start_0 rfl (lv_at hl 2 rfl) ?_
  refine lv_iconst (pc := 1) (v := 1) hx hb d_FF_start_1 (by decide) ?_
  refine lv_icmp_lt (pc := 2) (tgt := 11) hx hb d_FF_start_2 (by decide) (fun hc => ?_) (fun hc => ?_)
  · have h := h.1 hc
    exact u_throwv (pc := 11) (k := 1) X V hfl hne hlk hsz h.2 n_FF_30 xW1 ⟨xFit.1, xFit.2.2⟩ hl.1 (Nat.le_of_ble_eq_true rfl) (Nat.le_of_ble_eq_true rfl) h.1 ⟨Nat.le_refl _, Nat.le_refl _⟩ d_FF_start_11 d_FF_start_14 d_FF_start_15 d_FF_start_18
  · have h := h.2 hc
    refine lv_iload_n (pc := 5) hx hb d_FF_start_5 rfl (lv_at hl 2 rfl) ?_
    refine lv_bipush (pc := 6) (v := 64) hx hb d_FF_start_6 (by decide) ?_
    refine lv_icmp_le (pc := 8) (tgt := 19) hx hb d_FF_start_8 (by decide) (fun hc => ?_) (fun hc => ?_)
    · have h := h.1 hc
      refine lv_aload_n (pc := 19) hx hb d_FF_start_19 rfl (lv_at hl 0 rfl) ?_
      refine u_getr (pc := 20) (o' := 3) X V (X.fix rfl) rfl rfl f_FF_19 rfl rfl d_FF_start_20 ?_
      refine lv_iload_n (pc := 23) hx hb d_FF_start_23 rfl (lv_at hl 1 rfl) ?_
      refine u_cVv (pc := 24) (As := [.int x1]) X V s_FF_63 (X.fix rfl) rfl rfl rfl (c_Rc_begin l D cc L A J t16 t32 _ _ x1 _ h) ⟨rfl, rfl, Nat.le_of_ble_eq_true rfl, Nat.le_of_ble_eq_true rfl⟩ rfl hl.1 rfl (Nat.le_of_ble_eq_true rfl) d_FF_start_24 hk (fun I1 R2 h H locs V => ?_)
      refine lv_aload_n (pc := 27) hx hb d_FF_start_27 rfl (lv_at hl 0 rfl) ?_
      refine u_getr (pc := 28) (o' := 2) X V (X.fix rfl) rfl rfl f_FF_10 rfl rfl d_FF_start_28 ?_
      refine lv_iload_n (pc := 31) hx hb d_FF_start_31 rfl (lv_at hl 2 rfl) ?_
      refine u_cVv (pc := 32) (As := [.int x2]) X V s_FF_67 (X.fix rfl) rfl rfl rfl (c_Se_begin l D cc L A J t16 t32 _ _ x2 _ h) ⟨rfl, rfl, Nat.le_of_ble_eq_true rfl, Nat.le_of_ble_eq_true rfl⟩ rfl hl.1 rfl (Nat.le_of_ble_eq_true rfl) d_FF_start_32 hk (fun I3 R4 h H locs V => ?_)
      exact u_retvX (pc := 35) X V hE hk hr hlk hsz h d_FF_start_35
    · have h := h.2 hc
      exact u_throwv (pc := 11) (k := 1) X V hfl hne hlk hsz h.2 n_FF_30 xW1 ⟨xFit.1, xFit.2.2⟩ hl.1 (Nat.le_of_ble_eq_true rfl) (Nat.le_of_ble_eq_true rfl) h.1 ⟨Nat.le_refl _, Nat.le_refl _⟩ d_FF_start_11 d_FF_start_14 d_FF_start_15 d_FF_start_18
-- FrameFerry.flip (ZII)Z
theorem d_FF_flip_0 : decode prog_1_method_10_code 0 = .ok (.iload_n 3, 1) := by decide +kernel
theorem d_FF_flip_1 : decode prog_1_method_10_code 1 = .ok (.ifCond .lt 9, 3) := by decide +kernel
theorem d_FF_flip_4 : decode prog_1_method_10_code 4 = .ok (.iload_n 3, 1) := by decide +kernel
theorem d_FF_flip_5 : decode prog_1_method_10_code 5 = .ok (.bipush 7, 2) := by decide +kernel
theorem d_FF_flip_7 : decode prog_1_method_10_code 7 = .ok (.if_icmp .le 11, 3) := by decide +kernel
theorem d_FF_flip_10 : decode prog_1_method_10_code 10 = .ok (.new 30, 3) := by decide +kernel
theorem d_FF_flip_13 : decode prog_1_method_10_code 13 = .ok (.dup, 1) := by decide +kernel
theorem d_FF_flip_14 : decode prog_1_method_10_code 14 = .ok (.invokespecial 32, 3) := by decide +kernel
theorem d_FF_flip_17 : decode prog_1_method_10_code 17 = .ok (.athrow, 1) := by decide +kernel
theorem d_FF_flip_18 : decode prog_1_method_10_code 18 = .ok (.aload_n 0, 1) := by decide +kernel
theorem d_FF_flip_19 : decode prog_1_method_10_code 19 = .ok (.iload_n 1, 1) := by decide +kernel
theorem d_FF_flip_20 : decode prog_1_method_10_code 20 = .ok (.invokevirtual 87, 3) := by decide +kernel
theorem d_FF_flip_23 : decode prog_1_method_10_code 23 = .ok (.iload_n 2, 1) := by decide +kernel
theorem d_FF_flip_24 : decode prog_1_method_10_code 24 = .ok (.iload_n 3, 1) := by decide +kernel
theorem d_FF_flip_25 : decode prog_1_method_10_code 25 = .ok (.invokevirtual 98, 3) := by decide +kernel
theorem d_FF_flip_28 : decode prog_1_method_10_code 28 = .ok (.ireturn, 1) := by decide +kernel
def rm_FF_flip (mc ms : Nat) : Room := { frames := 6, cells := mc, slots := ms, locals := 110 }
def wp_FF_flip (mc ms : Nat) (L : List Nat) (I : UI) (R : UR) (x1 : Int32) (x2 : Int32) (x3 : Int32) (Q : Int32 → List Nat → UI → UR → Prop) (QE : Nat → Prop) : Prop :=
  ((x3 < 0 → ((0 + 1 ≤ mc ∧ 0 + 6 ≤ ms) ∧ QE 1)) ∧ (¬ x3 < 0 → ((x3 ≤ 7 → wp_FF_pipeOf L I R x1 (fun z3 I1 R2 => (∃ i4 : Nat, z3 = some i4 ∧ isPi L i4 ∧ wp_Pi_turnBit I1 R2 i4 x2 x3 (fun r7 I5 R6 => (zb r7 ∧ Q r7 L I5 R6))))) ∧ (¬ x3 ≤ 7 → ((0 + 1 ≤ mc ∧ 0 + 6 ≤ ms) ∧ QE 1)))))
set_option maxHeartbeats 4000000 in
set_option maxRecDepth 100000 in
theorem c_FF_flip (l : Launch) (hfl : l.flags = pinnedFlags ++ [noTraceFlag]) (D : va_G) (cc : Nat → ClassId) (L : List Nat) (A : Nat → Nat) (J : Nat → Int64) (t16 t32 : Nat) (mc ms : Nat) (I : UI) (R : UR) (x1 : Int32) (x2 : Int32) (x3 : Int32) (Q : Int32 → List Nat → UI → UR → Prop) (QE : Nat → Prop) (h : wp_FF_flip mc ms L I R x1 x2 x3 Q QE) : uMX l y_FF_flip (.code y_FF_flip prog_1_method_10_code 4 (some .boolean)) (rm_FF_flip mc ms) mc ms [.ref (A 1), .int x1, .int x2, .int x3] D cc L A J t16 t32 I R Q QE := by
  intro sz
  refine u_entryX (by decide) (Nat.le_of_ble_eq_true rfl) (fun p e s m args below meth c hsz X V hr hlk hne ls hl => ?_)
  have X : uX p s m args c prog_1_method_10_code 4 "FrameFerry" D cc L A t16 t32 := X
  have hx := X.1
  have hb := X.2.1
  have hl : lv_has ls 4 [(0, .ref (A 1)), (1, .int x1), (2, .int x2), (3, .int x3)] := hl
  unfold wp_FF_flip at h
  have hE : uEx s.heap.size L A L A := uEx.rf X.2.2.2.2.2.2.1 X.2.2.2.2.2.2.2.1
  have hk : 0 ≤ mc ∧ 0 ≤ ms := ⟨Nat.zero_le _, Nat.zero_le _⟩
  refine lv_iload_n (pc := 0) hx hb d_FF_flip_0 rfl (lv_at hl 3 rfl) ?_
  refine lv_if_lt (pc := 1) (tgt := 10) hx hb d_FF_flip_1 (by decide) (fun hc => ?_) (fun hc => ?_)
  · have h := h.1 hc
    exact u_throw (pc := 10) (k := 1) X V hfl hne hlk hsz h.2 n_FF_30 xW1 ⟨xFit.1, xFit.2.2⟩ hl.1 (Nat.le_of_ble_eq_true rfl) (Nat.le_of_ble_eq_true rfl) h.1 ⟨Nat.le_refl _, Nat.le_refl _⟩ d_FF_flip_10 d_FF_flip_13 d_FF_flip_14 d_FF_flip_17
  · have h := h.2 hc
    refine lv_iload_n (pc := 4) hx hb d_FF_flip_4 rfl (lv_at hl 3 rfl) ?_
    refine lv_bipush (pc := 5) (v := 7) hx hb d_FF_flip_5 (by decide) ?_
    refine lv_icmp_le (pc := 7) (tgt := 18) hx hb d_FF_flip_7 (by decide) (fun hc => ?_) (fun hc => ?_)
    · have h := h.1 hc
      refine lv_aload_n (pc := 18) hx hb d_FF_flip_18 rfl (lv_at hl 0 rfl) ?_
      refine lv_iload_n (pc := 19) hx hb d_FF_flip_19 rfl (lv_at hl 1 rfl) ?_
      refine u_cVr (pc := 20) (As := [.int x1]) X V s_FF_87 (X.fix rfl) rfl rfl rfl (c_FF_pipeOf l D cc L A J t16 t32 _ _ x1 _ h) ⟨rfl, rfl, Nat.le_of_ble_eq_true rfl, Nat.le_of_ble_eq_true rfl⟩ rfl hl.1 rfl (Nat.le_of_ble_eq_true rfl) d_FF_flip_20 hk (fun z3 I1 R2 h H locs V => ?_)
      refine lv_iload_n (pc := 23) hx hb d_FF_flip_23 rfl (lv_at hl 2 rfl) ?_
      refine lv_iload_n (pc := 24) hx hb d_FF_flip_24 rfl (lv_at hl 3 rfl) ?_
      obtain ⟨i4, rfl, h_i4, h⟩ := h
      refine u_cVi (pc := 25) (As := [.int x2, .int x3]) X V s_FF_98 h_i4.1 h_i4.2.1 rfl rfl (c_Pi_turnBit l D cc L A J t16 t32 _ _ i4 h_i4 x2 x3 _ h) ⟨rfl, rfl, Nat.le_of_ble_eq_true rfl, Nat.le_of_ble_eq_true rfl⟩ rfl hl.1 rfl (Nat.le_of_ble_eq_true rfl) d_FF_flip_25 hk (fun r7 I5 R6 h H locs V => ?_)
      exact u_retzX (pc := 28) X V hE hk hr hlk hsz h.1 h.2 d_FF_flip_28
    · have h := h.2 hc
      exact u_throw (pc := 10) (k := 1) X V hfl hne hlk hsz h.2 n_FF_30 xW1 ⟨xFit.1, xFit.2.2⟩ hl.1 (Nat.le_of_ble_eq_true rfl) (Nat.le_of_ble_eq_true rfl) h.1 ⟨Nat.le_refl _, Nat.le_refl _⟩ d_FF_flip_10 d_FF_flip_13 d_FF_flip_14 d_FF_flip_17
-- FrameFerry.lose (ZII)I
theorem d_FF_lose_0 : decode prog_1_method_11_code 0 = .ok (.iload_n 2, 1) := by decide +kernel
theorem d_FF_lose_1 : decode prog_1_method_11_code 1 = .ok (.ifCond .lt 7, 3) := by decide +kernel
theorem d_FF_lose_4 : decode prog_1_method_11_code 4 = .ok (.iload_n 3, 1) := by decide +kernel
theorem d_FF_lose_5 : decode prog_1_method_11_code 5 = .ok (.ifCond .ge 11, 3) := by decide +kernel
theorem d_FF_lose_8 : decode prog_1_method_11_code 8 = .ok (.new 30, 3) := by decide +kernel
theorem d_FF_lose_11 : decode prog_1_method_11_code 11 = .ok (.dup, 1) := by decide +kernel
theorem d_FF_lose_12 : decode prog_1_method_11_code 12 = .ok (.invokespecial 32, 3) := by decide +kernel
theorem d_FF_lose_15 : decode prog_1_method_11_code 15 = .ok (.athrow, 1) := by decide +kernel
theorem d_FF_lose_16 : decode prog_1_method_11_code 16 = .ok (.aload_n 0, 1) := by decide +kernel
theorem d_FF_lose_17 : decode prog_1_method_11_code 17 = .ok (.iload_n 1, 1) := by decide +kernel
theorem d_FF_lose_18 : decode prog_1_method_11_code 18 = .ok (.invokevirtual 87, 3) := by decide +kernel
theorem d_FF_lose_21 : decode prog_1_method_11_code 21 = .ok (.iload_n 2, 1) := by decide +kernel
theorem d_FF_lose_22 : decode prog_1_method_11_code 22 = .ok (.iload_n 3, 1) := by decide +kernel
theorem d_FF_lose_23 : decode prog_1_method_11_code 23 = .ok (.invokevirtual 102, 3) := by decide +kernel
theorem d_FF_lose_26 : decode prog_1_method_11_code 26 = .ok (.ireturn, 1) := by decide +kernel
def rm_FF_lose (mc ms : Nat) : Room := { frames := 6, cells := mc, slots := ms, locals := 110 }
def wp_FF_lose (mc ms : Nat) (L : List Nat) (I : UI) (R : UR) (x1 : Int32) (x2 : Int32) (x3 : Int32) (Q : Int32 → List Nat → UI → UR → Prop) (QE : Nat → Prop) : Prop :=
  ((x2 < 0 → ((0 + 1 ≤ mc ∧ 0 + 6 ≤ ms) ∧ QE 1)) ∧ (¬ x2 < 0 → ((0 ≤ x3 → wp_FF_pipeOf L I R x1 (fun z3 I1 R2 => (∃ i4 : Nat, z3 = some i4 ∧ isPi L i4 ∧ wp_Pi_drop I1 R2 i4 x2 x3 (fun r7 I5 R6 => Q r7 L I5 R6)))) ∧ (¬ 0 ≤ x3 → ((0 + 1 ≤ mc ∧ 0 + 6 ≤ ms) ∧ QE 1)))))
set_option maxHeartbeats 4000000 in
set_option maxRecDepth 100000 in
theorem c_FF_lose (l : Launch) (hfl : l.flags = pinnedFlags ++ [noTraceFlag]) (D : va_G) (cc : Nat → ClassId) (L : List Nat) (A : Nat → Nat) (J : Nat → Int64) (t16 t32 : Nat) (mc ms : Nat) (I : UI) (R : UR) (x1 : Int32) (x2 : Int32) (x3 : Int32) (Q : Int32 → List Nat → UI → UR → Prop) (QE : Nat → Prop) (h : wp_FF_lose mc ms L I R x1 x2 x3 Q QE) : uMX l y_FF_lose (.code y_FF_lose prog_1_method_11_code 4 (some .int)) (rm_FF_lose mc ms) mc ms [.ref (A 1), .int x1, .int x2, .int x3] D cc L A J t16 t32 I R Q QE := by
  intro sz
  refine u_entryX (by decide) (Nat.le_of_ble_eq_true rfl) (fun p e s m args below meth c hsz X V hr hlk hne ls hl => ?_)
  have X : uX p s m args c prog_1_method_11_code 4 "FrameFerry" D cc L A t16 t32 := X
  have hx := X.1
  have hb := X.2.1
  have hl : lv_has ls 4 [(0, .ref (A 1)), (1, .int x1), (2, .int x2), (3, .int x3)] := hl
  unfold wp_FF_lose at h
  have hE : uEx s.heap.size L A L A := uEx.rf X.2.2.2.2.2.2.1 X.2.2.2.2.2.2.2.1
  have hk : 0 ≤ mc ∧ 0 ≤ ms := ⟨Nat.zero_le _, Nat.zero_le _⟩
  refine lv_iload_n (pc := 0) hx hb d_FF_lose_0 rfl (lv_at hl 2 rfl) ?_
  refine lv_if_lt (pc := 1) (tgt := 8) hx hb d_FF_lose_1 (by decide) (fun hc => ?_) (fun hc => ?_)
  · have h := h.1 hc
    exact u_throw (pc := 8) (k := 1) X V hfl hne hlk hsz h.2 n_FF_30 xW1 ⟨xFit.1, xFit.2.2⟩ hl.1 (Nat.le_of_ble_eq_true rfl) (Nat.le_of_ble_eq_true rfl) h.1 ⟨Nat.le_refl _, Nat.le_refl _⟩ d_FF_lose_8 d_FF_lose_11 d_FF_lose_12 d_FF_lose_15
  · have h := h.2 hc
    refine lv_iload_n (pc := 4) hx hb d_FF_lose_4 rfl (lv_at hl 3 rfl) ?_
    refine lv_if_ge (pc := 5) (tgt := 16) hx hb d_FF_lose_5 (by decide) (fun hc => ?_) (fun hc => ?_)
    · have h := h.1 hc
      refine lv_aload_n (pc := 16) hx hb d_FF_lose_16 rfl (lv_at hl 0 rfl) ?_
      refine lv_iload_n (pc := 17) hx hb d_FF_lose_17 rfl (lv_at hl 1 rfl) ?_
      refine u_cVr (pc := 18) (As := [.int x1]) X V s_FF_87 (X.fix rfl) rfl rfl rfl (c_FF_pipeOf l D cc L A J t16 t32 _ _ x1 _ h) ⟨rfl, rfl, Nat.le_of_ble_eq_true rfl, Nat.le_of_ble_eq_true rfl⟩ rfl hl.1 rfl (Nat.le_of_ble_eq_true rfl) d_FF_lose_18 hk (fun z3 I1 R2 h H locs V => ?_)
      refine lv_iload_n (pc := 21) hx hb d_FF_lose_21 rfl (lv_at hl 2 rfl) ?_
      refine lv_iload_n (pc := 22) hx hb d_FF_lose_22 rfl (lv_at hl 3 rfl) ?_
      obtain ⟨i4, rfl, h_i4, h⟩ := h
      refine u_cVi (pc := 23) (As := [.int x2, .int x3]) X V s_FF_102 h_i4.1 h_i4.2.1 rfl rfl (c_Pi_drop l D cc L A J t16 t32 _ _ i4 h_i4 x2 x3 _ h) ⟨rfl, rfl, Nat.le_of_ble_eq_true rfl, Nat.le_of_ble_eq_true rfl⟩ rfl hl.1 rfl (Nat.le_of_ble_eq_true rfl) d_FF_lose_23 hk (fun r7 I5 R6 h H locs V => ?_)
      exact u_retiX (pc := 26) X V hE hk hr hlk hsz h d_FF_lose_26
    · have h := h.2 hc
      exact u_throw (pc := 8) (k := 1) X V hfl hne hlk hsz h.2 n_FF_30 xW1 ⟨xFit.1, xFit.2.2⟩ hl.1 (Nat.le_of_ble_eq_true rfl) (Nat.le_of_ble_eq_true rfl) h.1 ⟨Nat.le_refl _, Nat.le_refl _⟩ d_FF_lose_8 d_FF_lose_11 d_FF_lose_12 d_FF_lose_15
-- FrameFerry.count (I)I
theorem d_FF_count_0 : decode prog_1_method_14_code 0 = .ok (.iload_n 1, 1) := by decide +kernel
theorem d_FF_count_1 : decode prog_1_method_14_code 1 = .ok (.tableswitch 207 0 11 #[63, 71, 79, 87, 103, 128, 153, 164, 175, 183, 191, 199], 63) := by decide +kernel
theorem d_FF_count_64 : decode prog_1_method_14_code 64 = .ok (.aload_n 0, 1) := by decide +kernel
theorem d_FF_count_65 : decode prog_1_method_14_code 65 = .ok (.getfield 10, 3) := by decide +kernel
theorem d_FF_count_68 : decode prog_1_method_14_code 68 = .ok (.getfield 37, 3) := by decide +kernel
theorem d_FF_count_71 : decode prog_1_method_14_code 71 = .ok (.ireturn, 1) := by decide +kernel
theorem d_FF_count_72 : decode prog_1_method_14_code 72 = .ok (.aload_n 0, 1) := by decide +kernel
theorem d_FF_count_73 : decode prog_1_method_14_code 73 = .ok (.getfield 10, 3) := by decide +kernel
theorem d_FF_count_76 : decode prog_1_method_14_code 76 = .ok (.invokevirtual 115, 3) := by decide +kernel
theorem d_FF_count_79 : decode prog_1_method_14_code 79 = .ok (.ireturn, 1) := by decide +kernel
theorem d_FF_count_80 : decode prog_1_method_14_code 80 = .ok (.aload_n 0, 1) := by decide +kernel
theorem d_FF_count_81 : decode prog_1_method_14_code 81 = .ok (.getfield 10, 3) := by decide +kernel
theorem d_FF_count_84 : decode prog_1_method_14_code 84 = .ok (.getfield 118, 3) := by decide +kernel
theorem d_FF_count_87 : decode prog_1_method_14_code 87 = .ok (.ireturn, 1) := by decide +kernel
theorem d_FF_count_88 : decode prog_1_method_14_code 88 = .ok (.aload_n 0, 1) := by decide +kernel
theorem d_FF_count_89 : decode prog_1_method_14_code 89 = .ok (.getfield 19, 3) := by decide +kernel
theorem d_FF_count_92 : decode prog_1_method_14_code 92 = .ok (.getfield 121, 3) := by decide +kernel
theorem d_FF_count_95 : decode prog_1_method_14_code 95 = .ok (.ifCond .eq 7, 3) := by decide +kernel
theorem d_FF_count_98 : decode prog_1_method_14_code 98 = .ok (.iconst 1, 1) := by decide +kernel
theorem d_FF_count_99 : decode prog_1_method_14_code 99 = .ok (.goto 4, 3) := by decide +kernel
theorem d_FF_count_102 : decode prog_1_method_14_code 102 = .ok (.iconst 0, 1) := by decide +kernel
theorem d_FF_count_103 : decode prog_1_method_14_code 103 = .ok (.ireturn, 1) := by decide +kernel
theorem d_FF_count_104 : decode prog_1_method_14_code 104 = .ok (.aload_n 0, 1) := by decide +kernel
theorem d_FF_count_105 : decode prog_1_method_14_code 105 = .ok (.getfield 19, 3) := by decide +kernel
theorem d_FF_count_108 : decode prog_1_method_14_code 108 = .ok (.getfield 125, 3) := by decide +kernel
theorem d_FF_count_111 : decode prog_1_method_14_code 111 = .ok (.ifnonnull 7, 3) := by decide +kernel
theorem d_FF_count_114 : decode prog_1_method_14_code 114 = .ok (.iconst (-1), 1) := by decide +kernel
theorem d_FF_count_115 : decode prog_1_method_14_code 115 = .ok (.goto 13, 3) := by decide +kernel
theorem d_FF_count_118 : decode prog_1_method_14_code 118 = .ok (.aload_n 0, 1) := by decide +kernel
theorem d_FF_count_119 : decode prog_1_method_14_code 119 = .ok (.getfield 19, 3) := by decide +kernel
theorem d_FF_count_122 : decode prog_1_method_14_code 122 = .ok (.getfield 125, 3) := by decide +kernel
theorem d_FF_count_125 : decode prog_1_method_14_code 125 = .ok (.getfield 129, 3) := by decide +kernel
theorem d_FF_count_128 : decode prog_1_method_14_code 128 = .ok (.ireturn, 1) := by decide +kernel
theorem d_FF_count_129 : decode prog_1_method_14_code 129 = .ok (.aload_n 0, 1) := by decide +kernel
theorem d_FF_count_130 : decode prog_1_method_14_code 130 = .ok (.getfield 19, 3) := by decide +kernel
theorem d_FF_count_133 : decode prog_1_method_14_code 133 = .ok (.getfield 125, 3) := by decide +kernel
theorem d_FF_count_136 : decode prog_1_method_14_code 136 = .ok (.ifnonnull 7, 3) := by decide +kernel
theorem d_FF_count_139 : decode prog_1_method_14_code 139 = .ok (.iconst (-1), 1) := by decide +kernel
theorem d_FF_count_140 : decode prog_1_method_14_code 140 = .ok (.goto 13, 3) := by decide +kernel
theorem d_FF_count_143 : decode prog_1_method_14_code 143 = .ok (.aload_n 0, 1) := by decide +kernel
theorem d_FF_count_144 : decode prog_1_method_14_code 144 = .ok (.getfield 19, 3) := by decide +kernel
theorem d_FF_count_147 : decode prog_1_method_14_code 147 = .ok (.getfield 125, 3) := by decide +kernel
theorem d_FF_count_150 : decode prog_1_method_14_code 150 = .ok (.getfield 51, 3) := by decide +kernel
theorem d_FF_count_153 : decode prog_1_method_14_code 153 = .ok (.ireturn, 1) := by decide +kernel
theorem d_FF_count_154 : decode prog_1_method_14_code 154 = .ok (.aload_n 0, 1) := by decide +kernel
theorem d_FF_count_155 : decode prog_1_method_14_code 155 = .ok (.getfield 10, 3) := by decide +kernel
theorem d_FF_count_158 : decode prog_1_method_14_code 158 = .ok (.getfield 69, 3) := by decide +kernel
theorem d_FF_count_161 : decode prog_1_method_14_code 161 = .ok (.getfield 132, 3) := by decide +kernel
theorem d_FF_count_164 : decode prog_1_method_14_code 164 = .ok (.ireturn, 1) := by decide +kernel
theorem d_FF_count_165 : decode prog_1_method_14_code 165 = .ok (.aload_n 0, 1) := by decide +kernel
theorem d_FF_count_166 : decode prog_1_method_14_code 166 = .ok (.getfield 19, 3) := by decide +kernel
theorem d_FF_count_169 : decode prog_1_method_14_code 169 = .ok (.getfield 78, 3) := by decide +kernel
theorem d_FF_count_172 : decode prog_1_method_14_code 172 = .ok (.getfield 132, 3) := by decide +kernel
theorem d_FF_count_175 : decode prog_1_method_14_code 175 = .ok (.ireturn, 1) := by decide +kernel
theorem d_FF_count_176 : decode prog_1_method_14_code 176 = .ok (.aload_n 0, 1) := by decide +kernel
theorem d_FF_count_177 : decode prog_1_method_14_code 177 = .ok (.getfield 19, 3) := by decide +kernel
theorem d_FF_count_180 : decode prog_1_method_14_code 180 = .ok (.getfield 133, 3) := by decide +kernel
theorem d_FF_count_183 : decode prog_1_method_14_code 183 = .ok (.ireturn, 1) := by decide +kernel
theorem d_FF_count_184 : decode prog_1_method_14_code 184 = .ok (.aload_n 0, 1) := by decide +kernel
theorem d_FF_count_185 : decode prog_1_method_14_code 185 = .ok (.getfield 19, 3) := by decide +kernel
theorem d_FF_count_188 : decode prog_1_method_14_code 188 = .ok (.getfield 136, 3) := by decide +kernel
theorem d_FF_count_191 : decode prog_1_method_14_code 191 = .ok (.ireturn, 1) := by decide +kernel
theorem d_FF_count_192 : decode prog_1_method_14_code 192 = .ok (.aload_n 0, 1) := by decide +kernel
theorem d_FF_count_193 : decode prog_1_method_14_code 193 = .ok (.getfield 19, 3) := by decide +kernel
theorem d_FF_count_196 : decode prog_1_method_14_code 196 = .ok (.getfield 139, 3) := by decide +kernel
theorem d_FF_count_199 : decode prog_1_method_14_code 199 = .ok (.ireturn, 1) := by decide +kernel
theorem d_FF_count_200 : decode prog_1_method_14_code 200 = .ok (.aload_n 0, 1) := by decide +kernel
theorem d_FF_count_201 : decode prog_1_method_14_code 201 = .ok (.getfield 19, 3) := by decide +kernel
theorem d_FF_count_204 : decode prog_1_method_14_code 204 = .ok (.getfield 142, 3) := by decide +kernel
theorem d_FF_count_207 : decode prog_1_method_14_code 207 = .ok (.ireturn, 1) := by decide +kernel
theorem d_FF_count_208 : decode prog_1_method_14_code 208 = .ok (.new 30, 3) := by decide +kernel
theorem d_FF_count_211 : decode prog_1_method_14_code 211 = .ok (.dup, 1) := by decide +kernel
theorem d_FF_count_212 : decode prog_1_method_14_code 212 = .ok (.invokespecial 32, 3) := by decide +kernel
theorem d_FF_count_215 : decode prog_1_method_14_code 215 = .ok (.athrow, 1) := by decide +kernel
def rm_FF_count (mc ms : Nat) : Room := { frames := 6, cells := mc, slots := ms, locals := 110 }
def wp_FF_count (mc ms : Nat) (L : List Nat) (I : UI) (R : UR) (x1 : Int32) (Q : Int32 → List Nat → UI → UR → Prop) (QE : Nat → Prop) : Prop :=
  ∀ v1 : Int32, v1 = x1 → ((v1 = 0 → Q (I 2 2) L I R) ∧ (¬ v1 = 0 → ((v1 = 1 → wp_Se_fileNumber L I R (fun r4 I2 R3 => Q r4 L I2 R3)) ∧ (¬ v1 = 1 → ((v1 = 2 → Q (I 2 3) L I R) ∧ (¬ v1 = 2 → ((v1 = 3 → ((I 3 3 = 0 → Q 0 L I R) ∧ (¬ I 3 3 = 0 → Q 1 L I R))) ∧ (¬ v1 = 3 → ((v1 = 4 → ∀ z5 : Option Nat, z5 = R 3 2 → ((z5 = none → Q (-1) L I R) ∧ (∀ i6 : Nat, z5 = some i6 → (∃ i7 : Nat, R 3 2 = some i7 ∧ isSf L i7 ∧ Q (I i7 1) L I R)))) ∧ (¬ v1 = 4 → ((v1 = 5 → ∀ z8 : Option Nat, z8 = R 3 2 → ((z8 = none → Q (-1) L I R) ∧ (∀ i9 : Nat, z8 = some i9 → (∃ i10 : Nat, R 3 2 = some i10 ∧ isSf L i10 ∧ Q (I i10 2) L I R)))) ∧ (¬ v1 = 5 → ((v1 = 6 → Q (I 4 1) L I R) ∧ (¬ v1 = 6 → ((v1 = 7 → Q (I 6 1) L I R) ∧ (¬ v1 = 7 → ((v1 = 8 → Q (I 3 4) L I R) ∧ (¬ v1 = 8 → ((v1 = 9 → Q (I 3 5) L I R) ∧ (¬ v1 = 9 → ((v1 = 10 → Q (I 3 6) L I R) ∧ (¬ v1 = 10 → ((v1 = 11 → Q (I 3 7) L I R) ∧ (¬ v1 = 11 → ((0 + 1 ≤ mc ∧ 0 + 6 ≤ ms) ∧ QE 1)))))))))))))))))))))))))
set_option maxHeartbeats 4000000 in
set_option maxRecDepth 100000 in
theorem c_FF_count (l : Launch) (hfl : l.flags = pinnedFlags ++ [noTraceFlag]) (D : va_G) (cc : Nat → ClassId) (L : List Nat) (A : Nat → Nat) (J : Nat → Int64) (t16 t32 : Nat) (mc ms : Nat) (I : UI) (R : UR) (x1 : Int32) (Q : Int32 → List Nat → UI → UR → Prop) (QE : Nat → Prop) (h : wp_FF_count mc ms L I R x1 Q QE) : uMX l y_FF_count (.code y_FF_count prog_1_method_14_code 2 (some .int)) (rm_FF_count mc ms) mc ms [.ref (A 1), .int x1] D cc L A J t16 t32 I R Q QE := by
  intro sz
  refine u_entryX (by decide) (Nat.le_of_ble_eq_true rfl) (fun p e s m args below meth c hsz X V hr hlk hne ls hl => ?_)
  have X : uX p s m args c prog_1_method_14_code 2 "FrameFerry" D cc L A t16 t32 := X
  have hx := X.1
  have hb := X.2.1
  have hl : lv_has ls 2 [(0, .ref (A 1)), (1, .int x1)] := hl
  unfold wp_FF_count at h
  have hE : uEx s.heap.size L A L A := uEx.rf X.2.2.2.2.2.2.1 X.2.2.2.2.2.2.2.1
  have hk : 0 ≤ mc ∧ 0 ≤ ms := ⟨Nat.zero_le _, Nat.zero_le _⟩
  refine lv_iload_n (pc := 0) hx hb d_FF_count_0 rfl (lv_at hl 1 rfl) ?_
  refine lv_topi (fun v1 ev1 => ?_)
  have h := h v1 ev1
  by_cases hn0 : v1 = 0
  · have h := h.1 hn0
    rw [hn0]
    refine lv_tableIn (pc := 1) (tgt := 64) (off := 63) hx hb d_FF_count_1 (by decide) (by decide) rfl (by decide) ?_
    refine lv_aload_n (pc := 64) hx hb d_FF_count_64 rfl (lv_at hl 0 rfl) ?_
    refine u_getr (pc := 65) (o' := 2) X V (X.fix rfl) rfl rfl f_FF_10 rfl rfl d_FF_count_65 ?_
    refine u_geti (pc := 68) X V (X.fix rfl) rfl rfl f_FF_37 rfl d_FF_count_68 ?_
    exact u_retiX (pc := 71) X V hE hk hr hlk hsz h d_FF_count_71
  · have h := h.2 hn0
    by_cases hn1 : v1 = 1
    · have h := h.1 hn1
      rw [hn1]
      refine lv_tableIn (pc := 1) (tgt := 72) (off := 71) hx hb d_FF_count_1 (by decide) (by decide) rfl (by decide) ?_
      refine lv_aload_n (pc := 72) hx hb d_FF_count_72 rfl (lv_at hl 0 rfl) ?_
      refine u_getr (pc := 73) (o' := 2) X V (X.fix rfl) rfl rfl f_FF_10 rfl rfl d_FF_count_73 ?_
      refine u_cVi (pc := 76) (As := []) X V s_FF_115 (X.fix rfl) rfl rfl rfl (c_Se_fileNumber l D cc L A J t16 t32 _ _  _ h) ⟨rfl, rfl, Nat.le_of_ble_eq_true rfl, Nat.le_of_ble_eq_true rfl⟩ rfl hl.1 rfl (Nat.le_of_ble_eq_true rfl) d_FF_count_76 hk (fun r4 I2 R3 h H locs V => ?_)
      exact u_retiX (pc := 79) X V hE hk hr hlk hsz h d_FF_count_79
    · have h := h.2 hn1
      by_cases hn2 : v1 = 2
      · have h := h.1 hn2
        rw [hn2]
        refine lv_tableIn (pc := 1) (tgt := 80) (off := 79) hx hb d_FF_count_1 (by decide) (by decide) rfl (by decide) ?_
        refine lv_aload_n (pc := 80) hx hb d_FF_count_80 rfl (lv_at hl 0 rfl) ?_
        refine u_getr (pc := 81) (o' := 2) X V (X.fix rfl) rfl rfl f_FF_10 rfl rfl d_FF_count_81 ?_
        refine u_geti (pc := 84) X V (X.fix rfl) rfl rfl f_FF_118 rfl d_FF_count_84 ?_
        exact u_retiX (pc := 87) X V hE hk hr hlk hsz h d_FF_count_87
      · have h := h.2 hn2
        by_cases hn3 : v1 = 3
        · have h := h.1 hn3
          rw [hn3]
          refine lv_tableIn (pc := 1) (tgt := 88) (off := 87) hx hb d_FF_count_1 (by decide) (by decide) rfl (by decide) ?_
          refine lv_aload_n (pc := 88) hx hb d_FF_count_88 rfl (lv_at hl 0 rfl) ?_
          refine u_getr (pc := 89) (o' := 3) X V (X.fix rfl) rfl rfl f_FF_19 rfl rfl d_FF_count_89 ?_
          refine u_geti (pc := 92) X V (X.fix rfl) rfl rfl f_FF_121 rfl d_FF_count_92 ?_
          refine lv_if_eq (pc := 95) (tgt := 102) hx hb d_FF_count_95 (by decide) (fun hc => ?_) (fun hc => ?_)
          · have h := h.1 hc
            refine lv_iconst (pc := 102) (v := 0) hx hb d_FF_count_102 (by decide) ?_
            exact u_retiX (pc := 103) X V hE hk hr hlk hsz h d_FF_count_103
          · have h := h.2 hc
            refine lv_iconst (pc := 98) (v := 1) hx hb d_FF_count_98 (by decide) ?_
            refine lv_goto (pc := 99) (tgt := 103) hx hb d_FF_count_99 (by decide) ?_
            exact u_retiX (pc := 103) X V hE hk hr hlk hsz h d_FF_count_103
        · have h := h.2 hn3
          by_cases hn4 : v1 = 4
          · have h := h.1 hn4
            rw [hn4]
            refine lv_tableIn (pc := 1) (tgt := 104) (off := 103) hx hb d_FF_count_1 (by decide) (by decide) rfl (by decide) ?_
            refine lv_aload_n (pc := 104) hx hb d_FF_count_104 rfl (lv_at hl 0 rfl) ?_
            refine u_getr (pc := 105) (o' := 3) X V (X.fix rfl) rfl rfl f_FF_19 rfl rfl d_FF_count_105 ?_
            refine u_getd (pc := 108) X V (X.fix rfl) rfl rfl f_FF_125 rfl d_FF_count_108 ?_
            refine u_topo (fun z5 ez5 => ?_)
            have h := h z5 ez5
            rcases z5 with _ | i6
            · have h := h.1 rfl
              refine lv_ifnonnullN (pc := 111) hx hb d_FF_count_111 ?_
              refine lv_iconst (pc := 114) (v := (-1)) hx hb d_FF_count_114 (by decide) ?_
              refine lv_goto (pc := 115) (tgt := 128) hx hb d_FF_count_115 (by decide) ?_
              exact u_retiX (pc := 128) X V hE hk hr hlk hsz h d_FF_count_128
            · have h := h.2 i6 rfl
              refine lv_ifnonnull (pc := 111) (tgt := 118) hx hb d_FF_count_111 (by decide) ?_
              refine lv_aload_n (pc := 118) hx hb d_FF_count_118 rfl (lv_at hl 0 rfl) ?_
              refine u_getr (pc := 119) (o' := 3) X V (X.fix rfl) rfl rfl f_FF_19 rfl rfl d_FF_count_119 ?_
              refine u_getd (pc := 122) X V (X.fix rfl) rfl rfl f_FF_125 rfl d_FF_count_122 ?_
              obtain ⟨i7, hi_i7, h_i7, h⟩ := h
              rw [hi_i7]
              try rw [hi_i7] at hl
              refine u_geti (pc := 125) X V h_i7.1 h_i7.2.1 rfl f_FF_129 rfl d_FF_count_125 ?_
              exact u_retiX (pc := 128) X V hE hk hr hlk hsz h d_FF_count_128
          · have h := h.2 hn4
            by_cases hn5 : v1 = 5
            · have h := h.1 hn5
              rw [hn5]
              refine lv_tableIn (pc := 1) (tgt := 129) (off := 128) hx hb d_FF_count_1 (by decide) (by decide) rfl (by decide) ?_
              refine lv_aload_n (pc := 129) hx hb d_FF_count_129 rfl (lv_at hl 0 rfl) ?_
              refine u_getr (pc := 130) (o' := 3) X V (X.fix rfl) rfl rfl f_FF_19 rfl rfl d_FF_count_130 ?_
              refine u_getd (pc := 133) X V (X.fix rfl) rfl rfl f_FF_125 rfl d_FF_count_133 ?_
              refine u_topo (fun z8 ez8 => ?_)
              have h := h z8 ez8
              rcases z8 with _ | i9
              · have h := h.1 rfl
                refine lv_ifnonnullN (pc := 136) hx hb d_FF_count_136 ?_
                refine lv_iconst (pc := 139) (v := (-1)) hx hb d_FF_count_139 (by decide) ?_
                refine lv_goto (pc := 140) (tgt := 153) hx hb d_FF_count_140 (by decide) ?_
                exact u_retiX (pc := 153) X V hE hk hr hlk hsz h d_FF_count_153
              · have h := h.2 i9 rfl
                refine lv_ifnonnull (pc := 136) (tgt := 143) hx hb d_FF_count_136 (by decide) ?_
                refine lv_aload_n (pc := 143) hx hb d_FF_count_143 rfl (lv_at hl 0 rfl) ?_
                refine u_getr (pc := 144) (o' := 3) X V (X.fix rfl) rfl rfl f_FF_19 rfl rfl d_FF_count_144 ?_
                refine u_getd (pc := 147) X V (X.fix rfl) rfl rfl f_FF_125 rfl d_FF_count_147 ?_
                obtain ⟨i10, hi_i10, h_i10, h⟩ := h
                rw [hi_i10]
                try rw [hi_i10] at hl
                refine u_geti (pc := 150) X V h_i10.1 h_i10.2.1 rfl f_FF_51 rfl d_FF_count_150 ?_
                exact u_retiX (pc := 153) X V hE hk hr hlk hsz h d_FF_count_153
            · have h := h.2 hn5
              by_cases hn6 : v1 = 6
              · have h := h.1 hn6
                rw [hn6]
                refine lv_tableIn (pc := 1) (tgt := 154) (off := 153) hx hb d_FF_count_1 (by decide) (by decide) rfl (by decide) ?_
                refine lv_aload_n (pc := 154) hx hb d_FF_count_154 rfl (lv_at hl 0 rfl) ?_
                refine u_getr (pc := 155) (o' := 2) X V (X.fix rfl) rfl rfl f_FF_10 rfl rfl d_FF_count_155 ?_
                refine u_getr (pc := 158) (o' := 4) X V (X.fix rfl) rfl rfl f_FF_69 rfl rfl d_FF_count_158 ?_
                refine u_geti (pc := 161) X V (X.fix rfl) rfl rfl f_FF_132 rfl d_FF_count_161 ?_
                exact u_retiX (pc := 164) X V hE hk hr hlk hsz h d_FF_count_164
              · have h := h.2 hn6
                by_cases hn7 : v1 = 7
                · have h := h.1 hn7
                  rw [hn7]
                  refine lv_tableIn (pc := 1) (tgt := 165) (off := 164) hx hb d_FF_count_1 (by decide) (by decide) rfl (by decide) ?_
                  refine lv_aload_n (pc := 165) hx hb d_FF_count_165 rfl (lv_at hl 0 rfl) ?_
                  refine u_getr (pc := 166) (o' := 3) X V (X.fix rfl) rfl rfl f_FF_19 rfl rfl d_FF_count_166 ?_
                  refine u_getr (pc := 169) (o' := 6) X V (X.fix rfl) rfl rfl f_FF_78 rfl rfl d_FF_count_169 ?_
                  refine u_geti (pc := 172) X V (X.fix rfl) rfl rfl f_FF_132 rfl d_FF_count_172 ?_
                  exact u_retiX (pc := 175) X V hE hk hr hlk hsz h d_FF_count_175
                · have h := h.2 hn7
                  by_cases hn8 : v1 = 8
                  · have h := h.1 hn8
                    rw [hn8]
                    refine lv_tableIn (pc := 1) (tgt := 176) (off := 175) hx hb d_FF_count_1 (by decide) (by decide) rfl (by decide) ?_
                    refine lv_aload_n (pc := 176) hx hb d_FF_count_176 rfl (lv_at hl 0 rfl) ?_
                    refine u_getr (pc := 177) (o' := 3) X V (X.fix rfl) rfl rfl f_FF_19 rfl rfl d_FF_count_177 ?_
                    refine u_geti (pc := 180) X V (X.fix rfl) rfl rfl f_FF_133 rfl d_FF_count_180 ?_
                    exact u_retiX (pc := 183) X V hE hk hr hlk hsz h d_FF_count_183
                  · have h := h.2 hn8
                    by_cases hn9 : v1 = 9
                    · have h := h.1 hn9
                      rw [hn9]
                      refine lv_tableIn (pc := 1) (tgt := 184) (off := 183) hx hb d_FF_count_1 (by decide) (by decide) rfl (by decide) ?_
                      refine lv_aload_n (pc := 184) hx hb d_FF_count_184 rfl (lv_at hl 0 rfl) ?_
                      refine u_getr (pc := 185) (o' := 3) X V (X.fix rfl) rfl rfl f_FF_19 rfl rfl d_FF_count_185 ?_
                      refine u_geti (pc := 188) X V (X.fix rfl) rfl rfl f_FF_136 rfl d_FF_count_188 ?_
                      exact u_retiX (pc := 191) X V hE hk hr hlk hsz h d_FF_count_191
                    · have h := h.2 hn9
                      by_cases hn10 : v1 = 10
                      · have h := h.1 hn10
                        rw [hn10]
                        refine lv_tableIn (pc := 1) (tgt := 192) (off := 191) hx hb d_FF_count_1 (by decide) (by decide) rfl (by decide) ?_
                        refine lv_aload_n (pc := 192) hx hb d_FF_count_192 rfl (lv_at hl 0 rfl) ?_
                        refine u_getr (pc := 193) (o' := 3) X V (X.fix rfl) rfl rfl f_FF_19 rfl rfl d_FF_count_193 ?_
                        refine u_geti (pc := 196) X V (X.fix rfl) rfl rfl f_FF_139 rfl d_FF_count_196 ?_
                        exact u_retiX (pc := 199) X V hE hk hr hlk hsz h d_FF_count_199
                      · have h := h.2 hn10
                        by_cases hn11 : v1 = 11
                        · have h := h.1 hn11
                          rw [hn11]
                          refine lv_tableIn (pc := 1) (tgt := 200) (off := 199) hx hb d_FF_count_1 (by decide) (by decide) rfl (by decide) ?_
                          refine lv_aload_n (pc := 200) hx hb d_FF_count_200 rfl (lv_at hl 0 rfl) ?_
                          refine u_getr (pc := 201) (o' := 3) X V (X.fix rfl) rfl rfl f_FF_19 rfl rfl d_FF_count_201 ?_
                          refine u_geti (pc := 204) X V (X.fix rfl) rfl rfl f_FF_142 rfl d_FF_count_204 ?_
                          exact u_retiX (pc := 207) X V hE hk hr hlk hsz h d_FF_count_207
                        · have h := h.2 hn11
                          have hd0 := nr_ok (a := 0) hn0 rfl
                          have hd1 := nr_ok (a := 1) hn1 rfl
                          have hd2 := nr_ok (a := 2) hn2 rfl
                          have hd3 := nr_ok (a := 3) hn3 rfl
                          have hd4 := nr_ok (a := 4) hn4 rfl
                          have hd5 := nr_ok (a := 5) hn5 rfl
                          have hd6 := nr_ok (a := 6) hn6 rfl
                          have hd7 := nr_ok (a := 7) hn7 rfl
                          have hd8 := nr_ok (a := 8) hn8 rfl
                          have hd9 := nr_ok (a := 9) hn9 rfl
                          have hd10 := nr_ok (a := 10) hn10 rfl
                          have hd11 := nr_ok (a := 11) hn11 rfl
                          refine lv_tableOut (pc := 1) (tgt := 208) hx hb d_FF_count_1 (by omega) (by decide) ?_
                          exact u_throw (pc := 208) (k := 1) X V hfl hne hlk hsz h.2 n_FF_30 xW1 ⟨xFit.1, xFit.2.2⟩ hl.1 (Nat.le_of_ble_eq_true rfl) (Nat.le_of_ble_eq_true rfl) h.1 ⟨Nat.le_refl _, Nat.le_refl _⟩ d_FF_count_208 d_FF_count_211 d_FF_count_212 d_FF_count_215
-- FrameFerry.got (II)I
theorem d_FF_got_0 : decode prog_1_method_13_code 0 = .ok (.iload_n 1, 1) := by decide +kernel
theorem d_FF_got_1 : decode prog_1_method_13_code 1 = .ok (.invokestatic 23, 3) := by decide +kernel
theorem d_FF_got_4 : decode prog_1_method_13_code 4 = .ok (.ifCond .ne 11, 3) := by decide +kernel
theorem d_FF_got_7 : decode prog_1_method_13_code 7 = .ok (.new 30, 3) := by decide +kernel
theorem d_FF_got_10 : decode prog_1_method_13_code 10 = .ok (.dup, 1) := by decide +kernel
theorem d_FF_got_11 : decode prog_1_method_13_code 11 = .ok (.invokespecial 32, 3) := by decide +kernel
theorem d_FF_got_14 : decode prog_1_method_13_code 14 = .ok (.athrow, 1) := by decide +kernel
theorem d_FF_got_15 : decode prog_1_method_13_code 15 = .ok (.aload_n 0, 1) := by decide +kernel
theorem d_FF_got_16 : decode prog_1_method_13_code 16 = .ok (.getfield 19, 3) := by decide +kernel
theorem d_FF_got_19 : decode prog_1_method_13_code 19 = .ok (.getfield 110, 3) := by decide +kernel
theorem d_FF_got_22 : decode prog_1_method_13_code 22 = .ok (.iload_n 1, 1) := by decide +kernel
theorem d_FF_got_23 : decode prog_1_method_13_code 23 = .ok (.aaload, 1) := by decide +kernel
theorem d_FF_got_24 : decode prog_1_method_13_code 24 = .ok (.astore_n 3, 1) := by decide +kernel
theorem d_FF_got_25 : decode prog_1_method_13_code 25 = .ok (.aload_n 3, 1) := by decide +kernel
theorem d_FF_got_26 : decode prog_1_method_13_code 26 = .ok (.ifnonnull 7, 3) := by decide +kernel
theorem d_FF_got_29 : decode prog_1_method_13_code 29 = .ok (.iconst (-1), 1) := by decide +kernel
theorem d_FF_got_30 : decode prog_1_method_13_code 30 = .ok (.goto 8, 3) := by decide +kernel
theorem d_FF_got_33 : decode prog_1_method_13_code 33 = .ok (.aload_n 3, 1) := by decide +kernel
theorem d_FF_got_34 : decode prog_1_method_13_code 34 = .ok (.iload_n 2, 1) := by decide +kernel
theorem d_FF_got_35 : decode prog_1_method_13_code 35 = .ok (.invokevirtual 114, 3) := by decide +kernel
theorem d_FF_got_38 : decode prog_1_method_13_code 38 = .ok (.ireturn, 1) := by decide +kernel
def rm_FF_got (mc ms : Nat) : Room := { frames := 6, cells := mc, slots := ms, locals := 110 }
def wp_FF_got (mc ms : Nat) (L : List Nat) (I : UI) (R : UR) (x1 : Int32) (x2 : Int32) (Q : Int32 → List Nat → UI → UR → Prop) (QE : Nat → Prop) : Prop :=
  wp_FF_isLetter L I R x1 (fun r3 _ _ => ((¬ r3 = 0 → vp_in x1 26 ∧ ∀ z4 : Option Nat, z4 = R 19 x1.toNatClampNeg → ((z4 = none → Q (-1) L I R) ∧ (∀ i5 : Nat, z4 = some i5 → isSf L i5 ∧ wp_Sf_byteAt I R i5 x2 (fun r8 I6 R7 => Q r8 L I6 R7)))) ∧ (r3 = 0 → ((0 + 1 ≤ mc ∧ 0 + 6 ≤ ms) ∧ QE 1))))
set_option maxHeartbeats 4000000 in
set_option maxRecDepth 100000 in
theorem c_FF_got (l : Launch) (hfl : l.flags = pinnedFlags ++ [noTraceFlag]) (D : va_G) (cc : Nat → ClassId) (L : List Nat) (A : Nat → Nat) (J : Nat → Int64) (t16 t32 : Nat) (mc ms : Nat) (I : UI) (R : UR) (x1 : Int32) (x2 : Int32) (Q : Int32 → List Nat → UI → UR → Prop) (QE : Nat → Prop) (h : wp_FF_got mc ms L I R x1 x2 Q QE) : uMX l y_FF_got (.code y_FF_got prog_1_method_13_code 4 (some .int)) (rm_FF_got mc ms) mc ms [.ref (A 1), .int x1, .int x2] D cc L A J t16 t32 I R Q QE := by
  intro sz
  refine u_entryX (by decide) (Nat.le_of_ble_eq_true rfl) (fun p e s m args below meth c hsz X V hr hlk hne ls hl => ?_)
  have X : uX p s m args c prog_1_method_13_code 4 "FrameFerry" D cc L A t16 t32 := X
  have hx := X.1
  have hb := X.2.1
  have hl : lv_has ls 4 [(0, .ref (A 1)), (1, .int x1), (2, .int x2)] := hl
  unfold wp_FF_got at h
  have hE : uEx s.heap.size L A L A := uEx.rf X.2.2.2.2.2.2.1 X.2.2.2.2.2.2.2.1
  have hk : 0 ≤ mc ∧ 0 ≤ ms := ⟨Nat.zero_le _, Nat.zero_le _⟩
  refine lv_iload_n (pc := 0) hx hb d_FF_got_0 rfl (lv_at hl 1 rfl) ?_
  refine u_cSiP (pc := 1) (As := [.int x1]) X V s_FF_23 (cp_FF_isLetter l D cc L A J t16 t32 _ _ x1 _ h) ⟨rfl, rfl, Nat.le_of_ble_eq_true rfl, Nat.le_of_ble_eq_true rfl⟩ rfl hl.1 rfl (Nat.le_of_ble_eq_true rfl) d_FF_got_1 hk (fun r3 h => ?_)
  refine lv_if_ne (pc := 4) (tgt := 15) hx hb d_FF_got_4 (by decide) (fun hc => ?_) (fun hc => ?_)
  · have h := h.1 hc
    refine lv_aload_n (pc := 15) hx hb d_FF_got_15 rfl (lv_at hl 0 rfl) ?_
    refine u_getr (pc := 16) (o' := 3) X V (X.fix rfl) rfl rfl f_FF_19 rfl rfl d_FF_got_16 ?_
    refine u_getr (pc := 19) (o' := 19) X V (X.fix rfl) rfl rfl f_FF_110 rfl rfl d_FF_got_19 ?_
    refine lv_iload_n (pc := 22) hx hb d_FF_got_22 rfl (lv_at hl 1 rfl) ?_
    refine u_aald (pc := 23) X V (X.fix rfl) rfl (by decide) rfl h.1 d_FF_got_23 (fun z4 ez4 => ?_)
    have h := h.2 z4 ez4
    refine u_astore_n (pc := 24) (lv' := [(3, va_rf (Option.map A z4)), (0, .ref (A 1)), (1, .int x1), (2, .int x2)]) hx hb d_FF_got_24 rfl hl (by decide) rfl (fun ls hl => ?_)
    refine u_aload_n (pc := 25) hx hb d_FF_got_25 rfl (lv_at hl 0 rfl) ?_
    rcases z4 with _ | i5
    · have h := h.1 rfl
      refine lv_ifnonnullN (pc := 26) hx hb d_FF_got_26 ?_
      refine lv_iconst (pc := 29) (v := (-1)) hx hb d_FF_got_29 (by decide) ?_
      refine lv_goto (pc := 30) (tgt := 38) hx hb d_FF_got_30 (by decide) ?_
      exact u_retiX (pc := 38) X V hE hk hr hlk hsz h d_FF_got_38
    · have h := h.2 i5 rfl
      refine lv_ifnonnull (pc := 26) (tgt := 33) hx hb d_FF_got_26 (by decide) ?_
      refine lv_aload_n (pc := 33) hx hb d_FF_got_33 rfl (lv_at hl 0 rfl) ?_
      refine lv_iload_n (pc := 34) hx hb d_FF_got_34 rfl (lv_at hl 3 rfl) ?_
      have h_i5 := h.1
      have h := h.2
      refine u_cVi (pc := 35) (As := [.int x2]) X V s_FF_114 h_i5.1 h_i5.2.1 rfl rfl (c_Sf_byteAt l D cc L A J t16 t32 _ _ i5 h_i5 x2 _ h) ⟨rfl, rfl, Nat.le_of_ble_eq_true rfl, Nat.le_of_ble_eq_true rfl⟩ rfl hl.1 rfl (Nat.le_of_ble_eq_true rfl) d_FF_got_35 hk (fun r8 I6 R7 h H locs V => ?_)
      exact u_retiX (pc := 38) X V hE hk hr hlk hsz h d_FF_got_38
  · have h := h.2 hc
    exact u_throw (pc := 7) (k := 1) X V hfl hne hlk hsz h.2 n_FF_30 xW1 ⟨xFit.1, xFit.2.2⟩ hl.1 (Nat.le_of_ble_eq_true rfl) (Nat.le_of_ble_eq_true rfl) h.1 ⟨Nat.le_refl _, Nat.le_refl _⟩ d_FF_got_7 d_FF_got_10 d_FF_got_11 d_FF_got_14
-- FrameFerry.feed (IIIII)I
theorem d_FF_feed_0 : decode prog_1_method_3_code 0 = .ok (.iload_n 1, 1) := by decide +kernel
theorem d_FF_feed_1 : decode prog_1_method_3_code 1 = .ok (.ifCond .lt 9, 3) := by decide +kernel
theorem d_FF_feed_4 : decode prog_1_method_3_code 4 = .ok (.iload_n 1, 1) := by decide +kernel
theorem d_FF_feed_5 : decode prog_1_method_3_code 5 = .ok (.bipush 16, 2) := by decide +kernel
theorem d_FF_feed_7 : decode prog_1_method_3_code 7 = .ok (.if_icmp .le 11, 3) := by decide +kernel
theorem d_FF_feed_10 : decode prog_1_method_3_code 10 = .ok (.new 30, 3) := by decide +kernel
theorem d_FF_feed_13 : decode prog_1_method_3_code 13 = .ok (.dup, 1) := by decide +kernel
theorem d_FF_feed_14 : decode prog_1_method_3_code 14 = .ok (.invokespecial 32, 3) := by decide +kernel
theorem d_FF_feed_17 : decode prog_1_method_3_code 17 = .ok (.athrow, 1) := by decide +kernel
theorem d_FF_feed_18 : decode prog_1_method_3_code 18 = .ok (.aload_n 0, 1) := by decide +kernel
theorem d_FF_feed_19 : decode prog_1_method_3_code 19 = .ok (.getfield 10, 3) := by decide +kernel
theorem d_FF_feed_22 : decode prog_1_method_3_code 22 = .ok (.aload_n 0, 1) := by decide +kernel
theorem d_FF_feed_23 : decode prog_1_method_3_code 23 = .ok (.getfield 10, 3) := by decide +kernel
theorem d_FF_feed_26 : decode prog_1_method_3_code 26 = .ok (.getfield 33, 3) := by decide +kernel
theorem d_FF_feed_29 : decode prog_1_method_3_code 29 = .ok (.iconst 1, 1) := by decide +kernel
theorem d_FF_feed_30 : decode prog_1_method_3_code 30 = .ok (.isub, 1) := by decide +kernel
theorem d_FF_feed_31 : decode prog_1_method_3_code 31 = .ok (.invokevirtual 47, 3) := by decide +kernel
theorem d_FF_feed_34 : decode prog_1_method_3_code 34 = .ok (.astore 6, 2) := by decide +kernel
theorem d_FF_feed_36 : decode prog_1_method_3_code 36 = .ok (.aload 6, 2) := by decide +kernel
theorem d_FF_feed_38 : decode prog_1_method_3_code 38 = .ok (.ifnull 27, 3) := by decide +kernel
theorem d_FF_feed_41 : decode prog_1_method_3_code 41 = .ok (.aload 6, 2) := by decide +kernel
theorem d_FF_feed_43 : decode prog_1_method_3_code 43 = .ok (.getfield 51, 3) := by decide +kernel
theorem d_FF_feed_46 : decode prog_1_method_3_code 46 = .ok (.iload_n 1, 1) := by decide +kernel
theorem d_FF_feed_47 : decode prog_1_method_3_code 47 = .ok (.iadd, 1) := by decide +kernel
theorem d_FF_feed_48 : decode prog_1_method_3_code 48 = .ok (.sipush 300, 3) := by decide +kernel
theorem d_FF_feed_51 : decode prog_1_method_3_code 51 = .ok (.if_icmp .gt 14, 3) := by decide +kernel
theorem d_FF_feed_54 : decode prog_1_method_3_code 54 = .ok (.aload_n 0, 1) := by decide +kernel
theorem d_FF_feed_55 : decode prog_1_method_3_code 55 = .ok (.getfield 10, 3) := by decide +kernel
theorem d_FF_feed_58 : decode prog_1_method_3_code 58 = .ok (.getfield 37, 3) := by decide +kernel
theorem d_FF_feed_61 : decode prog_1_method_3_code 61 = .ok (.iconst 5, 1) := by decide +kernel
theorem d_FF_feed_62 : decode prog_1_method_3_code 62 = .ok (.if_icmp .eq 11, 3) := by decide +kernel
theorem d_FF_feed_65 : decode prog_1_method_3_code 65 = .ok (.new 40, 3) := by decide +kernel
theorem d_FF_feed_68 : decode prog_1_method_3_code 68 = .ok (.dup, 1) := by decide +kernel
theorem d_FF_feed_69 : decode prog_1_method_3_code 69 = .ok (.invokespecial 42, 3) := by decide +kernel
theorem d_FF_feed_72 : decode prog_1_method_3_code 72 = .ok (.athrow, 1) := by decide +kernel
theorem d_FF_feed_73 : decode prog_1_method_3_code 73 = .ok (.iconst 0, 1) := by decide +kernel
theorem d_FF_feed_74 : decode prog_1_method_3_code 74 = .ok (.istore 7, 2) := by decide +kernel
theorem d_FF_feed_76 : decode prog_1_method_3_code 76 = .ok (.iload 7, 2) := by decide +kernel
theorem d_FF_feed_78 : decode prog_1_method_3_code 78 = .ok (.iload_n 1, 1) := by decide +kernel
theorem d_FF_feed_79 : decode prog_1_method_3_code 79 = .ok (.if_icmp .ge 64, 3) := by decide +kernel
theorem d_FF_feed_82 : decode prog_1_method_3_code 82 = .ok (.iload 7, 2) := by decide +kernel
theorem d_FF_feed_84 : decode prog_1_method_3_code 84 = .ok (.iconst 4, 1) := by decide +kernel
theorem d_FF_feed_85 : decode prog_1_method_3_code 85 = .ok (.if_icmp .ge 7, 3) := by decide +kernel
theorem d_FF_feed_88 : decode prog_1_method_3_code 88 = .ok (.iload_n 2, 1) := by decide +kernel
theorem d_FF_feed_89 : decode prog_1_method_3_code 89 = .ok (.goto 28, 3) := by decide +kernel
theorem d_FF_feed_92 : decode prog_1_method_3_code 92 = .ok (.iload 7, 2) := by decide +kernel
theorem d_FF_feed_94 : decode prog_1_method_3_code 94 = .ok (.bipush 8, 2) := by decide +kernel
theorem d_FF_feed_96 : decode prog_1_method_3_code 96 = .ok (.if_icmp .ge 7, 3) := by decide +kernel
theorem d_FF_feed_99 : decode prog_1_method_3_code 99 = .ok (.iload_n 3, 1) := by decide +kernel
theorem d_FF_feed_100 : decode prog_1_method_3_code 100 = .ok (.goto 17, 3) := by decide +kernel
theorem d_FF_feed_103 : decode prog_1_method_3_code 103 = .ok (.iload 7, 2) := by decide +kernel
theorem d_FF_feed_105 : decode prog_1_method_3_code 105 = .ok (.bipush 12, 2) := by decide +kernel
theorem d_FF_feed_107 : decode prog_1_method_3_code 107 = .ok (.if_icmp .ge 8, 3) := by decide +kernel
theorem d_FF_feed_110 : decode prog_1_method_3_code 110 = .ok (.iload 4, 2) := by decide +kernel
theorem d_FF_feed_112 : decode prog_1_method_3_code 112 = .ok (.goto 5, 3) := by decide +kernel
theorem d_FF_feed_115 : decode prog_1_method_3_code 115 = .ok (.iload 5, 2) := by decide +kernel
theorem d_FF_feed_117 : decode prog_1_method_3_code 117 = .ok (.istore 8, 2) := by decide +kernel
theorem d_FF_feed_119 : decode prog_1_method_3_code 119 = .ok (.aload 6, 2) := by decide +kernel
theorem d_FF_feed_121 : decode prog_1_method_3_code 121 = .ok (.iload 8, 2) := by decide +kernel
theorem d_FF_feed_123 : decode prog_1_method_3_code 123 = .ok (.bipush 24, 2) := by decide +kernel
theorem d_FF_feed_125 : decode prog_1_method_3_code 125 = .ok (.bipush 8, 2) := by decide +kernel
theorem d_FF_feed_127 : decode prog_1_method_3_code 127 = .ok (.iload 7, 2) := by decide +kernel
theorem d_FF_feed_129 : decode prog_1_method_3_code 129 = .ok (.iconst 3, 1) := by decide +kernel
theorem d_FF_feed_130 : decode prog_1_method_3_code 130 = .ok (.iand, 1) := by decide +kernel
theorem d_FF_feed_131 : decode prog_1_method_3_code 131 = .ok (.imul, 1) := by decide +kernel
theorem d_FF_feed_132 : decode prog_1_method_3_code 132 = .ok (.isub, 1) := by decide +kernel
theorem d_FF_feed_133 : decode prog_1_method_3_code 133 = .ok (.iushr, 1) := by decide +kernel
theorem d_FF_feed_134 : decode prog_1_method_3_code 134 = .ok (.invokevirtual 56, 3) := by decide +kernel
theorem d_FF_feed_137 : decode prog_1_method_3_code 137 = .ok (.iinc 7 1, 3) := by decide +kernel
theorem d_FF_feed_140 : decode prog_1_method_3_code 140 = .ok (.goto (-64), 3) := by decide +kernel
theorem d_FF_feed_143 : decode prog_1_method_3_code 143 = .ok (.aload 6, 2) := by decide +kernel
theorem d_FF_feed_145 : decode prog_1_method_3_code 145 = .ok (.getfield 51, 3) := by decide +kernel
theorem d_FF_feed_148 : decode prog_1_method_3_code 148 = .ok (.ireturn, 1) := by decide +kernel
def rm_FF_feed (mc ms : Nat) : Room := { frames := 6, cells := mc, slots := ms, locals := 110 }
def wp_FF_feed_L117 (mc ms : Nat) (Q : Int32 → List Nat → UI → UR → Prop) (QE : Nat → Prop) (K76 : Nat → Nat → List Nat → UI → UR → Int32 → Int32 → Int32 → Int32 → Int32 → Option Nat → Int32 → Prop) (kc : Nat) (ks : Nat) (L : List Nat) (I : UI) (R : UR) (x1 : Int32) (x2 : Int32) (x3 : Int32) (x4 : Int32) (x5 : Int32) (z6 : Option Nat) (x7 : Int32) (s0 : Int32) : Prop :=
  (∃ i6 : Nat, z6 = some i6 ∧ isSf L i6 ∧ wp_Sf_append I R i6 (ush s0 (24 - (8 * (x7 &&& 3)))) (fun I7 R8 => ∀ v9 : Int32, v9 = x7 + 1 → K76 kc ks L I7 R8 x1 x2 x3 x4 x5 (some i6) v9))
set_option maxHeartbeats 4000000 in
set_option maxRecDepth 100000 in
theorem j_FF_feed_117 {mc ms : Nat} (hr : meth.sig.returnType = (some .int)) (hlk : meth.locks = false) (hsz : sz = s.heap.size) {Q : Int32 → List Nat → UI → UR → Prop} {QE : Nat → Prop} {I0 : UI} {R0 : UR} {K76 : Nat → Nat → List Nat → UI → UR → Int32 → Int32 → Int32 → Int32 → Int32 → Option Nat → Int32 → Prop} (hK76 : ∀ (kc : Nat) (ks : Nat) (L : List Nat) (A : Nat → Nat) (I : UI) (R : UR) (x1 : Int32) (x2 : Int32) (x3 : Int32) (x4 : Int32) (x5 : Int32) (z6 : Option Nat) (x7 : Int32) (H : Heap) (locs : List Loc) (ls : Array Slot), kc ≤ mc ∧ ks ≤ ms → uEx s.heap.size L0 A0 L A → uX p s m args c prog_1_method_3_code 9 "FrameFerry" D cc L A t16 t32 → uV s D cc L A J I R H locs → lv_has ls 9 [(1, .int x1), (2, .int x2), (3, .int x3), (4, .int x4), (5, .int x5), (6, va_rf (Option.map A z6)), (7, .int x7)] → K76 kc ks L I R x1 x2 x3 x4 x5 z6 x7 → W p l e (rm_FF_feed mc ms) s m args below meth c H locs kc ks (MQX below (uQX Q QE D cc L0 A0 J I0 R0 sz) args s mc ms (uA L0 A0 sz)) (F0 m 76 ls [])) {kc : Nat} {ks : Nat} {L : List Nat} {A : Nat → Nat} {I : UI} {R : UR} {x1 : Int32} {x2 : Int32} {x3 : Int32} {x4 : Int32} {x5 : Int32} {z6 : Option Nat} {x7 : Int32} {s0 : Int32} {H : Heap} {locs : List Loc} {ls : Array Slot} (hk : kc ≤ mc ∧ ks ≤ ms) (hE : uEx s.heap.size L0 A0 L A) (X : uX p s m args c prog_1_method_3_code 9 "FrameFerry" D cc L A t16 t32) (V : uV s D cc L A J I R H locs) (hl : lv_has ls 9 [(1, .int x1), (2, .int x2), (3, .int x3), (4, .int x4), (5, .int x5), (6, va_rf (Option.map A z6)), (7, .int x7)]) (h : wp_FF_feed_L117 mc ms Q QE K76 kc ks L I R x1 x2 x3 x4 x5 z6 x7 s0) : W p l e (rm_FF_feed mc ms) s m args below meth c H locs kc ks (MQX below (uQX Q QE D cc L0 A0 J I0 R0 sz) args s mc ms (uA L0 A0 sz)) (F0 m 117 ls [.int s0]) := by
  have hx := X.1
  have hb := X.2.1
  unfold wp_FF_feed_L117 at h
  refine lv_istore (pc := 117) (lv' := [(8, .int s0), (1, .int x1), (2, .int x2), (3, .int x3), (4, .int x4), (5, .int x5), (6, va_rf (Option.map A z6)), (7, .int x7)]) hx hb d_FF_feed_117 hl (by decide) rfl (fun ls hl => ?_)
  refine u_aload (pc := 119) hx hb d_FF_feed_119 (lv_at hl 6 rfl) ?_
  refine lv_iload (pc := 121) hx hb d_FF_feed_121 (lv_at hl 0 rfl) ?_
  refine lv_bipush (pc := 123) (v := 24) hx hb d_FF_feed_123 (by decide) ?_
  refine lv_bipush (pc := 125) (v := 8) hx hb d_FF_feed_125 (by decide) ?_
  refine lv_iload (pc := 127) hx hb d_FF_feed_127 (lv_at hl 7 rfl) ?_
  refine lv_iconst (pc := 129) (v := 3) hx hb d_FF_feed_129 (by decide) ?_
  refine lv_iand (pc := 130) hx hb d_FF_feed_130 ?_
  refine lv_imul (pc := 131) hx hb d_FF_feed_131 ?_
  refine lv_isub (pc := 132) hx hb d_FF_feed_132 ?_
  refine lv_iushr (pc := 133) (v := ush s0 (24 - (8 * (x7 &&& 3)))) hx hb d_FF_feed_133 rfl ?_
  obtain ⟨i6, rfl, h_i6, h⟩ := h
  refine u_cVv (pc := 134) (As := [.int (ush s0 (24 - (8 * (x7 &&& 3))))]) X V s_FF_56 h_i6.1 h_i6.2.1 rfl rfl (c_Sf_append l D cc L A J t16 t32 _ _ i6 h_i6 (ush s0 (24 - (8 * (x7 &&& 3)))) _ h) ⟨rfl, rfl, Nat.le_of_ble_eq_true rfl, Nat.le_of_ble_eq_true rfl⟩ rfl hl.1 rfl (Nat.le_of_ble_eq_true rfl) d_FF_feed_134 hk (fun I7 R8 h H locs V => ?_)
  obtain ⟨v9, ev9⟩ : ∃ z : Int32, z = x7 + 1 := ⟨_, rfl⟩
  have h := h v9 ev9
  refine lv_iinc (pc := 137) (k := 7) (v := v9) (lv' := [(7, .int v9), (8, .int s0), (1, .int x1), (2, .int x2), (3, .int x3), (4, .int x4), (5, .int x5), (6, va_rf (Option.map A (some i6)))]) hx hb d_FF_feed_137 hl rfl (by rw [ev9]; rfl) (by decide) rfl (fun ls hl => ?_)
  refine lv_goto (pc := 140) (tgt := 76) hx hb d_FF_feed_140 (by decide) ?_
  exact hK76 kc ks L A I7 R8 x1 x2 x3 x4 x5 (some i6) v9 H locs ls hk hE X V (lv_sub hl [2, 3, 4, 5, 6, 7, 0] rfl) h
def wp_FF_feed_L76 (mc ms : Nat) (Q : Int32 → List Nat → UI → UR → Prop) (QE : Nat → Prop) : Nat → Nat → Nat → List Nat → UI → UR → Int32 → Int32 → Int32 → Int32 → Int32 → Option Nat → Int32 → Prop
  | 0, _, _, _, _, _, _, _, _, _, _, _, _ => False
  | n + 1, kc, ks, L, I, R, x1, x2, x3, x4, x5, z6, x7 => ((x1 ≤ x7 → (∃ i5 : Nat, z6 = some i5 ∧ isSf L i5 ∧ Q (I i5 2) L I R)) ∧ (¬ x1 ≤ x7 → ((4 ≤ x7 → ((8 ≤ x7 → ((12 ≤ x7 → wp_FF_feed_L117 mc ms Q QE (fun kc ks L I R x1 x2 x3 x4 x5 z6 x7 => wp_FF_feed_L76 mc ms Q QE n kc ks L I R x1 x2 x3 x4 x5 z6 x7) kc ks L I R x1 x2 x3 x4 x5 z6 x7 x5) ∧ (¬ 12 ≤ x7 → wp_FF_feed_L117 mc ms Q QE (fun kc ks L I R x1 x2 x3 x4 x5 z6 x7 => wp_FF_feed_L76 mc ms Q QE n kc ks L I R x1 x2 x3 x4 x5 z6 x7) kc ks L I R x1 x2 x3 x4 x5 z6 x7 x4))) ∧ (¬ 8 ≤ x7 → wp_FF_feed_L117 mc ms Q QE (fun kc ks L I R x1 x2 x3 x4 x5 z6 x7 => wp_FF_feed_L76 mc ms Q QE n kc ks L I R x1 x2 x3 x4 x5 z6 x7) kc ks L I R x1 x2 x3 x4 x5 z6 x7 x3))) ∧ (¬ 4 ≤ x7 → wp_FF_feed_L117 mc ms Q QE (fun kc ks L I R x1 x2 x3 x4 x5 z6 x7 => wp_FF_feed_L76 mc ms Q QE n kc ks L I R x1 x2 x3 x4 x5 z6 x7) kc ks L I R x1 x2 x3 x4 x5 z6 x7 x2))))
set_option maxHeartbeats 4000000 in
set_option maxRecDepth 100000 in
theorem j_FF_feed_76 {mc ms : Nat} (hr : meth.sig.returnType = (some .int)) (hlk : meth.locks = false) (hsz : sz = s.heap.size) {Q : Int32 → List Nat → UI → UR → Prop} {QE : Nat → Prop} {I0 : UI} {R0 : UR} : ∀ (n : Nat) (kc : Nat) (ks : Nat) (L : List Nat) (A : Nat → Nat) (I : UI) (R : UR) (x1 : Int32) (x2 : Int32) (x3 : Int32) (x4 : Int32) (x5 : Int32) (z6 : Option Nat) (x7 : Int32) (H : Heap) (locs : List Loc) (ls : Array Slot), kc ≤ mc ∧ ks ≤ ms → uEx s.heap.size L0 A0 L A → uX p s m args c prog_1_method_3_code 9 "FrameFerry" D cc L A t16 t32 → uV s D cc L A J I R H locs → lv_has ls 9 [(1, .int x1), (2, .int x2), (3, .int x3), (4, .int x4), (5, .int x5), (6, va_rf (Option.map A z6)), (7, .int x7)] → wp_FF_feed_L76 mc ms Q QE n kc ks L I R x1 x2 x3 x4 x5 z6 x7 → W p l e (rm_FF_feed mc ms) s m args below meth c H locs kc ks (MQX below (uQX Q QE D cc L0 A0 J I0 R0 sz) args s mc ms (uA L0 A0 sz)) (F0 m 76 ls []) := by
  intro n
  induction n with
  | zero => exact fun kc ks L A I R x1 x2 x3 x4 x5 z6 x7 H locs ls hk hE X V hl h => False.elim h
  | succ n ih =>
    intro kc ks L A I R x1 x2 x3 x4 x5 z6 x7 H locs ls hk hE X V hl h
    have hx := X.1
    have hb := X.2.1
    rw [wp_FF_feed_L76] at h
    refine lv_iload (pc := 76) hx hb d_FF_feed_76 (lv_at hl 6 rfl) ?_
    refine lv_iload_n (pc := 78) hx hb d_FF_feed_78 rfl (lv_at hl 0 rfl) ?_
    refine lv_icmp_ge (pc := 79) (tgt := 143) hx hb d_FF_feed_79 (by decide) (fun hc => ?_) (fun hc => ?_)
    · have h := h.1 hc
      refine u_aload (pc := 143) hx hb d_FF_feed_143 (lv_at hl 5 rfl) ?_
      obtain ⟨i5, rfl, h_i5, h⟩ := h
      refine u_geti (pc := 145) X V h_i5.1 h_i5.2.1 rfl f_FF_51 rfl d_FF_feed_145 ?_
      exact u_retiX (pc := 148) X V hE hk hr hlk hsz h d_FF_feed_148
    · have h := h.2 hc
      refine lv_iload (pc := 82) hx hb d_FF_feed_82 (lv_at hl 6 rfl) ?_
      refine lv_iconst (pc := 84) (v := 4) hx hb d_FF_feed_84 (by decide) ?_
      refine lv_icmp_ge (pc := 85) (tgt := 92) hx hb d_FF_feed_85 (by decide) (fun hc => ?_) (fun hc => ?_)
      · have h := h.1 hc
        refine lv_iload (pc := 92) hx hb d_FF_feed_92 (lv_at hl 6 rfl) ?_
        refine lv_bipush (pc := 94) (v := 8) hx hb d_FF_feed_94 (by decide) ?_
        refine lv_icmp_ge (pc := 96) (tgt := 103) hx hb d_FF_feed_96 (by decide) (fun hc => ?_) (fun hc => ?_)
        · have h := h.1 hc
          refine lv_iload (pc := 103) hx hb d_FF_feed_103 (lv_at hl 6 rfl) ?_
          refine lv_bipush (pc := 105) (v := 12) hx hb d_FF_feed_105 (by decide) ?_
          refine lv_icmp_ge (pc := 107) (tgt := 115) hx hb d_FF_feed_107 (by decide) (fun hc => ?_) (fun hc => ?_)
          · have h := h.1 hc
            refine lv_iload (pc := 115) hx hb d_FF_feed_115 (lv_at hl 4 rfl) ?_
            exact j_FF_feed_117 hr hlk hsz ih hk hE X V (lv_sub hl [0, 1, 2, 3, 4, 5, 6] rfl) h
          · have h := h.2 hc
            refine lv_iload (pc := 110) hx hb d_FF_feed_110 (lv_at hl 3 rfl) ?_
            refine lv_goto (pc := 112) (tgt := 117) hx hb d_FF_feed_112 (by decide) ?_
            exact j_FF_feed_117 hr hlk hsz ih hk hE X V (lv_sub hl [0, 1, 2, 3, 4, 5, 6] rfl) h
        · have h := h.2 hc
          refine lv_iload_n (pc := 99) hx hb d_FF_feed_99 rfl (lv_at hl 2 rfl) ?_
          refine lv_goto (pc := 100) (tgt := 117) hx hb d_FF_feed_100 (by decide) ?_
          exact j_FF_feed_117 hr hlk hsz ih hk hE X V (lv_sub hl [0, 1, 2, 3, 4, 5, 6] rfl) h
      · have h := h.2 hc
        refine lv_iload_n (pc := 88) hx hb d_FF_feed_88 rfl (lv_at hl 1 rfl) ?_
        refine lv_goto (pc := 89) (tgt := 117) hx hb d_FF_feed_89 (by decide) ?_
        exact j_FF_feed_117 hr hlk hsz ih hk hE X V (lv_sub hl [0, 1, 2, 3, 4, 5, 6] rfl) h
def wp_FF_feed (mc ms : Nat) (L : List Nat) (I : UI) (R : UR) (x1 : Int32) (x2 : Int32) (x3 : Int32) (x4 : Int32) (x5 : Int32) (Q : Int32 → List Nat → UI → UR → Prop) (QE : Nat → Prop) : Prop :=
  ((x1 < 0 → ((0 + 1 ≤ mc ∧ 0 + 6 ≤ ms) ∧ QE 1)) ∧ (¬ x1 < 0 → ((x1 ≤ 16 → wp_Se_fileAt L I R ((I 2 1) - 1) (fun z3 _ _ => ((z3 = none → ((0 + 1 ≤ mc ∧ 0 + 6 ≤ ms) ∧ QE 2)) ∧ (∀ i4 : Nat, z3 = some i4 → isSf L i4 ∧ ((300 < (I i4 2) + x1 → ((0 + 1 ≤ mc ∧ 0 + 6 ≤ ms) ∧ QE 2)) ∧ (¬ 300 < (I i4 2) + x1 → ((I 2 2 = 5 → (∃ n76 : Nat, wp_FF_feed_L76 mc ms Q QE n76 0 0 L I R x1 x2 x3 x4 x5 (some i4) 0)) ∧ (¬ I 2 2 = 5 → ((0 + 1 ≤ mc ∧ 0 + 6 ≤ ms) ∧ QE 2))))))))) ∧ (¬ x1 ≤ 16 → ((0 + 1 ≤ mc ∧ 0 + 6 ≤ ms) ∧ QE 1)))))
set_option maxHeartbeats 4000000 in
set_option maxRecDepth 100000 in
theorem c_FF_feed (l : Launch) (hfl : l.flags = pinnedFlags ++ [noTraceFlag]) (D : va_G) (cc : Nat → ClassId) (L : List Nat) (A : Nat → Nat) (J : Nat → Int64) (t16 t32 : Nat) (mc ms : Nat) (I : UI) (R : UR) (x1 : Int32) (x2 : Int32) (x3 : Int32) (x4 : Int32) (x5 : Int32) (Q : Int32 → List Nat → UI → UR → Prop) (QE : Nat → Prop) (h : wp_FF_feed mc ms L I R x1 x2 x3 x4 x5 Q QE) : uMX l y_FF_feed (.code y_FF_feed prog_1_method_3_code 9 (some .int)) (rm_FF_feed mc ms) mc ms [.ref (A 1), .int x1, .int x2, .int x3, .int x4, .int x5] D cc L A J t16 t32 I R Q QE := by
  intro sz
  refine u_entryX (by decide) (Nat.le_of_ble_eq_true rfl) (fun p e s m args below meth c hsz X V hr hlk hne ls hl => ?_)
  have X : uX p s m args c prog_1_method_3_code 9 "FrameFerry" D cc L A t16 t32 := X
  have hx := X.1
  have hb := X.2.1
  have hl : lv_has ls 9 [(0, .ref (A 1)), (1, .int x1), (2, .int x2), (3, .int x3), (4, .int x4), (5, .int x5)] := hl
  unfold wp_FF_feed at h
  have hE : uEx s.heap.size L A L A := uEx.rf X.2.2.2.2.2.2.1 X.2.2.2.2.2.2.2.1
  have hk : 0 ≤ mc ∧ 0 ≤ ms := ⟨Nat.zero_le _, Nat.zero_le _⟩
  refine lv_iload_n (pc := 0) hx hb d_FF_feed_0 rfl (lv_at hl 1 rfl) ?_
  refine lv_if_lt (pc := 1) (tgt := 10) hx hb d_FF_feed_1 (by decide) (fun hc => ?_) (fun hc => ?_)
  · have h := h.1 hc
    exact u_throw (pc := 10) (k := 1) X V hfl hne hlk hsz h.2 n_FF_30 xW1 ⟨xFit.1, xFit.2.2⟩ hl.1 (Nat.le_of_ble_eq_true rfl) (Nat.le_of_ble_eq_true rfl) h.1 ⟨Nat.le_refl _, Nat.le_refl _⟩ d_FF_feed_10 d_FF_feed_13 d_FF_feed_14 d_FF_feed_17
  · have h := h.2 hc
    refine lv_iload_n (pc := 4) hx hb d_FF_feed_4 rfl (lv_at hl 1 rfl) ?_
    refine lv_bipush (pc := 5) (v := 16) hx hb d_FF_feed_5 (by decide) ?_
    refine lv_icmp_le (pc := 7) (tgt := 18) hx hb d_FF_feed_7 (by decide) (fun hc => ?_) (fun hc => ?_)
    · have h := h.1 hc
      refine lv_aload_n (pc := 18) hx hb d_FF_feed_18 rfl (lv_at hl 0 rfl) ?_
      refine u_getr (pc := 19) (o' := 2) X V (X.fix rfl) rfl rfl f_FF_10 rfl rfl d_FF_feed_19 ?_
      refine lv_aload_n (pc := 22) hx hb d_FF_feed_22 rfl (lv_at hl 0 rfl) ?_
      refine u_getr (pc := 23) (o' := 2) X V (X.fix rfl) rfl rfl f_FF_10 rfl rfl d_FF_feed_23 ?_
      refine u_geti (pc := 26) X V (X.fix rfl) rfl rfl f_FF_33 rfl d_FF_feed_26 ?_
      refine lv_iconst (pc := 29) (v := 1) hx hb d_FF_feed_29 (by decide) ?_
      refine lv_isub (pc := 30) hx hb d_FF_feed_30 ?_
      refine u_cVrP (pc := 31) (As := [.int ((I 2 1) - 1)]) X V s_FF_47 (X.fix rfl) rfl rfl rfl (cp_Se_fileAt l D cc L A J t16 t32 _ _ ((I 2 1) - 1) _ h) ⟨rfl, rfl, Nat.le_of_ble_eq_true rfl, Nat.le_of_ble_eq_true rfl⟩ rfl hl.1 rfl (Nat.le_of_ble_eq_true rfl) d_FF_feed_31 hk (fun z3 h => ?_)
      refine u_astore (pc := 34) (lv' := [(6, va_rf (Option.map A z3)), (0, .ref (A 1)), (1, .int x1), (2, .int x2), (3, .int x3), (4, .int x4), (5, .int x5)]) hx hb d_FF_feed_34 hl (by decide) rfl (fun ls hl => ?_)
      refine u_aload (pc := 36) hx hb d_FF_feed_36 (lv_at hl 0 rfl) ?_
      rcases z3 with _ | i4
      · have h := h.1 rfl
        refine lv_ifnullN (pc := 38) (tgt := 65) hx hb d_FF_feed_38 (by decide) ?_
        exact u_throw (pc := 65) (k := 2) X V hfl hne hlk hsz h.2 n_FF_40 xW2 ⟨xFit.2.1, xFit.2.2⟩ hl.1 (Nat.le_of_ble_eq_true rfl) (Nat.le_of_ble_eq_true rfl) h.1 ⟨Nat.le_refl _, Nat.le_refl _⟩ d_FF_feed_65 d_FF_feed_68 d_FF_feed_69 d_FF_feed_72
      · have h := h.2 i4 rfl
        refine lv_ifnull (pc := 38) hx hb d_FF_feed_38 ?_
        refine lv_aload (pc := 41) hx hb d_FF_feed_41 (lv_at hl 0 rfl) ?_
        have h_i4 := h.1
        have h := h.2
        refine u_geti (pc := 43) X V h_i4.1 h_i4.2.1 rfl f_FF_51 rfl d_FF_feed_43 ?_
        refine lv_iload_n (pc := 46) hx hb d_FF_feed_46 rfl (lv_at hl 2 rfl) ?_
        refine lv_iadd (pc := 47) hx hb d_FF_feed_47 ?_
        refine lv_sipush (pc := 48) (v := 300) hx hb d_FF_feed_48 (by decide) ?_
        refine lv_icmp_gt (pc := 51) (tgt := 65) hx hb d_FF_feed_51 (by decide) (fun hc => ?_) (fun hc => ?_)
        · have h := h.1 hc
          exact u_throw (pc := 65) (k := 2) X V hfl hne hlk hsz h.2 n_FF_40 xW2 ⟨xFit.2.1, xFit.2.2⟩ hl.1 (Nat.le_of_ble_eq_true rfl) (Nat.le_of_ble_eq_true rfl) h.1 ⟨Nat.le_refl _, Nat.le_refl _⟩ d_FF_feed_65 d_FF_feed_68 d_FF_feed_69 d_FF_feed_72
        · have h := h.2 hc
          refine lv_aload_n (pc := 54) hx hb d_FF_feed_54 rfl (lv_at hl 1 rfl) ?_
          refine u_getr (pc := 55) (o' := 2) X V (X.fix rfl) rfl rfl f_FF_10 rfl rfl d_FF_feed_55 ?_
          refine u_geti (pc := 58) X V (X.fix rfl) rfl rfl f_FF_37 rfl d_FF_feed_58 ?_
          refine lv_iconst (pc := 61) (v := 5) hx hb d_FF_feed_61 (by decide) ?_
          refine lv_icmp_eq (pc := 62) (tgt := 73) hx hb d_FF_feed_62 (by decide) (fun hc => ?_) (fun hc => ?_)
          · have h := h.1 hc
            refine lv_iconst (pc := 73) (v := 0) hx hb d_FF_feed_73 (by decide) ?_
            refine lv_istore (pc := 74) (lv' := [(7, .int 0), (6, va_rf (Option.map A (some i4))), (0, .ref (A 1)), (1, .int x1), (2, .int x2), (3, .int x3), (4, .int x4), (5, .int x5)]) hx hb d_FF_feed_74 hl (by decide) rfl (fun ls hl => ?_)
            obtain ⟨n76, h⟩ := h
            exact j_FF_feed_76 hr hlk hsz n76 0 0 L A I R x1 x2 x3 x4 x5 (some i4) 0 _ _ ls hk hE X V (lv_sub hl [3, 4, 5, 6, 7, 1, 0] rfl) h
          · have h := h.2 hc
            exact u_throw (pc := 65) (k := 2) X V hfl hne hlk hsz h.2 n_FF_40 xW2 ⟨xFit.2.1, xFit.2.2⟩ hl.1 (Nat.le_of_ble_eq_true rfl) (Nat.le_of_ble_eq_true rfl) h.1 ⟨Nat.le_refl _, Nat.le_refl _⟩ d_FF_feed_65 d_FF_feed_68 d_FF_feed_69 d_FF_feed_72
    · have h := h.2 hc
      exact u_throw (pc := 10) (k := 1) X V hfl hne hlk hsz h.2 n_FF_30 xW1 ⟨xFit.1, xFit.2.2⟩ hl.1 (Nat.le_of_ble_eq_true rfl) (Nat.le_of_ble_eq_true rfl) h.1 ⟨Nat.le_refl _, Nat.le_refl _⟩ d_FF_feed_10 d_FF_feed_13 d_FF_feed_14 d_FF_feed_17
-- FrameFerry.open (I)I
theorem d_FF_open_0 : decode prog_1_method_2_code 0 = .ok (.iload_n 1, 1) := by decide +kernel
theorem d_FF_open_1 : decode prog_1_method_2_code 1 = .ok (.invokestatic 23, 3) := by decide +kernel
theorem d_FF_open_4 : decode prog_1_method_2_code 4 = .ok (.ifCond .eq 14, 3) := by decide +kernel
theorem d_FF_open_7 : decode prog_1_method_2_code 7 = .ok (.aload_n 0, 1) := by decide +kernel
theorem d_FF_open_8 : decode prog_1_method_2_code 8 = .ok (.getfield 10, 3) := by decide +kernel
theorem d_FF_open_11 : decode prog_1_method_2_code 11 = .ok (.iload_n 1, 1) := by decide +kernel
theorem d_FF_open_12 : decode prog_1_method_2_code 12 = .ok (.invokevirtual 27, 3) := by decide +kernel
theorem d_FF_open_15 : decode prog_1_method_2_code 15 = .ok (.ifCond .eq 11, 3) := by decide +kernel
theorem d_FF_open_18 : decode prog_1_method_2_code 18 = .ok (.new 30, 3) := by decide +kernel
theorem d_FF_open_21 : decode prog_1_method_2_code 21 = .ok (.dup, 1) := by decide +kernel
theorem d_FF_open_22 : decode prog_1_method_2_code 22 = .ok (.invokespecial 32, 3) := by decide +kernel
theorem d_FF_open_25 : decode prog_1_method_2_code 25 = .ok (.athrow, 1) := by decide +kernel
theorem d_FF_open_26 : decode prog_1_method_2_code 26 = .ok (.aload_n 0, 1) := by decide +kernel
theorem d_FF_open_27 : decode prog_1_method_2_code 27 = .ok (.getfield 10, 3) := by decide +kernel
theorem d_FF_open_30 : decode prog_1_method_2_code 30 = .ok (.getfield 33, 3) := by decide +kernel
theorem d_FF_open_33 : decode prog_1_method_2_code 33 = .ok (.iconst 4, 1) := by decide +kernel
theorem d_FF_open_34 : decode prog_1_method_2_code 34 = .ok (.if_icmp .ge 14, 3) := by decide +kernel
theorem d_FF_open_37 : decode prog_1_method_2_code 37 = .ok (.aload_n 0, 1) := by decide +kernel
theorem d_FF_open_38 : decode prog_1_method_2_code 38 = .ok (.getfield 10, 3) := by decide +kernel
theorem d_FF_open_41 : decode prog_1_method_2_code 41 = .ok (.getfield 37, 3) := by decide +kernel
theorem d_FF_open_44 : decode prog_1_method_2_code 44 = .ok (.iconst 5, 1) := by decide +kernel
theorem d_FF_open_45 : decode prog_1_method_2_code 45 = .ok (.if_icmp .eq 11, 3) := by decide +kernel
theorem d_FF_open_48 : decode prog_1_method_2_code 48 = .ok (.new 40, 3) := by decide +kernel
theorem d_FF_open_51 : decode prog_1_method_2_code 51 = .ok (.dup, 1) := by decide +kernel
theorem d_FF_open_52 : decode prog_1_method_2_code 52 = .ok (.invokespecial 42, 3) := by decide +kernel
theorem d_FF_open_55 : decode prog_1_method_2_code 55 = .ok (.athrow, 1) := by decide +kernel
theorem d_FF_open_56 : decode prog_1_method_2_code 56 = .ok (.aload_n 0, 1) := by decide +kernel
theorem d_FF_open_57 : decode prog_1_method_2_code 57 = .ok (.getfield 10, 3) := by decide +kernel
theorem d_FF_open_60 : decode prog_1_method_2_code 60 = .ok (.iload_n 1, 1) := by decide +kernel
theorem d_FF_open_61 : decode prog_1_method_2_code 61 = .ok (.invokevirtual 43, 3) := by decide +kernel
theorem d_FF_open_64 : decode prog_1_method_2_code 64 = .ok (.aload_n 0, 1) := by decide +kernel
theorem d_FF_open_65 : decode prog_1_method_2_code 65 = .ok (.getfield 10, 3) := by decide +kernel
theorem d_FF_open_68 : decode prog_1_method_2_code 68 = .ok (.getfield 33, 3) := by decide +kernel
theorem d_FF_open_71 : decode prog_1_method_2_code 71 = .ok (.ireturn, 1) := by decide +kernel
def rm_FF_open (mc ms : Nat) : Room := { frames := 6, cells := mc, slots := ms, locals := 110 }
def wp_FF_open (mc ms : Nat) (L : List Nat) (I : UI) (R : UR) (x1 : Int32) (Q : Int32 → List Nat → UI → UR → Prop) (QE : Nat → Prop) : Prop :=
  wp_FF_isLetter L I R x1 (fun r3 _ _ => ((r3 = 0 → ((0 + 1 ≤ mc ∧ 0 + 6 ≤ ms) ∧ QE 1)) ∧ (¬ r3 = 0 → wp_Se_hasFile L I R x1 (fun r6 _ _ => ((r6 = 0 → ((4 ≤ I 2 1 → ((0 + 1 ≤ mc ∧ 0 + 6 ≤ ms) ∧ QE 2)) ∧ (¬ 4 ≤ I 2 1 → ((I 2 2 = 5 → (∃ c9 s10 : Nat, (0 + c9 ≤ mc ∧ 0 + s10 ≤ ms) ∧ wp_Se_addFile c9 s10 L I R x1 (fun L11 I7 R8 => Q (I7 2 1) L11 I7 R8))) ∧ (¬ I 2 2 = 5 → ((0 + 1 ≤ mc ∧ 0 + 6 ≤ ms) ∧ QE 2)))))) ∧ (¬ r6 = 0 → ((0 + 1 ≤ mc ∧ 0 + 6 ≤ ms) ∧ QE 1)))))))
set_option maxHeartbeats 4000000 in
set_option maxRecDepth 100000 in
theorem c_FF_open (l : Launch) (hfl : l.flags = pinnedFlags ++ [noTraceFlag]) (D : va_G) (cc : Nat → ClassId) (L : List Nat) (A : Nat → Nat) (J : Nat → Int64) (t16 t32 : Nat) (mc ms : Nat) (I : UI) (R : UR) (x1 : Int32) (Q : Int32 → List Nat → UI → UR → Prop) (QE : Nat → Prop) (h : wp_FF_open mc ms L I R x1 Q QE) : uMX l y_FF_open (.code y_FF_open prog_1_method_2_code 2 (some .int)) (rm_FF_open mc ms) mc ms [.ref (A 1), .int x1] D cc L A J t16 t32 I R Q QE := by
  intro sz
  refine u_entryX (by decide) (Nat.le_of_ble_eq_true rfl) (fun p e s m args below meth c hsz X V hr hlk hne ls hl => ?_)
  have X : uX p s m args c prog_1_method_2_code 2 "FrameFerry" D cc L A t16 t32 := X
  have hx := X.1
  have hb := X.2.1
  have hl : lv_has ls 2 [(0, .ref (A 1)), (1, .int x1)] := hl
  unfold wp_FF_open at h
  have hE : uEx s.heap.size L A L A := uEx.rf X.2.2.2.2.2.2.1 X.2.2.2.2.2.2.2.1
  have hk : 0 ≤ mc ∧ 0 ≤ ms := ⟨Nat.zero_le _, Nat.zero_le _⟩
  refine lv_iload_n (pc := 0) hx hb d_FF_open_0 rfl (lv_at hl 1 rfl) ?_
  refine u_cSiP (pc := 1) (As := [.int x1]) X V s_FF_23 (cp_FF_isLetter l D cc L A J t16 t32 _ _ x1 _ h) ⟨rfl, rfl, Nat.le_of_ble_eq_true rfl, Nat.le_of_ble_eq_true rfl⟩ rfl hl.1 rfl (Nat.le_of_ble_eq_true rfl) d_FF_open_1 hk (fun r3 h => ?_)
  refine lv_if_eq (pc := 4) (tgt := 18) hx hb d_FF_open_4 (by decide) (fun hc => ?_) (fun hc => ?_)
  · have h := h.1 hc
    exact u_throw (pc := 18) (k := 1) X V hfl hne hlk hsz h.2 n_FF_30 xW1 ⟨xFit.1, xFit.2.2⟩ hl.1 (Nat.le_of_ble_eq_true rfl) (Nat.le_of_ble_eq_true rfl) h.1 ⟨Nat.le_refl _, Nat.le_refl _⟩ d_FF_open_18 d_FF_open_21 d_FF_open_22 d_FF_open_25
  · have h := h.2 hc
    refine lv_aload_n (pc := 7) hx hb d_FF_open_7 rfl (lv_at hl 0 rfl) ?_
    refine u_getr (pc := 8) (o' := 2) X V (X.fix rfl) rfl rfl f_FF_10 rfl rfl d_FF_open_8 ?_
    refine lv_iload_n (pc := 11) hx hb d_FF_open_11 rfl (lv_at hl 1 rfl) ?_
    refine u_cViP (pc := 12) (As := [.int x1]) X V s_FF_27 (X.fix rfl) rfl rfl rfl (cp_Se_hasFile l D cc L A J t16 t32 _ _ x1 _ h) ⟨rfl, rfl, Nat.le_of_ble_eq_true rfl, Nat.le_of_ble_eq_true rfl⟩ rfl hl.1 rfl (Nat.le_of_ble_eq_true rfl) d_FF_open_12 hk (fun r6 h => ?_)
    refine lv_if_eq (pc := 15) (tgt := 26) hx hb d_FF_open_15 (by decide) (fun hc => ?_) (fun hc => ?_)
    · have h := h.1 hc
      refine lv_aload_n (pc := 26) hx hb d_FF_open_26 rfl (lv_at hl 0 rfl) ?_
      refine u_getr (pc := 27) (o' := 2) X V (X.fix rfl) rfl rfl f_FF_10 rfl rfl d_FF_open_27 ?_
      refine u_geti (pc := 30) X V (X.fix rfl) rfl rfl f_FF_33 rfl d_FF_open_30 ?_
      refine lv_iconst (pc := 33) (v := 4) hx hb d_FF_open_33 (by decide) ?_
      refine lv_icmp_ge (pc := 34) (tgt := 48) hx hb d_FF_open_34 (by decide) (fun hc => ?_) (fun hc => ?_)
      · have h := h.1 hc
        exact u_throw (pc := 48) (k := 2) X V hfl hne hlk hsz h.2 n_FF_40 xW2 ⟨xFit.2.1, xFit.2.2⟩ hl.1 (Nat.le_of_ble_eq_true rfl) (Nat.le_of_ble_eq_true rfl) h.1 ⟨Nat.le_refl _, Nat.le_refl _⟩ d_FF_open_48 d_FF_open_51 d_FF_open_52 d_FF_open_55
      · have h := h.2 hc
        refine lv_aload_n (pc := 37) hx hb d_FF_open_37 rfl (lv_at hl 0 rfl) ?_
        refine u_getr (pc := 38) (o' := 2) X V (X.fix rfl) rfl rfl f_FF_10 rfl rfl d_FF_open_38 ?_
        refine u_geti (pc := 41) X V (X.fix rfl) rfl rfl f_FF_37 rfl d_FF_open_41 ?_
        refine lv_iconst (pc := 44) (v := 5) hx hb d_FF_open_44 (by decide) ?_
        refine lv_icmp_eq (pc := 45) (tgt := 56) hx hb d_FF_open_45 (by decide) (fun hc => ?_) (fun hc => ?_)
        · have h := h.1 hc
          refine lv_aload_n (pc := 56) hx hb d_FF_open_56 rfl (lv_at hl 0 rfl) ?_
          refine u_getr (pc := 57) (o' := 2) X V (X.fix rfl) rfl rfl f_FF_10 rfl rfl d_FF_open_57 ?_
          refine lv_iload_n (pc := 60) hx hb d_FF_open_60 rfl (lv_at hl 1 rfl) ?_
          obtain ⟨c9, s10, hk1, h⟩ := h
          have X0 := X
          refine u_cVvA (pc := 61) (As := [.int x1]) X V hE s_FF_43 (X.fix rfl) rfl rfl rfl (c_Se_addFile l D cc L A J t16 t32 c9 s10 _ _ x1 _ h) ⟨rfl, rfl, Nat.le_of_ble_eq_true rfl, Nat.le_of_ble_eq_true rfl⟩ rfl hl.1 rfl (Nat.le_of_ble_eq_true rfl) d_FF_open_61 hk1 (fun L11 A12 I7 R8 h hG hE X H locs V => ?_)
          have hk := hk1
          have hl : lv_has ls 2 [(0, .ref (A 1))] := lv_sub hl [0] rfl
          have ea0 := (hG.2.2.1 1 (X0.fix rfl)).2
          try rw [← ea0] at hl
          try rw [← ea0]
          refine lv_aload_n (pc := 64) hx hb d_FF_open_64 rfl (lv_at hl 0 rfl) ?_
          refine u_getr (pc := 65) (o' := 2) X V (X.fix rfl) rfl rfl f_FF_10 rfl rfl d_FF_open_65 ?_
          refine u_geti (pc := 68) X V (X.fix rfl) rfl rfl f_FF_33 rfl d_FF_open_68 ?_
          exact u_retiX (pc := 71) X V hE hk hr hlk hsz h d_FF_open_71
        · have h := h.2 hc
          exact u_throw (pc := 48) (k := 2) X V hfl hne hlk hsz h.2 n_FF_40 xW2 ⟨xFit.2.1, xFit.2.2⟩ hl.1 (Nat.le_of_ble_eq_true rfl) (Nat.le_of_ble_eq_true rfl) h.1 ⟨Nat.le_refl _, Nat.le_refl _⟩ d_FF_open_48 d_FF_open_51 d_FF_open_52 d_FF_open_55
    · have h := h.2 hc
      exact u_throw (pc := 18) (k := 1) X V hfl hne hlk hsz h.2 n_FF_30 xW1 ⟨xFit.1, xFit.2.2⟩ hl.1 (Nat.le_of_ble_eq_true rfl) (Nat.le_of_ble_eq_true rfl) h.1 ⟨Nat.le_refl _, Nat.le_refl _⟩ d_FF_open_18 d_FF_open_21 d_FF_open_22 d_FF_open_25
end G
