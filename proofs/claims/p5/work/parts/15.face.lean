/-! Written by wip/gen/gen.py. -/
theorem f_FF_78 : uF "FrameFerry" 78 3 0 true (.object "FrameFerry$Pipe") := ⟨R_Rc, T_Rc, 12, ty_Rc, rfl, by decide, tb_of 191 (by decide +kernel) rfl, l_Rc, ty_Rc_ok, n_Rc, rfl, rfl⟩
theorem f_FF_69 : uF "FrameFerry" 69 4 0 true (.object "FrameFerry$Pipe") := ⟨R_Se, T_Se, 11, ty_Se, rfl, by decide, tb_of 140 (by decide +kernel) rfl, l_Se, ty_Se_ok, n_Se, rfl, rfl⟩
theorem f_FF_73 : uF "FrameFerry" 73 1 2 false .int := ⟨R_Pi, T_Pi, 3, ty_Pi, rfl, by decide, tb_of 43 (by decide +kernel) rfl, l_Pi, ty_Pi_ok, n_Pi, rfl, rfl⟩
theorem s_FF_79 : uCv "FrameFerry" 79 y_Se_readAll 1 (.code y_Se_readAll prog_6_method_8_code 4 none) := ⟨⟨tb_of 246 (by decide +kernel) rfl, tb_of 2 (by decide +kernel) rfl, tb_of 249 (by decide +kernel) rfl, by decide +kernel⟩, tb_of 247 (by decide +kernel) rfl, tb_of 248 (by decide +kernel) rfl⟩
theorem s_FF_83 : uCv "FrameFerry" 83 y_Se_sendPackets 0 (.code y_Se_sendPackets prog_6_method_10_code 3 none) := ⟨⟨tb_of 404 (by decide +kernel) rfl, tb_of 2 (by decide +kernel) rfl, tb_of 407 (by decide +kernel) rfl, by decide +kernel⟩, tb_of 405 (by decide +kernel) rfl, tb_of 406 (by decide +kernel) rfl⟩
theorem s_FF_86 : uCv "FrameFerry" 86 y_Rc_readAll 1 (.code y_Rc_readAll prog_5_method_4_code 4 none) := ⟨⟨tb_of 421 (by decide +kernel) rfl, tb_of 7 (by decide +kernel) rfl, tb_of 424 (by decide +kernel) rfl, by decide +kernel⟩, tb_of 422 (by decide +kernel) rfl, tb_of 423 (by decide +kernel) rfl⟩
theorem s_FF_87 : uCv "FrameFerry" 87 y_FF_pipeOf 1 (.code y_FF_pipeOf prog_1_method_15_code 2 (some (.object "FrameFerry$Pipe"))) := ⟨⟨tb_of 493 (by decide +kernel) rfl, tb_of 1 (by decide +kernel) rfl, tb_of 496 (by decide +kernel) rfl, by decide +kernel⟩, tb_of 495 (by decide +kernel) rfl, tb_sel 22 (by decide +kernel) rfl⟩
theorem s_FF_94 : uCv "FrameFerry" 94 y_Rc_sendLate 0 (.code y_Rc_sendLate prog_5_method_5_code 1 none) := ⟨⟨tb_of 502 (by decide +kernel) rfl, tb_of 7 (by decide +kernel) rfl, tb_of 505 (by decide +kernel) rfl, by decide +kernel⟩, tb_of 503 (by decide +kernel) rfl, tb_of 504 (by decide +kernel) rfl⟩
theorem s_FF_91 : uCv "FrameFerry" 91 y_Se_sendLate 0 (.code y_Se_sendLate prog_6_method_9_code 1 none) := ⟨⟨tb_of 497 (by decide +kernel) rfl, tb_of 2 (by decide +kernel) rfl, tb_of 500 (by decide +kernel) rfl, by decide +kernel⟩, tb_of 498 (by decide +kernel) rfl, tb_of 499 (by decide +kernel) rfl⟩
theorem s_FF_95 : uCv "FrameFerry" 95 y_Rc_beginAnew 0 (.code y_Rc_beginAnew prog_5_method_3_code 1 none) := ⟨⟨tb_of 514 (by decide +kernel) rfl, tb_of 7 (by decide +kernel) rfl, tb_of 517 (by decide +kernel) rfl, by decide +kernel⟩, tb_of 515 (by decide +kernel) rfl, tb_of 516 (by decide +kernel) rfl⟩
theorem s_FF_106 : uCv "FrameFerry" 106 y_Pi_byteAt 1 (.code y_Pi_byteAt prog_3_method_4_code 2 (some .int)) := ⟨⟨tb_of 522 (by decide +kernel) rfl, tb_of 3 (by decide +kernel) rfl, tb_of 253 (by decide +kernel) rfl, by decide +kernel⟩, tb_of 251 (by decide +kernel) rfl, tb_of 252 (by decide +kernel) rfl⟩
section G
variable {p : Program} {l : Launch} {e : Env} {s : State} {m : MethodId} {args : Array Value} {below : List Frame} {meth : Method} {c : Code} {D : va_G} {cc : Nat → ClassId} {L L0 : List Nat} {A A0 : Nat → Nat} {J : Nat → Int64} {t16 t32 sz : Nat}
-- FrameFerry.pipeOf (Z)LFrameFerry$Pipe;
theorem d_FF_pipeOf_0 : decode prog_1_method_15_code 0 = .ok (.iload_n 1, 1) := by decide +kernel
theorem d_FF_pipeOf_1 : decode prog_1_method_15_code 1 = .ok (.ifCond .eq 13, 3) := by decide +kernel
theorem d_FF_pipeOf_4 : decode prog_1_method_15_code 4 = .ok (.aload_n 0, 1) := by decide +kernel
theorem d_FF_pipeOf_5 : decode prog_1_method_15_code 5 = .ok (.getfield 10, 3) := by decide +kernel
theorem d_FF_pipeOf_8 : decode prog_1_method_15_code 8 = .ok (.getfield 69, 3) := by decide +kernel
theorem d_FF_pipeOf_11 : decode prog_1_method_15_code 11 = .ok (.goto 10, 3) := by decide +kernel
theorem d_FF_pipeOf_14 : decode prog_1_method_15_code 14 = .ok (.aload_n 0, 1) := by decide +kernel
theorem d_FF_pipeOf_15 : decode prog_1_method_15_code 15 = .ok (.getfield 19, 3) := by decide +kernel
theorem d_FF_pipeOf_18 : decode prog_1_method_15_code 18 = .ok (.getfield 78, 3) := by decide +kernel
theorem d_FF_pipeOf_21 : decode prog_1_method_15_code 21 = .ok (.areturn, 1) := by decide +kernel
def rm_FF_pipeOf : Room := { frames := 0, cells := 0, slots := 0, locals := 0 }
def wp_FF_pipeOf (L : List Nat) (I : UI) (R : UR) (x1 : Int32) (Q : Option Nat → UI → UR → Prop) : Prop :=
  ((x1 = 0 → Q (some 6) I R) ∧ (¬ x1 = 0 → Q (some 4) I R))
set_option maxHeartbeats 4000000 in
set_option maxRecDepth 100000 in
theorem c_FF_pipeOf (l : Launch) (D : va_G) (cc : Nat → ClassId) (L : List Nat) (A : Nat → Nat) (J : Nat → Int64) (t16 t32 : Nat) (I : UI) (R : UR) (x1 : Int32) (Q : Option Nat → UI → UR → Prop) (h : wp_FF_pipeOf L I R x1 Q) : uMr l y_FF_pipeOf (.code y_FF_pipeOf prog_1_method_15_code 2 (some (.object "FrameFerry$Pipe"))) rm_FF_pipeOf [.ref (A 1), .int x1] D cc L A J t16 t32 I R Q := by
  intro sz
  refine u_entry (by decide) (Nat.le_of_ble_eq_true rfl) (fun p e s m args below meth c hsz X V hr hlk ls hl => ?_)
  have X : uX p s m args c prog_1_method_15_code 2 "FrameFerry" D cc L A t16 t32 := X
  have hx := X.1
  have hb := X.2.1
  have hl : lv_has ls 2 [(0, .ref (A 1)), (1, .int x1)] := hl
  unfold wp_FF_pipeOf at h
  generalize hH : s.heap = H at V ⊢
  generalize hlo : ([] : List Loc) = locs at V ⊢
  refine lv_iload_n (pc := 0) hx hb d_FF_pipeOf_0 rfl (lv_at hl 1 rfl) ?_
  refine lv_if_eq (pc := 1) (tgt := 14) hx hb d_FF_pipeOf_1 (by decide) (fun hc => ?_) (fun hc => ?_)
  · have h := h.1 hc
    refine lv_aload_n (pc := 14) hx hb d_FF_pipeOf_14 rfl (lv_at hl 0 rfl) ?_
    refine u_getr (pc := 15) (o' := 3) X V (X.fix rfl) rfl rfl f_FF_19 rfl rfl d_FF_pipeOf_15 ?_
    refine u_getr (pc := 18) (o' := 6) X V (X.fix rfl) rfl rfl f_FF_78 rfl rfl d_FF_pipeOf_18 ?_
    exact u_retr (pc := 21) (i := (some 6)) X V hr hlk hsz rfl h d_FF_pipeOf_21
  · have h := h.2 hc
    refine lv_aload_n (pc := 4) hx hb d_FF_pipeOf_4 rfl (lv_at hl 0 rfl) ?_
    refine u_getr (pc := 5) (o' := 2) X V (X.fix rfl) rfl rfl f_FF_10 rfl rfl d_FF_pipeOf_5 ?_
    refine u_getr (pc := 8) (o' := 4) X V (X.fix rfl) rfl rfl f_FF_69 rfl rfl d_FF_pipeOf_8 ?_
    refine lv_goto (pc := 11) (tgt := 21) hx hb d_FF_pipeOf_11 (by decide) ?_
    exact u_retr (pc := 21) (i := (some 4)) X V hr hlk hsz rfl h d_FF_pipeOf_21
-- FrameFerry.sender ()I
theorem d_FF_sender_0 : decode prog_1_method_6_code 0 = .ok (.aload_n 0, 1) := by decide +kernel
theorem d_FF_sender_1 : decode prog_1_method_6_code 1 = .ok (.getfield 10, 3) := by decide +kernel
theorem d_FF_sender_4 : decode prog_1_method_6_code 4 = .ok (.getfield 69, 3) := by decide +kernel
theorem d_FF_sender_7 : decode prog_1_method_6_code 7 = .ok (.getfield 73, 3) := by decide +kernel
theorem d_FF_sender_10 : decode prog_1_method_6_code 10 = .ok (.istore_n 1, 1) := by decide +kernel
theorem d_FF_sender_11 : decode prog_1_method_6_code 11 = .ok (.aload_n 0, 1) := by decide +kernel
theorem d_FF_sender_12 : decode prog_1_method_6_code 12 = .ok (.getfield 10, 3) := by decide +kernel
theorem d_FF_sender_15 : decode prog_1_method_6_code 15 = .ok (.aload_n 0, 1) := by decide +kernel
theorem d_FF_sender_16 : decode prog_1_method_6_code 16 = .ok (.getfield 19, 3) := by decide +kernel
theorem d_FF_sender_19 : decode prog_1_method_6_code 19 = .ok (.getfield 78, 3) := by decide +kernel
theorem d_FF_sender_22 : decode prog_1_method_6_code 22 = .ok (.invokevirtual 79, 3) := by decide +kernel
theorem d_FF_sender_25 : decode prog_1_method_6_code 25 = .ok (.aload_n 0, 1) := by decide +kernel
theorem d_FF_sender_26 : decode prog_1_method_6_code 26 = .ok (.getfield 10, 3) := by decide +kernel
theorem d_FF_sender_29 : decode prog_1_method_6_code 29 = .ok (.invokevirtual 83, 3) := by decide +kernel
theorem d_FF_sender_32 : decode prog_1_method_6_code 32 = .ok (.aload_n 0, 1) := by decide +kernel
theorem d_FF_sender_33 : decode prog_1_method_6_code 33 = .ok (.getfield 10, 3) := by decide +kernel
theorem d_FF_sender_36 : decode prog_1_method_6_code 36 = .ok (.getfield 69, 3) := by decide +kernel
theorem d_FF_sender_39 : decode prog_1_method_6_code 39 = .ok (.getfield 73, 3) := by decide +kernel
theorem d_FF_sender_42 : decode prog_1_method_6_code 42 = .ok (.iload_n 1, 1) := by decide +kernel
theorem d_FF_sender_43 : decode prog_1_method_6_code 43 = .ok (.isub, 1) := by decide +kernel
theorem d_FF_sender_44 : decode prog_1_method_6_code 44 = .ok (.ireturn, 1) := by decide +kernel
def rm_FF_sender : Room := { frames := 6, cells := 0, slots := 0, locals := 132 }
def wp_FF_sender (L : List Nat) (I : UI) (R : UR) (Q : Int32 → UI → UR → Prop) : Prop :=
  ∀ v1 : Int32, v1 = I 4 2 → wp_Se_readAll L I R 6 (fun I2 R3 => wp_Se_sendPackets L I2 R3 (fun I4 R5 => Q ((I4 4 2) - v1) I4 R5))
set_option maxHeartbeats 4000000 in
set_option maxRecDepth 100000 in
theorem c_FF_sender (l : Launch) (D : va_G) (cc : Nat → ClassId) (L : List Nat) (A : Nat → Nat) (J : Nat → Int64) (t16 t32 : Nat) (I : UI) (R : UR) (Q : Int32 → UI → UR → Prop) (h : wp_FF_sender L I R Q) : uMi l y_FF_sender (.code y_FF_sender prog_1_method_6_code 2 (some .int)) rm_FF_sender [.ref (A 1)] D cc L A J t16 t32 I R Q := by
  intro sz
  refine u_entry (by decide) (Nat.le_of_ble_eq_true rfl) (fun p e s m args below meth c hsz X V hr hlk ls hl => ?_)
  have X : uX p s m args c prog_1_method_6_code 2 "FrameFerry" D cc L A t16 t32 := X
  have hx := X.1
  have hb := X.2.1
  have hl : lv_has ls 2 [(0, .ref (A 1))] := hl
  unfold wp_FF_sender at h
  generalize hH : s.heap = H at V ⊢
  generalize hlo : ([] : List Loc) = locs at V ⊢
  refine lv_aload_n (pc := 0) hx hb d_FF_sender_0 rfl (lv_at hl 0 rfl) ?_
  refine u_getr (pc := 1) (o' := 2) X V (X.fix rfl) rfl rfl f_FF_10 rfl rfl d_FF_sender_1 ?_
  refine u_getr (pc := 4) (o' := 4) X V (X.fix rfl) rfl rfl f_FF_69 rfl rfl d_FF_sender_4 ?_
  refine u_geti (pc := 7) X V (X.fix rfl) rfl rfl f_FF_73 rfl d_FF_sender_7 ?_
  refine lv_topi (fun v1 ev1 => ?_)
  have h := h v1 ev1
  refine lv_istore_n (pc := 10) (lv' := [(1, .int v1), (0, .ref (A 1))]) hx hb d_FF_sender_10 rfl hl (by decide) rfl (fun ls hl => ?_)
  refine lv_aload_n (pc := 11) hx hb d_FF_sender_11 rfl (lv_at hl 1 rfl) ?_
  refine u_getr (pc := 12) (o' := 2) X V (X.fix rfl) rfl rfl f_FF_10 rfl rfl d_FF_sender_12 ?_
  refine lv_aload_n (pc := 15) hx hb d_FF_sender_15 rfl (lv_at hl 1 rfl) ?_
  refine u_getr (pc := 16) (o' := 3) X V (X.fix rfl) rfl rfl f_FF_19 rfl rfl d_FF_sender_16 ?_
  refine u_getr (pc := 19) (o' := 6) X V (X.fix rfl) rfl rfl f_FF_78 rfl rfl d_FF_sender_19 ?_
  refine u_cVv (pc := 22) (As := [.ref (A 6)]) X V s_FF_79 (X.fix rfl) rfl rfl rfl (c_Se_readAll l D cc L A J t16 t32 _ _ 6 ⟨(X.fix rfl), rfl, (X.fix rfl), rfl⟩ _ h) ⟨rfl, rfl, Nat.le_of_ble_eq_true rfl, Nat.le_of_ble_eq_true rfl⟩ rfl hl.1 rfl (Nat.le_of_ble_eq_true rfl) d_FF_sender_22 ⟨Nat.zero_le _, Nat.zero_le _⟩ (fun I2 R3 h H locs V => ?_)
  refine lv_aload_n (pc := 25) hx hb d_FF_sender_25 rfl (lv_at hl 1 rfl) ?_
  refine u_getr (pc := 26) (o' := 2) X V (X.fix rfl) rfl rfl f_FF_10 rfl rfl d_FF_sender_26 ?_
  refine u_cVv (pc := 29) (As := []) X V s_FF_83 (X.fix rfl) rfl rfl rfl (c_Se_sendPackets l D cc L A J t16 t32 _ _  _ h) ⟨rfl, rfl, Nat.le_of_ble_eq_true rfl, Nat.le_of_ble_eq_true rfl⟩ rfl hl.1 rfl (Nat.le_of_ble_eq_true rfl) d_FF_sender_29 ⟨Nat.zero_le _, Nat.zero_le _⟩ (fun I4 R5 h H locs V => ?_)
  refine lv_aload_n (pc := 32) hx hb d_FF_sender_32 rfl (lv_at hl 1 rfl) ?_
  refine u_getr (pc := 33) (o' := 2) X V (X.fix rfl) rfl rfl f_FF_10 rfl rfl d_FF_sender_33 ?_
  refine u_getr (pc := 36) (o' := 4) X V (X.fix rfl) rfl rfl f_FF_69 rfl rfl d_FF_sender_36 ?_
  refine u_geti (pc := 39) X V (X.fix rfl) rfl rfl f_FF_73 rfl d_FF_sender_39 ?_
  refine lv_iload_n (pc := 42) hx hb d_FF_sender_42 rfl (lv_at hl 0 rfl) ?_
  refine lv_isub (pc := 43) hx hb d_FF_sender_43 ?_
  exact u_reti (pc := 44) X V hr hlk hsz h d_FF_sender_44
-- FrameFerry.receiver ()I
theorem d_FF_receiver_0 : decode prog_1_method_7_code 0 = .ok (.aload_n 0, 1) := by decide +kernel
theorem d_FF_receiver_1 : decode prog_1_method_7_code 1 = .ok (.getfield 19, 3) := by decide +kernel
theorem d_FF_receiver_4 : decode prog_1_method_7_code 4 = .ok (.getfield 78, 3) := by decide +kernel
theorem d_FF_receiver_7 : decode prog_1_method_7_code 7 = .ok (.getfield 73, 3) := by decide +kernel
theorem d_FF_receiver_10 : decode prog_1_method_7_code 10 = .ok (.istore_n 1, 1) := by decide +kernel
theorem d_FF_receiver_11 : decode prog_1_method_7_code 11 = .ok (.aload_n 0, 1) := by decide +kernel
theorem d_FF_receiver_12 : decode prog_1_method_7_code 12 = .ok (.getfield 19, 3) := by decide +kernel
theorem d_FF_receiver_15 : decode prog_1_method_7_code 15 = .ok (.aload_n 0, 1) := by decide +kernel
theorem d_FF_receiver_16 : decode prog_1_method_7_code 16 = .ok (.getfield 10, 3) := by decide +kernel
theorem d_FF_receiver_19 : decode prog_1_method_7_code 19 = .ok (.getfield 69, 3) := by decide +kernel
theorem d_FF_receiver_22 : decode prog_1_method_7_code 22 = .ok (.invokevirtual 86, 3) := by decide +kernel
theorem d_FF_receiver_25 : decode prog_1_method_7_code 25 = .ok (.aload_n 0, 1) := by decide +kernel
theorem d_FF_receiver_26 : decode prog_1_method_7_code 26 = .ok (.getfield 19, 3) := by decide +kernel
theorem d_FF_receiver_29 : decode prog_1_method_7_code 29 = .ok (.getfield 78, 3) := by decide +kernel
theorem d_FF_receiver_32 : decode prog_1_method_7_code 32 = .ok (.getfield 73, 3) := by decide +kernel
theorem d_FF_receiver_35 : decode prog_1_method_7_code 35 = .ok (.iload_n 1, 1) := by decide +kernel
theorem d_FF_receiver_36 : decode prog_1_method_7_code 36 = .ok (.isub, 1) := by decide +kernel
theorem d_FF_receiver_37 : decode prog_1_method_7_code 37 = .ok (.ireturn, 1) := by decide +kernel
def rm_FF_receiver (mc ms : Nat) : Room := { frames := 6, cells := mc, slots := ms, locals := 135 }
def wp_FF_receiver (mc ms : Nat) (L : List Nat) (I : UI) (R : UR) (Q : Int32 → List Nat → UI → UR → Prop) : Prop :=
  ∀ v1 : Int32, v1 = I 6 2 → (∃ c4 s5 : Nat, (0 + c4 ≤ mc ∧ 0 + s5 ≤ ms) ∧ wp_Rc_readAll c4 s5 L I R 4 (fun L6 I2 R3 => Q ((I2 6 2) - v1) L6 I2 R3))
set_option maxHeartbeats 4000000 in
set_option maxRecDepth 100000 in
theorem c_FF_receiver (l : Launch) (D : va_G) (cc : Nat → ClassId) (L : List Nat) (A : Nat → Nat) (J : Nat → Int64) (t16 t32 : Nat) (mc ms : Nat) (I : UI) (R : UR) (Q : Int32 → List Nat → UI → UR → Prop) (h : wp_FF_receiver mc ms L I R Q) : uMiA l y_FF_receiver (.code y_FF_receiver prog_1_method_7_code 2 (some .int)) (rm_FF_receiver mc ms) mc ms [.ref (A 1)] D cc L A J t16 t32 I R Q := by
  intro sz
  refine u_entry (by decide) (Nat.le_of_ble_eq_true rfl) (fun p e s m args below meth c hsz X V hr hlk ls hl => ?_)
  have X : uX p s m args c prog_1_method_7_code 2 "FrameFerry" D cc L A t16 t32 := X
  have hx := X.1
  have hb := X.2.1
  have hl : lv_has ls 2 [(0, .ref (A 1))] := hl
  unfold wp_FF_receiver at h
  have hE : uEx s.heap.size L A L A := uEx.rf X.2.2.2.2.2.2.1 X.2.2.2.2.2.2.2.1
  have hk : 0 ≤ mc ∧ 0 ≤ ms := ⟨Nat.zero_le _, Nat.zero_le _⟩
  generalize hH : s.heap = H at V ⊢
  generalize hlo : ([] : List Loc) = locs at V ⊢
  refine lv_aload_n (pc := 0) hx hb d_FF_receiver_0 rfl (lv_at hl 0 rfl) ?_
  refine u_getr (pc := 1) (o' := 3) X V (X.fix rfl) rfl rfl f_FF_19 rfl rfl d_FF_receiver_1 ?_
  refine u_getr (pc := 4) (o' := 6) X V (X.fix rfl) rfl rfl f_FF_78 rfl rfl d_FF_receiver_4 ?_
  refine u_geti (pc := 7) X V (X.fix rfl) rfl rfl f_FF_73 rfl d_FF_receiver_7 ?_
  refine lv_topi (fun v1 ev1 => ?_)
  have h := h v1 ev1
  refine lv_istore_n (pc := 10) (lv' := [(1, .int v1), (0, .ref (A 1))]) hx hb d_FF_receiver_10 rfl hl (by decide) rfl (fun ls hl => ?_)
  refine lv_aload_n (pc := 11) hx hb d_FF_receiver_11 rfl (lv_at hl 1 rfl) ?_
  refine u_getr (pc := 12) (o' := 3) X V (X.fix rfl) rfl rfl f_FF_19 rfl rfl d_FF_receiver_12 ?_
  refine lv_aload_n (pc := 15) hx hb d_FF_receiver_15 rfl (lv_at hl 1 rfl) ?_
  refine u_getr (pc := 16) (o' := 2) X V (X.fix rfl) rfl rfl f_FF_10 rfl rfl d_FF_receiver_16 ?_
  refine u_getr (pc := 19) (o' := 4) X V (X.fix rfl) rfl rfl f_FF_69 rfl rfl d_FF_receiver_19 ?_
  obtain ⟨c4, s5, hk1, h⟩ := h
  have X0 := X
  refine u_cVvA (pc := 22) (As := [.ref (A 4)]) X V hE s_FF_86 (X.fix rfl) rfl rfl rfl (c_Rc_readAll l D cc L A J t16 t32 c4 s5 _ _ 4 ⟨(X.fix rfl), rfl, (X.fix rfl), rfl⟩ _ h) ⟨rfl, rfl, Nat.le_of_ble_eq_true rfl, Nat.le_of_ble_eq_true rfl⟩ rfl hl.1 rfl (Nat.le_of_ble_eq_true rfl) d_FF_receiver_22 hk1 (fun L6 A7 I2 R3 h hG hE X H locs V => ?_)
  have hk := hk1
  have hl : lv_has ls 2 [(1, .int v1), (0, .ref (A 1))] := lv_sub hl [0, 1] rfl
  have ea0 := (hG.2.2.1 1 (X0.fix rfl)).2
  try rw [← ea0] at hl
  try rw [← ea0]
  refine lv_aload_n (pc := 25) hx hb d_FF_receiver_25 rfl (lv_at hl 1 rfl) ?_
  refine u_getr (pc := 26) (o' := 3) X V (X.fix rfl) rfl rfl f_FF_19 rfl rfl d_FF_receiver_26 ?_
  refine u_getr (pc := 29) (o' := 6) X V (X.fix rfl) rfl rfl f_FF_78 rfl rfl d_FF_receiver_29 ?_
  refine u_geti (pc := 32) X V (X.fix rfl) rfl rfl f_FF_73 rfl d_FF_receiver_32 ?_
  refine lv_iload_n (pc := 35) hx hb d_FF_receiver_35 rfl (lv_at hl 0 rfl) ?_
  refine lv_isub (pc := 36) hx hb d_FF_receiver_36 ?_
  exact u_retiA (pc := 37) X V hE hk hr hlk hsz h d_FF_receiver_37
-- FrameFerry.late (Z)I
theorem d_FF_late_0 : decode prog_1_method_8_code 0 = .ok (.aload_n 0, 1) := by decide +kernel
theorem d_FF_late_1 : decode prog_1_method_8_code 1 = .ok (.iload_n 1, 1) := by decide +kernel
theorem d_FF_late_2 : decode prog_1_method_8_code 2 = .ok (.invokevirtual 87, 3) := by decide +kernel
theorem d_FF_late_5 : decode prog_1_method_8_code 5 = .ok (.astore_n 2, 1) := by decide +kernel
theorem d_FF_late_6 : decode prog_1_method_8_code 6 = .ok (.aload_n 2, 1) := by decide +kernel
theorem d_FF_late_7 : decode prog_1_method_8_code 7 = .ok (.getfield 73, 3) := by decide +kernel
theorem d_FF_late_10 : decode prog_1_method_8_code 10 = .ok (.istore_n 3, 1) := by decide +kernel
theorem d_FF_late_11 : decode prog_1_method_8_code 11 = .ok (.iload_n 1, 1) := by decide +kernel
theorem d_FF_late_12 : decode prog_1_method_8_code 12 = .ok (.ifCond .eq 13, 3) := by decide +kernel
theorem d_FF_late_15 : decode prog_1_method_8_code 15 = .ok (.aload_n 0, 1) := by decide +kernel
theorem d_FF_late_16 : decode prog_1_method_8_code 16 = .ok (.getfield 10, 3) := by decide +kernel
theorem d_FF_late_19 : decode prog_1_method_8_code 19 = .ok (.invokevirtual 91, 3) := by decide +kernel
theorem d_FF_late_22 : decode prog_1_method_8_code 22 = .ok (.goto 10, 3) := by decide +kernel
theorem d_FF_late_25 : decode prog_1_method_8_code 25 = .ok (.aload_n 0, 1) := by decide +kernel
theorem d_FF_late_26 : decode prog_1_method_8_code 26 = .ok (.getfield 19, 3) := by decide +kernel
theorem d_FF_late_29 : decode prog_1_method_8_code 29 = .ok (.invokevirtual 94, 3) := by decide +kernel
theorem d_FF_late_32 : decode prog_1_method_8_code 32 = .ok (.aload_n 2, 1) := by decide +kernel
theorem d_FF_late_33 : decode prog_1_method_8_code 33 = .ok (.getfield 73, 3) := by decide +kernel
theorem d_FF_late_36 : decode prog_1_method_8_code 36 = .ok (.iload_n 3, 1) := by decide +kernel
theorem d_FF_late_37 : decode prog_1_method_8_code 37 = .ok (.isub, 1) := by decide +kernel
theorem d_FF_late_38 : decode prog_1_method_8_code 38 = .ok (.ireturn, 1) := by decide +kernel
def rm_FF_late : Room := { frames := 6, cells := 0, slots := 0, locals := 131 }
def wp_FF_late_L32 (L : List Nat) (Q : Int32 → UI → UR → Prop) (I : UI) (R : UR) (z2 : Option Nat) (x3 : Int32) : Prop :=
  (∃ i8 : Nat, z2 = some i8 ∧ isPi L i8 ∧ Q ((I i8 2) - x3) I R)
set_option maxHeartbeats 4000000 in
set_option maxRecDepth 100000 in
theorem j_FF_late_32 (X : uX p s m args c prog_1_method_8_code 4 "FrameFerry" D cc L A t16 t32) (hr : meth.sig.returnType = (some .int)) (hlk : meth.locks = false) (hsz : sz = s.heap.size) {Q : Int32 → UI → UR → Prop} {I : UI} {R : UR} {z2 : Option Nat} {x3 : Int32} {H : Heap} {locs : List Loc} {ls : Array Slot} (V : uV s D cc L A J I R H locs) (hl : lv_has ls 4 [(2, va_rf (Option.map A z2)), (3, .int x3)]) (h : wp_FF_late_L32 L Q I R z2 x3) : W p l e rm_FF_late s m args below meth c H locs 0 0 (MQ below (va_Qi (fun (r : Int32) (u : UI × UR) => Q r u.1 u.2) (uBv D cc L A J) (uA L A sz)) args s 0 0 (uA L A sz)) (F0 m 32 ls []) := by
  have hx := X.1
  have hb := X.2.1
  unfold wp_FF_late_L32 at h
  refine u_aload_n (pc := 32) hx hb d_FF_late_32 rfl (lv_at hl 0 rfl) ?_
  obtain ⟨i8, rfl, h_i8, h⟩ := h
  refine u_geti (pc := 33) X V h_i8.1 h_i8.2.1 rfl f_FF_73 rfl d_FF_late_33 ?_
  refine lv_iload_n (pc := 36) hx hb d_FF_late_36 rfl (lv_at hl 1 rfl) ?_
  refine lv_isub (pc := 37) hx hb d_FF_late_37 ?_
  exact u_reti (pc := 38) X V hr hlk hsz h d_FF_late_38
def wp_FF_late (L : List Nat) (I : UI) (R : UR) (x1 : Int32) (Q : Int32 → UI → UR → Prop) : Prop :=
  wp_FF_pipeOf L I R x1 (fun z3 I1 R2 => (∃ i4 : Nat, z3 = some i4 ∧ isPi L i4 ∧ ∀ v5 : Int32, v5 = I1 i4 2 → ((x1 = 0 → wp_Rc_sendLate L I1 R2 (fun I6 R7 => wp_FF_late_L32 L Q I6 R7 (some i4) v5)) ∧ (¬ x1 = 0 → wp_Se_sendLate L I1 R2 (fun I9 R10 => wp_FF_late_L32 L Q I9 R10 (some i4) v5)))))
set_option maxHeartbeats 4000000 in
set_option maxRecDepth 100000 in
theorem c_FF_late (l : Launch) (D : va_G) (cc : Nat → ClassId) (L : List Nat) (A : Nat → Nat) (J : Nat → Int64) (t16 t32 : Nat) (I : UI) (R : UR) (x1 : Int32) (Q : Int32 → UI → UR → Prop) (h : wp_FF_late L I R x1 Q) : uMi l y_FF_late (.code y_FF_late prog_1_method_8_code 4 (some .int)) rm_FF_late [.ref (A 1), .int x1] D cc L A J t16 t32 I R Q := by
  intro sz
  refine u_entry (by decide) (Nat.le_of_ble_eq_true rfl) (fun p e s m args below meth c hsz X V hr hlk ls hl => ?_)
  have X : uX p s m args c prog_1_method_8_code 4 "FrameFerry" D cc L A t16 t32 := X
  have hx := X.1
  have hb := X.2.1
  have hl : lv_has ls 4 [(0, .ref (A 1)), (1, .int x1)] := hl
  unfold wp_FF_late at h
  generalize hH : s.heap = H at V ⊢
  generalize hlo : ([] : List Loc) = locs at V ⊢
  refine lv_aload_n (pc := 0) hx hb d_FF_late_0 rfl (lv_at hl 0 rfl) ?_
  refine lv_iload_n (pc := 1) hx hb d_FF_late_1 rfl (lv_at hl 1 rfl) ?_
  refine u_cVr (pc := 2) (As := [.int x1]) X V s_FF_87 (X.fix rfl) rfl rfl rfl (c_FF_pipeOf l D cc L A J t16 t32 _ _ x1 _ h) ⟨rfl, rfl, Nat.le_of_ble_eq_true rfl, Nat.le_of_ble_eq_true rfl⟩ rfl hl.1 rfl (Nat.le_of_ble_eq_true rfl) d_FF_late_2 ⟨Nat.zero_le _, Nat.zero_le _⟩ (fun z3 I1 R2 h H locs V => ?_)
  refine u_astore_n (pc := 5) (lv' := [(2, va_rf (Option.map A z3)), (0, .ref (A 1)), (1, .int x1)]) hx hb d_FF_late_5 rfl hl (by decide) rfl (fun ls hl => ?_)
  refine u_aload_n (pc := 6) hx hb d_FF_late_6 rfl (lv_at hl 0 rfl) ?_
  obtain ⟨i4, rfl, h_i4, h⟩ := h
  refine u_geti (pc := 7) X V h_i4.1 h_i4.2.1 rfl f_FF_73 rfl d_FF_late_7 ?_
  refine lv_topi (fun v5 ev5 => ?_)
  have h := h v5 ev5
  refine lv_istore_n (pc := 10) (lv' := [(3, .int v5), (2, va_rf (Option.map A (some i4))), (0, .ref (A 1)), (1, .int x1)]) hx hb d_FF_late_10 rfl hl (by decide) rfl (fun ls hl => ?_)
  refine lv_iload_n (pc := 11) hx hb d_FF_late_11 rfl (lv_at hl 3 rfl) ?_
  refine lv_if_eq (pc := 12) (tgt := 25) hx hb d_FF_late_12 (by decide) (fun hc => ?_) (fun hc => ?_)
  · have h := h.1 hc
    refine lv_aload_n (pc := 25) hx hb d_FF_late_25 rfl (lv_at hl 2 rfl) ?_
    refine u_getr (pc := 26) (o' := 3) X V (X.fix rfl) rfl rfl f_FF_19 rfl rfl d_FF_late_26 ?_
    refine u_cVv (pc := 29) (As := []) X V s_FF_94 (X.fix rfl) rfl rfl rfl (c_Rc_sendLate l D cc L A J t16 t32 _ _  _ h) ⟨rfl, rfl, Nat.le_of_ble_eq_true rfl, Nat.le_of_ble_eq_true rfl⟩ rfl hl.1 rfl (Nat.le_of_ble_eq_true rfl) d_FF_late_29 ⟨Nat.zero_le _, Nat.zero_le _⟩ (fun I6 R7 h H locs V => ?_)
    exact j_FF_late_32 X hr hlk hsz V (lv_sub hl [1, 0] rfl) h
  · have h := h.2 hc
    refine lv_aload_n (pc := 15) hx hb d_FF_late_15 rfl (lv_at hl 2 rfl) ?_
    refine u_getr (pc := 16) (o' := 2) X V (X.fix rfl) rfl rfl f_FF_10 rfl rfl d_FF_late_16 ?_
    refine u_cVv (pc := 19) (As := []) X V s_FF_91 (X.fix rfl) rfl rfl rfl (c_Se_sendLate l D cc L A J t16 t32 _ _  _ h) ⟨rfl, rfl, Nat.le_of_ble_eq_true rfl, Nat.le_of_ble_eq_true rfl⟩ rfl hl.1 rfl (Nat.le_of_ble_eq_true rfl) d_FF_late_19 ⟨Nat.zero_le _, Nat.zero_le _⟩ (fun I9 R10 h H locs V => ?_)
    refine lv_goto (pc := 22) (tgt := 32) hx hb d_FF_late_22 (by decide) ?_
    exact j_FF_late_32 X hr hlk hsz V (lv_sub hl [1, 0] rfl) h
-- FrameFerry.crash ()V
theorem d_FF_crash_0 : decode prog_1_method_9_code 0 = .ok (.aload_n 0, 1) := by decide +kernel
theorem d_FF_crash_1 : decode prog_1_method_9_code 1 = .ok (.getfield 19, 3) := by decide +kernel
theorem d_FF_crash_4 : decode prog_1_method_9_code 4 = .ok (.invokevirtual 95, 3) := by decide +kernel
theorem d_FF_crash_7 : decode prog_1_method_9_code 7 = .ok (.return_, 1) := by decide +kernel
def rm_FF_crash : Room := { frames := 2, cells := 0, slots := 0, locals := 40 }
def wp_FF_crash (L : List Nat) (I : UI) (R : UR) (Q : UI → UR → Prop) : Prop :=
  wp_Rc_beginAnew L I R (fun I1 R2 => Q I1 R2)
set_option maxHeartbeats 4000000 in
set_option maxRecDepth 100000 in
theorem c_FF_crash (l : Launch) (D : va_G) (cc : Nat → ClassId) (L : List Nat) (A : Nat → Nat) (J : Nat → Int64) (t16 t32 : Nat) (I : UI) (R : UR) (Q : UI → UR → Prop) (h : wp_FF_crash L I R Q) : uMv l y_FF_crash (.code y_FF_crash prog_1_method_9_code 1 none) rm_FF_crash [.ref (A 1)] D cc L A J t16 t32 I R Q := by
  intro sz
  refine u_entry (by decide) (Nat.le_of_ble_eq_true rfl) (fun p e s m args below meth c hsz X V hr hlk ls hl => ?_)
  have X : uX p s m args c prog_1_method_9_code 1 "FrameFerry" D cc L A t16 t32 := X
  have hx := X.1
  have hb := X.2.1
  have hl : lv_has ls 1 [(0, .ref (A 1))] := hl
  unfold wp_FF_crash at h
  generalize hH : s.heap = H at V ⊢
  generalize hlo : ([] : List Loc) = locs at V ⊢
  refine lv_aload_n (pc := 0) hx hb d_FF_crash_0 rfl (lv_at hl 0 rfl) ?_
  refine u_getr (pc := 1) (o' := 3) X V (X.fix rfl) rfl rfl f_FF_19 rfl rfl d_FF_crash_1 ?_
  refine u_cVv (pc := 4) (As := []) X V s_FF_95 (X.fix rfl) rfl rfl rfl (c_Rc_beginAnew l D cc L A J t16 t32 _ _  _ h) ⟨rfl, rfl, Nat.le_of_ble_eq_true rfl, Nat.le_of_ble_eq_true rfl⟩ rfl hl.1 rfl (Nat.le_of_ble_eq_true rfl) d_FF_crash_4 ⟨Nat.zero_le _, Nat.zero_le _⟩ (fun I1 R2 h H locs V => ?_)
  exact u_retv (pc := 7) X V hr hlk hsz h d_FF_crash_7
-- FrameFerry.pipe (ZI)I
theorem d_FF_pipe_0 : decode prog_1_method_12_code 0 = .ok (.aload_n 0, 1) := by decide +kernel
theorem d_FF_pipe_1 : decode prog_1_method_12_code 1 = .ok (.iload_n 1, 1) := by decide +kernel
theorem d_FF_pipe_2 : decode prog_1_method_12_code 2 = .ok (.invokevirtual 87, 3) := by decide +kernel
theorem d_FF_pipe_5 : decode prog_1_method_12_code 5 = .ok (.iload_n 2, 1) := by decide +kernel
theorem d_FF_pipe_6 : decode prog_1_method_12_code 6 = .ok (.invokevirtual 106, 3) := by decide +kernel
theorem d_FF_pipe_9 : decode prog_1_method_12_code 9 = .ok (.ireturn, 1) := by decide +kernel
def rm_FF_pipe : Room := { frames := 2, cells := 0, slots := 0, locals := 42 }
def wp_FF_pipe (L : List Nat) (I : UI) (R : UR) (x1 : Int32) (x2 : Int32) (Q : Int32 → UI → UR → Prop) : Prop :=
  wp_FF_pipeOf L I R x1 (fun z3 I1 R2 => (∃ i4 : Nat, z3 = some i4 ∧ isPi L i4 ∧ wp_Pi_byteAt I1 R2 i4 x2 (fun r7 I5 R6 => Q r7 I5 R6)))
set_option maxHeartbeats 4000000 in
set_option maxRecDepth 100000 in
theorem c_FF_pipe (l : Launch) (D : va_G) (cc : Nat → ClassId) (L : List Nat) (A : Nat → Nat) (J : Nat → Int64) (t16 t32 : Nat) (I : UI) (R : UR) (x1 : Int32) (x2 : Int32) (Q : Int32 → UI → UR → Prop) (h : wp_FF_pipe L I R x1 x2 Q) : uMi l y_FF_pipe (.code y_FF_pipe prog_1_method_12_code 3 (some .int)) rm_FF_pipe [.ref (A 1), .int x1, .int x2] D cc L A J t16 t32 I R Q := by
  intro sz
  refine u_entry (by decide) (Nat.le_of_ble_eq_true rfl) (fun p e s m args below meth c hsz X V hr hlk ls hl => ?_)
  have X : uX p s m args c prog_1_method_12_code 3 "FrameFerry" D cc L A t16 t32 := X
  have hx := X.1
  have hb := X.2.1
  have hl : lv_has ls 3 [(0, .ref (A 1)), (1, .int x1), (2, .int x2)] := hl
  unfold wp_FF_pipe at h
  generalize hH : s.heap = H at V ⊢
  generalize hlo : ([] : List Loc) = locs at V ⊢
  refine lv_aload_n (pc := 0) hx hb d_FF_pipe_0 rfl (lv_at hl 0 rfl) ?_
  refine lv_iload_n (pc := 1) hx hb d_FF_pipe_1 rfl (lv_at hl 1 rfl) ?_
  refine u_cVr (pc := 2) (As := [.int x1]) X V s_FF_87 (X.fix rfl) rfl rfl rfl (c_FF_pipeOf l D cc L A J t16 t32 _ _ x1 _ h) ⟨rfl, rfl, Nat.le_of_ble_eq_true rfl, Nat.le_of_ble_eq_true rfl⟩ rfl hl.1 rfl (Nat.le_of_ble_eq_true rfl) d_FF_pipe_2 ⟨Nat.zero_le _, Nat.zero_le _⟩ (fun z3 I1 R2 h H locs V => ?_)
  refine lv_iload_n (pc := 5) hx hb d_FF_pipe_5 rfl (lv_at hl 2 rfl) ?_
  obtain ⟨i4, rfl, h_i4, h⟩ := h
  refine u_cVi (pc := 6) (As := [.int x2]) X V s_FF_106 h_i4.1 h_i4.2.1 rfl rfl (c_Pi_byteAt l D cc L A J t16 t32 _ _ i4 h_i4 x2 _ h) ⟨rfl, rfl, Nat.le_of_ble_eq_true rfl, Nat.le_of_ble_eq_true rfl⟩ rfl hl.1 rfl (Nat.le_of_ble_eq_true rfl) d_FF_pipe_6 ⟨Nat.zero_le _, Nat.zero_le _⟩ (fun r7 I5 R6 h H locs V => ?_)
  exact u_reti (pc := 9) X V hr hlk hsz h d_FF_pipe_9
end G
