/-! Written by wip/gen/gen.py. -/
theorem f_Rd_22 : uF "FrameFerry$Reader" 22 2 7 false .int := ⟨R_Rd, T_Rd, 14, ty_Rd, rfl, by decide, tb_of 101 (by decide +kernel) rfl, l_Rd, ty_Rd_ok, n_Rd, rfl, rfl⟩
theorem f_Rd_65 : uF "FrameFerry$Reader" 65 2 9 false .boolean := ⟨R_Rd, T_Rd, 14, ty_Rd, rfl, by decide, tb_of 103 (by decide +kernel) rfl, l_Rd, ty_Rd_ok, n_Rd, rfl, rfl⟩
theorem f_Rd_68 : uF "FrameFerry$Reader" 68 2 12 false .int := ⟨R_Rd, T_Rd, 14, ty_Rd, rfl, by decide, tb_of 106 (by decide +kernel) rfl, l_Rd, ty_Rd_ok, n_Rd, rfl, rfl⟩
theorem f_Rd_71 : uF "FrameFerry$Reader" 71 2 13 false .boolean := ⟨R_Rd, T_Rd, 14, ty_Rd, rfl, by decide, tb_of 107 (by decide +kernel) rfl, l_Rd, ty_Rd_ok, n_Rd, rfl, rfl⟩
theorem f_Rd_53 : uF "FrameFerry$Reader" 53 2 8 false .boolean := ⟨R_Rd, T_Rd, 14, ty_Rd, rfl, by decide, tb_of 102 (by decide +kernel) rfl, l_Rd, ty_Rd_ok, n_Rd, rfl, rfl⟩
theorem s_Rd_74 : uCv "FrameFerry$Reader" 74 y_Ck_begin 1 (.code y_Ck_begin prog_2_method_2_code 2 none) := ⟨⟨tb_of 270 (by decide +kernel) rfl, tb_of 5 (by decide +kernel) rfl, tb_of 273 (by decide +kernel) rfl, by decide +kernel⟩, tb_of 271 (by decide +kernel) rfl, tb_of 272 (by decide +kernel) rfl⟩
theorem f_Rd_26 : uF "FrameFerry$Reader" 26 2 1 false .int := ⟨R_Rd, T_Rd, 14, ty_Rd, rfl, by decide, tb_of 88 (by decide +kernel) rfl, l_Rd, ty_Rd_ok, n_Rd, rfl, rfl⟩
theorem s_Rd_29 : uCv "FrameFerry$Reader" 29 y_Rd_beginCheck 0 (.code y_Rd_beginCheck prog_4_method_7_code 1 none) := ⟨⟨tb_of 266 (by decide +kernel) rfl, tb_of 6 (by decide +kernel) rfl, tb_of 269 (by decide +kernel) rfl, by decide +kernel⟩, tb_of 268 (by decide +kernel) rfl, tb_sel 1 (by decide +kernel) rfl⟩
theorem f_Rd_32 : uF "FrameFerry$Reader" 32 2 2 false .int := ⟨R_Rd, T_Rd, 14, ty_Rd, rfl, by decide, tb_of 90 (by decide +kernel) rfl, l_Rd, ty_Rd_ok, n_Rd, rfl, rfl⟩
theorem s_Rd_35 : uCv "FrameFerry$Reader" 35 y_Rd_beginPacket 0 (.code y_Rd_beginPacket prog_4_method_3_code 1 none) := ⟨⟨tb_of 487 (by decide +kernel) rfl, tb_of 6 (by decide +kernel) rfl, tb_of 447 (by decide +kernel) rfl, by decide +kernel⟩, tb_of 445 (by decide +kernel) rfl, tb_of 446 (by decide +kernel) rfl⟩
theorem f_Rd_42 : uF "FrameFerry$Reader" 42 2 5 false .boolean := ⟨R_Rd, T_Rd, 14, ty_Rd, rfl, by decide, tb_of 98 (by decide +kernel) rfl, l_Rd, ty_Rd_ok, n_Rd, rfl, rfl⟩
theorem f_Rd_56 : uF "FrameFerry$Reader" 56 2 10 false .int := ⟨R_Rd, T_Rd, 14, ty_Rd, rfl, by decide, tb_of 104 (by decide +kernel) rfl, l_Rd, ty_Rd_ok, n_Rd, rfl, rfl⟩
theorem f_Rd_59 : uF "FrameFerry$Reader" 59 2 11 false .int := ⟨R_Rd, T_Rd, 14, ty_Rd, rfl, by decide, tb_of 105 (by decide +kernel) rfl, l_Rd, ty_Rd_ok, n_Rd, rfl, rfl⟩
theorem f_Rd_62 : uF "FrameFerry$Reader" 62 2 4 false .int := ⟨R_Rd, T_Rd, 14, ty_Rd, rfl, by decide, tb_of 95 (by decide +kernel) rfl, l_Rd, ty_Rd_ok, n_Rd, rfl, rfl⟩
theorem s_Rd_88 : uCv "FrameFerry$Reader" 88 y_Ck_add 1 (.code y_Ck_add prog_2_method_3_code 2 none) := ⟨⟨tb_of 293 (by decide +kernel) rfl, tb_of 5 (by decide +kernel) rfl, tb_of 296 (by decide +kernel) rfl, by decide +kernel⟩, tb_of 294 (by decide +kernel) rfl, tb_of 295 (by decide +kernel) rfl⟩
theorem f_Rd_103 : uF "FrameFerry$Reader" 103 2 3 false .int := ⟨R_Rd, T_Rd, 14, ty_Rd, rfl, by decide, tb_of 94 (by decide +kernel) rfl, l_Rd, ty_Rd_ok, n_Rd, rfl, rfl⟩
theorem s_Rd_81 : uCv "FrameFerry$Reader" 81 y_Rd_giveUp 0 (.code y_Rd_giveUp prog_4_method_14_code 2 (some .int)) := ⟨⟨tb_of 281 (by decide +kernel) rfl, tb_of 6 (by decide +kernel) rfl, tb_of 284 (by decide +kernel) rfl, by decide +kernel⟩, tb_of 283 (by decide +kernel) rfl, tb_sel 3 (by decide +kernel) rfl⟩
theorem s_Rd_109 : uCv "FrameFerry$Reader" 109 y_Ck_size 0 (.code y_Ck_size prog_2_method_4_code 1 (some .int)) := ⟨⟨tb_of 310 (by decide +kernel) rfl, tb_of 5 (by decide +kernel) rfl, tb_of 313 (by decide +kernel) rfl, by decide +kernel⟩, tb_of 311 (by decide +kernel) rfl, tb_of 312 (by decide +kernel) rfl⟩
theorem s_Rd_106 : uCv "FrameFerry$Reader" 106 y_Ck_part 1 (.code y_Ck_part prog_2_method_5_code 2 (some .int)) := ⟨⟨tb_of 306 (by decide +kernel) rfl, tb_of 5 (by decide +kernel) rfl, tb_of 309 (by decide +kernel) rfl, by decide +kernel⟩, tb_of 307 (by decide +kernel) rfl, tb_of 308 (by decide +kernel) rfl⟩
theorem s_Rd_97 : uCv "FrameFerry$Reader" 97 y_Rd_takeCheckByte 1 (.code y_Rd_takeCheckByte prog_4_method_13_code 3 (some .int)) := ⟨⟨tb_of 302 (by decide +kernel) rfl, tb_of 6 (by decide +kernel) rfl, tb_of 305 (by decide +kernel) rfl, by decide +kernel⟩, tb_of 304 (by decide +kernel) rfl, tb_sel 6 (by decide +kernel) rfl⟩
theorem s_Rd_94 : uCv "FrameFerry$Reader" 94 y_Rd_takeHeaderByte 1 (.code y_Rd_takeHeaderByte prog_4_method_11_code 2 (some .int)) := ⟨⟨tb_of 289 (by decide +kernel) rfl, tb_of 6 (by decide +kernel) rfl, tb_of 292 (by decide +kernel) rfl, by decide +kernel⟩, tb_of 291 (by decide +kernel) rfl, tb_sel 5 (by decide +kernel) rfl⟩
theorem s_Rd_100 : uCv "FrameFerry$Reader" 100 y_Rd_takePacketByte 1 (.code y_Rd_takePacketByte prog_4_method_12_code 2 (some .int)) := ⟨⟨tb_of 314 (by decide +kernel) rfl, tb_of 6 (by decide +kernel) rfl, tb_of 317 (by decide +kernel) rfl, by decide +kernel⟩, tb_of 316 (by decide +kernel) rfl, tb_sel 7 (by decide +kernel) rfl⟩
theorem s_Rd_78 : uCt "FrameFerry$Reader" 78 y_Rd_digitOf 1 (.code y_Rd_digitOf prog_4_method_15_code 1 (some .int)) := ⟨⟨tb_of 278 (by decide +kernel) rfl, tb_of 6 (by decide +kernel) rfl, tb_of 280 (by decide +kernel) rfl, by decide +kernel⟩, tb_of 279 (by decide +kernel) rfl⟩
theorem s_Rd_85 : uCv "FrameFerry$Reader" 85 y_Rd_takeMeant 1 (.code y_Rd_takeMeant prog_4_method_10_code 2 (some .int)) := ⟨⟨tb_of 285 (by decide +kernel) rfl, tb_of 6 (by decide +kernel) rfl, tb_of 288 (by decide +kernel) rfl, by decide +kernel⟩, tb_of 287 (by decide +kernel) rfl, tb_sel 4 (by decide +kernel) rfl⟩
theorem s_Rd_91 : uCt "FrameFerry$Reader" 91 y_Rd_unescaped 1 (.code y_Rd_unescaped prog_4_method_16_code 1 (some .int)) := ⟨⟨tb_of 322 (by decide +kernel) rfl, tb_of 6 (by decide +kernel) rfl, tb_of 324 (by decide +kernel) rfl, by decide +kernel⟩, tb_of 323 (by decide +kernel) rfl⟩
theorem s_Rd_38 : uCv "FrameFerry$Reader" 38 y_Rd_takeForm 1 (.code y_Rd_takeForm prog_4_method_6_code 2 none) := ⟨⟨tb_of 262 (by decide +kernel) rfl, tb_of 6 (by decide +kernel) rfl, tb_of 265 (by decide +kernel) rfl, by decide +kernel⟩, tb_of 264 (by decide +kernel) rfl, tb_sel 0 (by decide +kernel) rfl⟩
theorem s_Rd_50 : uCv "FrameFerry$Reader" 50 y_Rd_takeEscaped 1 (.code y_Rd_takeEscaped prog_4_method_9_code 3 (some .int)) := ⟨⟨tb_of 318 (by decide +kernel) rfl, tb_of 6 (by decide +kernel) rfl, tb_of 321 (by decide +kernel) rfl, by decide +kernel⟩, tb_of 320 (by decide +kernel) rfl, tb_sel 8 (by decide +kernel) rfl⟩
theorem s_Rd_46 : uCv "FrameFerry$Reader" 46 y_Rd_takeDigit 1 (.code y_Rd_takeDigit prog_4_method_8_code 4 (some .int)) := ⟨⟨tb_of 274 (by decide +kernel) rfl, tb_of 6 (by decide +kernel) rfl, tb_of 277 (by decide +kernel) rfl, by decide +kernel⟩, tb_of 276 (by decide +kernel) rfl, tb_sel 2 (by decide +kernel) rfl⟩
section G
variable {p : Program} {l : Launch} {e : Env} {s : State} {m : MethodId} {args : Array Value} {below : List Frame} {meth : Method} {c : Code} {D : va_G} {cc : Nat → ClassId} {L L0 : List Nat} {A A0 : Nat → Nat} {J : Nat → Int64} {t16 t32 sz : Nat}
-- FrameFerry$Reader.goOutside ()V
theorem d_Rd_goOutside_0 : decode prog_4_method_2_code 0 = .ok (.aload_n 0, 1) := by decide +kernel
theorem d_Rd_goOutside_1 : decode prog_4_method_2_code 1 = .ok (.iconst 0, 1) := by decide +kernel
theorem d_Rd_goOutside_2 : decode prog_4_method_2_code 2 = .ok (.putfield 22, 3) := by decide +kernel
theorem d_Rd_goOutside_5 : decode prog_4_method_2_code 5 = .ok (.return_, 1) := by decide +kernel
def rm_Rd_goOutside : Room := { frames := 0, cells := 0, slots := 0, locals := 0 }
def wp_Rd_goOutside (I : UI) (R : UR) (o : Nat) (Q : UI → UR → Prop) : Prop :=
  ∀ I1 : UI, I1 = u2 I o 7 0 → Q I1 R
set_option maxHeartbeats 4000000 in
set_option maxRecDepth 100000 in
theorem c_Rd_goOutside (l : Launch) (D : va_G) (cc : Nat → ClassId) (L : List Nat) (A : Nat → Nat) (J : Nat → Int64) (t16 t32 : Nat) (I : UI) (R : UR) (o : Nat) (h_o : isRd L o) (Q : UI → UR → Prop) (h : wp_Rd_goOutside I R o Q) : uMv l y_Rd_goOutside (.code y_Rd_goOutside prog_4_method_2_code 1 none) rm_Rd_goOutside [.ref (A o)] D cc L A J t16 t32 I R Q := by
  intro sz
  refine u_entry (by decide) (Nat.le_of_ble_eq_true rfl) (fun p e s m args below meth c hsz X V hr hlk ls hl => ?_)
  have X : uX p s m args c prog_4_method_2_code 1 "FrameFerry$Reader" D cc L A t16 t32 := X
  have hx := X.1
  have hb := X.2.1
  have hl : lv_has ls 1 [(0, .ref (A o))] := hl
  unfold wp_Rd_goOutside at h
  generalize hH : s.heap = H at V ⊢
  generalize hlo : ([] : List Loc) = locs at V ⊢
  refine lv_aload_n (pc := 0) hx hb d_Rd_goOutside_0 rfl (lv_at hl 0 rfl) ?_
  refine lv_iconst (pc := 1) (v := 0) hx hb d_Rd_goOutside_1 (by decide) ?_
  refine u_puti (pc := 2) X V h_o.1 h_o.2.1 rfl f_Rd_22 rfl d_Rd_goOutside_2 (fun I1 eI1 H locs V => ?_)
  have h := h I1 eI1
  exact u_retv (pc := 5) X V hr hlk hsz h d_Rd_goOutside_5
-- FrameFerry$Reader.beginCheck ()V
theorem d_Rd_beginCheck_0 : decode prog_4_method_7_code 0 = .ok (.aload_n 0, 1) := by decide +kernel
theorem d_Rd_beginCheck_1 : decode prog_4_method_7_code 1 = .ok (.iconst 0, 1) := by decide +kernel
theorem d_Rd_beginCheck_2 : decode prog_4_method_7_code 2 = .ok (.putfield 65, 3) := by decide +kernel
theorem d_Rd_beginCheck_5 : decode prog_4_method_7_code 5 = .ok (.aload_n 0, 1) := by decide +kernel
theorem d_Rd_beginCheck_6 : decode prog_4_method_7_code 6 = .ok (.iconst 0, 1) := by decide +kernel
theorem d_Rd_beginCheck_7 : decode prog_4_method_7_code 7 = .ok (.putfield 68, 3) := by decide +kernel
theorem d_Rd_beginCheck_10 : decode prog_4_method_7_code 10 = .ok (.aload_n 0, 1) := by decide +kernel
theorem d_Rd_beginCheck_11 : decode prog_4_method_7_code 11 = .ok (.iconst 1, 1) := by decide +kernel
theorem d_Rd_beginCheck_12 : decode prog_4_method_7_code 12 = .ok (.putfield 71, 3) := by decide +kernel
theorem d_Rd_beginCheck_15 : decode prog_4_method_7_code 15 = .ok (.aload_n 0, 1) := by decide +kernel
theorem d_Rd_beginCheck_16 : decode prog_4_method_7_code 16 = .ok (.getfield 18, 3) := by decide +kernel
theorem d_Rd_beginCheck_19 : decode prog_4_method_7_code 19 = .ok (.aload_n 0, 1) := by decide +kernel
theorem d_Rd_beginCheck_20 : decode prog_4_method_7_code 20 = .ok (.getfield 53, 3) := by decide +kernel
theorem d_Rd_beginCheck_23 : decode prog_4_method_7_code 23 = .ok (.invokevirtual 74, 3) := by decide +kernel
theorem d_Rd_beginCheck_26 : decode prog_4_method_7_code 26 = .ok (.return_, 1) := by decide +kernel
def rm_Rd_beginCheck : Room := { frames := 1, cells := 0, slots := 0, locals := 21 }
def wp_Rd_beginCheck (I : UI) (R : UR) (o : Nat) (Q : UI → UR → Prop) : Prop :=
  zb 0 ∧ ∀ I1 : UI, I1 = u2 I o 9 0 → ∀ I2 : UI, I2 = u2 I1 o 12 0 → zb 1 ∧ ∀ I3 : UI, I3 = u2 I2 o 13 1 → wp_Ck_begin I3 R (o + 2) (I3 o 8) (fun I4 R5 => Q I4 R5)
set_option maxHeartbeats 4000000 in
set_option maxRecDepth 100000 in
theorem c_Rd_beginCheck (l : Launch) (D : va_G) (cc : Nat → ClassId) (L : List Nat) (A : Nat → Nat) (J : Nat → Int64) (t16 t32 : Nat) (I : UI) (R : UR) (o : Nat) (h_o : isRd L o) (Q : UI → UR → Prop) (h : wp_Rd_beginCheck I R o Q) : uMv l y_Rd_beginCheck (.code y_Rd_beginCheck prog_4_method_7_code 1 none) rm_Rd_beginCheck [.ref (A o)] D cc L A J t16 t32 I R Q := by
  intro sz
  refine u_entry (by decide) (Nat.le_of_ble_eq_true rfl) (fun p e s m args below meth c hsz X V hr hlk ls hl => ?_)
  have X : uX p s m args c prog_4_method_7_code 1 "FrameFerry$Reader" D cc L A t16 t32 := X
  have hx := X.1
  have hb := X.2.1
  have hl : lv_has ls 1 [(0, .ref (A o))] := hl
  unfold wp_Rd_beginCheck at h
  generalize hH : s.heap = H at V ⊢
  generalize hlo : ([] : List Loc) = locs at V ⊢
  refine lv_aload_n (pc := 0) hx hb d_Rd_beginCheck_0 rfl (lv_at hl 0 rfl) ?_
  refine lv_iconst (pc := 1) (v := 0) hx hb d_Rd_beginCheck_1 (by decide) ?_
  refine u_putz (pc := 2) X V h_o.1 h_o.2.1 rfl f_Rd_65 rfl h.1 d_Rd_beginCheck_2 (fun I1 eI1 H locs V => ?_)
  have h := h.2 I1 eI1
  refine lv_aload_n (pc := 5) hx hb d_Rd_beginCheck_5 rfl (lv_at hl 0 rfl) ?_
  refine lv_iconst (pc := 6) (v := 0) hx hb d_Rd_beginCheck_6 (by decide) ?_
  refine u_puti (pc := 7) X V h_o.1 h_o.2.1 rfl f_Rd_68 rfl d_Rd_beginCheck_7 (fun I2 eI2 H locs V => ?_)
  have h := h I2 eI2
  refine lv_aload_n (pc := 10) hx hb d_Rd_beginCheck_10 rfl (lv_at hl 0 rfl) ?_
  refine lv_iconst (pc := 11) (v := 1) hx hb d_Rd_beginCheck_11 (by decide) ?_
  refine u_putz (pc := 12) X V h_o.1 h_o.2.1 rfl f_Rd_71 rfl h.1 d_Rd_beginCheck_12 (fun I3 eI3 H locs V => ?_)
  have h := h.2 I3 eI3
  refine lv_aload_n (pc := 15) hx hb d_Rd_beginCheck_15 rfl (lv_at hl 0 rfl) ?_
  refine u_getr (pc := 16) (o' := (o + 2)) X V h_o.1 h_o.2.1 rfl f_Rd_18 rfl rfl d_Rd_beginCheck_16 ?_
  refine lv_aload_n (pc := 19) hx hb d_Rd_beginCheck_19 rfl (lv_at hl 0 rfl) ?_
  refine u_geti (pc := 20) X V h_o.1 h_o.2.1 rfl f_Rd_53 rfl d_Rd_beginCheck_20 ?_
  refine u_cVv (pc := 23) (As := [.int (I3 o 8)]) X V s_Rd_74 h_o.2.2.2.2.1 h_o.2.2.2.2.2 rfl rfl (c_Ck_begin l D cc L A J t16 t32 _ _ (o + 2) ⟨h_o.2.2.2.2.1, h_o.2.2.2.2.2⟩ (I3 o 8) _ h) ⟨rfl, rfl, Nat.le_of_ble_eq_true rfl, Nat.le_of_ble_eq_true rfl⟩ rfl hl.1 rfl (Nat.le_of_ble_eq_true rfl) d_Rd_beginCheck_23 ⟨Nat.zero_le _, Nat.zero_le _⟩ (fun I4 R5 h H locs V => ?_)
  exact u_retv (pc := 26) X V hr hlk hsz h d_Rd_beginCheck_26
-- FrameFerry$Reader.beginPacket ()V
theorem d_Rd_beginPacket_0 : decode prog_4_method_3_code 0 = .ok (.aload_n 0, 1) := by decide +kernel
theorem d_Rd_beginPacket_1 : decode prog_4_method_3_code 1 = .ok (.iconst 4, 1) := by decide +kernel
theorem d_Rd_beginPacket_2 : decode prog_4_method_3_code 2 = .ok (.putfield 22, 3) := by decide +kernel
theorem d_Rd_beginPacket_5 : decode prog_4_method_3_code 5 = .ok (.aload_n 0, 1) := by decide +kernel
theorem d_Rd_beginPacket_6 : decode prog_4_method_3_code 6 = .ok (.iconst 0, 1) := by decide +kernel
theorem d_Rd_beginPacket_7 : decode prog_4_method_3_code 7 = .ok (.putfield 26, 3) := by decide +kernel
theorem d_Rd_beginPacket_10 : decode prog_4_method_3_code 10 = .ok (.aload_n 0, 1) := by decide +kernel
theorem d_Rd_beginPacket_11 : decode prog_4_method_3_code 11 = .ok (.invokevirtual 29, 3) := by decide +kernel
theorem d_Rd_beginPacket_14 : decode prog_4_method_3_code 14 = .ok (.return_, 1) := by decide +kernel
def rm_Rd_beginPacket : Room := { frames := 2, cells := 0, slots := 0, locals := 41 }
def wp_Rd_beginPacket (I : UI) (R : UR) (o : Nat) (Q : UI → UR → Prop) : Prop :=
  ∀ I1 : UI, I1 = u2 I o 7 4 → ∀ I2 : UI, I2 = u2 I1 o 1 0 → wp_Rd_beginCheck I2 R o (fun I3 R4 => Q I3 R4)
set_option maxHeartbeats 4000000 in
set_option maxRecDepth 100000 in
theorem c_Rd_beginPacket (l : Launch) (D : va_G) (cc : Nat → ClassId) (L : List Nat) (A : Nat → Nat) (J : Nat → Int64) (t16 t32 : Nat) (I : UI) (R : UR) (o : Nat) (h_o : isRd L o) (Q : UI → UR → Prop) (h : wp_Rd_beginPacket I R o Q) : uMv l y_Rd_beginPacket (.code y_Rd_beginPacket prog_4_method_3_code 1 none) rm_Rd_beginPacket [.ref (A o)] D cc L A J t16 t32 I R Q := by
  intro sz
  refine u_entry (by decide) (Nat.le_of_ble_eq_true rfl) (fun p e s m args below meth c hsz X V hr hlk ls hl => ?_)
  have X : uX p s m args c prog_4_method_3_code 1 "FrameFerry$Reader" D cc L A t16 t32 := X
  have hx := X.1
  have hb := X.2.1
  have hl : lv_has ls 1 [(0, .ref (A o))] := hl
  unfold wp_Rd_beginPacket at h
  generalize hH : s.heap = H at V ⊢
  generalize hlo : ([] : List Loc) = locs at V ⊢
  refine lv_aload_n (pc := 0) hx hb d_Rd_beginPacket_0 rfl (lv_at hl 0 rfl) ?_
  refine lv_iconst (pc := 1) (v := 4) hx hb d_Rd_beginPacket_1 (by decide) ?_
  refine u_puti (pc := 2) X V h_o.1 h_o.2.1 rfl f_Rd_22 rfl d_Rd_beginPacket_2 (fun I1 eI1 H locs V => ?_)
  have h := h I1 eI1
  refine lv_aload_n (pc := 5) hx hb d_Rd_beginPacket_5 rfl (lv_at hl 0 rfl) ?_
  refine lv_iconst (pc := 6) (v := 0) hx hb d_Rd_beginPacket_6 (by decide) ?_
  refine u_puti (pc := 7) X V h_o.1 h_o.2.1 rfl f_Rd_26 rfl d_Rd_beginPacket_7 (fun I2 eI2 H locs V => ?_)
  have h := h I2 eI2
  refine lv_aload_n (pc := 10) hx hb d_Rd_beginPacket_10 rfl (lv_at hl 0 rfl) ?_
  refine u_cVv (pc := 11) (As := []) X V s_Rd_29 h_o.1 h_o.2.1 rfl rfl (c_Rd_beginCheck l D cc L A J t16 t32 _ _ o h_o _ h) ⟨rfl, rfl, Nat.le_of_ble_eq_true rfl, Nat.le_of_ble_eq_true rfl⟩ rfl hl.1 rfl (Nat.le_of_ble_eq_true rfl) d_Rd_beginPacket_11 ⟨Nat.zero_le _, Nat.zero_le _⟩ (fun I3 R4 h H locs V => ?_)
  exact u_retv (pc := 14) X V hr hlk hsz h d_Rd_beginPacket_14
-- FrameFerry$Reader.passPacket ()V
theorem d_Rd_passPacket_0 : decode prog_4_method_4_code 0 = .ok (.aload_n 0, 1) := by decide +kernel
theorem d_Rd_passPacket_1 : decode prog_4_method_4_code 1 = .ok (.getfield 32, 3) := by decide +kernel
theorem d_Rd_passPacket_4 : decode prog_4_method_4_code 4 = .ok (.bipush 105, 2) := by decide +kernel
theorem d_Rd_passPacket_6 : decode prog_4_method_4_code 6 = .ok (.if_icmp .eq 12, 3) := by decide +kernel
theorem d_Rd_passPacket_9 : decode prog_4_method_4_code 9 = .ok (.aload_n 0, 1) := by decide +kernel
theorem d_Rd_passPacket_10 : decode prog_4_method_4_code 10 = .ok (.getfield 32, 3) := by decide +kernel
theorem d_Rd_passPacket_13 : decode prog_4_method_4_code 13 = .ok (.bipush 106, 2) := by decide +kernel
theorem d_Rd_passPacket_15 : decode prog_4_method_4_code 15 = .ok (.if_icmp .ne 7, 3) := by decide +kernel
theorem d_Rd_passPacket_18 : decode prog_4_method_4_code 18 = .ok (.aload_n 0, 1) := by decide +kernel
theorem d_Rd_passPacket_19 : decode prog_4_method_4_code 19 = .ok (.invokevirtual 35, 3) := by decide +kernel
theorem d_Rd_passPacket_22 : decode prog_4_method_4_code 22 = .ok (.return_, 1) := by decide +kernel
def rm_Rd_passPacket : Room := { frames := 3, cells := 0, slots := 0, locals := 61 }
def wp_Rd_passPacket_L18 (o : Nat) (Q : UI → UR → Prop) (I : UI) (R : UR) : Prop :=
  wp_Rd_beginPacket I R o (fun I1 R2 => Q I1 R2)
set_option maxHeartbeats 4000000 in
set_option maxRecDepth 100000 in
theorem j_Rd_passPacket_18 (X : uX p s m args c prog_4_method_4_code 1 "FrameFerry$Reader" D cc L A t16 t32) (hr : meth.sig.returnType = none) (hlk : meth.locks = false) (hsz : sz = s.heap.size) {o : Nat} (h_o : isRd L o) {Q : UI → UR → Prop} {I : UI} {R : UR} {H : Heap} {locs : List Loc} {ls : Array Slot} (V : uV s D cc L A J I R H locs) (hl : lv_has ls 1 [(0, .ref (A o))]) (h : wp_Rd_passPacket_L18 o Q I R) : W p l e rm_Rd_passPacket s m args below meth c H locs 0 0 (MQ below (va_Qv (fun u : UI × UR => Q u.1 u.2) (uBv D cc L A J) (uA L A sz)) args s 0 0 (uA L A sz)) (F0 m 18 ls []) := by
  have hx := X.1
  have hb := X.2.1
  unfold wp_Rd_passPacket_L18 at h
  refine lv_aload_n (pc := 18) hx hb d_Rd_passPacket_18 rfl (lv_at hl 0 rfl) ?_
  refine u_cVv (pc := 19) (As := []) X V s_Rd_35 h_o.1 h_o.2.1 rfl rfl (c_Rd_beginPacket l D cc L A J t16 t32 _ _ o h_o _ h) ⟨rfl, rfl, Nat.le_of_ble_eq_true rfl, Nat.le_of_ble_eq_true rfl⟩ rfl hl.1 rfl (Nat.le_of_ble_eq_true rfl) d_Rd_passPacket_19 ⟨Nat.zero_le _, Nat.zero_le _⟩ (fun I1 R2 h H locs V => ?_)
  exact u_retv (pc := 22) X V hr hlk hsz h d_Rd_passPacket_22
def wp_Rd_passPacket (I : UI) (R : UR) (o : Nat) (Q : UI → UR → Prop) : Prop :=
  ((I o 2 = 105 → wp_Rd_passPacket_L18 o Q I R) ∧ (¬ I o 2 = 105 → ((¬ I o 2 = 106 → Q I R) ∧ (I o 2 = 106 → wp_Rd_passPacket_L18 o Q I R))))
set_option maxHeartbeats 4000000 in
set_option maxRecDepth 100000 in
theorem c_Rd_passPacket (l : Launch) (D : va_G) (cc : Nat → ClassId) (L : List Nat) (A : Nat → Nat) (J : Nat → Int64) (t16 t32 : Nat) (I : UI) (R : UR) (o : Nat) (h_o : isRd L o) (Q : UI → UR → Prop) (h : wp_Rd_passPacket I R o Q) : uMv l y_Rd_passPacket (.code y_Rd_passPacket prog_4_method_4_code 1 none) rm_Rd_passPacket [.ref (A o)] D cc L A J t16 t32 I R Q := by
  intro sz
  refine u_entry (by decide) (Nat.le_of_ble_eq_true rfl) (fun p e s m args below meth c hsz X V hr hlk ls hl => ?_)
  have X : uX p s m args c prog_4_method_4_code 1 "FrameFerry$Reader" D cc L A t16 t32 := X
  have hx := X.1
  have hb := X.2.1
  have hl : lv_has ls 1 [(0, .ref (A o))] := hl
  unfold wp_Rd_passPacket at h
  generalize hH : s.heap = H at V ⊢
  generalize hlo : ([] : List Loc) = locs at V ⊢
  refine lv_aload_n (pc := 0) hx hb d_Rd_passPacket_0 rfl (lv_at hl 0 rfl) ?_
  refine u_geti (pc := 1) X V h_o.1 h_o.2.1 rfl f_Rd_32 rfl d_Rd_passPacket_1 ?_
  refine lv_bipush (pc := 4) (v := 105) hx hb d_Rd_passPacket_4 (by decide) ?_
  refine lv_icmp_eq (pc := 6) (tgt := 18) hx hb d_Rd_passPacket_6 (by decide) (fun hc => ?_) (fun hc => ?_)
  · have h := h.1 hc
    exact j_Rd_passPacket_18 X hr hlk hsz h_o V (lv_sub hl [0] rfl) h
  · have h := h.2 hc
    refine lv_aload_n (pc := 9) hx hb d_Rd_passPacket_9 rfl (lv_at hl 0 rfl) ?_
    refine u_geti (pc := 10) X V h_o.1 h_o.2.1 rfl f_Rd_32 rfl d_Rd_passPacket_10 ?_
    refine lv_bipush (pc := 13) (v := 106) hx hb d_Rd_passPacket_13 (by decide) ?_
    refine lv_icmp_ne (pc := 15) (tgt := 22) hx hb d_Rd_passPacket_15 (by decide) (fun hc => ?_) (fun hc => ?_)
    · have h := h.1 hc
      exact u_retv (pc := 22) X V hr hlk hsz h d_Rd_passPacket_22
    · have h := h.2 hc
      exact j_Rd_passPacket_18 X hr hlk hsz h_o V (lv_sub hl [0] rfl) h
-- FrameFerry$Reader.takeForm (I)V
theorem d_Rd_takeForm_0 : decode prog_4_method_6_code 0 = .ok (.iload_n 1, 1) := by decide +kernel
theorem d_Rd_takeForm_1 : decode prog_4_method_6_code 1 = .ok (.bipush 66, 2) := by decide +kernel
theorem d_Rd_takeForm_3 : decode prog_4_method_6_code 3 = .ok (.if_icmp .eq 21, 3) := by decide +kernel
theorem d_Rd_takeForm_6 : decode prog_4_method_6_code 6 = .ok (.iload_n 1, 1) := by decide +kernel
theorem d_Rd_takeForm_7 : decode prog_4_method_6_code 7 = .ok (.bipush 65, 2) := by decide +kernel
theorem d_Rd_takeForm_9 : decode prog_4_method_6_code 9 = .ok (.if_icmp .eq 15, 3) := by decide +kernel
theorem d_Rd_takeForm_12 : decode prog_4_method_6_code 12 = .ok (.iload_n 1, 1) := by decide +kernel
theorem d_Rd_takeForm_13 : decode prog_4_method_6_code 13 = .ok (.bipush 67, 2) := by decide +kernel
theorem d_Rd_takeForm_15 : decode prog_4_method_6_code 15 = .ok (.if_icmp .eq 9, 3) := by decide +kernel
theorem d_Rd_takeForm_18 : decode prog_4_method_6_code 18 = .ok (.aload_n 0, 1) := by decide +kernel
theorem d_Rd_takeForm_19 : decode prog_4_method_6_code 19 = .ok (.iconst 0, 1) := by decide +kernel
theorem d_Rd_takeForm_20 : decode prog_4_method_6_code 20 = .ok (.putfield 22, 3) := by decide +kernel
theorem d_Rd_takeForm_23 : decode prog_4_method_6_code 23 = .ok (.return_, 1) := by decide +kernel
theorem d_Rd_takeForm_24 : decode prog_4_method_6_code 24 = .ok (.aload_n 0, 1) := by decide +kernel
theorem d_Rd_takeForm_25 : decode prog_4_method_6_code 25 = .ok (.iconst 3, 1) := by decide +kernel
theorem d_Rd_takeForm_26 : decode prog_4_method_6_code 26 = .ok (.putfield 22, 3) := by decide +kernel
theorem d_Rd_takeForm_29 : decode prog_4_method_6_code 29 = .ok (.aload_n 0, 1) := by decide +kernel
theorem d_Rd_takeForm_30 : decode prog_4_method_6_code 30 = .ok (.iload_n 1, 1) := by decide +kernel
theorem d_Rd_takeForm_31 : decode prog_4_method_6_code 31 = .ok (.bipush 66, 2) := by decide +kernel
theorem d_Rd_takeForm_33 : decode prog_4_method_6_code 33 = .ok (.if_icmp .ne 7, 3) := by decide +kernel
theorem d_Rd_takeForm_36 : decode prog_4_method_6_code 36 = .ok (.iconst 1, 1) := by decide +kernel
theorem d_Rd_takeForm_37 : decode prog_4_method_6_code 37 = .ok (.goto 4, 3) := by decide +kernel
theorem d_Rd_takeForm_40 : decode prog_4_method_6_code 40 = .ok (.iconst 0, 1) := by decide +kernel
theorem d_Rd_takeForm_41 : decode prog_4_method_6_code 41 = .ok (.putfield 42, 3) := by decide +kernel
theorem d_Rd_takeForm_44 : decode prog_4_method_6_code 44 = .ok (.aload_n 0, 1) := by decide +kernel
theorem d_Rd_takeForm_45 : decode prog_4_method_6_code 45 = .ok (.iload_n 1, 1) := by decide +kernel
theorem d_Rd_takeForm_46 : decode prog_4_method_6_code 46 = .ok (.bipush 67, 2) := by decide +kernel
theorem d_Rd_takeForm_48 : decode prog_4_method_6_code 48 = .ok (.if_icmp .ne 7, 3) := by decide +kernel
theorem d_Rd_takeForm_51 : decode prog_4_method_6_code 51 = .ok (.iconst 1, 1) := by decide +kernel
theorem d_Rd_takeForm_52 : decode prog_4_method_6_code 52 = .ok (.goto 4, 3) := by decide +kernel
theorem d_Rd_takeForm_55 : decode prog_4_method_6_code 55 = .ok (.iconst 0, 1) := by decide +kernel
theorem d_Rd_takeForm_56 : decode prog_4_method_6_code 56 = .ok (.putfield 53, 3) := by decide +kernel
theorem d_Rd_takeForm_59 : decode prog_4_method_6_code 59 = .ok (.aload_n 0, 1) := by decide +kernel
theorem d_Rd_takeForm_60 : decode prog_4_method_6_code 60 = .ok (.iconst (-1), 1) := by decide +kernel
theorem d_Rd_takeForm_61 : decode prog_4_method_6_code 61 = .ok (.putfield 56, 3) := by decide +kernel
theorem d_Rd_takeForm_64 : decode prog_4_method_6_code 64 = .ok (.aload_n 0, 1) := by decide +kernel
theorem d_Rd_takeForm_65 : decode prog_4_method_6_code 65 = .ok (.iconst 0, 1) := by decide +kernel
theorem d_Rd_takeForm_66 : decode prog_4_method_6_code 66 = .ok (.putfield 59, 3) := by decide +kernel
theorem d_Rd_takeForm_69 : decode prog_4_method_6_code 69 = .ok (.aload_n 0, 1) := by decide +kernel
theorem d_Rd_takeForm_70 : decode prog_4_method_6_code 70 = .ok (.iconst 0, 1) := by decide +kernel
theorem d_Rd_takeForm_71 : decode prog_4_method_6_code 71 = .ok (.putfield 62, 3) := by decide +kernel
theorem d_Rd_takeForm_74 : decode prog_4_method_6_code 74 = .ok (.aload_n 0, 1) := by decide +kernel
theorem d_Rd_takeForm_75 : decode prog_4_method_6_code 75 = .ok (.invokevirtual 29, 3) := by decide +kernel
theorem d_Rd_takeForm_78 : decode prog_4_method_6_code 78 = .ok (.return_, 1) := by decide +kernel
def rm_Rd_takeForm : Room := { frames := 2, cells := 0, slots := 0, locals := 41 }
def wp_Rd_takeForm_L56 (o : Nat) (Q : UI → UR → Prop) (I : UI) (R : UR) (s0 : Int32) : Prop :=
  zb s0 ∧ ∀ I3 : UI, I3 = u2 I o 8 s0 → ∀ I4 : UI, I4 = u2 I3 o 10 (-1) → ∀ I5 : UI, I5 = u2 I4 o 11 0 → ∀ I6 : UI, I6 = u2 I5 o 4 0 → wp_Rd_beginCheck I6 R o (fun I7 R8 => Q I7 R8)
set_option maxHeartbeats 4000000 in
set_option maxRecDepth 100000 in
theorem j_Rd_takeForm_56 (X : uX p s m args c prog_4_method_6_code 2 "FrameFerry$Reader" D cc L A t16 t32) (hr : meth.sig.returnType = none) (hlk : meth.locks = false) (hsz : sz = s.heap.size) {o : Nat} (h_o : isRd L o) {Q : UI → UR → Prop} {I : UI} {R : UR} {s0 : Int32} {H : Heap} {locs : List Loc} {ls : Array Slot} (V : uV s D cc L A J I R H locs) (hl : lv_has ls 2 [(0, .ref (A o))]) (h : wp_Rd_takeForm_L56 o Q I R s0) : W p l e rm_Rd_takeForm s m args below meth c H locs 0 0 (MQ below (va_Qv (fun u : UI × UR => Q u.1 u.2) (uBv D cc L A J) (uA L A sz)) args s 0 0 (uA L A sz)) (F0 m 56 ls [.int s0, .ref (A o)]) := by
  have hx := X.1
  have hb := X.2.1
  unfold wp_Rd_takeForm_L56 at h
  refine u_putz (pc := 56) X V h_o.1 h_o.2.1 rfl f_Rd_53 rfl h.1 d_Rd_takeForm_56 (fun I3 eI3 H locs V => ?_)
  have h := h.2 I3 eI3
  refine lv_aload_n (pc := 59) hx hb d_Rd_takeForm_59 rfl (lv_at hl 0 rfl) ?_
  refine lv_iconst (pc := 60) (v := (-1)) hx hb d_Rd_takeForm_60 (by decide) ?_
  refine u_puti (pc := 61) X V h_o.1 h_o.2.1 rfl f_Rd_56 rfl d_Rd_takeForm_61 (fun I4 eI4 H locs V => ?_)
  have h := h I4 eI4
  refine lv_aload_n (pc := 64) hx hb d_Rd_takeForm_64 rfl (lv_at hl 0 rfl) ?_
  refine lv_iconst (pc := 65) (v := 0) hx hb d_Rd_takeForm_65 (by decide) ?_
  refine u_puti (pc := 66) X V h_o.1 h_o.2.1 rfl f_Rd_59 rfl d_Rd_takeForm_66 (fun I5 eI5 H locs V => ?_)
  have h := h I5 eI5
  refine lv_aload_n (pc := 69) hx hb d_Rd_takeForm_69 rfl (lv_at hl 0 rfl) ?_
  refine lv_iconst (pc := 70) (v := 0) hx hb d_Rd_takeForm_70 (by decide) ?_
  refine u_puti (pc := 71) X V h_o.1 h_o.2.1 rfl f_Rd_62 rfl d_Rd_takeForm_71 (fun I6 eI6 H locs V => ?_)
  have h := h I6 eI6
  refine lv_aload_n (pc := 74) hx hb d_Rd_takeForm_74 rfl (lv_at hl 0 rfl) ?_
  refine u_cVv (pc := 75) (As := []) X V s_Rd_29 h_o.1 h_o.2.1 rfl rfl (c_Rd_beginCheck l D cc L A J t16 t32 _ _ o h_o _ h) ⟨rfl, rfl, Nat.le_of_ble_eq_true rfl, Nat.le_of_ble_eq_true rfl⟩ rfl hl.1 rfl (Nat.le_of_ble_eq_true rfl) d_Rd_takeForm_75 ⟨Nat.zero_le _, Nat.zero_le _⟩ (fun I7 R8 h H locs V => ?_)
  exact u_retv (pc := 78) X V hr hlk hsz h d_Rd_takeForm_78
def wp_Rd_takeForm_L41 (o : Nat) (Q : UI → UR → Prop) (I : UI) (R : UR) (x1 : Int32) (s0 : Int32) : Prop :=
  zb s0 ∧ ∀ I2 : UI, I2 = u2 I o 5 s0 → ((¬ x1 = 67 → wp_Rd_takeForm_L56 o Q I2 R 0) ∧ (x1 = 67 → wp_Rd_takeForm_L56 o Q I2 R 1))
set_option maxHeartbeats 4000000 in
set_option maxRecDepth 100000 in
theorem j_Rd_takeForm_41 (X : uX p s m args c prog_4_method_6_code 2 "FrameFerry$Reader" D cc L A t16 t32) (hr : meth.sig.returnType = none) (hlk : meth.locks = false) (hsz : sz = s.heap.size) {o : Nat} (h_o : isRd L o) {Q : UI → UR → Prop} {I : UI} {R : UR} {x1 : Int32} {s0 : Int32} {H : Heap} {locs : List Loc} {ls : Array Slot} (V : uV s D cc L A J I R H locs) (hl : lv_has ls 2 [(0, .ref (A o)), (1, .int x1)]) (h : wp_Rd_takeForm_L41 o Q I R x1 s0) : W p l e rm_Rd_takeForm s m args below meth c H locs 0 0 (MQ below (va_Qv (fun u : UI × UR => Q u.1 u.2) (uBv D cc L A J) (uA L A sz)) args s 0 0 (uA L A sz)) (F0 m 41 ls [.int s0, .ref (A o)]) := by
  have hx := X.1
  have hb := X.2.1
  unfold wp_Rd_takeForm_L41 at h
  refine u_putz (pc := 41) X V h_o.1 h_o.2.1 rfl f_Rd_42 rfl h.1 d_Rd_takeForm_41 (fun I2 eI2 H locs V => ?_)
  have h := h.2 I2 eI2
  refine lv_aload_n (pc := 44) hx hb d_Rd_takeForm_44 rfl (lv_at hl 0 rfl) ?_
  refine lv_iload_n (pc := 45) hx hb d_Rd_takeForm_45 rfl (lv_at hl 1 rfl) ?_
  refine lv_bipush (pc := 46) (v := 67) hx hb d_Rd_takeForm_46 (by decide) ?_
  refine lv_icmp_ne (pc := 48) (tgt := 55) hx hb d_Rd_takeForm_48 (by decide) (fun hc => ?_) (fun hc => ?_)
  · have h := h.1 hc
    refine lv_iconst (pc := 55) (v := 0) hx hb d_Rd_takeForm_55 (by decide) ?_
    exact j_Rd_takeForm_56 X hr hlk hsz h_o V (lv_sub hl [0] rfl) h
  · have h := h.2 hc
    refine lv_iconst (pc := 51) (v := 1) hx hb d_Rd_takeForm_51 (by decide) ?_
    refine lv_goto (pc := 52) (tgt := 56) hx hb d_Rd_takeForm_52 (by decide) ?_
    exact j_Rd_takeForm_56 X hr hlk hsz h_o V (lv_sub hl [0] rfl) h
def wp_Rd_takeForm_L24 (o : Nat) (Q : UI → UR → Prop) (I : UI) (R : UR) (x1 : Int32) : Prop :=
  ∀ I1 : UI, I1 = u2 I o 7 3 → ((¬ x1 = 66 → wp_Rd_takeForm_L41 o Q I1 R x1 0) ∧ (x1 = 66 → wp_Rd_takeForm_L41 o Q I1 R x1 1))
set_option maxHeartbeats 4000000 in
set_option maxRecDepth 100000 in
theorem j_Rd_takeForm_24 (X : uX p s m args c prog_4_method_6_code 2 "FrameFerry$Reader" D cc L A t16 t32) (hr : meth.sig.returnType = none) (hlk : meth.locks = false) (hsz : sz = s.heap.size) {o : Nat} (h_o : isRd L o) {Q : UI → UR → Prop} {I : UI} {R : UR} {x1 : Int32} {H : Heap} {locs : List Loc} {ls : Array Slot} (V : uV s D cc L A J I R H locs) (hl : lv_has ls 2 [(0, .ref (A o)), (1, .int x1)]) (h : wp_Rd_takeForm_L24 o Q I R x1) : W p l e rm_Rd_takeForm s m args below meth c H locs 0 0 (MQ below (va_Qv (fun u : UI × UR => Q u.1 u.2) (uBv D cc L A J) (uA L A sz)) args s 0 0 (uA L A sz)) (F0 m 24 ls []) := by
  have hx := X.1
  have hb := X.2.1
  unfold wp_Rd_takeForm_L24 at h
  refine lv_aload_n (pc := 24) hx hb d_Rd_takeForm_24 rfl (lv_at hl 0 rfl) ?_
  refine lv_iconst (pc := 25) (v := 3) hx hb d_Rd_takeForm_25 (by decide) ?_
  refine u_puti (pc := 26) X V h_o.1 h_o.2.1 rfl f_Rd_22 rfl d_Rd_takeForm_26 (fun I1 eI1 H locs V => ?_)
  have h := h I1 eI1
  refine lv_aload_n (pc := 29) hx hb d_Rd_takeForm_29 rfl (lv_at hl 0 rfl) ?_
  refine lv_iload_n (pc := 30) hx hb d_Rd_takeForm_30 rfl (lv_at hl 1 rfl) ?_
  refine lv_bipush (pc := 31) (v := 66) hx hb d_Rd_takeForm_31 (by decide) ?_
  refine lv_icmp_ne (pc := 33) (tgt := 40) hx hb d_Rd_takeForm_33 (by decide) (fun hc => ?_) (fun hc => ?_)
  · have h := h.1 hc
    refine lv_iconst (pc := 40) (v := 0) hx hb d_Rd_takeForm_40 (by decide) ?_
    exact j_Rd_takeForm_41 X hr hlk hsz h_o V (lv_sub hl [0, 1] rfl) h
  · have h := h.2 hc
    refine lv_iconst (pc := 36) (v := 1) hx hb d_Rd_takeForm_36 (by decide) ?_
    refine lv_goto (pc := 37) (tgt := 41) hx hb d_Rd_takeForm_37 (by decide) ?_
    exact j_Rd_takeForm_41 X hr hlk hsz h_o V (lv_sub hl [0, 1] rfl) h
def wp_Rd_takeForm (I : UI) (R : UR) (o : Nat) (x1 : Int32) (Q : UI → UR → Prop) : Prop :=
  ((x1 = 66 → wp_Rd_takeForm_L24 o Q I R x1) ∧ (¬ x1 = 66 → ((x1 = 65 → wp_Rd_takeForm_L24 o Q I R x1) ∧ (¬ x1 = 65 → ((x1 = 67 → wp_Rd_takeForm_L24 o Q I R x1) ∧ (¬ x1 = 67 → ∀ I9 : UI, I9 = u2 I o 7 0 → Q I9 R))))))
set_option maxHeartbeats 4000000 in
set_option maxRecDepth 100000 in
theorem c_Rd_takeForm (l : Launch) (D : va_G) (cc : Nat → ClassId) (L : List Nat) (A : Nat → Nat) (J : Nat → Int64) (t16 t32 : Nat) (I : UI) (R : UR) (o : Nat) (h_o : isRd L o) (x1 : Int32) (Q : UI → UR → Prop) (h : wp_Rd_takeForm I R o x1 Q) : uMv l y_Rd_takeForm (.code y_Rd_takeForm prog_4_method_6_code 2 none) rm_Rd_takeForm [.ref (A o), .int x1] D cc L A J t16 t32 I R Q := by
  intro sz
  refine u_entry (by decide) (Nat.le_of_ble_eq_true rfl) (fun p e s m args below meth c hsz X V hr hlk ls hl => ?_)
  have X : uX p s m args c prog_4_method_6_code 2 "FrameFerry$Reader" D cc L A t16 t32 := X
  have hx := X.1
  have hb := X.2.1
  have hl : lv_has ls 2 [(0, .ref (A o)), (1, .int x1)] := hl
  unfold wp_Rd_takeForm at h
  generalize hH : s.heap = H at V ⊢
  generalize hlo : ([] : List Loc) = locs at V ⊢
  refine lv_iload_n (pc := 0) hx hb d_Rd_takeForm_0 rfl (lv_at hl 1 rfl) ?_
  refine lv_bipush (pc := 1) (v := 66) hx hb d_Rd_takeForm_1 (by decide) ?_
  refine lv_icmp_eq (pc := 3) (tgt := 24) hx hb d_Rd_takeForm_3 (by decide) (fun hc => ?_) (fun hc => ?_)
  · have h := h.1 hc
    exact j_Rd_takeForm_24 X hr hlk hsz h_o V (lv_sub hl [0, 1] rfl) h
  · have h := h.2 hc
    refine lv_iload_n (pc := 6) hx hb d_Rd_takeForm_6 rfl (lv_at hl 1 rfl) ?_
    refine lv_bipush (pc := 7) (v := 65) hx hb d_Rd_takeForm_7 (by decide) ?_
    refine lv_icmp_eq (pc := 9) (tgt := 24) hx hb d_Rd_takeForm_9 (by decide) (fun hc => ?_) (fun hc => ?_)
    · have h := h.1 hc
      exact j_Rd_takeForm_24 X hr hlk hsz h_o V (lv_sub hl [0, 1] rfl) h
    · have h := h.2 hc
      refine lv_iload_n (pc := 12) hx hb d_Rd_takeForm_12 rfl (lv_at hl 1 rfl) ?_
      refine lv_bipush (pc := 13) (v := 67) hx hb d_Rd_takeForm_13 (by decide) ?_
      refine lv_icmp_eq (pc := 15) (tgt := 24) hx hb d_Rd_takeForm_15 (by decide) (fun hc => ?_) (fun hc => ?_)
      · have h := h.1 hc
        exact j_Rd_takeForm_24 X hr hlk hsz h_o V (lv_sub hl [0, 1] rfl) h
      · have h := h.2 hc
        refine lv_aload_n (pc := 18) hx hb d_Rd_takeForm_18 rfl (lv_at hl 0 rfl) ?_
        refine lv_iconst (pc := 19) (v := 0) hx hb d_Rd_takeForm_19 (by decide) ?_
        refine u_puti (pc := 20) X V h_o.1 h_o.2.1 rfl f_Rd_22 rfl d_Rd_takeForm_20 (fun I9 eI9 H locs V => ?_)
        have h := h I9 eI9
        exact u_retv (pc := 23) X V hr hlk hsz h d_Rd_takeForm_23
-- FrameFerry$Reader.giveUp ()I
theorem d_Rd_giveUp_0 : decode prog_4_method_14_code 0 = .ok (.aload_n 0, 1) := by decide +kernel
theorem d_Rd_giveUp_1 : decode prog_4_method_14_code 1 = .ok (.getfield 22, 3) := by decide +kernel
theorem d_Rd_giveUp_4 : decode prog_4_method_14_code 4 = .ok (.iconst 3, 1) := by decide +kernel
theorem d_Rd_giveUp_5 : decode prog_4_method_14_code 5 = .ok (.if_icmp .ne 7, 3) := by decide +kernel
theorem d_Rd_giveUp_8 : decode prog_4_method_14_code 8 = .ok (.iconst 1, 1) := by decide +kernel
theorem d_Rd_giveUp_9 : decode prog_4_method_14_code 9 = .ok (.goto 4, 3) := by decide +kernel
theorem d_Rd_giveUp_12 : decode prog_4_method_14_code 12 = .ok (.iconst 0, 1) := by decide +kernel
theorem d_Rd_giveUp_13 : decode prog_4_method_14_code 13 = .ok (.istore_n 1, 1) := by decide +kernel
theorem d_Rd_giveUp_14 : decode prog_4_method_14_code 14 = .ok (.aload_n 0, 1) := by decide +kernel
theorem d_Rd_giveUp_15 : decode prog_4_method_14_code 15 = .ok (.iconst 0, 1) := by decide +kernel
theorem d_Rd_giveUp_16 : decode prog_4_method_14_code 16 = .ok (.putfield 22, 3) := by decide +kernel
theorem d_Rd_giveUp_19 : decode prog_4_method_14_code 19 = .ok (.iload_n 1, 1) := by decide +kernel
theorem d_Rd_giveUp_20 : decode prog_4_method_14_code 20 = .ok (.ifCond .eq 7, 3) := by decide +kernel
theorem d_Rd_giveUp_23 : decode prog_4_method_14_code 23 = .ok (.iconst 2, 1) := by decide +kernel
theorem d_Rd_giveUp_24 : decode prog_4_method_14_code 24 = .ok (.goto 4, 3) := by decide +kernel
theorem d_Rd_giveUp_27 : decode prog_4_method_14_code 27 = .ok (.iconst 4, 1) := by decide +kernel
theorem d_Rd_giveUp_28 : decode prog_4_method_14_code 28 = .ok (.ireturn, 1) := by decide +kernel
def rm_Rd_giveUp : Room := { frames := 0, cells := 0, slots := 0, locals := 0 }
def wp_Rd_giveUp_L13 (o : Nat) (Q : Int32 → UI → UR → Prop) (I : UI) (R : UR) (s0 : Int32) : Prop :=
  ∀ I1 : UI, I1 = u2 I o 7 0 → ((s0 = 0 → Q 4 I1 R) ∧ (¬ s0 = 0 → Q 2 I1 R))
set_option maxHeartbeats 4000000 in
set_option maxRecDepth 100000 in
theorem j_Rd_giveUp_13 (X : uX p s m args c prog_4_method_14_code 2 "FrameFerry$Reader" D cc L A t16 t32) (hr : meth.sig.returnType = (some .int)) (hlk : meth.locks = false) (hsz : sz = s.heap.size) {o : Nat} (h_o : isRd L o) {Q : Int32 → UI → UR → Prop} {I : UI} {R : UR} {s0 : Int32} {H : Heap} {locs : List Loc} {ls : Array Slot} (V : uV s D cc L A J I R H locs) (hl : lv_has ls 2 [(0, .ref (A o))]) (h : wp_Rd_giveUp_L13 o Q I R s0) : W p l e rm_Rd_giveUp s m args below meth c H locs 0 0 (MQ below (va_Qi (fun (r : Int32) (u : UI × UR) => Q r u.1 u.2) (uBv D cc L A J) (uA L A sz)) args s 0 0 (uA L A sz)) (F0 m 13 ls [.int s0]) := by
  have hx := X.1
  have hb := X.2.1
  unfold wp_Rd_giveUp_L13 at h
  refine lv_istore_n (pc := 13) (lv' := [(1, .int s0), (0, .ref (A o))]) hx hb d_Rd_giveUp_13 rfl hl (by decide) rfl (fun ls hl => ?_)
  refine lv_aload_n (pc := 14) hx hb d_Rd_giveUp_14 rfl (lv_at hl 1 rfl) ?_
  refine lv_iconst (pc := 15) (v := 0) hx hb d_Rd_giveUp_15 (by decide) ?_
  refine u_puti (pc := 16) X V h_o.1 h_o.2.1 rfl f_Rd_22 rfl d_Rd_giveUp_16 (fun I1 eI1 H locs V => ?_)
  have h := h I1 eI1
  refine lv_iload_n (pc := 19) hx hb d_Rd_giveUp_19 rfl (lv_at hl 0 rfl) ?_
  refine lv_if_eq (pc := 20) (tgt := 27) hx hb d_Rd_giveUp_20 (by decide) (fun hc => ?_) (fun hc => ?_)
  · have h := h.1 hc
    refine lv_iconst (pc := 27) (v := 4) hx hb d_Rd_giveUp_27 (by decide) ?_
    exact u_reti (pc := 28) X V hr hlk hsz h d_Rd_giveUp_28
  · have h := h.2 hc
    refine lv_iconst (pc := 23) (v := 2) hx hb d_Rd_giveUp_23 (by decide) ?_
    refine lv_goto (pc := 24) (tgt := 28) hx hb d_Rd_giveUp_24 (by decide) ?_
    exact u_reti (pc := 28) X V hr hlk hsz h d_Rd_giveUp_28
def wp_Rd_giveUp (I : UI) (R : UR) (o : Nat) (Q : Int32 → UI → UR → Prop) : Prop :=
  ((¬ I o 7 = 3 → wp_Rd_giveUp_L13 o Q I R 0) ∧ (I o 7 = 3 → wp_Rd_giveUp_L13 o Q I R 1))
set_option maxHeartbeats 4000000 in
set_option maxRecDepth 100000 in
theorem c_Rd_giveUp (l : Launch) (D : va_G) (cc : Nat → ClassId) (L : List Nat) (A : Nat → Nat) (J : Nat → Int64) (t16 t32 : Nat) (I : UI) (R : UR) (o : Nat) (h_o : isRd L o) (Q : Int32 → UI → UR → Prop) (h : wp_Rd_giveUp I R o Q) : uMi l y_Rd_giveUp (.code y_Rd_giveUp prog_4_method_14_code 2 (some .int)) rm_Rd_giveUp [.ref (A o)] D cc L A J t16 t32 I R Q := by
  intro sz
  refine u_entry (by decide) (Nat.le_of_ble_eq_true rfl) (fun p e s m args below meth c hsz X V hr hlk ls hl => ?_)
  have X : uX p s m args c prog_4_method_14_code 2 "FrameFerry$Reader" D cc L A t16 t32 := X
  have hx := X.1
  have hb := X.2.1
  have hl : lv_has ls 2 [(0, .ref (A o))] := hl
  unfold wp_Rd_giveUp at h
  generalize hH : s.heap = H at V ⊢
  generalize hlo : ([] : List Loc) = locs at V ⊢
  refine lv_aload_n (pc := 0) hx hb d_Rd_giveUp_0 rfl (lv_at hl 0 rfl) ?_
  refine u_geti (pc := 1) X V h_o.1 h_o.2.1 rfl f_Rd_22 rfl d_Rd_giveUp_1 ?_
  refine lv_iconst (pc := 4) (v := 3) hx hb d_Rd_giveUp_4 (by decide) ?_
  refine lv_icmp_ne (pc := 5) (tgt := 12) hx hb d_Rd_giveUp_5 (by decide) (fun hc => ?_) (fun hc => ?_)
  · have h := h.1 hc
    refine lv_iconst (pc := 12) (v := 0) hx hb d_Rd_giveUp_12 (by decide) ?_
    exact j_Rd_giveUp_13 X hr hlk hsz h_o V (lv_sub hl [0] rfl) h
  · have h := h.2 hc
    refine lv_iconst (pc := 8) (v := 1) hx hb d_Rd_giveUp_8 (by decide) ?_
    refine lv_goto (pc := 9) (tgt := 13) hx hb d_Rd_giveUp_9 (by decide) ?_
    exact j_Rd_giveUp_13 X hr hlk hsz h_o V (lv_sub hl [0] rfl) h
-- FrameFerry$Reader.digitOf (I)I
theorem d_Rd_digitOf_0 : decode prog_4_method_15_code 0 = .ok (.iload_n 0, 1) := by decide +kernel
theorem d_Rd_digitOf_1 : decode prog_4_method_15_code 1 = .ok (.bipush 48, 2) := by decide +kernel
theorem d_Rd_digitOf_3 : decode prog_4_method_15_code 3 = .ok (.if_icmp .lt 14, 3) := by decide +kernel
theorem d_Rd_digitOf_6 : decode prog_4_method_15_code 6 = .ok (.iload_n 0, 1) := by decide +kernel
theorem d_Rd_digitOf_7 : decode prog_4_method_15_code 7 = .ok (.bipush 57, 2) := by decide +kernel
theorem d_Rd_digitOf_9 : decode prog_4_method_15_code 9 = .ok (.if_icmp .gt 8, 3) := by decide +kernel
theorem d_Rd_digitOf_12 : decode prog_4_method_15_code 12 = .ok (.iload_n 0, 1) := by decide +kernel
theorem d_Rd_digitOf_13 : decode prog_4_method_15_code 13 = .ok (.bipush 48, 2) := by decide +kernel
theorem d_Rd_digitOf_15 : decode prog_4_method_15_code 15 = .ok (.isub, 1) := by decide +kernel
theorem d_Rd_digitOf_16 : decode prog_4_method_15_code 16 = .ok (.ireturn, 1) := by decide +kernel
theorem d_Rd_digitOf_17 : decode prog_4_method_15_code 17 = .ok (.iload_n 0, 1) := by decide +kernel
theorem d_Rd_digitOf_18 : decode prog_4_method_15_code 18 = .ok (.bipush 97, 2) := by decide +kernel
theorem d_Rd_digitOf_20 : decode prog_4_method_15_code 20 = .ok (.if_icmp .lt 17, 3) := by decide +kernel
theorem d_Rd_digitOf_23 : decode prog_4_method_15_code 23 = .ok (.iload_n 0, 1) := by decide +kernel
theorem d_Rd_digitOf_24 : decode prog_4_method_15_code 24 = .ok (.bipush 102, 2) := by decide +kernel
theorem d_Rd_digitOf_26 : decode prog_4_method_15_code 26 = .ok (.if_icmp .gt 11, 3) := by decide +kernel
theorem d_Rd_digitOf_29 : decode prog_4_method_15_code 29 = .ok (.iload_n 0, 1) := by decide +kernel
theorem d_Rd_digitOf_30 : decode prog_4_method_15_code 30 = .ok (.bipush 97, 2) := by decide +kernel
theorem d_Rd_digitOf_32 : decode prog_4_method_15_code 32 = .ok (.isub, 1) := by decide +kernel
theorem d_Rd_digitOf_33 : decode prog_4_method_15_code 33 = .ok (.bipush 10, 2) := by decide +kernel
theorem d_Rd_digitOf_35 : decode prog_4_method_15_code 35 = .ok (.iadd, 1) := by decide +kernel
theorem d_Rd_digitOf_36 : decode prog_4_method_15_code 36 = .ok (.ireturn, 1) := by decide +kernel
theorem d_Rd_digitOf_37 : decode prog_4_method_15_code 37 = .ok (.iload_n 0, 1) := by decide +kernel
theorem d_Rd_digitOf_38 : decode prog_4_method_15_code 38 = .ok (.bipush 65, 2) := by decide +kernel
theorem d_Rd_digitOf_40 : decode prog_4_method_15_code 40 = .ok (.if_icmp .lt 19, 3) := by decide +kernel
theorem d_Rd_digitOf_43 : decode prog_4_method_15_code 43 = .ok (.iload_n 0, 1) := by decide +kernel
theorem d_Rd_digitOf_44 : decode prog_4_method_15_code 44 = .ok (.bipush 70, 2) := by decide +kernel
theorem d_Rd_digitOf_46 : decode prog_4_method_15_code 46 = .ok (.if_icmp .gt 13, 3) := by decide +kernel
theorem d_Rd_digitOf_49 : decode prog_4_method_15_code 49 = .ok (.iload_n 0, 1) := by decide +kernel
theorem d_Rd_digitOf_50 : decode prog_4_method_15_code 50 = .ok (.bipush 65, 2) := by decide +kernel
theorem d_Rd_digitOf_52 : decode prog_4_method_15_code 52 = .ok (.isub, 1) := by decide +kernel
theorem d_Rd_digitOf_53 : decode prog_4_method_15_code 53 = .ok (.bipush 10, 2) := by decide +kernel
theorem d_Rd_digitOf_55 : decode prog_4_method_15_code 55 = .ok (.iadd, 1) := by decide +kernel
theorem d_Rd_digitOf_56 : decode prog_4_method_15_code 56 = .ok (.goto 4, 3) := by decide +kernel
theorem d_Rd_digitOf_59 : decode prog_4_method_15_code 59 = .ok (.iconst (-1), 1) := by decide +kernel
theorem d_Rd_digitOf_60 : decode prog_4_method_15_code 60 = .ok (.ireturn, 1) := by decide +kernel
def rm_Rd_digitOf : Room := { frames := 0, cells := 0, slots := 0, locals := 0 }
def wp_Rd_digitOf_L37 (Q : Int32 → UI → UR → Prop) (I : UI) (R : UR) (x0 : Int32) : Prop :=
  ((x0 < 65 → Q (-1) I R) ∧ (¬ x0 < 65 → ((70 < x0 → Q (-1) I R) ∧ (¬ 70 < x0 → Q ((x0 - 65) + 10) I R))))
set_option maxHeartbeats 4000000 in
set_option maxRecDepth 100000 in
theorem j_Rd_digitOf_37 (X : uX p s m args c prog_4_method_15_code 1 "FrameFerry$Reader" D cc L A t16 t32) (hr : meth.sig.returnType = (some .int)) (hlk : meth.locks = false) (hsz : sz = s.heap.size) {Q : Int32 → UI → UR → Prop} {I : UI} {R : UR} {x0 : Int32} {H : Heap} {locs : List Loc} {ls : Array Slot} (V : uV s D cc L A J I R H locs) (hl : lv_has ls 1 [(0, .int x0)]) (h : wp_Rd_digitOf_L37 Q I R x0) : W p l e rm_Rd_digitOf s m args below meth c H locs 0 0 (MQ below (va_Qi (fun (r : Int32) (u : UI × UR) => Q r u.1 u.2) (uBv D cc L A J) (uA L A sz)) args s 0 0 (uA L A sz)) (F0 m 37 ls []) := by
  have hx := X.1
  have hb := X.2.1
  unfold wp_Rd_digitOf_L37 at h
  refine lv_iload_n (pc := 37) hx hb d_Rd_digitOf_37 rfl (lv_at hl 0 rfl) ?_
  refine lv_bipush (pc := 38) (v := 65) hx hb d_Rd_digitOf_38 (by decide) ?_
  refine lv_icmp_lt (pc := 40) (tgt := 59) hx hb d_Rd_digitOf_40 (by decide) (fun hc => ?_) (fun hc => ?_)
  · have h := h.1 hc
    refine lv_iconst (pc := 59) (v := (-1)) hx hb d_Rd_digitOf_59 (by decide) ?_
    exact u_reti (pc := 60) X V hr hlk hsz h d_Rd_digitOf_60
  · have h := h.2 hc
    refine lv_iload_n (pc := 43) hx hb d_Rd_digitOf_43 rfl (lv_at hl 0 rfl) ?_
    refine lv_bipush (pc := 44) (v := 70) hx hb d_Rd_digitOf_44 (by decide) ?_
    refine lv_icmp_gt (pc := 46) (tgt := 59) hx hb d_Rd_digitOf_46 (by decide) (fun hc => ?_) (fun hc => ?_)
    · have h := h.1 hc
      refine lv_iconst (pc := 59) (v := (-1)) hx hb d_Rd_digitOf_59 (by decide) ?_
      exact u_reti (pc := 60) X V hr hlk hsz h d_Rd_digitOf_60
    · have h := h.2 hc
      refine lv_iload_n (pc := 49) hx hb d_Rd_digitOf_49 rfl (lv_at hl 0 rfl) ?_
      refine lv_bipush (pc := 50) (v := 65) hx hb d_Rd_digitOf_50 (by decide) ?_
      refine lv_isub (pc := 52) hx hb d_Rd_digitOf_52 ?_
      refine lv_bipush (pc := 53) (v := 10) hx hb d_Rd_digitOf_53 (by decide) ?_
      refine lv_iadd (pc := 55) hx hb d_Rd_digitOf_55 ?_
      refine lv_goto (pc := 56) (tgt := 60) hx hb d_Rd_digitOf_56 (by decide) ?_
      exact u_reti (pc := 60) X V hr hlk hsz h d_Rd_digitOf_60
def wp_Rd_digitOf_L17 (Q : Int32 → UI → UR → Prop) (I : UI) (R : UR) (x0 : Int32) : Prop :=
  ((x0 < 97 → wp_Rd_digitOf_L37 Q I R x0) ∧ (¬ x0 < 97 → ((102 < x0 → wp_Rd_digitOf_L37 Q I R x0) ∧ (¬ 102 < x0 → Q ((x0 - 97) + 10) I R))))
set_option maxHeartbeats 4000000 in
set_option maxRecDepth 100000 in
theorem j_Rd_digitOf_17 (X : uX p s m args c prog_4_method_15_code 1 "FrameFerry$Reader" D cc L A t16 t32) (hr : meth.sig.returnType = (some .int)) (hlk : meth.locks = false) (hsz : sz = s.heap.size) {Q : Int32 → UI → UR → Prop} {I : UI} {R : UR} {x0 : Int32} {H : Heap} {locs : List Loc} {ls : Array Slot} (V : uV s D cc L A J I R H locs) (hl : lv_has ls 1 [(0, .int x0)]) (h : wp_Rd_digitOf_L17 Q I R x0) : W p l e rm_Rd_digitOf s m args below meth c H locs 0 0 (MQ below (va_Qi (fun (r : Int32) (u : UI × UR) => Q r u.1 u.2) (uBv D cc L A J) (uA L A sz)) args s 0 0 (uA L A sz)) (F0 m 17 ls []) := by
  have hx := X.1
  have hb := X.2.1
  unfold wp_Rd_digitOf_L17 at h
  refine lv_iload_n (pc := 17) hx hb d_Rd_digitOf_17 rfl (lv_at hl 0 rfl) ?_
  refine lv_bipush (pc := 18) (v := 97) hx hb d_Rd_digitOf_18 (by decide) ?_
  refine lv_icmp_lt (pc := 20) (tgt := 37) hx hb d_Rd_digitOf_20 (by decide) (fun hc => ?_) (fun hc => ?_)
  · have h := h.1 hc
    exact j_Rd_digitOf_37 X hr hlk hsz V (lv_sub hl [0] rfl) h
  · have h := h.2 hc
    refine lv_iload_n (pc := 23) hx hb d_Rd_digitOf_23 rfl (lv_at hl 0 rfl) ?_
    refine lv_bipush (pc := 24) (v := 102) hx hb d_Rd_digitOf_24 (by decide) ?_
    refine lv_icmp_gt (pc := 26) (tgt := 37) hx hb d_Rd_digitOf_26 (by decide) (fun hc => ?_) (fun hc => ?_)
    · have h := h.1 hc
      exact j_Rd_digitOf_37 X hr hlk hsz V (lv_sub hl [0] rfl) h
    · have h := h.2 hc
      refine lv_iload_n (pc := 29) hx hb d_Rd_digitOf_29 rfl (lv_at hl 0 rfl) ?_
      refine lv_bipush (pc := 30) (v := 97) hx hb d_Rd_digitOf_30 (by decide) ?_
      refine lv_isub (pc := 32) hx hb d_Rd_digitOf_32 ?_
      refine lv_bipush (pc := 33) (v := 10) hx hb d_Rd_digitOf_33 (by decide) ?_
      refine lv_iadd (pc := 35) hx hb d_Rd_digitOf_35 ?_
      exact u_reti (pc := 36) X V hr hlk hsz h d_Rd_digitOf_36
def wp_Rd_digitOf (I : UI) (R : UR) (x0 : Int32) (Q : Int32 → UI → UR → Prop) : Prop :=
  ((x0 < 48 → wp_Rd_digitOf_L17 Q I R x0) ∧ (¬ x0 < 48 → ((57 < x0 → wp_Rd_digitOf_L17 Q I R x0) ∧ (¬ 57 < x0 → Q (x0 - 48) I R))))
set_option maxHeartbeats 4000000 in
set_option maxRecDepth 100000 in
theorem c_Rd_digitOf (l : Launch) (D : va_G) (cc : Nat → ClassId) (L : List Nat) (A : Nat → Nat) (J : Nat → Int64) (t16 t32 : Nat) (I : UI) (R : UR) (x0 : Int32) (Q : Int32 → UI → UR → Prop) (h : wp_Rd_digitOf I R x0 Q) : uMi l y_Rd_digitOf (.code y_Rd_digitOf prog_4_method_15_code 1 (some .int)) rm_Rd_digitOf [.int x0] D cc L A J t16 t32 I R Q := by
  intro sz
  refine u_entry (by decide) (Nat.le_of_ble_eq_true rfl) (fun p e s m args below meth c hsz X V hr hlk ls hl => ?_)
  have X : uX p s m args c prog_4_method_15_code 1 "FrameFerry$Reader" D cc L A t16 t32 := X
  have hx := X.1
  have hb := X.2.1
  have hl : lv_has ls 1 [(0, .int x0)] := hl
  unfold wp_Rd_digitOf at h
  generalize hH : s.heap = H at V ⊢
  generalize hlo : ([] : List Loc) = locs at V ⊢
  refine lv_iload_n (pc := 0) hx hb d_Rd_digitOf_0 rfl (lv_at hl 0 rfl) ?_
  refine lv_bipush (pc := 1) (v := 48) hx hb d_Rd_digitOf_1 (by decide) ?_
  refine lv_icmp_lt (pc := 3) (tgt := 17) hx hb d_Rd_digitOf_3 (by decide) (fun hc => ?_) (fun hc => ?_)
  · have h := h.1 hc
    exact j_Rd_digitOf_17 X hr hlk hsz V (lv_sub hl [0] rfl) h
  · have h := h.2 hc
    refine lv_iload_n (pc := 6) hx hb d_Rd_digitOf_6 rfl (lv_at hl 0 rfl) ?_
    refine lv_bipush (pc := 7) (v := 57) hx hb d_Rd_digitOf_7 (by decide) ?_
    refine lv_icmp_gt (pc := 9) (tgt := 17) hx hb d_Rd_digitOf_9 (by decide) (fun hc => ?_) (fun hc => ?_)
    · have h := h.1 hc
      exact j_Rd_digitOf_17 X hr hlk hsz V (lv_sub hl [0] rfl) h
    · have h := h.2 hc
      refine lv_iload_n (pc := 12) hx hb d_Rd_digitOf_12 rfl (lv_at hl 0 rfl) ?_
      refine lv_bipush (pc := 13) (v := 48) hx hb d_Rd_digitOf_13 (by decide) ?_
      refine lv_isub (pc := 15) hx hb d_Rd_digitOf_15 ?_
      exact u_reti (pc := 16) X V hr hlk hsz h d_Rd_digitOf_16
-- FrameFerry$Reader.unescaped (I)I
theorem d_Rd_unescaped_0 : decode prog_4_method_16_code 0 = .ok (.iload_n 0, 1) := by decide +kernel
theorem d_Rd_unescaped_1 : decode prog_4_method_16_code 1 = .ok (.bipush 96, 2) := by decide +kernel
theorem d_Rd_unescaped_3 : decode prog_4_method_16_code 3 = .ok (.iand, 1) := by decide +kernel
theorem d_Rd_unescaped_4 : decode prog_4_method_16_code 4 = .ok (.bipush 64, 2) := by decide +kernel
theorem d_Rd_unescaped_6 : decode prog_4_method_16_code 6 = .ok (.if_icmp .ne 8, 3) := by decide +kernel
theorem d_Rd_unescaped_9 : decode prog_4_method_16_code 9 = .ok (.iload_n 0, 1) := by decide +kernel
theorem d_Rd_unescaped_10 : decode prog_4_method_16_code 10 = .ok (.bipush 64, 2) := by decide +kernel
theorem d_Rd_unescaped_12 : decode prog_4_method_16_code 12 = .ok (.ixor, 1) := by decide +kernel
theorem d_Rd_unescaped_13 : decode prog_4_method_16_code 13 = .ok (.ireturn, 1) := by decide +kernel
theorem d_Rd_unescaped_14 : decode prog_4_method_16_code 14 = .ok (.iload_n 0, 1) := by decide +kernel
theorem d_Rd_unescaped_15 : decode prog_4_method_16_code 15 = .ok (.bipush 108, 2) := by decide +kernel
theorem d_Rd_unescaped_17 : decode prog_4_method_16_code 17 = .ok (.if_icmp .ne 8, 3) := by decide +kernel
theorem d_Rd_unescaped_20 : decode prog_4_method_16_code 20 = .ok (.bipush 127, 2) := by decide +kernel
theorem d_Rd_unescaped_22 : decode prog_4_method_16_code 22 = .ok (.goto 16, 3) := by decide +kernel
theorem d_Rd_unescaped_25 : decode prog_4_method_16_code 25 = .ok (.iload_n 0, 1) := by decide +kernel
theorem d_Rd_unescaped_26 : decode prog_4_method_16_code 26 = .ok (.bipush 109, 2) := by decide +kernel
theorem d_Rd_unescaped_28 : decode prog_4_method_16_code 28 = .ok (.if_icmp .ne 9, 3) := by decide +kernel
theorem d_Rd_unescaped_31 : decode prog_4_method_16_code 31 = .ok (.sipush 255, 3) := by decide +kernel
theorem d_Rd_unescaped_34 : decode prog_4_method_16_code 34 = .ok (.goto 4, 3) := by decide +kernel
theorem d_Rd_unescaped_37 : decode prog_4_method_16_code 37 = .ok (.iconst (-1), 1) := by decide +kernel
theorem d_Rd_unescaped_38 : decode prog_4_method_16_code 38 = .ok (.ireturn, 1) := by decide +kernel
def rm_Rd_unescaped : Room := { frames := 0, cells := 0, slots := 0, locals := 0 }
def wp_Rd_unescaped (I : UI) (R : UR) (x0 : Int32) (Q : Int32 → UI → UR → Prop) : Prop :=
  ((¬ x0 &&& 96 = 64 → ((¬ x0 = 108 → ((¬ x0 = 109 → Q (-1) I R) ∧ (x0 = 109 → Q 255 I R))) ∧ (x0 = 108 → Q 127 I R))) ∧ (x0 &&& 96 = 64 → Q (x0 ^^^ 64) I R))
set_option maxHeartbeats 4000000 in
set_option maxRecDepth 100000 in
theorem c_Rd_unescaped (l : Launch) (D : va_G) (cc : Nat → ClassId) (L : List Nat) (A : Nat → Nat) (J : Nat → Int64) (t16 t32 : Nat) (I : UI) (R : UR) (x0 : Int32) (Q : Int32 → UI → UR → Prop) (h : wp_Rd_unescaped I R x0 Q) : uMi l y_Rd_unescaped (.code y_Rd_unescaped prog_4_method_16_code 1 (some .int)) rm_Rd_unescaped [.int x0] D cc L A J t16 t32 I R Q := by
  intro sz
  refine u_entry (by decide) (Nat.le_of_ble_eq_true rfl) (fun p e s m args below meth c hsz X V hr hlk ls hl => ?_)
  have X : uX p s m args c prog_4_method_16_code 1 "FrameFerry$Reader" D cc L A t16 t32 := X
  have hx := X.1
  have hb := X.2.1
  have hl : lv_has ls 1 [(0, .int x0)] := hl
  unfold wp_Rd_unescaped at h
  generalize hH : s.heap = H at V ⊢
  generalize hlo : ([] : List Loc) = locs at V ⊢
  refine lv_iload_n (pc := 0) hx hb d_Rd_unescaped_0 rfl (lv_at hl 0 rfl) ?_
  refine lv_bipush (pc := 1) (v := 96) hx hb d_Rd_unescaped_1 (by decide) ?_
  refine lv_iand (pc := 3) hx hb d_Rd_unescaped_3 ?_
  refine lv_bipush (pc := 4) (v := 64) hx hb d_Rd_unescaped_4 (by decide) ?_
  refine lv_icmp_ne (pc := 6) (tgt := 14) hx hb d_Rd_unescaped_6 (by decide) (fun hc => ?_) (fun hc => ?_)
  · have h := h.1 hc
    refine lv_iload_n (pc := 14) hx hb d_Rd_unescaped_14 rfl (lv_at hl 0 rfl) ?_
    refine lv_bipush (pc := 15) (v := 108) hx hb d_Rd_unescaped_15 (by decide) ?_
    refine lv_icmp_ne (pc := 17) (tgt := 25) hx hb d_Rd_unescaped_17 (by decide) (fun hc => ?_) (fun hc => ?_)
    · have h := h.1 hc
      refine lv_iload_n (pc := 25) hx hb d_Rd_unescaped_25 rfl (lv_at hl 0 rfl) ?_
      refine lv_bipush (pc := 26) (v := 109) hx hb d_Rd_unescaped_26 (by decide) ?_
      refine lv_icmp_ne (pc := 28) (tgt := 37) hx hb d_Rd_unescaped_28 (by decide) (fun hc => ?_) (fun hc => ?_)
      · have h := h.1 hc
        refine lv_iconst (pc := 37) (v := (-1)) hx hb d_Rd_unescaped_37 (by decide) ?_
        exact u_reti (pc := 38) X V hr hlk hsz h d_Rd_unescaped_38
      · have h := h.2 hc
        refine lv_sipush (pc := 31) (v := 255) hx hb d_Rd_unescaped_31 (by decide) ?_
        refine lv_goto (pc := 34) (tgt := 38) hx hb d_Rd_unescaped_34 (by decide) ?_
        exact u_reti (pc := 38) X V hr hlk hsz h d_Rd_unescaped_38
    · have h := h.2 hc
      refine lv_bipush (pc := 20) (v := 127) hx hb d_Rd_unescaped_20 (by decide) ?_
      refine lv_goto (pc := 22) (tgt := 38) hx hb d_Rd_unescaped_22 (by decide) ?_
      exact u_reti (pc := 38) X V hr hlk hsz h d_Rd_unescaped_38
  · have h := h.2 hc
    refine lv_iload_n (pc := 9) hx hb d_Rd_unescaped_9 rfl (lv_at hl 0 rfl) ?_
    refine lv_bipush (pc := 10) (v := 64) hx hb d_Rd_unescaped_10 (by decide) ?_
    refine lv_ixor (pc := 12) hx hb d_Rd_unescaped_12 ?_
    exact u_reti (pc := 13) X V hr hlk hsz h d_Rd_unescaped_13
-- FrameFerry$Reader.takeHeaderByte (I)I
theorem d_Rd_takeHeaderByte_0 : decode prog_4_method_11_code 0 = .ok (.aload_n 0, 1) := by decide +kernel
theorem d_Rd_takeHeaderByte_1 : decode prog_4_method_11_code 1 = .ok (.getfield 59, 3) := by decide +kernel
theorem d_Rd_takeHeaderByte_4 : decode prog_4_method_11_code 4 = .ok (.ifCond .ne 11, 3) := by decide +kernel
theorem d_Rd_takeHeaderByte_7 : decode prog_4_method_11_code 7 = .ok (.aload_n 0, 1) := by decide +kernel
theorem d_Rd_takeHeaderByte_8 : decode prog_4_method_11_code 8 = .ok (.iload_n 1, 1) := by decide +kernel
theorem d_Rd_takeHeaderByte_9 : decode prog_4_method_11_code 9 = .ok (.putfield 103, 3) := by decide +kernel
theorem d_Rd_takeHeaderByte_12 : decode prog_4_method_11_code 12 = .ok (.goto 23, 3) := by decide +kernel
theorem d_Rd_takeHeaderByte_15 : decode prog_4_method_11_code 15 = .ok (.aload_n 0, 1) := by decide +kernel
theorem d_Rd_takeHeaderByte_16 : decode prog_4_method_11_code 16 = .ok (.dup, 1) := by decide +kernel
theorem d_Rd_takeHeaderByte_17 : decode prog_4_method_11_code 17 = .ok (.getfield 62, 3) := by decide +kernel
theorem d_Rd_takeHeaderByte_20 : decode prog_4_method_11_code 20 = .ok (.iload_n 1, 1) := by decide +kernel
theorem d_Rd_takeHeaderByte_21 : decode prog_4_method_11_code 21 = .ok (.bipush 8, 2) := by decide +kernel
theorem d_Rd_takeHeaderByte_23 : decode prog_4_method_11_code 23 = .ok (.aload_n 0, 1) := by decide +kernel
theorem d_Rd_takeHeaderByte_24 : decode prog_4_method_11_code 24 = .ok (.getfield 59, 3) := by decide +kernel
theorem d_Rd_takeHeaderByte_27 : decode prog_4_method_11_code 27 = .ok (.iconst 1, 1) := by decide +kernel
theorem d_Rd_takeHeaderByte_28 : decode prog_4_method_11_code 28 = .ok (.isub, 1) := by decide +kernel
theorem d_Rd_takeHeaderByte_29 : decode prog_4_method_11_code 29 = .ok (.imul, 1) := by decide +kernel
theorem d_Rd_takeHeaderByte_30 : decode prog_4_method_11_code 30 = .ok (.ishl, 1) := by decide +kernel
theorem d_Rd_takeHeaderByte_31 : decode prog_4_method_11_code 31 = .ok (.ior, 1) := by decide +kernel
theorem d_Rd_takeHeaderByte_32 : decode prog_4_method_11_code 32 = .ok (.putfield 62, 3) := by decide +kernel
theorem d_Rd_takeHeaderByte_35 : decode prog_4_method_11_code 35 = .ok (.aload_n 0, 1) := by decide +kernel
theorem d_Rd_takeHeaderByte_36 : decode prog_4_method_11_code 36 = .ok (.dup, 1) := by decide +kernel
theorem d_Rd_takeHeaderByte_37 : decode prog_4_method_11_code 37 = .ok (.getfield 59, 3) := by decide +kernel
theorem d_Rd_takeHeaderByte_40 : decode prog_4_method_11_code 40 = .ok (.iconst 1, 1) := by decide +kernel
theorem d_Rd_takeHeaderByte_41 : decode prog_4_method_11_code 41 = .ok (.iadd, 1) := by decide +kernel
theorem d_Rd_takeHeaderByte_42 : decode prog_4_method_11_code 42 = .ok (.putfield 59, 3) := by decide +kernel
theorem d_Rd_takeHeaderByte_45 : decode prog_4_method_11_code 45 = .ok (.aload_n 0, 1) := by decide +kernel
theorem d_Rd_takeHeaderByte_46 : decode prog_4_method_11_code 46 = .ok (.getfield 18, 3) := by decide +kernel
theorem d_Rd_takeHeaderByte_49 : decode prog_4_method_11_code 49 = .ok (.iload_n 1, 1) := by decide +kernel
theorem d_Rd_takeHeaderByte_50 : decode prog_4_method_11_code 50 = .ok (.invokevirtual 88, 3) := by decide +kernel
theorem d_Rd_takeHeaderByte_53 : decode prog_4_method_11_code 53 = .ok (.iconst 0, 1) := by decide +kernel
theorem d_Rd_takeHeaderByte_54 : decode prog_4_method_11_code 54 = .ok (.ireturn, 1) := by decide +kernel
def rm_Rd_takeHeaderByte : Room := { frames := 1, cells := 0, slots := 0, locals := 21 }
def wp_Rd_takeHeaderByte_L35 (o : Nat) (Q : Int32 → UI → UR → Prop) (I : UI) (R : UR) (x1 : Int32) : Prop :=
  ∀ I2 : UI, I2 = u2 I o 11 ((I o 11) + 1) → wp_Ck_add I2 R (o + 2) x1 (fun I3 R4 => Q 0 I3 R4)
set_option maxHeartbeats 4000000 in
set_option maxRecDepth 100000 in
theorem j_Rd_takeHeaderByte_35 (X : uX p s m args c prog_4_method_11_code 2 "FrameFerry$Reader" D cc L A t16 t32) (hr : meth.sig.returnType = (some .int)) (hlk : meth.locks = false) (hsz : sz = s.heap.size) {o : Nat} (h_o : isRd L o) {Q : Int32 → UI → UR → Prop} {I : UI} {R : UR} {x1 : Int32} {H : Heap} {locs : List Loc} {ls : Array Slot} (V : uV s D cc L A J I R H locs) (hl : lv_has ls 2 [(0, .ref (A o)), (1, .int x1)]) (h : wp_Rd_takeHeaderByte_L35 o Q I R x1) : W p l e rm_Rd_takeHeaderByte s m args below meth c H locs 0 0 (MQ below (va_Qi (fun (r : Int32) (u : UI × UR) => Q r u.1 u.2) (uBv D cc L A J) (uA L A sz)) args s 0 0 (uA L A sz)) (F0 m 35 ls []) := by
  have hx := X.1
  have hb := X.2.1
  unfold wp_Rd_takeHeaderByte_L35 at h
  refine lv_aload_n (pc := 35) hx hb d_Rd_takeHeaderByte_35 rfl (lv_at hl 0 rfl) ?_
  refine lv_dup (pc := 36) hx hb d_Rd_takeHeaderByte_36 rfl ?_
  refine u_geti (pc := 37) X V h_o.1 h_o.2.1 rfl f_Rd_59 rfl d_Rd_takeHeaderByte_37 ?_
  refine lv_iconst (pc := 40) (v := 1) hx hb d_Rd_takeHeaderByte_40 (by decide) ?_
  refine lv_iadd (pc := 41) hx hb d_Rd_takeHeaderByte_41 ?_
  refine u_puti (pc := 42) X V h_o.1 h_o.2.1 rfl f_Rd_59 rfl d_Rd_takeHeaderByte_42 (fun I2 eI2 H locs V => ?_)
  have h := h I2 eI2
  refine lv_aload_n (pc := 45) hx hb d_Rd_takeHeaderByte_45 rfl (lv_at hl 0 rfl) ?_
  refine u_getr (pc := 46) (o' := (o + 2)) X V h_o.1 h_o.2.1 rfl f_Rd_18 rfl rfl d_Rd_takeHeaderByte_46 ?_
  refine lv_iload_n (pc := 49) hx hb d_Rd_takeHeaderByte_49 rfl (lv_at hl 1 rfl) ?_
  refine u_cVv (pc := 50) (As := [.int x1]) X V s_Rd_88 h_o.2.2.2.2.1 h_o.2.2.2.2.2 rfl rfl (c_Ck_add l D cc L A J t16 t32 _ _ (o + 2) ⟨h_o.2.2.2.2.1, h_o.2.2.2.2.2⟩ x1 _ h) ⟨rfl, rfl, Nat.le_of_ble_eq_true rfl, Nat.le_of_ble_eq_true rfl⟩ rfl hl.1 rfl (Nat.le_of_ble_eq_true rfl) d_Rd_takeHeaderByte_50 ⟨Nat.zero_le _, Nat.zero_le _⟩ (fun I3 R4 h H locs V => ?_)
  refine lv_iconst (pc := 53) (v := 0) hx hb d_Rd_takeHeaderByte_53 (by decide) ?_
  exact u_reti (pc := 54) X V hr hlk hsz h d_Rd_takeHeaderByte_54
def wp_Rd_takeHeaderByte (I : UI) (R : UR) (o : Nat) (x1 : Int32) (Q : Int32 → UI → UR → Prop) : Prop :=
  ((¬ I o 11 = 0 → ∀ I1 : UI, I1 = u2 I o 4 ((I o 4) ||| (x1 <<< (8 * ((I o 11) - 1) &&& 31))) → wp_Rd_takeHeaderByte_L35 o Q I1 R x1) ∧ (I o 11 = 0 → ∀ I5 : UI, I5 = u2 I o 3 x1 → wp_Rd_takeHeaderByte_L35 o Q I5 R x1))
set_option maxHeartbeats 4000000 in
set_option maxRecDepth 100000 in
theorem c_Rd_takeHeaderByte (l : Launch) (D : va_G) (cc : Nat → ClassId) (L : List Nat) (A : Nat → Nat) (J : Nat → Int64) (t16 t32 : Nat) (I : UI) (R : UR) (o : Nat) (h_o : isRd L o) (x1 : Int32) (Q : Int32 → UI → UR → Prop) (h : wp_Rd_takeHeaderByte I R o x1 Q) : uMi l y_Rd_takeHeaderByte (.code y_Rd_takeHeaderByte prog_4_method_11_code 2 (some .int)) rm_Rd_takeHeaderByte [.ref (A o), .int x1] D cc L A J t16 t32 I R Q := by
  intro sz
  refine u_entry (by decide) (Nat.le_of_ble_eq_true rfl) (fun p e s m args below meth c hsz X V hr hlk ls hl => ?_)
  have X : uX p s m args c prog_4_method_11_code 2 "FrameFerry$Reader" D cc L A t16 t32 := X
  have hx := X.1
  have hb := X.2.1
  have hl : lv_has ls 2 [(0, .ref (A o)), (1, .int x1)] := hl
  unfold wp_Rd_takeHeaderByte at h
  generalize hH : s.heap = H at V ⊢
  generalize hlo : ([] : List Loc) = locs at V ⊢
  refine lv_aload_n (pc := 0) hx hb d_Rd_takeHeaderByte_0 rfl (lv_at hl 0 rfl) ?_
  refine u_geti (pc := 1) X V h_o.1 h_o.2.1 rfl f_Rd_59 rfl d_Rd_takeHeaderByte_1 ?_
  refine lv_if_ne (pc := 4) (tgt := 15) hx hb d_Rd_takeHeaderByte_4 (by decide) (fun hc => ?_) (fun hc => ?_)
  · have h := h.1 hc
    refine lv_aload_n (pc := 15) hx hb d_Rd_takeHeaderByte_15 rfl (lv_at hl 0 rfl) ?_
    refine lv_dup (pc := 16) hx hb d_Rd_takeHeaderByte_16 rfl ?_
    refine u_geti (pc := 17) X V h_o.1 h_o.2.1 rfl f_Rd_62 rfl d_Rd_takeHeaderByte_17 ?_
    refine lv_iload_n (pc := 20) hx hb d_Rd_takeHeaderByte_20 rfl (lv_at hl 1 rfl) ?_
    refine lv_bipush (pc := 21) (v := 8) hx hb d_Rd_takeHeaderByte_21 (by decide) ?_
    refine lv_aload_n (pc := 23) hx hb d_Rd_takeHeaderByte_23 rfl (lv_at hl 0 rfl) ?_
    refine u_geti (pc := 24) X V h_o.1 h_o.2.1 rfl f_Rd_59 rfl d_Rd_takeHeaderByte_24 ?_
    refine lv_iconst (pc := 27) (v := 1) hx hb d_Rd_takeHeaderByte_27 (by decide) ?_
    refine lv_isub (pc := 28) hx hb d_Rd_takeHeaderByte_28 ?_
    refine lv_imul (pc := 29) hx hb d_Rd_takeHeaderByte_29 ?_
    refine lv_ishl (pc := 30) hx hb d_Rd_takeHeaderByte_30 ?_
    refine lv_ior (pc := 31) hx hb d_Rd_takeHeaderByte_31 ?_
    refine u_puti (pc := 32) X V h_o.1 h_o.2.1 rfl f_Rd_62 rfl d_Rd_takeHeaderByte_32 (fun I1 eI1 H locs V => ?_)
    have h := h I1 eI1
    exact j_Rd_takeHeaderByte_35 X hr hlk hsz h_o V (lv_sub hl [0, 1] rfl) h
  · have h := h.2 hc
    refine lv_aload_n (pc := 7) hx hb d_Rd_takeHeaderByte_7 rfl (lv_at hl 0 rfl) ?_
    refine lv_iload_n (pc := 8) hx hb d_Rd_takeHeaderByte_8 rfl (lv_at hl 1 rfl) ?_
    refine u_puti (pc := 9) X V h_o.1 h_o.2.1 rfl f_Rd_103 rfl d_Rd_takeHeaderByte_9 (fun I5 eI5 H locs V => ?_)
    have h := h I5 eI5
    refine lv_goto (pc := 12) (tgt := 35) hx hb d_Rd_takeHeaderByte_12 (by decide) ?_
    exact j_Rd_takeHeaderByte_35 X hr hlk hsz h_o V (lv_sub hl [0, 1] rfl) h
-- FrameFerry$Reader.takePacketByte (I)I
theorem d_Rd_takePacketByte_0 : decode prog_4_method_12_code 0 = .ok (.aload_n 0, 1) := by decide +kernel
theorem d_Rd_takePacketByte_1 : decode prog_4_method_12_code 1 = .ok (.getfield 26, 3) := by decide +kernel
theorem d_Rd_takePacketByte_4 : decode prog_4_method_12_code 4 = .ok (.bipush 64, 2) := by decide +kernel
theorem d_Rd_takePacketByte_6 : decode prog_4_method_12_code 6 = .ok (.if_icmp .lt 8, 3) := by decide +kernel
theorem d_Rd_takePacketByte_9 : decode prog_4_method_12_code 9 = .ok (.aload_n 0, 1) := by decide +kernel
theorem d_Rd_takePacketByte_10 : decode prog_4_method_12_code 10 = .ok (.invokevirtual 81, 3) := by decide +kernel
theorem d_Rd_takePacketByte_13 : decode prog_4_method_12_code 13 = .ok (.ireturn, 1) := by decide +kernel
theorem d_Rd_takePacketByte_14 : decode prog_4_method_12_code 14 = .ok (.aload_n 0, 1) := by decide +kernel
theorem d_Rd_takePacketByte_15 : decode prog_4_method_12_code 15 = .ok (.getfield 9, 3) := by decide +kernel
theorem d_Rd_takePacketByte_18 : decode prog_4_method_12_code 18 = .ok (.aload_n 0, 1) := by decide +kernel
theorem d_Rd_takePacketByte_19 : decode prog_4_method_12_code 19 = .ok (.getfield 26, 3) := by decide +kernel
theorem d_Rd_takePacketByte_22 : decode prog_4_method_12_code 22 = .ok (.iload_n 1, 1) := by decide +kernel
theorem d_Rd_takePacketByte_23 : decode prog_4_method_12_code 23 = .ok (.i2b, 1) := by decide +kernel
theorem d_Rd_takePacketByte_24 : decode prog_4_method_12_code 24 = .ok (.bastore, 1) := by decide +kernel
theorem d_Rd_takePacketByte_25 : decode prog_4_method_12_code 25 = .ok (.aload_n 0, 1) := by decide +kernel
theorem d_Rd_takePacketByte_26 : decode prog_4_method_12_code 26 = .ok (.dup, 1) := by decide +kernel
theorem d_Rd_takePacketByte_27 : decode prog_4_method_12_code 27 = .ok (.getfield 26, 3) := by decide +kernel
theorem d_Rd_takePacketByte_30 : decode prog_4_method_12_code 30 = .ok (.iconst 1, 1) := by decide +kernel
theorem d_Rd_takePacketByte_31 : decode prog_4_method_12_code 31 = .ok (.iadd, 1) := by decide +kernel
theorem d_Rd_takePacketByte_32 : decode prog_4_method_12_code 32 = .ok (.putfield 26, 3) := by decide +kernel
theorem d_Rd_takePacketByte_35 : decode prog_4_method_12_code 35 = .ok (.aload_n 0, 1) := by decide +kernel
theorem d_Rd_takePacketByte_36 : decode prog_4_method_12_code 36 = .ok (.getfield 18, 3) := by decide +kernel
theorem d_Rd_takePacketByte_39 : decode prog_4_method_12_code 39 = .ok (.iload_n 1, 1) := by decide +kernel
theorem d_Rd_takePacketByte_40 : decode prog_4_method_12_code 40 = .ok (.invokevirtual 88, 3) := by decide +kernel
theorem d_Rd_takePacketByte_43 : decode prog_4_method_12_code 43 = .ok (.iconst 0, 1) := by decide +kernel
theorem d_Rd_takePacketByte_44 : decode prog_4_method_12_code 44 = .ok (.ireturn, 1) := by decide +kernel
def rm_Rd_takePacketByte : Room := { frames := 1, cells := 0, slots := 0, locals := 21 }
def wp_Rd_takePacketByte (I : UI) (R : UR) (o : Nat) (x1 : Int32) (Q : Int32 → UI → UR → Prop) : Prop :=
  ((I o 1 < 64 → vp_in (I o 1) 64 ∧ ∀ I1 : UI, I1 = u2 I (o + 1) ((I o 1).toNatClampNeg) (((x1).toInt8.toInt32).toInt8.toInt32) → ∀ I2 : UI, I2 = u2 I1 o 1 ((I1 o 1) + 1) → wp_Ck_add I2 R (o + 2) x1 (fun I3 R4 => Q 0 I3 R4)) ∧ (¬ I o 1 < 64 → wp_Rd_giveUp I R o (fun r7 I5 R6 => Q r7 I5 R6)))
set_option maxHeartbeats 4000000 in
set_option maxRecDepth 100000 in
theorem c_Rd_takePacketByte (l : Launch) (D : va_G) (cc : Nat → ClassId) (L : List Nat) (A : Nat → Nat) (J : Nat → Int64) (t16 t32 : Nat) (I : UI) (R : UR) (o : Nat) (h_o : isRd L o) (x1 : Int32) (Q : Int32 → UI → UR → Prop) (h : wp_Rd_takePacketByte I R o x1 Q) : uMi l y_Rd_takePacketByte (.code y_Rd_takePacketByte prog_4_method_12_code 2 (some .int)) rm_Rd_takePacketByte [.ref (A o), .int x1] D cc L A J t16 t32 I R Q := by
  intro sz
  refine u_entry (by decide) (Nat.le_of_ble_eq_true rfl) (fun p e s m args below meth c hsz X V hr hlk ls hl => ?_)
  have X : uX p s m args c prog_4_method_12_code 2 "FrameFerry$Reader" D cc L A t16 t32 := X
  have hx := X.1
  have hb := X.2.1
  have hl : lv_has ls 2 [(0, .ref (A o)), (1, .int x1)] := hl
  unfold wp_Rd_takePacketByte at h
  generalize hH : s.heap = H at V ⊢
  generalize hlo : ([] : List Loc) = locs at V ⊢
  refine lv_aload_n (pc := 0) hx hb d_Rd_takePacketByte_0 rfl (lv_at hl 0 rfl) ?_
  refine u_geti (pc := 1) X V h_o.1 h_o.2.1 rfl f_Rd_26 rfl d_Rd_takePacketByte_1 ?_
  refine lv_bipush (pc := 4) (v := 64) hx hb d_Rd_takePacketByte_4 (by decide) ?_
  refine lv_icmp_lt (pc := 6) (tgt := 14) hx hb d_Rd_takePacketByte_6 (by decide) (fun hc => ?_) (fun hc => ?_)
  · have h := h.1 hc
    refine lv_aload_n (pc := 14) hx hb d_Rd_takePacketByte_14 rfl (lv_at hl 0 rfl) ?_
    refine u_getr (pc := 15) (o' := (o + 1)) X V h_o.1 h_o.2.1 rfl f_Rd_9 rfl rfl d_Rd_takePacketByte_15 ?_
    refine lv_aload_n (pc := 18) hx hb d_Rd_takePacketByte_18 rfl (lv_at hl 0 rfl) ?_
    refine u_geti (pc := 19) X V h_o.1 h_o.2.1 rfl f_Rd_26 rfl d_Rd_takePacketByte_19 ?_
    refine lv_iload_n (pc := 22) hx hb d_Rd_takePacketByte_22 rfl (lv_at hl 1 rfl) ?_
    refine lv_i2b (pc := 23) (v := (x1).toInt8.toInt32) hx hb d_Rd_takePacketByte_23 rfl ?_
    refine u_bast (pc := 24) X V h_o.2.2.1 h_o.2.2.2.1 rfl rfl h.1 d_Rd_takePacketByte_24 (fun I1 eI1 H locs V => ?_)
    have h := h.2 I1 eI1
    refine lv_aload_n (pc := 25) hx hb d_Rd_takePacketByte_25 rfl (lv_at hl 0 rfl) ?_
    refine lv_dup (pc := 26) hx hb d_Rd_takePacketByte_26 rfl ?_
    refine u_geti (pc := 27) X V h_o.1 h_o.2.1 rfl f_Rd_26 rfl d_Rd_takePacketByte_27 ?_
    refine lv_iconst (pc := 30) (v := 1) hx hb d_Rd_takePacketByte_30 (by decide) ?_
    refine lv_iadd (pc := 31) hx hb d_Rd_takePacketByte_31 ?_
    refine u_puti (pc := 32) X V h_o.1 h_o.2.1 rfl f_Rd_26 rfl d_Rd_takePacketByte_32 (fun I2 eI2 H locs V => ?_)
    have h := h I2 eI2
    refine lv_aload_n (pc := 35) hx hb d_Rd_takePacketByte_35 rfl (lv_at hl 0 rfl) ?_
    refine u_getr (pc := 36) (o' := (o + 2)) X V h_o.1 h_o.2.1 rfl f_Rd_18 rfl rfl d_Rd_takePacketByte_36 ?_
    refine lv_iload_n (pc := 39) hx hb d_Rd_takePacketByte_39 rfl (lv_at hl 1 rfl) ?_
    refine u_cVv (pc := 40) (As := [.int x1]) X V s_Rd_88 h_o.2.2.2.2.1 h_o.2.2.2.2.2 rfl rfl (c_Ck_add l D cc L A J t16 t32 _ _ (o + 2) ⟨h_o.2.2.2.2.1, h_o.2.2.2.2.2⟩ x1 _ h) ⟨rfl, rfl, Nat.le_of_ble_eq_true rfl, Nat.le_of_ble_eq_true rfl⟩ rfl hl.1 rfl (Nat.le_of_ble_eq_true rfl) d_Rd_takePacketByte_40 ⟨Nat.zero_le _, Nat.zero_le _⟩ (fun I3 R4 h H locs V => ?_)
    refine lv_iconst (pc := 43) (v := 0) hx hb d_Rd_takePacketByte_43 (by decide) ?_
    exact u_reti (pc := 44) X V hr hlk hsz h d_Rd_takePacketByte_44
  · have h := h.2 hc
    refine lv_aload_n (pc := 9) hx hb d_Rd_takePacketByte_9 rfl (lv_at hl 0 rfl) ?_
    refine u_cVi (pc := 10) (As := []) X V s_Rd_81 h_o.1 h_o.2.1 rfl rfl (c_Rd_giveUp l D cc L A J t16 t32 _ _ o h_o _ h) ⟨rfl, rfl, Nat.le_of_ble_eq_true rfl, Nat.le_of_ble_eq_true rfl⟩ rfl hl.1 rfl (Nat.le_of_ble_eq_true rfl) d_Rd_takePacketByte_10 ⟨Nat.zero_le _, Nat.zero_le _⟩ (fun r7 I5 R6 h H locs V => ?_)
    exact u_reti (pc := 13) X V hr hlk hsz h d_Rd_takePacketByte_13
-- FrameFerry$Reader.takeCheckByte (I)I
theorem d_Rd_takeCheckByte_0 : decode prog_4_method_13_code 0 = .ok (.aload_n 0, 1) := by decide +kernel
theorem d_Rd_takeCheckByte_1 : decode prog_4_method_13_code 1 = .ok (.aload_n 0, 1) := by decide +kernel
theorem d_Rd_takeCheckByte_2 : decode prog_4_method_13_code 2 = .ok (.getfield 71, 3) := by decide +kernel
theorem d_Rd_takeCheckByte_5 : decode prog_4_method_13_code 5 = .ok (.ifCond .eq 22, 3) := by decide +kernel
theorem d_Rd_takeCheckByte_8 : decode prog_4_method_13_code 8 = .ok (.iload_n 1, 1) := by decide +kernel
theorem d_Rd_takeCheckByte_9 : decode prog_4_method_13_code 9 = .ok (.aload_n 0, 1) := by decide +kernel
theorem d_Rd_takeCheckByte_10 : decode prog_4_method_13_code 10 = .ok (.getfield 18, 3) := by decide +kernel
theorem d_Rd_takeCheckByte_13 : decode prog_4_method_13_code 13 = .ok (.aload_n 0, 1) := by decide +kernel
theorem d_Rd_takeCheckByte_14 : decode prog_4_method_13_code 14 = .ok (.getfield 68, 3) := by decide +kernel
theorem d_Rd_takeCheckByte_17 : decode prog_4_method_13_code 17 = .ok (.invokevirtual 106, 3) := by decide +kernel
theorem d_Rd_takeCheckByte_20 : decode prog_4_method_13_code 20 = .ok (.if_icmp .ne 7, 3) := by decide +kernel
theorem d_Rd_takeCheckByte_23 : decode prog_4_method_13_code 23 = .ok (.iconst 1, 1) := by decide +kernel
theorem d_Rd_takeCheckByte_24 : decode prog_4_method_13_code 24 = .ok (.goto 4, 3) := by decide +kernel
theorem d_Rd_takeCheckByte_27 : decode prog_4_method_13_code 27 = .ok (.iconst 0, 1) := by decide +kernel
theorem d_Rd_takeCheckByte_28 : decode prog_4_method_13_code 28 = .ok (.putfield 71, 3) := by decide +kernel
theorem d_Rd_takeCheckByte_31 : decode prog_4_method_13_code 31 = .ok (.aload_n 0, 1) := by decide +kernel
theorem d_Rd_takeCheckByte_32 : decode prog_4_method_13_code 32 = .ok (.dup, 1) := by decide +kernel
theorem d_Rd_takeCheckByte_33 : decode prog_4_method_13_code 33 = .ok (.getfield 68, 3) := by decide +kernel
theorem d_Rd_takeCheckByte_36 : decode prog_4_method_13_code 36 = .ok (.iconst 1, 1) := by decide +kernel
theorem d_Rd_takeCheckByte_37 : decode prog_4_method_13_code 37 = .ok (.iadd, 1) := by decide +kernel
theorem d_Rd_takeCheckByte_38 : decode prog_4_method_13_code 38 = .ok (.putfield 68, 3) := by decide +kernel
theorem d_Rd_takeCheckByte_41 : decode prog_4_method_13_code 41 = .ok (.aload_n 0, 1) := by decide +kernel
theorem d_Rd_takeCheckByte_42 : decode prog_4_method_13_code 42 = .ok (.getfield 68, 3) := by decide +kernel
theorem d_Rd_takeCheckByte_45 : decode prog_4_method_13_code 45 = .ok (.aload_n 0, 1) := by decide +kernel
theorem d_Rd_takeCheckByte_46 : decode prog_4_method_13_code 46 = .ok (.getfield 18, 3) := by decide +kernel
theorem d_Rd_takeCheckByte_49 : decode prog_4_method_13_code 49 = .ok (.invokevirtual 109, 3) := by decide +kernel
theorem d_Rd_takeCheckByte_52 : decode prog_4_method_13_code 52 = .ok (.if_icmp .ge 5, 3) := by decide +kernel
theorem d_Rd_takeCheckByte_55 : decode prog_4_method_13_code 55 = .ok (.iconst 0, 1) := by decide +kernel
theorem d_Rd_takeCheckByte_56 : decode prog_4_method_13_code 56 = .ok (.ireturn, 1) := by decide +kernel
theorem d_Rd_takeCheckByte_57 : decode prog_4_method_13_code 57 = .ok (.aload_n 0, 1) := by decide +kernel
theorem d_Rd_takeCheckByte_58 : decode prog_4_method_13_code 58 = .ok (.getfield 71, 3) := by decide +kernel
theorem d_Rd_takeCheckByte_61 : decode prog_4_method_13_code 61 = .ok (.ifCond .ne 8, 3) := by decide +kernel
theorem d_Rd_takeCheckByte_64 : decode prog_4_method_13_code 64 = .ok (.aload_n 0, 1) := by decide +kernel
theorem d_Rd_takeCheckByte_65 : decode prog_4_method_13_code 65 = .ok (.invokevirtual 81, 3) := by decide +kernel
theorem d_Rd_takeCheckByte_68 : decode prog_4_method_13_code 68 = .ok (.ireturn, 1) := by decide +kernel
theorem d_Rd_takeCheckByte_69 : decode prog_4_method_13_code 69 = .ok (.aload_n 0, 1) := by decide +kernel
theorem d_Rd_takeCheckByte_70 : decode prog_4_method_13_code 70 = .ok (.getfield 22, 3) := by decide +kernel
theorem d_Rd_takeCheckByte_73 : decode prog_4_method_13_code 73 = .ok (.iconst 3, 1) := by decide +kernel
theorem d_Rd_takeCheckByte_74 : decode prog_4_method_13_code 74 = .ok (.if_icmp .ne 7, 3) := by decide +kernel
theorem d_Rd_takeCheckByte_77 : decode prog_4_method_13_code 77 = .ok (.iconst 1, 1) := by decide +kernel
theorem d_Rd_takeCheckByte_78 : decode prog_4_method_13_code 78 = .ok (.goto 4, 3) := by decide +kernel
theorem d_Rd_takeCheckByte_81 : decode prog_4_method_13_code 81 = .ok (.iconst 0, 1) := by decide +kernel
theorem d_Rd_takeCheckByte_82 : decode prog_4_method_13_code 82 = .ok (.istore_n 2, 1) := by decide +kernel
theorem d_Rd_takeCheckByte_83 : decode prog_4_method_13_code 83 = .ok (.aload_n 0, 1) := by decide +kernel
theorem d_Rd_takeCheckByte_84 : decode prog_4_method_13_code 84 = .ok (.iconst 0, 1) := by decide +kernel
theorem d_Rd_takeCheckByte_85 : decode prog_4_method_13_code 85 = .ok (.putfield 22, 3) := by decide +kernel
theorem d_Rd_takeCheckByte_88 : decode prog_4_method_13_code 88 = .ok (.iload_n 2, 1) := by decide +kernel
theorem d_Rd_takeCheckByte_89 : decode prog_4_method_13_code 89 = .ok (.ifCond .eq 7, 3) := by decide +kernel
theorem d_Rd_takeCheckByte_92 : decode prog_4_method_13_code 92 = .ok (.iconst 1, 1) := by decide +kernel
theorem d_Rd_takeCheckByte_93 : decode prog_4_method_13_code 93 = .ok (.goto 4, 3) := by decide +kernel
theorem d_Rd_takeCheckByte_96 : decode prog_4_method_13_code 96 = .ok (.iconst 3, 1) := by decide +kernel
theorem d_Rd_takeCheckByte_97 : decode prog_4_method_13_code 97 = .ok (.ireturn, 1) := by decide +kernel
def rm_Rd_takeCheckByte : Room := { frames := 1, cells := 0, slots := 0, locals := 21 }
def wp_Rd_takeCheckByte_L82 (o : Nat) (Q : Int32 → UI → UR → Prop) (I : UI) (R : UR) (s0 : Int32) : Prop :=
  ∀ I6 : UI, I6 = u2 I o 7 0 → ((s0 = 0 → Q 3 I6 R) ∧ (¬ s0 = 0 → Q 1 I6 R))
set_option maxHeartbeats 4000000 in
set_option maxRecDepth 100000 in
theorem j_Rd_takeCheckByte_82 (X : uX p s m args c prog_4_method_13_code 3 "FrameFerry$Reader" D cc L A t16 t32) (hr : meth.sig.returnType = (some .int)) (hlk : meth.locks = false) (hsz : sz = s.heap.size) {o : Nat} (h_o : isRd L o) {Q : Int32 → UI → UR → Prop} {I : UI} {R : UR} {s0 : Int32} {H : Heap} {locs : List Loc} {ls : Array Slot} (V : uV s D cc L A J I R H locs) (hl : lv_has ls 3 [(0, .ref (A o))]) (h : wp_Rd_takeCheckByte_L82 o Q I R s0) : W p l e rm_Rd_takeCheckByte s m args below meth c H locs 0 0 (MQ below (va_Qi (fun (r : Int32) (u : UI × UR) => Q r u.1 u.2) (uBv D cc L A J) (uA L A sz)) args s 0 0 (uA L A sz)) (F0 m 82 ls [.int s0]) := by
  have hx := X.1
  have hb := X.2.1
  unfold wp_Rd_takeCheckByte_L82 at h
  refine lv_istore_n (pc := 82) (lv' := [(2, .int s0), (0, .ref (A o))]) hx hb d_Rd_takeCheckByte_82 rfl hl (by decide) rfl (fun ls hl => ?_)
  refine lv_aload_n (pc := 83) hx hb d_Rd_takeCheckByte_83 rfl (lv_at hl 1 rfl) ?_
  refine lv_iconst (pc := 84) (v := 0) hx hb d_Rd_takeCheckByte_84 (by decide) ?_
  refine u_puti (pc := 85) X V h_o.1 h_o.2.1 rfl f_Rd_22 rfl d_Rd_takeCheckByte_85 (fun I6 eI6 H locs V => ?_)
  have h := h I6 eI6
  refine lv_iload_n (pc := 88) hx hb d_Rd_takeCheckByte_88 rfl (lv_at hl 0 rfl) ?_
  refine lv_if_eq (pc := 89) (tgt := 96) hx hb d_Rd_takeCheckByte_89 (by decide) (fun hc => ?_) (fun hc => ?_)
  · have h := h.1 hc
    refine lv_iconst (pc := 96) (v := 3) hx hb d_Rd_takeCheckByte_96 (by decide) ?_
    exact u_reti (pc := 97) X V hr hlk hsz h d_Rd_takeCheckByte_97
  · have h := h.2 hc
    refine lv_iconst (pc := 92) (v := 1) hx hb d_Rd_takeCheckByte_92 (by decide) ?_
    refine lv_goto (pc := 93) (tgt := 97) hx hb d_Rd_takeCheckByte_93 (by decide) ?_
    exact u_reti (pc := 97) X V hr hlk hsz h d_Rd_takeCheckByte_97
def wp_Rd_takeCheckByte_L28 (o : Nat) (Q : Int32 → UI → UR → Prop) (I : UI) (R : UR) (s0 : Int32) : Prop :=
  zb s0 ∧ ∀ I1 : UI, I1 = u2 I o 13 s0 → ∀ I2 : UI, I2 = u2 I1 o 12 ((I1 o 12) + 1) → wp_Ck_size I2 R (o + 2) (fun r5 I3 R4 => ((r5 ≤ I2 o 12 → ((¬ I3 o 13 = 0 → ((¬ I3 o 7 = 3 → wp_Rd_takeCheckByte_L82 o Q I3 R4 0) ∧ (I3 o 7 = 3 → wp_Rd_takeCheckByte_L82 o Q I3 R4 1))) ∧ (I3 o 13 = 0 → wp_Rd_giveUp I3 R4 o (fun r9 I7 R8 => Q r9 I7 R8)))) ∧ (¬ r5 ≤ I2 o 12 → Q 0 I3 R4)))
set_option maxHeartbeats 4000000 in
set_option maxRecDepth 100000 in
theorem j_Rd_takeCheckByte_28 (X : uX p s m args c prog_4_method_13_code 3 "FrameFerry$Reader" D cc L A t16 t32) (hr : meth.sig.returnType = (some .int)) (hlk : meth.locks = false) (hsz : sz = s.heap.size) {o : Nat} (h_o : isRd L o) {Q : Int32 → UI → UR → Prop} {I : UI} {R : UR} {s0 : Int32} {H : Heap} {locs : List Loc} {ls : Array Slot} (V : uV s D cc L A J I R H locs) (hl : lv_has ls 3 [(0, .ref (A o))]) (h : wp_Rd_takeCheckByte_L28 o Q I R s0) : W p l e rm_Rd_takeCheckByte s m args below meth c H locs 0 0 (MQ below (va_Qi (fun (r : Int32) (u : UI × UR) => Q r u.1 u.2) (uBv D cc L A J) (uA L A sz)) args s 0 0 (uA L A sz)) (F0 m 28 ls [.int s0, .ref (A o)]) := by
  have hx := X.1
  have hb := X.2.1
  unfold wp_Rd_takeCheckByte_L28 at h
  refine u_putz (pc := 28) X V h_o.1 h_o.2.1 rfl f_Rd_71 rfl h.1 d_Rd_takeCheckByte_28 (fun I1 eI1 H locs V => ?_)
  have h := h.2 I1 eI1
  refine lv_aload_n (pc := 31) hx hb d_Rd_takeCheckByte_31 rfl (lv_at hl 0 rfl) ?_
  refine lv_dup (pc := 32) hx hb d_Rd_takeCheckByte_32 rfl ?_
  refine u_geti (pc := 33) X V h_o.1 h_o.2.1 rfl f_Rd_68 rfl d_Rd_takeCheckByte_33 ?_
  refine lv_iconst (pc := 36) (v := 1) hx hb d_Rd_takeCheckByte_36 (by decide) ?_
  refine lv_iadd (pc := 37) hx hb d_Rd_takeCheckByte_37 ?_
  refine u_puti (pc := 38) X V h_o.1 h_o.2.1 rfl f_Rd_68 rfl d_Rd_takeCheckByte_38 (fun I2 eI2 H locs V => ?_)
  have h := h I2 eI2
  refine lv_aload_n (pc := 41) hx hb d_Rd_takeCheckByte_41 rfl (lv_at hl 0 rfl) ?_
  refine u_geti (pc := 42) X V h_o.1 h_o.2.1 rfl f_Rd_68 rfl d_Rd_takeCheckByte_42 ?_
  refine lv_aload_n (pc := 45) hx hb d_Rd_takeCheckByte_45 rfl (lv_at hl 0 rfl) ?_
  refine u_getr (pc := 46) (o' := (o + 2)) X V h_o.1 h_o.2.1 rfl f_Rd_18 rfl rfl d_Rd_takeCheckByte_46 ?_
  refine u_cVi (pc := 49) (As := []) X V s_Rd_109 h_o.2.2.2.2.1 h_o.2.2.2.2.2 rfl rfl (c_Ck_size l D cc L A J t16 t32 _ _ (o + 2) ⟨h_o.2.2.2.2.1, h_o.2.2.2.2.2⟩ _ h) ⟨rfl, rfl, Nat.le_of_ble_eq_true rfl, Nat.le_of_ble_eq_true rfl⟩ rfl hl.1 rfl (Nat.le_of_ble_eq_true rfl) d_Rd_takeCheckByte_49 ⟨Nat.zero_le _, Nat.zero_le _⟩ (fun r5 I3 R4 h H locs V => ?_)
  refine lv_icmp_ge (pc := 52) (tgt := 57) hx hb d_Rd_takeCheckByte_52 (by decide) (fun hc => ?_) (fun hc => ?_)
  · have h := h.1 hc
    refine lv_aload_n (pc := 57) hx hb d_Rd_takeCheckByte_57 rfl (lv_at hl 0 rfl) ?_
    refine u_geti (pc := 58) X V h_o.1 h_o.2.1 rfl f_Rd_71 rfl d_Rd_takeCheckByte_58 ?_
    refine lv_if_ne (pc := 61) (tgt := 69) hx hb d_Rd_takeCheckByte_61 (by decide) (fun hc => ?_) (fun hc => ?_)
    · have h := h.1 hc
      refine lv_aload_n (pc := 69) hx hb d_Rd_takeCheckByte_69 rfl (lv_at hl 0 rfl) ?_
      refine u_geti (pc := 70) X V h_o.1 h_o.2.1 rfl f_Rd_22 rfl d_Rd_takeCheckByte_70 ?_
      refine lv_iconst (pc := 73) (v := 3) hx hb d_Rd_takeCheckByte_73 (by decide) ?_
      refine lv_icmp_ne (pc := 74) (tgt := 81) hx hb d_Rd_takeCheckByte_74 (by decide) (fun hc => ?_) (fun hc => ?_)
      · have h := h.1 hc
        refine lv_iconst (pc := 81) (v := 0) hx hb d_Rd_takeCheckByte_81 (by decide) ?_
        exact j_Rd_takeCheckByte_82 X hr hlk hsz h_o V (lv_sub hl [0] rfl) h
      · have h := h.2 hc
        refine lv_iconst (pc := 77) (v := 1) hx hb d_Rd_takeCheckByte_77 (by decide) ?_
        refine lv_goto (pc := 78) (tgt := 82) hx hb d_Rd_takeCheckByte_78 (by decide) ?_
        exact j_Rd_takeCheckByte_82 X hr hlk hsz h_o V (lv_sub hl [0] rfl) h
    · have h := h.2 hc
      refine lv_aload_n (pc := 64) hx hb d_Rd_takeCheckByte_64 rfl (lv_at hl 0 rfl) ?_
      refine u_cVi (pc := 65) (As := []) X V s_Rd_81 h_o.1 h_o.2.1 rfl rfl (c_Rd_giveUp l D cc L A J t16 t32 _ _ o h_o _ h) ⟨rfl, rfl, Nat.le_of_ble_eq_true rfl, Nat.le_of_ble_eq_true rfl⟩ rfl hl.1 rfl (Nat.le_of_ble_eq_true rfl) d_Rd_takeCheckByte_65 ⟨Nat.zero_le _, Nat.zero_le _⟩ (fun r9 I7 R8 h H locs V => ?_)
      exact u_reti (pc := 68) X V hr hlk hsz h d_Rd_takeCheckByte_68
  · have h := h.2 hc
    refine lv_iconst (pc := 55) (v := 0) hx hb d_Rd_takeCheckByte_55 (by decide) ?_
    exact u_reti (pc := 56) X V hr hlk hsz h d_Rd_takeCheckByte_56
def wp_Rd_takeCheckByte_L27 (o : Nat) (Q : Int32 → UI → UR → Prop) (I : UI) (R : UR) : Prop :=
  wp_Rd_takeCheckByte_L28 o Q I R 0
set_option maxHeartbeats 4000000 in
set_option maxRecDepth 100000 in
theorem j_Rd_takeCheckByte_27 (X : uX p s m args c prog_4_method_13_code 3 "FrameFerry$Reader" D cc L A t16 t32) (hr : meth.sig.returnType = (some .int)) (hlk : meth.locks = false) (hsz : sz = s.heap.size) {o : Nat} (h_o : isRd L o) {Q : Int32 → UI → UR → Prop} {I : UI} {R : UR} {H : Heap} {locs : List Loc} {ls : Array Slot} (V : uV s D cc L A J I R H locs) (hl : lv_has ls 3 [(0, .ref (A o))]) (h : wp_Rd_takeCheckByte_L27 o Q I R) : W p l e rm_Rd_takeCheckByte s m args below meth c H locs 0 0 (MQ below (va_Qi (fun (r : Int32) (u : UI × UR) => Q r u.1 u.2) (uBv D cc L A J) (uA L A sz)) args s 0 0 (uA L A sz)) (F0 m 27 ls [.ref (A o)]) := by
  have hx := X.1
  have hb := X.2.1
  unfold wp_Rd_takeCheckByte_L27 at h
  refine lv_iconst (pc := 27) (v := 0) hx hb d_Rd_takeCheckByte_27 (by decide) ?_
  exact j_Rd_takeCheckByte_28 X hr hlk hsz h_o V (lv_sub hl [0] rfl) h
def wp_Rd_takeCheckByte (I : UI) (R : UR) (o : Nat) (x1 : Int32) (Q : Int32 → UI → UR → Prop) : Prop :=
  ((I o 13 = 0 → wp_Rd_takeCheckByte_L27 o Q I R) ∧ (¬ I o 13 = 0 → wp_Ck_part I R (o + 2) (I o 12) (fun r12 I10 R11 => ((¬ x1 = r12 → wp_Rd_takeCheckByte_L27 o Q I10 R11) ∧ (x1 = r12 → wp_Rd_takeCheckByte_L28 o Q I10 R11 1)))))
set_option maxHeartbeats 4000000 in
set_option maxRecDepth 100000 in
theorem c_Rd_takeCheckByte (l : Launch) (D : va_G) (cc : Nat → ClassId) (L : List Nat) (A : Nat → Nat) (J : Nat → Int64) (t16 t32 : Nat) (I : UI) (R : UR) (o : Nat) (h_o : isRd L o) (x1 : Int32) (Q : Int32 → UI → UR → Prop) (h : wp_Rd_takeCheckByte I R o x1 Q) : uMi l y_Rd_takeCheckByte (.code y_Rd_takeCheckByte prog_4_method_13_code 3 (some .int)) rm_Rd_takeCheckByte [.ref (A o), .int x1] D cc L A J t16 t32 I R Q := by
  intro sz
  refine u_entry (by decide) (Nat.le_of_ble_eq_true rfl) (fun p e s m args below meth c hsz X V hr hlk ls hl => ?_)
  have X : uX p s m args c prog_4_method_13_code 3 "FrameFerry$Reader" D cc L A t16 t32 := X
  have hx := X.1
  have hb := X.2.1
  have hl : lv_has ls 3 [(0, .ref (A o)), (1, .int x1)] := hl
  unfold wp_Rd_takeCheckByte at h
  generalize hH : s.heap = H at V ⊢
  generalize hlo : ([] : List Loc) = locs at V ⊢
  refine lv_aload_n (pc := 0) hx hb d_Rd_takeCheckByte_0 rfl (lv_at hl 0 rfl) ?_
  refine lv_aload_n (pc := 1) hx hb d_Rd_takeCheckByte_1 rfl (lv_at hl 0 rfl) ?_
  refine u_geti (pc := 2) X V h_o.1 h_o.2.1 rfl f_Rd_71 rfl d_Rd_takeCheckByte_2 ?_
  refine lv_if_eq (pc := 5) (tgt := 27) hx hb d_Rd_takeCheckByte_5 (by decide) (fun hc => ?_) (fun hc => ?_)
  · have h := h.1 hc
    exact j_Rd_takeCheckByte_27 X hr hlk hsz h_o V (lv_sub hl [0] rfl) h
  · have h := h.2 hc
    refine lv_iload_n (pc := 8) hx hb d_Rd_takeCheckByte_8 rfl (lv_at hl 1 rfl) ?_
    refine lv_aload_n (pc := 9) hx hb d_Rd_takeCheckByte_9 rfl (lv_at hl 0 rfl) ?_
    refine u_getr (pc := 10) (o' := (o + 2)) X V h_o.1 h_o.2.1 rfl f_Rd_18 rfl rfl d_Rd_takeCheckByte_10 ?_
    refine lv_aload_n (pc := 13) hx hb d_Rd_takeCheckByte_13 rfl (lv_at hl 0 rfl) ?_
    refine u_geti (pc := 14) X V h_o.1 h_o.2.1 rfl f_Rd_68 rfl d_Rd_takeCheckByte_14 ?_
    refine u_cVi (pc := 17) (As := [.int (I o 12)]) X V s_Rd_106 h_o.2.2.2.2.1 h_o.2.2.2.2.2 rfl rfl (c_Ck_part l D cc L A J t16 t32 _ _ (o + 2) ⟨h_o.2.2.2.2.1, h_o.2.2.2.2.2⟩ (I o 12) _ h) ⟨rfl, rfl, Nat.le_of_ble_eq_true rfl, Nat.le_of_ble_eq_true rfl⟩ rfl hl.1 rfl (Nat.le_of_ble_eq_true rfl) d_Rd_takeCheckByte_17 ⟨Nat.zero_le _, Nat.zero_le _⟩ (fun r12 I10 R11 h H locs V => ?_)
    refine lv_icmp_ne (pc := 20) (tgt := 27) hx hb d_Rd_takeCheckByte_20 (by decide) (fun hc => ?_) (fun hc => ?_)
    · have h := h.1 hc
      exact j_Rd_takeCheckByte_27 X hr hlk hsz h_o V (lv_sub hl [0] rfl) h
    · have h := h.2 hc
      refine lv_iconst (pc := 23) (v := 1) hx hb d_Rd_takeCheckByte_23 (by decide) ?_
      refine lv_goto (pc := 24) (tgt := 28) hx hb d_Rd_takeCheckByte_24 (by decide) ?_
      exact j_Rd_takeCheckByte_28 X hr hlk hsz h_o V (lv_sub hl [0] rfl) h
-- FrameFerry$Reader.takeMeant (I)I
theorem d_Rd_takeMeant_0 : decode prog_4_method_10_code 0 = .ok (.aload_n 0, 1) := by decide +kernel
theorem d_Rd_takeMeant_1 : decode prog_4_method_10_code 1 = .ok (.getfield 22, 3) := by decide +kernel
theorem d_Rd_takeMeant_4 : decode prog_4_method_10_code 4 = .ok (.lookupswitch 56 #[(3, 28), (4, 50)], 28) := by decide +kernel
theorem d_Rd_takeMeant_32 : decode prog_4_method_10_code 32 = .ok (.aload_n 0, 1) := by decide +kernel
theorem d_Rd_takeMeant_33 : decode prog_4_method_10_code 33 = .ok (.getfield 59, 3) := by decide +kernel
theorem d_Rd_takeMeant_36 : decode prog_4_method_10_code 36 = .ok (.iconst 5, 1) := by decide +kernel
theorem d_Rd_takeMeant_37 : decode prog_4_method_10_code 37 = .ok (.if_icmp .ge 11, 3) := by decide +kernel
theorem d_Rd_takeMeant_40 : decode prog_4_method_10_code 40 = .ok (.aload_n 0, 1) := by decide +kernel
theorem d_Rd_takeMeant_41 : decode prog_4_method_10_code 41 = .ok (.iload_n 1, 1) := by decide +kernel
theorem d_Rd_takeMeant_42 : decode prog_4_method_10_code 42 = .ok (.invokevirtual 94, 3) := by decide +kernel
theorem d_Rd_takeMeant_45 : decode prog_4_method_10_code 45 = .ok (.goto 8, 3) := by decide +kernel
theorem d_Rd_takeMeant_48 : decode prog_4_method_10_code 48 = .ok (.aload_n 0, 1) := by decide +kernel
theorem d_Rd_takeMeant_49 : decode prog_4_method_10_code 49 = .ok (.iload_n 1, 1) := by decide +kernel
theorem d_Rd_takeMeant_50 : decode prog_4_method_10_code 50 = .ok (.invokevirtual 97, 3) := by decide +kernel
theorem d_Rd_takeMeant_53 : decode prog_4_method_10_code 53 = .ok (.ireturn, 1) := by decide +kernel
theorem d_Rd_takeMeant_54 : decode prog_4_method_10_code 54 = .ok (.aload_n 0, 1) := by decide +kernel
theorem d_Rd_takeMeant_55 : decode prog_4_method_10_code 55 = .ok (.iload_n 1, 1) := by decide +kernel
theorem d_Rd_takeMeant_56 : decode prog_4_method_10_code 56 = .ok (.invokevirtual 100, 3) := by decide +kernel
theorem d_Rd_takeMeant_59 : decode prog_4_method_10_code 59 = .ok (.ireturn, 1) := by decide +kernel
theorem d_Rd_takeMeant_60 : decode prog_4_method_10_code 60 = .ok (.aload_n 0, 1) := by decide +kernel
theorem d_Rd_takeMeant_61 : decode prog_4_method_10_code 61 = .ok (.iload_n 1, 1) := by decide +kernel
theorem d_Rd_takeMeant_62 : decode prog_4_method_10_code 62 = .ok (.invokevirtual 97, 3) := by decide +kernel
theorem d_Rd_takeMeant_65 : decode prog_4_method_10_code 65 = .ok (.ireturn, 1) := by decide +kernel
def rm_Rd_takeMeant : Room := { frames := 2, cells := 0, slots := 0, locals := 43 }
def wp_Rd_takeMeant (I : UI) (R : UR) (o : Nat) (x1 : Int32) (Q : Int32 → UI → UR → Prop) : Prop :=
  ∀ v1 : Int32, v1 = I o 7 → ((v1 = 3 → ((5 ≤ I o 11 → wp_Rd_takeCheckByte I R o x1 (fun r4 I2 R3 => Q r4 I2 R3)) ∧ (¬ 5 ≤ I o 11 → wp_Rd_takeHeaderByte I R o x1 (fun r7 I5 R6 => Q r7 I5 R6)))) ∧ (¬ v1 = 3 → ((v1 = 4 → wp_Rd_takePacketByte I R o x1 (fun r10 I8 R9 => Q r10 I8 R9)) ∧ (¬ v1 = 4 → wp_Rd_takeCheckByte I R o x1 (fun r13 I11 R12 => Q r13 I11 R12)))))
set_option maxHeartbeats 4000000 in
set_option maxRecDepth 100000 in
theorem c_Rd_takeMeant (l : Launch) (D : va_G) (cc : Nat → ClassId) (L : List Nat) (A : Nat → Nat) (J : Nat → Int64) (t16 t32 : Nat) (I : UI) (R : UR) (o : Nat) (h_o : isRd L o) (x1 : Int32) (Q : Int32 → UI → UR → Prop) (h : wp_Rd_takeMeant I R o x1 Q) : uMi l y_Rd_takeMeant (.code y_Rd_takeMeant prog_4_method_10_code 2 (some .int)) rm_Rd_takeMeant [.ref (A o), .int x1] D cc L A J t16 t32 I R Q := by
  intro sz
  refine u_entry (by decide) (Nat.le_of_ble_eq_true rfl) (fun p e s m args below meth c hsz X V hr hlk ls hl => ?_)
  have X : uX p s m args c prog_4_method_10_code 2 "FrameFerry$Reader" D cc L A t16 t32 := X
  have hx := X.1
  have hb := X.2.1
  have hl : lv_has ls 2 [(0, .ref (A o)), (1, .int x1)] := hl
  unfold wp_Rd_takeMeant at h
  generalize hH : s.heap = H at V ⊢
  generalize hlo : ([] : List Loc) = locs at V ⊢
  refine lv_aload_n (pc := 0) hx hb d_Rd_takeMeant_0 rfl (lv_at hl 0 rfl) ?_
  refine u_geti (pc := 1) X V h_o.1 h_o.2.1 rfl f_Rd_22 rfl d_Rd_takeMeant_1 ?_
  refine lv_topi (fun v1 ev1 => ?_)
  have h := h v1 ev1
  by_cases hn0 : v1 = 3
  · have h := h.1 hn0
    rw [hn0]
    refine lv_lookup (pc := 4) (tgt := 32) (off := 28) hx hb d_Rd_takeMeant_4 (by decide) rfl (by decide) ?_
    refine lv_aload_n (pc := 32) hx hb d_Rd_takeMeant_32 rfl (lv_at hl 0 rfl) ?_
    refine u_geti (pc := 33) X V h_o.1 h_o.2.1 rfl f_Rd_59 rfl d_Rd_takeMeant_33 ?_
    refine lv_iconst (pc := 36) (v := 5) hx hb d_Rd_takeMeant_36 (by decide) ?_
    refine lv_icmp_ge (pc := 37) (tgt := 48) hx hb d_Rd_takeMeant_37 (by decide) (fun hc => ?_) (fun hc => ?_)
    · have h := h.1 hc
      refine lv_aload_n (pc := 48) hx hb d_Rd_takeMeant_48 rfl (lv_at hl 0 rfl) ?_
      refine lv_iload_n (pc := 49) hx hb d_Rd_takeMeant_49 rfl (lv_at hl 1 rfl) ?_
      refine u_cVi (pc := 50) (As := [.int x1]) X V s_Rd_97 h_o.1 h_o.2.1 rfl rfl (c_Rd_takeCheckByte l D cc L A J t16 t32 _ _ o h_o x1 _ h) ⟨rfl, rfl, Nat.le_of_ble_eq_true rfl, Nat.le_of_ble_eq_true rfl⟩ rfl hl.1 rfl (Nat.le_of_ble_eq_true rfl) d_Rd_takeMeant_50 ⟨Nat.zero_le _, Nat.zero_le _⟩ (fun r4 I2 R3 h H locs V => ?_)
      exact u_reti (pc := 53) X V hr hlk hsz h d_Rd_takeMeant_53
    · have h := h.2 hc
      refine lv_aload_n (pc := 40) hx hb d_Rd_takeMeant_40 rfl (lv_at hl 0 rfl) ?_
      refine lv_iload_n (pc := 41) hx hb d_Rd_takeMeant_41 rfl (lv_at hl 1 rfl) ?_
      refine u_cVi (pc := 42) (As := [.int x1]) X V s_Rd_94 h_o.1 h_o.2.1 rfl rfl (c_Rd_takeHeaderByte l D cc L A J t16 t32 _ _ o h_o x1 _ h) ⟨rfl, rfl, Nat.le_of_ble_eq_true rfl, Nat.le_of_ble_eq_true rfl⟩ rfl hl.1 rfl (Nat.le_of_ble_eq_true rfl) d_Rd_takeMeant_42 ⟨Nat.zero_le _, Nat.zero_le _⟩ (fun r7 I5 R6 h H locs V => ?_)
      refine lv_goto (pc := 45) (tgt := 53) hx hb d_Rd_takeMeant_45 (by decide) ?_
      exact u_reti (pc := 53) X V hr hlk hsz h d_Rd_takeMeant_53
  · have h := h.2 hn0
    by_cases hn1 : v1 = 4
    · have h := h.1 hn1
      rw [hn1]
      refine lv_lookup (pc := 4) (tgt := 54) (off := 50) hx hb d_Rd_takeMeant_4 (by decide) rfl (by decide) ?_
      refine lv_aload_n (pc := 54) hx hb d_Rd_takeMeant_54 rfl (lv_at hl 0 rfl) ?_
      refine lv_iload_n (pc := 55) hx hb d_Rd_takeMeant_55 rfl (lv_at hl 1 rfl) ?_
      refine u_cVi (pc := 56) (As := [.int x1]) X V s_Rd_100 h_o.1 h_o.2.1 rfl rfl (c_Rd_takePacketByte l D cc L A J t16 t32 _ _ o h_o x1 _ h) ⟨rfl, rfl, Nat.le_of_ble_eq_true rfl, Nat.le_of_ble_eq_true rfl⟩ rfl hl.1 rfl (Nat.le_of_ble_eq_true rfl) d_Rd_takeMeant_56 ⟨Nat.zero_le _, Nat.zero_le _⟩ (fun r10 I8 R9 h H locs V => ?_)
      exact u_reti (pc := 59) X V hr hlk hsz h d_Rd_takeMeant_59
    · have h := h.2 hn1
      refine lv_lookup (pc := 4) (tgt := 60) (off := 56) hx hb d_Rd_takeMeant_4 (by decide) ((lv_osw (a := 3) hn0 rfl).trans ((lv_osw (a := 4) hn1 rfl).trans (rfl))) (by decide) ?_
      refine lv_aload_n (pc := 60) hx hb d_Rd_takeMeant_60 rfl (lv_at hl 0 rfl) ?_
      refine lv_iload_n (pc := 61) hx hb d_Rd_takeMeant_61 rfl (lv_at hl 1 rfl) ?_
      refine u_cVi (pc := 62) (As := [.int x1]) X V s_Rd_97 h_o.1 h_o.2.1 rfl rfl (c_Rd_takeCheckByte l D cc L A J t16 t32 _ _ o h_o x1 _ h) ⟨rfl, rfl, Nat.le_of_ble_eq_true rfl, Nat.le_of_ble_eq_true rfl⟩ rfl hl.1 rfl (Nat.le_of_ble_eq_true rfl) d_Rd_takeMeant_62 ⟨Nat.zero_le _, Nat.zero_le _⟩ (fun r13 I11 R12 h H locs V => ?_)
      exact u_reti (pc := 65) X V hr hlk hsz h d_Rd_takeMeant_65
-- FrameFerry$Reader.takeDigit (I)I
theorem d_Rd_takeDigit_0 : decode prog_4_method_8_code 0 = .ok (.iload_n 1, 1) := by decide +kernel
theorem d_Rd_takeDigit_1 : decode prog_4_method_8_code 1 = .ok (.invokestatic 78, 3) := by decide +kernel
theorem d_Rd_takeDigit_4 : decode prog_4_method_8_code 4 = .ok (.istore_n 2, 1) := by decide +kernel
theorem d_Rd_takeDigit_5 : decode prog_4_method_8_code 5 = .ok (.iload_n 2, 1) := by decide +kernel
theorem d_Rd_takeDigit_6 : decode prog_4_method_8_code 6 = .ok (.iconst (-1), 1) := by decide +kernel
theorem d_Rd_takeDigit_7 : decode prog_4_method_8_code 7 = .ok (.if_icmp .ne 8, 3) := by decide +kernel
theorem d_Rd_takeDigit_10 : decode prog_4_method_8_code 10 = .ok (.aload_n 0, 1) := by decide +kernel
theorem d_Rd_takeDigit_11 : decode prog_4_method_8_code 11 = .ok (.invokevirtual 81, 3) := by decide +kernel
theorem d_Rd_takeDigit_14 : decode prog_4_method_8_code 14 = .ok (.ireturn, 1) := by decide +kernel
theorem d_Rd_takeDigit_15 : decode prog_4_method_8_code 15 = .ok (.aload_n 0, 1) := by decide +kernel
theorem d_Rd_takeDigit_16 : decode prog_4_method_8_code 16 = .ok (.getfield 56, 3) := by decide +kernel
theorem d_Rd_takeDigit_19 : decode prog_4_method_8_code 19 = .ok (.iconst (-1), 1) := by decide +kernel
theorem d_Rd_takeDigit_20 : decode prog_4_method_8_code 20 = .ok (.if_icmp .ne 10, 3) := by decide +kernel
theorem d_Rd_takeDigit_23 : decode prog_4_method_8_code 23 = .ok (.aload_n 0, 1) := by decide +kernel
theorem d_Rd_takeDigit_24 : decode prog_4_method_8_code 24 = .ok (.iload_n 2, 1) := by decide +kernel
theorem d_Rd_takeDigit_25 : decode prog_4_method_8_code 25 = .ok (.putfield 56, 3) := by decide +kernel
theorem d_Rd_takeDigit_28 : decode prog_4_method_8_code 28 = .ok (.iconst 0, 1) := by decide +kernel
theorem d_Rd_takeDigit_29 : decode prog_4_method_8_code 29 = .ok (.ireturn, 1) := by decide +kernel
theorem d_Rd_takeDigit_30 : decode prog_4_method_8_code 30 = .ok (.aload_n 0, 1) := by decide +kernel
theorem d_Rd_takeDigit_31 : decode prog_4_method_8_code 31 = .ok (.getfield 56, 3) := by decide +kernel
theorem d_Rd_takeDigit_34 : decode prog_4_method_8_code 34 = .ok (.bipush 16, 2) := by decide +kernel
theorem d_Rd_takeDigit_36 : decode prog_4_method_8_code 36 = .ok (.imul, 1) := by decide +kernel
theorem d_Rd_takeDigit_37 : decode prog_4_method_8_code 37 = .ok (.iload_n 2, 1) := by decide +kernel
theorem d_Rd_takeDigit_38 : decode prog_4_method_8_code 38 = .ok (.iadd, 1) := by decide +kernel
theorem d_Rd_takeDigit_39 : decode prog_4_method_8_code 39 = .ok (.istore_n 3, 1) := by decide +kernel
theorem d_Rd_takeDigit_40 : decode prog_4_method_8_code 40 = .ok (.aload_n 0, 1) := by decide +kernel
theorem d_Rd_takeDigit_41 : decode prog_4_method_8_code 41 = .ok (.iconst (-1), 1) := by decide +kernel
theorem d_Rd_takeDigit_42 : decode prog_4_method_8_code 42 = .ok (.putfield 56, 3) := by decide +kernel
theorem d_Rd_takeDigit_45 : decode prog_4_method_8_code 45 = .ok (.aload_n 0, 1) := by decide +kernel
theorem d_Rd_takeDigit_46 : decode prog_4_method_8_code 46 = .ok (.iload_n 3, 1) := by decide +kernel
theorem d_Rd_takeDigit_47 : decode prog_4_method_8_code 47 = .ok (.invokevirtual 85, 3) := by decide +kernel
theorem d_Rd_takeDigit_50 : decode prog_4_method_8_code 50 = .ok (.ireturn, 1) := by decide +kernel
def rm_Rd_takeDigit : Room := { frames := 3, cells := 0, slots := 0, locals := 64 }
def wp_Rd_takeDigit (I : UI) (R : UR) (o : Nat) (x1 : Int32) (Q : Int32 → UI → UR → Prop) : Prop :=
  wp_Rd_digitOf I R x1 (fun r3 I1 R2 => ((¬ r3 = (-1) → ((¬ I1 o 10 = (-1) → ∀ v4 : Int32, v4 = ((I1 o 10) * 16) + r3 → ∀ I5 : UI, I5 = u2 I1 o 10 (-1) → wp_Rd_takeMeant I5 R2 o v4 (fun r8 I6 R7 => Q r8 I6 R7)) ∧ (I1 o 10 = (-1) → ∀ I9 : UI, I9 = u2 I1 o 10 r3 → Q 0 I9 R2))) ∧ (r3 = (-1) → wp_Rd_giveUp I1 R2 o (fun r12 I10 R11 => Q r12 I10 R11))))
set_option maxHeartbeats 4000000 in
set_option maxRecDepth 100000 in
theorem c_Rd_takeDigit (l : Launch) (D : va_G) (cc : Nat → ClassId) (L : List Nat) (A : Nat → Nat) (J : Nat → Int64) (t16 t32 : Nat) (I : UI) (R : UR) (o : Nat) (h_o : isRd L o) (x1 : Int32) (Q : Int32 → UI → UR → Prop) (h : wp_Rd_takeDigit I R o x1 Q) : uMi l y_Rd_takeDigit (.code y_Rd_takeDigit prog_4_method_8_code 4 (some .int)) rm_Rd_takeDigit [.ref (A o), .int x1] D cc L A J t16 t32 I R Q := by
  intro sz
  refine u_entry (by decide) (Nat.le_of_ble_eq_true rfl) (fun p e s m args below meth c hsz X V hr hlk ls hl => ?_)
  have X : uX p s m args c prog_4_method_8_code 4 "FrameFerry$Reader" D cc L A t16 t32 := X
  have hx := X.1
  have hb := X.2.1
  have hl : lv_has ls 4 [(0, .ref (A o)), (1, .int x1)] := hl
  unfold wp_Rd_takeDigit at h
  generalize hH : s.heap = H at V ⊢
  generalize hlo : ([] : List Loc) = locs at V ⊢
  refine lv_iload_n (pc := 0) hx hb d_Rd_takeDigit_0 rfl (lv_at hl 1 rfl) ?_
  refine u_cSi (pc := 1) (As := [.int x1]) X V s_Rd_78 (c_Rd_digitOf l D cc L A J t16 t32 _ _ x1 _ h) ⟨rfl, rfl, Nat.le_of_ble_eq_true rfl, Nat.le_of_ble_eq_true rfl⟩ rfl hl.1 rfl (Nat.le_of_ble_eq_true rfl) d_Rd_takeDigit_1 ⟨Nat.zero_le _, Nat.zero_le _⟩ (fun r3 I1 R2 h H locs V => ?_)
  refine lv_istore_n (pc := 4) (lv' := [(2, .int r3), (0, .ref (A o)), (1, .int x1)]) hx hb d_Rd_takeDigit_4 rfl hl (by decide) rfl (fun ls hl => ?_)
  refine lv_iload_n (pc := 5) hx hb d_Rd_takeDigit_5 rfl (lv_at hl 0 rfl) ?_
  refine lv_iconst (pc := 6) (v := (-1)) hx hb d_Rd_takeDigit_6 (by decide) ?_
  refine lv_icmp_ne (pc := 7) (tgt := 15) hx hb d_Rd_takeDigit_7 (by decide) (fun hc => ?_) (fun hc => ?_)
  · have h := h.1 hc
    refine lv_aload_n (pc := 15) hx hb d_Rd_takeDigit_15 rfl (lv_at hl 1 rfl) ?_
    refine u_geti (pc := 16) X V h_o.1 h_o.2.1 rfl f_Rd_56 rfl d_Rd_takeDigit_16 ?_
    refine lv_iconst (pc := 19) (v := (-1)) hx hb d_Rd_takeDigit_19 (by decide) ?_
    refine lv_icmp_ne (pc := 20) (tgt := 30) hx hb d_Rd_takeDigit_20 (by decide) (fun hc => ?_) (fun hc => ?_)
    · have h := h.1 hc
      refine lv_aload_n (pc := 30) hx hb d_Rd_takeDigit_30 rfl (lv_at hl 1 rfl) ?_
      refine u_geti (pc := 31) X V h_o.1 h_o.2.1 rfl f_Rd_56 rfl d_Rd_takeDigit_31 ?_
      refine lv_bipush (pc := 34) (v := 16) hx hb d_Rd_takeDigit_34 (by decide) ?_
      refine lv_imul (pc := 36) hx hb d_Rd_takeDigit_36 ?_
      refine lv_iload_n (pc := 37) hx hb d_Rd_takeDigit_37 rfl (lv_at hl 0 rfl) ?_
      refine lv_iadd (pc := 38) hx hb d_Rd_takeDigit_38 ?_
      refine lv_topi (fun v4 ev4 => ?_)
      have h := h v4 ev4
      refine lv_istore_n (pc := 39) (lv' := [(3, .int v4), (2, .int r3), (0, .ref (A o)), (1, .int x1)]) hx hb d_Rd_takeDigit_39 rfl hl (by decide) rfl (fun ls hl => ?_)
      refine lv_aload_n (pc := 40) hx hb d_Rd_takeDigit_40 rfl (lv_at hl 2 rfl) ?_
      refine lv_iconst (pc := 41) (v := (-1)) hx hb d_Rd_takeDigit_41 (by decide) ?_
      refine u_puti (pc := 42) X V h_o.1 h_o.2.1 rfl f_Rd_56 rfl d_Rd_takeDigit_42 (fun I5 eI5 H locs V => ?_)
      have h := h I5 eI5
      refine lv_aload_n (pc := 45) hx hb d_Rd_takeDigit_45 rfl (lv_at hl 2 rfl) ?_
      refine lv_iload_n (pc := 46) hx hb d_Rd_takeDigit_46 rfl (lv_at hl 0 rfl) ?_
      refine u_cVi (pc := 47) (As := [.int v4]) X V s_Rd_85 h_o.1 h_o.2.1 rfl rfl (c_Rd_takeMeant l D cc L A J t16 t32 _ _ o h_o v4 _ h) ⟨rfl, rfl, Nat.le_of_ble_eq_true rfl, Nat.le_of_ble_eq_true rfl⟩ rfl hl.1 rfl (Nat.le_of_ble_eq_true rfl) d_Rd_takeDigit_47 ⟨Nat.zero_le _, Nat.zero_le _⟩ (fun r8 I6 R7 h H locs V => ?_)
      exact u_reti (pc := 50) X V hr hlk hsz h d_Rd_takeDigit_50
    · have h := h.2 hc
      refine lv_aload_n (pc := 23) hx hb d_Rd_takeDigit_23 rfl (lv_at hl 1 rfl) ?_
      refine lv_iload_n (pc := 24) hx hb d_Rd_takeDigit_24 rfl (lv_at hl 0 rfl) ?_
      refine u_puti (pc := 25) X V h_o.1 h_o.2.1 rfl f_Rd_56 rfl d_Rd_takeDigit_25 (fun I9 eI9 H locs V => ?_)
      have h := h I9 eI9
      refine lv_iconst (pc := 28) (v := 0) hx hb d_Rd_takeDigit_28 (by decide) ?_
      exact u_reti (pc := 29) X V hr hlk hsz h d_Rd_takeDigit_29
  · have h := h.2 hc
    refine lv_aload_n (pc := 10) hx hb d_Rd_takeDigit_10 rfl (lv_at hl 1 rfl) ?_
    refine u_cVi (pc := 11) (As := []) X V s_Rd_81 h_o.1 h_o.2.1 rfl rfl (c_Rd_giveUp l D cc L A J t16 t32 _ _ o h_o _ h) ⟨rfl, rfl, Nat.le_of_ble_eq_true rfl, Nat.le_of_ble_eq_true rfl⟩ rfl hl.1 rfl (Nat.le_of_ble_eq_true rfl) d_Rd_takeDigit_11 ⟨Nat.zero_le _, Nat.zero_le _⟩ (fun r12 I10 R11 h H locs V => ?_)
    exact u_reti (pc := 14) X V hr hlk hsz h d_Rd_takeDigit_14
-- FrameFerry$Reader.takeEscaped (I)I
theorem d_Rd_takeEscaped_0 : decode prog_4_method_9_code 0 = .ok (.aload_n 0, 1) := by decide +kernel
theorem d_Rd_takeEscaped_1 : decode prog_4_method_9_code 1 = .ok (.getfield 65, 3) := by decide +kernel
theorem d_Rd_takeEscaped_4 : decode prog_4_method_9_code 4 = .ok (.ifCond .ne 16, 3) := by decide +kernel
theorem d_Rd_takeEscaped_7 : decode prog_4_method_9_code 7 = .ok (.iload_n 1, 1) := by decide +kernel
theorem d_Rd_takeEscaped_8 : decode prog_4_method_9_code 8 = .ok (.bipush 24, 2) := by decide +kernel
theorem d_Rd_takeEscaped_10 : decode prog_4_method_9_code 10 = .ok (.if_icmp .ne 10, 3) := by decide +kernel
theorem d_Rd_takeEscaped_13 : decode prog_4_method_9_code 13 = .ok (.aload_n 0, 1) := by decide +kernel
theorem d_Rd_takeEscaped_14 : decode prog_4_method_9_code 14 = .ok (.iconst 1, 1) := by decide +kernel
theorem d_Rd_takeEscaped_15 : decode prog_4_method_9_code 15 = .ok (.putfield 65, 3) := by decide +kernel
theorem d_Rd_takeEscaped_18 : decode prog_4_method_9_code 18 = .ok (.iconst 0, 1) := by decide +kernel
theorem d_Rd_takeEscaped_19 : decode prog_4_method_9_code 19 = .ok (.ireturn, 1) := by decide +kernel
theorem d_Rd_takeEscaped_20 : decode prog_4_method_9_code 20 = .ok (.aload_n 0, 1) := by decide +kernel
theorem d_Rd_takeEscaped_21 : decode prog_4_method_9_code 21 = .ok (.getfield 65, 3) := by decide +kernel
theorem d_Rd_takeEscaped_24 : decode prog_4_method_9_code 24 = .ok (.ifCond .ne 9, 3) := by decide +kernel
theorem d_Rd_takeEscaped_27 : decode prog_4_method_9_code 27 = .ok (.aload_n 0, 1) := by decide +kernel
theorem d_Rd_takeEscaped_28 : decode prog_4_method_9_code 28 = .ok (.iload_n 1, 1) := by decide +kernel
theorem d_Rd_takeEscaped_29 : decode prog_4_method_9_code 29 = .ok (.invokevirtual 85, 3) := by decide +kernel
theorem d_Rd_takeEscaped_32 : decode prog_4_method_9_code 32 = .ok (.ireturn, 1) := by decide +kernel
theorem d_Rd_takeEscaped_33 : decode prog_4_method_9_code 33 = .ok (.aload_n 0, 1) := by decide +kernel
theorem d_Rd_takeEscaped_34 : decode prog_4_method_9_code 34 = .ok (.iconst 0, 1) := by decide +kernel
theorem d_Rd_takeEscaped_35 : decode prog_4_method_9_code 35 = .ok (.putfield 65, 3) := by decide +kernel
theorem d_Rd_takeEscaped_38 : decode prog_4_method_9_code 38 = .ok (.aload_n 0, 1) := by decide +kernel
theorem d_Rd_takeEscaped_39 : decode prog_4_method_9_code 39 = .ok (.getfield 22, 3) := by decide +kernel
theorem d_Rd_takeEscaped_42 : decode prog_4_method_9_code 42 = .ok (.iconst 4, 1) := by decide +kernel
theorem d_Rd_takeEscaped_43 : decode prog_4_method_9_code 43 = .ok (.if_icmp .ne 35, 3) := by decide +kernel
theorem d_Rd_takeEscaped_46 : decode prog_4_method_9_code 46 = .ok (.iload_n 1, 1) := by decide +kernel
theorem d_Rd_takeEscaped_47 : decode prog_4_method_9_code 47 = .ok (.bipush 104, 2) := by decide +kernel
theorem d_Rd_takeEscaped_49 : decode prog_4_method_9_code 49 = .ok (.if_icmp .lt 29, 3) := by decide +kernel
theorem d_Rd_takeEscaped_52 : decode prog_4_method_9_code 52 = .ok (.iload_n 1, 1) := by decide +kernel
theorem d_Rd_takeEscaped_53 : decode prog_4_method_9_code 53 = .ok (.bipush 107, 2) := by decide +kernel
theorem d_Rd_takeEscaped_55 : decode prog_4_method_9_code 55 = .ok (.if_icmp .gt 23, 3) := by decide +kernel
theorem d_Rd_takeEscaped_58 : decode prog_4_method_9_code 58 = .ok (.aload_n 0, 1) := by decide +kernel
theorem d_Rd_takeEscaped_59 : decode prog_4_method_9_code 59 = .ok (.iload_n 1, 1) := by decide +kernel
theorem d_Rd_takeEscaped_60 : decode prog_4_method_9_code 60 = .ok (.putfield 32, 3) := by decide +kernel
theorem d_Rd_takeEscaped_63 : decode prog_4_method_9_code 63 = .ok (.aload_n 0, 1) := by decide +kernel
theorem d_Rd_takeEscaped_64 : decode prog_4_method_9_code 64 = .ok (.getfield 18, 3) := by decide +kernel
theorem d_Rd_takeEscaped_67 : decode prog_4_method_9_code 67 = .ok (.iload_n 1, 1) := by decide +kernel
theorem d_Rd_takeEscaped_68 : decode prog_4_method_9_code 68 = .ok (.invokevirtual 88, 3) := by decide +kernel
theorem d_Rd_takeEscaped_71 : decode prog_4_method_9_code 71 = .ok (.aload_n 0, 1) := by decide +kernel
theorem d_Rd_takeEscaped_72 : decode prog_4_method_9_code 72 = .ok (.iconst 5, 1) := by decide +kernel
theorem d_Rd_takeEscaped_73 : decode prog_4_method_9_code 73 = .ok (.putfield 22, 3) := by decide +kernel
theorem d_Rd_takeEscaped_76 : decode prog_4_method_9_code 76 = .ok (.iconst 0, 1) := by decide +kernel
theorem d_Rd_takeEscaped_77 : decode prog_4_method_9_code 77 = .ok (.ireturn, 1) := by decide +kernel
theorem d_Rd_takeEscaped_78 : decode prog_4_method_9_code 78 = .ok (.iload_n 1, 1) := by decide +kernel
theorem d_Rd_takeEscaped_79 : decode prog_4_method_9_code 79 = .ok (.invokestatic 91, 3) := by decide +kernel
theorem d_Rd_takeEscaped_82 : decode prog_4_method_9_code 82 = .ok (.istore_n 2, 1) := by decide +kernel
theorem d_Rd_takeEscaped_83 : decode prog_4_method_9_code 83 = .ok (.iload_n 2, 1) := by decide +kernel
theorem d_Rd_takeEscaped_84 : decode prog_4_method_9_code 84 = .ok (.iconst (-1), 1) := by decide +kernel
theorem d_Rd_takeEscaped_85 : decode prog_4_method_9_code 85 = .ok (.if_icmp .ne 10, 3) := by decide +kernel
theorem d_Rd_takeEscaped_88 : decode prog_4_method_9_code 88 = .ok (.aload_n 0, 1) := by decide +kernel
theorem d_Rd_takeEscaped_89 : decode prog_4_method_9_code 89 = .ok (.invokevirtual 81, 3) := by decide +kernel
theorem d_Rd_takeEscaped_92 : decode prog_4_method_9_code 92 = .ok (.goto 8, 3) := by decide +kernel
theorem d_Rd_takeEscaped_95 : decode prog_4_method_9_code 95 = .ok (.aload_n 0, 1) := by decide +kernel
theorem d_Rd_takeEscaped_96 : decode prog_4_method_9_code 96 = .ok (.iload_n 2, 1) := by decide +kernel
theorem d_Rd_takeEscaped_97 : decode prog_4_method_9_code 97 = .ok (.invokevirtual 85, 3) := by decide +kernel
theorem d_Rd_takeEscaped_100 : decode prog_4_method_9_code 100 = .ok (.ireturn, 1) := by decide +kernel
def rm_Rd_takeEscaped : Room := { frames := 3, cells := 0, slots := 0, locals := 64 }
def wp_Rd_takeEscaped_L78 (o : Nat) (Q : Int32 → UI → UR → Prop) (I : UI) (R : UR) (x1 : Int32) : Prop :=
  wp_Rd_unescaped I R x1 (fun r4 I2 R3 => ((¬ r4 = (-1) → wp_Rd_takeMeant I2 R3 o r4 (fun r7 I5 R6 => Q r7 I5 R6)) ∧ (r4 = (-1) → wp_Rd_giveUp I2 R3 o (fun r10 I8 R9 => Q r10 I8 R9))))
set_option maxHeartbeats 4000000 in
set_option maxRecDepth 100000 in
theorem j_Rd_takeEscaped_78 (X : uX p s m args c prog_4_method_9_code 3 "FrameFerry$Reader" D cc L A t16 t32) (hr : meth.sig.returnType = (some .int)) (hlk : meth.locks = false) (hsz : sz = s.heap.size) {o : Nat} (h_o : isRd L o) {Q : Int32 → UI → UR → Prop} {I : UI} {R : UR} {x1 : Int32} {H : Heap} {locs : List Loc} {ls : Array Slot} (V : uV s D cc L A J I R H locs) (hl : lv_has ls 3 [(0, .ref (A o)), (1, .int x1)]) (h : wp_Rd_takeEscaped_L78 o Q I R x1) : W p l e rm_Rd_takeEscaped s m args below meth c H locs 0 0 (MQ below (va_Qi (fun (r : Int32) (u : UI × UR) => Q r u.1 u.2) (uBv D cc L A J) (uA L A sz)) args s 0 0 (uA L A sz)) (F0 m 78 ls []) := by
  have hx := X.1
  have hb := X.2.1
  unfold wp_Rd_takeEscaped_L78 at h
  refine lv_iload_n (pc := 78) hx hb d_Rd_takeEscaped_78 rfl (lv_at hl 1 rfl) ?_
  refine u_cSi (pc := 79) (As := [.int x1]) X V s_Rd_91 (c_Rd_unescaped l D cc L A J t16 t32 _ _ x1 _ h) ⟨rfl, rfl, Nat.le_of_ble_eq_true rfl, Nat.le_of_ble_eq_true rfl⟩ rfl hl.1 rfl (Nat.le_of_ble_eq_true rfl) d_Rd_takeEscaped_79 ⟨Nat.zero_le _, Nat.zero_le _⟩ (fun r4 I2 R3 h H locs V => ?_)
  refine lv_istore_n (pc := 82) (lv' := [(2, .int r4), (0, .ref (A o)), (1, .int x1)]) hx hb d_Rd_takeEscaped_82 rfl hl (by decide) rfl (fun ls hl => ?_)
  refine lv_iload_n (pc := 83) hx hb d_Rd_takeEscaped_83 rfl (lv_at hl 0 rfl) ?_
  refine lv_iconst (pc := 84) (v := (-1)) hx hb d_Rd_takeEscaped_84 (by decide) ?_
  refine lv_icmp_ne (pc := 85) (tgt := 95) hx hb d_Rd_takeEscaped_85 (by decide) (fun hc => ?_) (fun hc => ?_)
  · have h := h.1 hc
    refine lv_aload_n (pc := 95) hx hb d_Rd_takeEscaped_95 rfl (lv_at hl 1 rfl) ?_
    refine lv_iload_n (pc := 96) hx hb d_Rd_takeEscaped_96 rfl (lv_at hl 0 rfl) ?_
    refine u_cVi (pc := 97) (As := [.int r4]) X V s_Rd_85 h_o.1 h_o.2.1 rfl rfl (c_Rd_takeMeant l D cc L A J t16 t32 _ _ o h_o r4 _ h) ⟨rfl, rfl, Nat.le_of_ble_eq_true rfl, Nat.le_of_ble_eq_true rfl⟩ rfl hl.1 rfl (Nat.le_of_ble_eq_true rfl) d_Rd_takeEscaped_97 ⟨Nat.zero_le _, Nat.zero_le _⟩ (fun r7 I5 R6 h H locs V => ?_)
    exact u_reti (pc := 100) X V hr hlk hsz h d_Rd_takeEscaped_100
  · have h := h.2 hc
    refine lv_aload_n (pc := 88) hx hb d_Rd_takeEscaped_88 rfl (lv_at hl 1 rfl) ?_
    refine u_cVi (pc := 89) (As := []) X V s_Rd_81 h_o.1 h_o.2.1 rfl rfl (c_Rd_giveUp l D cc L A J t16 t32 _ _ o h_o _ h) ⟨rfl, rfl, Nat.le_of_ble_eq_true rfl, Nat.le_of_ble_eq_true rfl⟩ rfl hl.1 rfl (Nat.le_of_ble_eq_true rfl) d_Rd_takeEscaped_89 ⟨Nat.zero_le _, Nat.zero_le _⟩ (fun r10 I8 R9 h H locs V => ?_)
    refine lv_goto (pc := 92) (tgt := 100) hx hb d_Rd_takeEscaped_92 (by decide) ?_
    exact u_reti (pc := 100) X V hr hlk hsz h d_Rd_takeEscaped_100
def wp_Rd_takeEscaped_L20 (o : Nat) (Q : Int32 → UI → UR → Prop) (I : UI) (R : UR) (x1 : Int32) : Prop :=
  ((¬ I o 9 = 0 → zb 0 ∧ ∀ I1 : UI, I1 = u2 I o 9 0 → ((¬ I1 o 7 = 4 → wp_Rd_takeEscaped_L78 o Q I1 R x1) ∧ (I1 o 7 = 4 → ((x1 < 104 → wp_Rd_takeEscaped_L78 o Q I1 R x1) ∧ (¬ x1 < 104 → ((107 < x1 → wp_Rd_takeEscaped_L78 o Q I1 R x1) ∧ (¬ 107 < x1 → ∀ I11 : UI, I11 = u2 I1 o 2 x1 → wp_Ck_add I11 R (o + 2) x1 (fun I12 R13 => ∀ I14 : UI, I14 = u2 I12 o 7 5 → Q 0 I14 R13)))))))) ∧ (I o 9 = 0 → wp_Rd_takeMeant I R o x1 (fun r17 I15 R16 => Q r17 I15 R16)))
set_option maxHeartbeats 4000000 in
set_option maxRecDepth 100000 in
theorem j_Rd_takeEscaped_20 (X : uX p s m args c prog_4_method_9_code 3 "FrameFerry$Reader" D cc L A t16 t32) (hr : meth.sig.returnType = (some .int)) (hlk : meth.locks = false) (hsz : sz = s.heap.size) {o : Nat} (h_o : isRd L o) {Q : Int32 → UI → UR → Prop} {I : UI} {R : UR} {x1 : Int32} {H : Heap} {locs : List Loc} {ls : Array Slot} (V : uV s D cc L A J I R H locs) (hl : lv_has ls 3 [(0, .ref (A o)), (1, .int x1)]) (h : wp_Rd_takeEscaped_L20 o Q I R x1) : W p l e rm_Rd_takeEscaped s m args below meth c H locs 0 0 (MQ below (va_Qi (fun (r : Int32) (u : UI × UR) => Q r u.1 u.2) (uBv D cc L A J) (uA L A sz)) args s 0 0 (uA L A sz)) (F0 m 20 ls []) := by
  have hx := X.1
  have hb := X.2.1
  unfold wp_Rd_takeEscaped_L20 at h
  refine lv_aload_n (pc := 20) hx hb d_Rd_takeEscaped_20 rfl (lv_at hl 0 rfl) ?_
  refine u_geti (pc := 21) X V h_o.1 h_o.2.1 rfl f_Rd_65 rfl d_Rd_takeEscaped_21 ?_
  refine lv_if_ne (pc := 24) (tgt := 33) hx hb d_Rd_takeEscaped_24 (by decide) (fun hc => ?_) (fun hc => ?_)
  · have h := h.1 hc
    refine lv_aload_n (pc := 33) hx hb d_Rd_takeEscaped_33 rfl (lv_at hl 0 rfl) ?_
    refine lv_iconst (pc := 34) (v := 0) hx hb d_Rd_takeEscaped_34 (by decide) ?_
    refine u_putz (pc := 35) X V h_o.1 h_o.2.1 rfl f_Rd_65 rfl h.1 d_Rd_takeEscaped_35 (fun I1 eI1 H locs V => ?_)
    have h := h.2 I1 eI1
    refine lv_aload_n (pc := 38) hx hb d_Rd_takeEscaped_38 rfl (lv_at hl 0 rfl) ?_
    refine u_geti (pc := 39) X V h_o.1 h_o.2.1 rfl f_Rd_22 rfl d_Rd_takeEscaped_39 ?_
    refine lv_iconst (pc := 42) (v := 4) hx hb d_Rd_takeEscaped_42 (by decide) ?_
    refine lv_icmp_ne (pc := 43) (tgt := 78) hx hb d_Rd_takeEscaped_43 (by decide) (fun hc => ?_) (fun hc => ?_)
    · have h := h.1 hc
      exact j_Rd_takeEscaped_78 X hr hlk hsz h_o V (lv_sub hl [0, 1] rfl) h
    · have h := h.2 hc
      refine lv_iload_n (pc := 46) hx hb d_Rd_takeEscaped_46 rfl (lv_at hl 1 rfl) ?_
      refine lv_bipush (pc := 47) (v := 104) hx hb d_Rd_takeEscaped_47 (by decide) ?_
      refine lv_icmp_lt (pc := 49) (tgt := 78) hx hb d_Rd_takeEscaped_49 (by decide) (fun hc => ?_) (fun hc => ?_)
      · have h := h.1 hc
        exact j_Rd_takeEscaped_78 X hr hlk hsz h_o V (lv_sub hl [0, 1] rfl) h
      · have h := h.2 hc
        refine lv_iload_n (pc := 52) hx hb d_Rd_takeEscaped_52 rfl (lv_at hl 1 rfl) ?_
        refine lv_bipush (pc := 53) (v := 107) hx hb d_Rd_takeEscaped_53 (by decide) ?_
        refine lv_icmp_gt (pc := 55) (tgt := 78) hx hb d_Rd_takeEscaped_55 (by decide) (fun hc => ?_) (fun hc => ?_)
        · have h := h.1 hc
          exact j_Rd_takeEscaped_78 X hr hlk hsz h_o V (lv_sub hl [0, 1] rfl) h
        · have h := h.2 hc
          refine lv_aload_n (pc := 58) hx hb d_Rd_takeEscaped_58 rfl (lv_at hl 0 rfl) ?_
          refine lv_iload_n (pc := 59) hx hb d_Rd_takeEscaped_59 rfl (lv_at hl 1 rfl) ?_
          refine u_puti (pc := 60) X V h_o.1 h_o.2.1 rfl f_Rd_32 rfl d_Rd_takeEscaped_60 (fun I11 eI11 H locs V => ?_)
          have h := h I11 eI11
          refine lv_aload_n (pc := 63) hx hb d_Rd_takeEscaped_63 rfl (lv_at hl 0 rfl) ?_
          refine u_getr (pc := 64) (o' := (o + 2)) X V h_o.1 h_o.2.1 rfl f_Rd_18 rfl rfl d_Rd_takeEscaped_64 ?_
          refine lv_iload_n (pc := 67) hx hb d_Rd_takeEscaped_67 rfl (lv_at hl 1 rfl) ?_
          refine u_cVv (pc := 68) (As := [.int x1]) X V s_Rd_88 h_o.2.2.2.2.1 h_o.2.2.2.2.2 rfl rfl (c_Ck_add l D cc L A J t16 t32 _ _ (o + 2) ⟨h_o.2.2.2.2.1, h_o.2.2.2.2.2⟩ x1 _ h) ⟨rfl, rfl, Nat.le_of_ble_eq_true rfl, Nat.le_of_ble_eq_true rfl⟩ rfl hl.1 rfl (Nat.le_of_ble_eq_true rfl) d_Rd_takeEscaped_68 ⟨Nat.zero_le _, Nat.zero_le _⟩ (fun I12 R13 h H locs V => ?_)
          refine lv_aload_n (pc := 71) hx hb d_Rd_takeEscaped_71 rfl (lv_at hl 0 rfl) ?_
          refine lv_iconst (pc := 72) (v := 5) hx hb d_Rd_takeEscaped_72 (by decide) ?_
          refine u_puti (pc := 73) X V h_o.1 h_o.2.1 rfl f_Rd_22 rfl d_Rd_takeEscaped_73 (fun I14 eI14 H locs V => ?_)
          have h := h I14 eI14
          refine lv_iconst (pc := 76) (v := 0) hx hb d_Rd_takeEscaped_76 (by decide) ?_
          exact u_reti (pc := 77) X V hr hlk hsz h d_Rd_takeEscaped_77
  · have h := h.2 hc
    refine lv_aload_n (pc := 27) hx hb d_Rd_takeEscaped_27 rfl (lv_at hl 0 rfl) ?_
    refine lv_iload_n (pc := 28) hx hb d_Rd_takeEscaped_28 rfl (lv_at hl 1 rfl) ?_
    refine u_cVi (pc := 29) (As := [.int x1]) X V s_Rd_85 h_o.1 h_o.2.1 rfl rfl (c_Rd_takeMeant l D cc L A J t16 t32 _ _ o h_o x1 _ h) ⟨rfl, rfl, Nat.le_of_ble_eq_true rfl, Nat.le_of_ble_eq_true rfl⟩ rfl hl.1 rfl (Nat.le_of_ble_eq_true rfl) d_Rd_takeEscaped_29 ⟨Nat.zero_le _, Nat.zero_le _⟩ (fun r17 I15 R16 h H locs V => ?_)
    exact u_reti (pc := 32) X V hr hlk hsz h d_Rd_takeEscaped_32
def wp_Rd_takeEscaped (I : UI) (R : UR) (o : Nat) (x1 : Int32) (Q : Int32 → UI → UR → Prop) : Prop :=
  ((¬ I o 9 = 0 → wp_Rd_takeEscaped_L20 o Q I R x1) ∧ (I o 9 = 0 → ((¬ x1 = 24 → wp_Rd_takeEscaped_L20 o Q I R x1) ∧ (x1 = 24 → zb 1 ∧ ∀ I18 : UI, I18 = u2 I o 9 1 → Q 0 I18 R))))
set_option maxHeartbeats 4000000 in
set_option maxRecDepth 100000 in
theorem c_Rd_takeEscaped (l : Launch) (D : va_G) (cc : Nat → ClassId) (L : List Nat) (A : Nat → Nat) (J : Nat → Int64) (t16 t32 : Nat) (I : UI) (R : UR) (o : Nat) (h_o : isRd L o) (x1 : Int32) (Q : Int32 → UI → UR → Prop) (h : wp_Rd_takeEscaped I R o x1 Q) : uMi l y_Rd_takeEscaped (.code y_Rd_takeEscaped prog_4_method_9_code 3 (some .int)) rm_Rd_takeEscaped [.ref (A o), .int x1] D cc L A J t16 t32 I R Q := by
  intro sz
  refine u_entry (by decide) (Nat.le_of_ble_eq_true rfl) (fun p e s m args below meth c hsz X V hr hlk ls hl => ?_)
  have X : uX p s m args c prog_4_method_9_code 3 "FrameFerry$Reader" D cc L A t16 t32 := X
  have hx := X.1
  have hb := X.2.1
  have hl : lv_has ls 3 [(0, .ref (A o)), (1, .int x1)] := hl
  unfold wp_Rd_takeEscaped at h
  generalize hH : s.heap = H at V ⊢
  generalize hlo : ([] : List Loc) = locs at V ⊢
  refine lv_aload_n (pc := 0) hx hb d_Rd_takeEscaped_0 rfl (lv_at hl 0 rfl) ?_
  refine u_geti (pc := 1) X V h_o.1 h_o.2.1 rfl f_Rd_65 rfl d_Rd_takeEscaped_1 ?_
  refine lv_if_ne (pc := 4) (tgt := 20) hx hb d_Rd_takeEscaped_4 (by decide) (fun hc => ?_) (fun hc => ?_)
  · have h := h.1 hc
    exact j_Rd_takeEscaped_20 X hr hlk hsz h_o V (lv_sub hl [0, 1] rfl) h
  · have h := h.2 hc
    refine lv_iload_n (pc := 7) hx hb d_Rd_takeEscaped_7 rfl (lv_at hl 1 rfl) ?_
    refine lv_bipush (pc := 8) (v := 24) hx hb d_Rd_takeEscaped_8 (by decide) ?_
    refine lv_icmp_ne (pc := 10) (tgt := 20) hx hb d_Rd_takeEscaped_10 (by decide) (fun hc => ?_) (fun hc => ?_)
    · have h := h.1 hc
      exact j_Rd_takeEscaped_20 X hr hlk hsz h_o V (lv_sub hl [0, 1] rfl) h
    · have h := h.2 hc
      refine lv_aload_n (pc := 13) hx hb d_Rd_takeEscaped_13 rfl (lv_at hl 0 rfl) ?_
      refine lv_iconst (pc := 14) (v := 1) hx hb d_Rd_takeEscaped_14 (by decide) ?_
      refine u_putz (pc := 15) X V h_o.1 h_o.2.1 rfl f_Rd_65 rfl h.1 d_Rd_takeEscaped_15 (fun I18 eI18 H locs V => ?_)
      have h := h.2 I18 eI18
      refine lv_iconst (pc := 18) (v := 0) hx hb d_Rd_takeEscaped_18 (by decide) ?_
      exact u_reti (pc := 19) X V hr hlk hsz h d_Rd_takeEscaped_19
-- FrameFerry$Reader.take (I)I
theorem d_Rd_take_0 : decode prog_4_method_5_code 0 = .ok (.aload_n 0, 1) := by decide +kernel
theorem d_Rd_take_1 : decode prog_4_method_5_code 1 = .ok (.getfield 22, 3) := by decide +kernel
theorem d_Rd_take_4 : decode prog_4_method_5_code 4 = .ok (.tableswitch 79 0 2 #[28, 45, 72], 28) := by decide +kernel
theorem d_Rd_take_32 : decode prog_4_method_5_code 32 = .ok (.aload_n 0, 1) := by decide +kernel
theorem d_Rd_take_33 : decode prog_4_method_5_code 33 = .ok (.iload_n 1, 1) := by decide +kernel
theorem d_Rd_take_34 : decode prog_4_method_5_code 34 = .ok (.bipush 42, 2) := by decide +kernel
theorem d_Rd_take_36 : decode prog_4_method_5_code 36 = .ok (.if_icmp .ne 7, 3) := by decide +kernel
theorem d_Rd_take_39 : decode prog_4_method_5_code 39 = .ok (.iconst 1, 1) := by decide +kernel
theorem d_Rd_take_40 : decode prog_4_method_5_code 40 = .ok (.goto 4, 3) := by decide +kernel
theorem d_Rd_take_43 : decode prog_4_method_5_code 43 = .ok (.iconst 0, 1) := by decide +kernel
theorem d_Rd_take_44 : decode prog_4_method_5_code 44 = .ok (.putfield 22, 3) := by decide +kernel
theorem d_Rd_take_47 : decode prog_4_method_5_code 47 = .ok (.iconst 0, 1) := by decide +kernel
theorem d_Rd_take_48 : decode prog_4_method_5_code 48 = .ok (.ireturn, 1) := by decide +kernel
theorem d_Rd_take_49 : decode prog_4_method_5_code 49 = .ok (.aload_n 0, 1) := by decide +kernel
theorem d_Rd_take_50 : decode prog_4_method_5_code 50 = .ok (.iload_n 1, 1) := by decide +kernel
theorem d_Rd_take_51 : decode prog_4_method_5_code 51 = .ok (.bipush 42, 2) := by decide +kernel
theorem d_Rd_take_53 : decode prog_4_method_5_code 53 = .ok (.if_icmp .ne 7, 3) := by decide +kernel
theorem d_Rd_take_56 : decode prog_4_method_5_code 56 = .ok (.iconst 1, 1) := by decide +kernel
theorem d_Rd_take_57 : decode prog_4_method_5_code 57 = .ok (.goto 14, 3) := by decide +kernel
theorem d_Rd_take_60 : decode prog_4_method_5_code 60 = .ok (.iload_n 1, 1) := by decide +kernel
theorem d_Rd_take_61 : decode prog_4_method_5_code 61 = .ok (.bipush 24, 2) := by decide +kernel
theorem d_Rd_take_63 : decode prog_4_method_5_code 63 = .ok (.if_icmp .ne 7, 3) := by decide +kernel
theorem d_Rd_take_66 : decode prog_4_method_5_code 66 = .ok (.iconst 2, 1) := by decide +kernel
theorem d_Rd_take_67 : decode prog_4_method_5_code 67 = .ok (.goto 4, 3) := by decide +kernel
theorem d_Rd_take_70 : decode prog_4_method_5_code 70 = .ok (.iconst 0, 1) := by decide +kernel
theorem d_Rd_take_71 : decode prog_4_method_5_code 71 = .ok (.putfield 22, 3) := by decide +kernel
theorem d_Rd_take_74 : decode prog_4_method_5_code 74 = .ok (.iconst 0, 1) := by decide +kernel
theorem d_Rd_take_75 : decode prog_4_method_5_code 75 = .ok (.ireturn, 1) := by decide +kernel
theorem d_Rd_take_76 : decode prog_4_method_5_code 76 = .ok (.aload_n 0, 1) := by decide +kernel
theorem d_Rd_take_77 : decode prog_4_method_5_code 77 = .ok (.iload_n 1, 1) := by decide +kernel
theorem d_Rd_take_78 : decode prog_4_method_5_code 78 = .ok (.invokevirtual 38, 3) := by decide +kernel
theorem d_Rd_take_81 : decode prog_4_method_5_code 81 = .ok (.iconst 0, 1) := by decide +kernel
theorem d_Rd_take_82 : decode prog_4_method_5_code 82 = .ok (.ireturn, 1) := by decide +kernel
theorem d_Rd_take_83 : decode prog_4_method_5_code 83 = .ok (.aload_n 0, 1) := by decide +kernel
theorem d_Rd_take_84 : decode prog_4_method_5_code 84 = .ok (.getfield 42, 3) := by decide +kernel
theorem d_Rd_take_87 : decode prog_4_method_5_code 87 = .ok (.ifCond .eq 11, 3) := by decide +kernel
theorem d_Rd_take_90 : decode prog_4_method_5_code 90 = .ok (.aload_n 0, 1) := by decide +kernel
theorem d_Rd_take_91 : decode prog_4_method_5_code 91 = .ok (.iload_n 1, 1) := by decide +kernel
theorem d_Rd_take_92 : decode prog_4_method_5_code 92 = .ok (.invokevirtual 46, 3) := by decide +kernel
theorem d_Rd_take_95 : decode prog_4_method_5_code 95 = .ok (.goto 8, 3) := by decide +kernel
theorem d_Rd_take_98 : decode prog_4_method_5_code 98 = .ok (.aload_n 0, 1) := by decide +kernel
theorem d_Rd_take_99 : decode prog_4_method_5_code 99 = .ok (.iload_n 1, 1) := by decide +kernel
theorem d_Rd_take_100 : decode prog_4_method_5_code 100 = .ok (.invokevirtual 50, 3) := by decide +kernel
theorem d_Rd_take_103 : decode prog_4_method_5_code 103 = .ok (.ireturn, 1) := by decide +kernel
def rm_Rd_take : Room := { frames := 4, cells := 0, slots := 0, locals := 87 }
def wp_Rd_take_L44 (o : Nat) (Q : Int32 → UI → UR → Prop) (I : UI) (R : UR) (s0 : Int32) : Prop :=
  ∀ I2 : UI, I2 = u2 I o 7 s0 → Q 0 I2 R
set_option maxHeartbeats 4000000 in
set_option maxRecDepth 100000 in
theorem j_Rd_take_44 (X : uX p s m args c prog_4_method_5_code 2 "FrameFerry$Reader" D cc L A t16 t32) (hr : meth.sig.returnType = (some .int)) (hlk : meth.locks = false) (hsz : sz = s.heap.size) {o : Nat} (h_o : isRd L o) {Q : Int32 → UI → UR → Prop} {I : UI} {R : UR} {s0 : Int32} {H : Heap} {locs : List Loc} {ls : Array Slot} (V : uV s D cc L A J I R H locs) (hl : lv_has ls 2 []) (h : wp_Rd_take_L44 o Q I R s0) : W p l e rm_Rd_take s m args below meth c H locs 0 0 (MQ below (va_Qi (fun (r : Int32) (u : UI × UR) => Q r u.1 u.2) (uBv D cc L A J) (uA L A sz)) args s 0 0 (uA L A sz)) (F0 m 44 ls [.int s0, .ref (A o)]) := by
  have hx := X.1
  have hb := X.2.1
  unfold wp_Rd_take_L44 at h
  refine u_puti (pc := 44) X V h_o.1 h_o.2.1 rfl f_Rd_22 rfl d_Rd_take_44 (fun I2 eI2 H locs V => ?_)
  have h := h I2 eI2
  refine lv_iconst (pc := 47) (v := 0) hx hb d_Rd_take_47 (by decide) ?_
  exact u_reti (pc := 48) X V hr hlk hsz h d_Rd_take_48
def wp_Rd_take_L71 (o : Nat) (Q : Int32 → UI → UR → Prop) (I : UI) (R : UR) (s0 : Int32) : Prop :=
  ∀ I3 : UI, I3 = u2 I o 7 s0 → Q 0 I3 R
set_option maxHeartbeats 4000000 in
set_option maxRecDepth 100000 in
theorem j_Rd_take_71 (X : uX p s m args c prog_4_method_5_code 2 "FrameFerry$Reader" D cc L A t16 t32) (hr : meth.sig.returnType = (some .int)) (hlk : meth.locks = false) (hsz : sz = s.heap.size) {o : Nat} (h_o : isRd L o) {Q : Int32 → UI → UR → Prop} {I : UI} {R : UR} {s0 : Int32} {H : Heap} {locs : List Loc} {ls : Array Slot} (V : uV s D cc L A J I R H locs) (hl : lv_has ls 2 []) (h : wp_Rd_take_L71 o Q I R s0) : W p l e rm_Rd_take s m args below meth c H locs 0 0 (MQ below (va_Qi (fun (r : Int32) (u : UI × UR) => Q r u.1 u.2) (uBv D cc L A J) (uA L A sz)) args s 0 0 (uA L A sz)) (F0 m 71 ls [.int s0, .ref (A o)]) := by
  have hx := X.1
  have hb := X.2.1
  unfold wp_Rd_take_L71 at h
  refine u_puti (pc := 71) X V h_o.1 h_o.2.1 rfl f_Rd_22 rfl d_Rd_take_71 (fun I3 eI3 H locs V => ?_)
  have h := h I3 eI3
  refine lv_iconst (pc := 74) (v := 0) hx hb d_Rd_take_74 (by decide) ?_
  exact u_reti (pc := 75) X V hr hlk hsz h d_Rd_take_75
def wp_Rd_take (I : UI) (R : UR) (o : Nat) (x1 : Int32) (Q : Int32 → UI → UR → Prop) : Prop :=
  ∀ v1 : Int32, v1 = I o 7 → ((v1 = 0 → ((¬ x1 = 42 → wp_Rd_take_L44 o Q I R 0) ∧ (x1 = 42 → wp_Rd_take_L44 o Q I R 1))) ∧ (¬ v1 = 0 → ((v1 = 1 → ((¬ x1 = 42 → ((¬ x1 = 24 → wp_Rd_take_L71 o Q I R 0) ∧ (x1 = 24 → wp_Rd_take_L71 o Q I R 2))) ∧ (x1 = 42 → wp_Rd_take_L71 o Q I R 1))) ∧ (¬ v1 = 1 → ((v1 = 2 → wp_Rd_takeForm I R o x1 (fun I4 R5 => Q 0 I4 R5)) ∧ (¬ v1 = 2 → ((I o 5 = 0 → wp_Rd_takeEscaped I R o x1 (fun r8 I6 R7 => Q r8 I6 R7)) ∧ (¬ I o 5 = 0 → wp_Rd_takeDigit I R o x1 (fun r11 I9 R10 => Q r11 I9 R10)))))))))
set_option maxHeartbeats 4000000 in
set_option maxRecDepth 100000 in
theorem c_Rd_take (l : Launch) (D : va_G) (cc : Nat → ClassId) (L : List Nat) (A : Nat → Nat) (J : Nat → Int64) (t16 t32 : Nat) (I : UI) (R : UR) (o : Nat) (h_o : isRd L o) (x1 : Int32) (Q : Int32 → UI → UR → Prop) (h : wp_Rd_take I R o x1 Q) : uMi l y_Rd_take (.code y_Rd_take prog_4_method_5_code 2 (some .int)) rm_Rd_take [.ref (A o), .int x1] D cc L A J t16 t32 I R Q := by
  intro sz
  refine u_entry (by decide) (Nat.le_of_ble_eq_true rfl) (fun p e s m args below meth c hsz X V hr hlk ls hl => ?_)
  have X : uX p s m args c prog_4_method_5_code 2 "FrameFerry$Reader" D cc L A t16 t32 := X
  have hx := X.1
  have hb := X.2.1
  have hl : lv_has ls 2 [(0, .ref (A o)), (1, .int x1)] := hl
  unfold wp_Rd_take at h
  generalize hH : s.heap = H at V ⊢
  generalize hlo : ([] : List Loc) = locs at V ⊢
  refine lv_aload_n (pc := 0) hx hb d_Rd_take_0 rfl (lv_at hl 0 rfl) ?_
  refine u_geti (pc := 1) X V h_o.1 h_o.2.1 rfl f_Rd_22 rfl d_Rd_take_1 ?_
  refine lv_topi (fun v1 ev1 => ?_)
  have h := h v1 ev1
  by_cases hn0 : v1 = 0
  · have h := h.1 hn0
    rw [hn0]
    refine lv_tableIn (pc := 4) (tgt := 32) (off := 28) hx hb d_Rd_take_4 (by decide) (by decide) rfl (by decide) ?_
    refine lv_aload_n (pc := 32) hx hb d_Rd_take_32 rfl (lv_at hl 0 rfl) ?_
    refine lv_iload_n (pc := 33) hx hb d_Rd_take_33 rfl (lv_at hl 1 rfl) ?_
    refine lv_bipush (pc := 34) (v := 42) hx hb d_Rd_take_34 (by decide) ?_
    refine lv_icmp_ne (pc := 36) (tgt := 43) hx hb d_Rd_take_36 (by decide) (fun hc => ?_) (fun hc => ?_)
    · have h := h.1 hc
      refine lv_iconst (pc := 43) (v := 0) hx hb d_Rd_take_43 (by decide) ?_
      exact j_Rd_take_44 X hr hlk hsz h_o V (lv_sub hl [] rfl) h
    · have h := h.2 hc
      refine lv_iconst (pc := 39) (v := 1) hx hb d_Rd_take_39 (by decide) ?_
      refine lv_goto (pc := 40) (tgt := 44) hx hb d_Rd_take_40 (by decide) ?_
      exact j_Rd_take_44 X hr hlk hsz h_o V (lv_sub hl [] rfl) h
  · have h := h.2 hn0
    by_cases hn1 : v1 = 1
    · have h := h.1 hn1
      rw [hn1]
      refine lv_tableIn (pc := 4) (tgt := 49) (off := 45) hx hb d_Rd_take_4 (by decide) (by decide) rfl (by decide) ?_
      refine lv_aload_n (pc := 49) hx hb d_Rd_take_49 rfl (lv_at hl 0 rfl) ?_
      refine lv_iload_n (pc := 50) hx hb d_Rd_take_50 rfl (lv_at hl 1 rfl) ?_
      refine lv_bipush (pc := 51) (v := 42) hx hb d_Rd_take_51 (by decide) ?_
      refine lv_icmp_ne (pc := 53) (tgt := 60) hx hb d_Rd_take_53 (by decide) (fun hc => ?_) (fun hc => ?_)
      · have h := h.1 hc
        refine lv_iload_n (pc := 60) hx hb d_Rd_take_60 rfl (lv_at hl 1 rfl) ?_
        refine lv_bipush (pc := 61) (v := 24) hx hb d_Rd_take_61 (by decide) ?_
        refine lv_icmp_ne (pc := 63) (tgt := 70) hx hb d_Rd_take_63 (by decide) (fun hc => ?_) (fun hc => ?_)
        · have h := h.1 hc
          refine lv_iconst (pc := 70) (v := 0) hx hb d_Rd_take_70 (by decide) ?_
          exact j_Rd_take_71 X hr hlk hsz h_o V (lv_sub hl [] rfl) h
        · have h := h.2 hc
          refine lv_iconst (pc := 66) (v := 2) hx hb d_Rd_take_66 (by decide) ?_
          refine lv_goto (pc := 67) (tgt := 71) hx hb d_Rd_take_67 (by decide) ?_
          exact j_Rd_take_71 X hr hlk hsz h_o V (lv_sub hl [] rfl) h
      · have h := h.2 hc
        refine lv_iconst (pc := 56) (v := 1) hx hb d_Rd_take_56 (by decide) ?_
        refine lv_goto (pc := 57) (tgt := 71) hx hb d_Rd_take_57 (by decide) ?_
        exact j_Rd_take_71 X hr hlk hsz h_o V (lv_sub hl [] rfl) h
    · have h := h.2 hn1
      by_cases hn2 : v1 = 2
      · have h := h.1 hn2
        rw [hn2]
        refine lv_tableIn (pc := 4) (tgt := 76) (off := 72) hx hb d_Rd_take_4 (by decide) (by decide) rfl (by decide) ?_
        refine lv_aload_n (pc := 76) hx hb d_Rd_take_76 rfl (lv_at hl 0 rfl) ?_
        refine lv_iload_n (pc := 77) hx hb d_Rd_take_77 rfl (lv_at hl 1 rfl) ?_
        refine u_cVv (pc := 78) (As := [.int x1]) X V s_Rd_38 h_o.1 h_o.2.1 rfl rfl (c_Rd_takeForm l D cc L A J t16 t32 _ _ o h_o x1 _ h) ⟨rfl, rfl, Nat.le_of_ble_eq_true rfl, Nat.le_of_ble_eq_true rfl⟩ rfl hl.1 rfl (Nat.le_of_ble_eq_true rfl) d_Rd_take_78 ⟨Nat.zero_le _, Nat.zero_le _⟩ (fun I4 R5 h H locs V => ?_)
        refine lv_iconst (pc := 81) (v := 0) hx hb d_Rd_take_81 (by decide) ?_
        exact u_reti (pc := 82) X V hr hlk hsz h d_Rd_take_82
      · have h := h.2 hn2
        have hd0 := nr_ok (a := 0) hn0 rfl
        have hd1 := nr_ok (a := 1) hn1 rfl
        have hd2 := nr_ok (a := 2) hn2 rfl
        refine lv_tableOut (pc := 4) (tgt := 83) hx hb d_Rd_take_4 (by omega) (by decide) ?_
        refine lv_aload_n (pc := 83) hx hb d_Rd_take_83 rfl (lv_at hl 0 rfl) ?_
        refine u_geti (pc := 84) X V h_o.1 h_o.2.1 rfl f_Rd_42 rfl d_Rd_take_84 ?_
        refine lv_if_eq (pc := 87) (tgt := 98) hx hb d_Rd_take_87 (by decide) (fun hc => ?_) (fun hc => ?_)
        · have h := h.1 hc
          refine lv_aload_n (pc := 98) hx hb d_Rd_take_98 rfl (lv_at hl 0 rfl) ?_
          refine lv_iload_n (pc := 99) hx hb d_Rd_take_99 rfl (lv_at hl 1 rfl) ?_
          refine u_cVi (pc := 100) (As := [.int x1]) X V s_Rd_50 h_o.1 h_o.2.1 rfl rfl (c_Rd_takeEscaped l D cc L A J t16 t32 _ _ o h_o x1 _ h) ⟨rfl, rfl, Nat.le_of_ble_eq_true rfl, Nat.le_of_ble_eq_true rfl⟩ rfl hl.1 rfl (Nat.le_of_ble_eq_true rfl) d_Rd_take_100 ⟨Nat.zero_le _, Nat.zero_le _⟩ (fun r8 I6 R7 h H locs V => ?_)
          exact u_reti (pc := 103) X V hr hlk hsz h d_Rd_take_103
        · have h := h.2 hc
          refine lv_aload_n (pc := 90) hx hb d_Rd_take_90 rfl (lv_at hl 0 rfl) ?_
          refine lv_iload_n (pc := 91) hx hb d_Rd_take_91 rfl (lv_at hl 1 rfl) ?_
          refine u_cVi (pc := 92) (As := [.int x1]) X V s_Rd_46 h_o.1 h_o.2.1 rfl rfl (c_Rd_takeDigit l D cc L A J t16 t32 _ _ o h_o x1 _ h) ⟨rfl, rfl, Nat.le_of_ble_eq_true rfl, Nat.le_of_ble_eq_true rfl⟩ rfl hl.1 rfl (Nat.le_of_ble_eq_true rfl) d_Rd_take_92 ⟨Nat.zero_le _, Nat.zero_le _⟩ (fun r11 I9 R10 h H locs V => ?_)
          refine lv_goto (pc := 95) (tgt := 103) hx hb d_Rd_take_95 (by decide) ?_
          exact u_reti (pc := 103) X V hr hlk hsz h d_Rd_take_103
end G
