/-! Written by wip/gen/gen.py. -/
theorem f_Se_45 : uF "FrameFerry$Sender" 45 4 1 false .int := ⟨R_Se, T_Se, 11, ty_Se, rfl, by decide, tb_of 141 (by decide +kernel) rfl, l_Se, ty_Se_ok, n_Se, rfl, rfl⟩
theorem f_Se_48 : uF "FrameFerry$Sender" 48 5 1 false .int := ⟨R_Sf, T_Sf, 3, ty_Sf, rfl, by decide, tb_of 461 (by decide +kernel) rfl, l_Sf, ty_Sf_ok, n_Sf, rfl, rfl⟩
theorem f_Se_55 : uF "FrameFerry$Sender" 55 4 3 false .int := ⟨R_Se, T_Se, 11, ty_Se, rfl, by decide, tb_of 145 (by decide +kernel) rfl, l_Se, ty_Se_ok, n_Se, rfl, rfl⟩
theorem f_Se_58 : uF "FrameFerry$Sender" 58 4 7 false .int := ⟨R_Se, T_Se, 11, ty_Se, rfl, by decide, tb_of 150 (by decide +kernel) rfl, l_Se, ty_Se_ok, n_Se, rfl, rfl⟩
theorem s_Se_92 : uCv "FrameFerry$Sender" 92 y_Se_fileAt 1 (.code y_Se_fileAt prog_6_method_2_code 2 (some (.object "FrameFerry$StoredFile"))) := ⟨⟨tb_of 337 (by decide +kernel) rfl, tb_of 2 (by decide +kernel) rfl, tb_of 340 (by decide +kernel) rfl, by decide +kernel⟩, tb_of 338 (by decide +kernel) rfl, tb_of 339 (by decide +kernel) rfl⟩
theorem s_Se_113 : uCv "FrameFerry$Sender" 113 y_Se_hasFileAtHand 0 (.code y_Se_hasFileAtHand prog_6_method_12_code 1 (some .boolean)) := ⟨⟨tb_of 381 (by decide +kernel) rfl, tb_of 2 (by decide +kernel) rfl, tb_of 384 (by decide +kernel) rfl, by decide +kernel⟩, tb_of 383 (by decide +kernel) rfl, tb_sel 12 (by decide +kernel) rfl⟩
theorem f_Se_52 : uF "FrameFerry$Sender" 52 5 2 false .int := ⟨R_Sf, T_Sf, 3, ty_Sf, rfl, by decide, tb_of 466 (by decide +kernel) rfl, l_Sf, ty_Sf_ok, n_Sf, rfl, rfl⟩
theorem f_Se_86 : uF "FrameFerry$Sender" 86 4 10 false .boolean := ⟨R_Se, T_Se, 11, ty_Se, rfl, by decide, tb_of 153 (by decide +kernel) rfl, l_Se, ty_Se_ok, n_Se, rfl, rfl⟩
theorem s_Se_124 : uCv "FrameFerry$Sender" 124 y_Pi_add 1 (.code y_Pi_add prog_3_method_2_code 2 none) := ⟨⟨tb_of 393 (by decide +kernel) rfl, tb_of 3 (by decide +kernel) rfl, tb_of 348 (by decide +kernel) rfl, by decide +kernel⟩, tb_of 346 (by decide +kernel) rfl, tb_of 347 (by decide +kernel) rfl⟩
theorem f_Se_65 : uF "FrameFerry$Sender" 65 4 9 false .boolean := ⟨R_Se, T_Se, 11, ty_Se, rfl, by decide, tb_of 152 (by decide +kernel) rfl, l_Se, ty_Se_ok, n_Se, rfl, rfl⟩
theorem s_Se_96 : uCv "FrameFerry$Sender" 96 y_Wr_bytesHeader 4 (.code y_Wr_bytesHeader prog_8_method_3_code 7 none) := ⟨⟨tb_of 359 (by decide +kernel) rfl, tb_of 4 (by decide +kernel) rfl, tb_of 362 (by decide +kernel) rfl, by decide +kernel⟩, tb_of 360 (by decide +kernel) rfl, tb_of 361 (by decide +kernel) rfl⟩
theorem s_Se_131 : uCv "FrameFerry$Sender" 131 y_Wr_beginPacket 0 (.code y_Wr_beginPacket prog_8_method_4_code 1 none) := ⟨⟨tb_of 369 (by decide +kernel) rfl, tb_of 4 (by decide +kernel) rfl, tb_of 372 (by decide +kernel) rfl, by decide +kernel⟩, tb_of 370 (by decide +kernel) rfl, tb_of 371 (by decide +kernel) rfl⟩
theorem s_Se_134 : uCv "FrameFerry$Sender" 134 y_Wr_packetByte 2 (.code y_Wr_packetByte prog_8_method_5_code 3 none) := ⟨⟨tb_of 373 (by decide +kernel) rfl, tb_of 4 (by decide +kernel) rfl, tb_of 376 (by decide +kernel) rfl, by decide +kernel⟩, tb_of 374 (by decide +kernel) rfl, tb_of 375 (by decide +kernel) rfl⟩
theorem s_Se_138 : uCv "FrameFerry$Sender" 138 y_Wr_endPacket 2 (.code y_Wr_endPacket prog_8_method_6_code 4 none) := ⟨⟨tb_of 377 (by decide +kernel) rfl, tb_of 4 (by decide +kernel) rfl, tb_of 380 (by decide +kernel) rfl, by decide +kernel⟩, tb_of 378 (by decide +kernel) rfl, tb_of 379 (by decide +kernel) rfl⟩
theorem s_Se_127 : uCv "FrameFerry$Sender" 127 y_Wr_hexHeader 3 (.code y_Wr_hexHeader prog_8_method_2_code 6 none) := ⟨⟨tb_of 341 (by decide +kernel) rfl, tb_of 4 (by decide +kernel) rfl, tb_of 344 (by decide +kernel) rfl, by decide +kernel⟩, tb_of 342 (by decide +kernel) rfl, tb_of 343 (by decide +kernel) rfl⟩
theorem mi_Se_141 : Cond.methodLink "FrameFerry$Sender" 141 Lib.Math.min.name ∈ tb ∧ Cond.static Lib.Math.min.name ∈ tb ∧ Cond.initialized "java/lang/Math" ∈ tb ∧ Cond.code Lib.Math.min.name Lib.Math.min.code 2 (some .int) ∈ tb := ⟨tb_of 412 (by decide +kernel) rfl, tb_of 399 (by decide +kernel) rfl, tb_of 15 (by decide +kernel) rfl, tb_of 400 (by decide +kernel) rfl⟩
theorem s_Se_146 : uCv "FrameFerry$Sender" 146 y_Sf_byteAt 1 (.code y_Sf_byteAt prog_7_method_3_code 2 (some .int)) := ⟨⟨tb_of 413 (by decide +kernel) rfl, tb_of 14 (by decide +kernel) rfl, tb_of 416 (by decide +kernel) rfl, by decide +kernel⟩, tb_of 414 (by decide +kernel) rfl, tb_of 415 (by decide +kernel) rfl⟩
theorem s_Se_69 : uCv "FrameFerry$Sender" 69 y_Se_sendForState 0 (.code y_Se_sendForState prog_6_method_16_code 2 none) := ⟨⟨tb_of 333 (by decide +kernel) rfl, tb_of 2 (by decide +kernel) rfl, tb_of 336 (by decide +kernel) rfl, by decide +kernel⟩, tb_of 335 (by decide +kernel) rfl, tb_sel 11 (by decide +kernel) rfl⟩
theorem s_Se_100 : uCv "FrameFerry$Sender" 100 y_Se_sendPacket 1 (.code y_Se_sendPacket prog_6_method_17_code 4 none) := ⟨⟨tb_of 408 (by decide +kernel) rfl, tb_of 2 (by decide +kernel) rfl, tb_of 411 (by decide +kernel) rfl, by decide +kernel⟩, tb_of 410 (by decide +kernel) rfl, tb_sel 15 (by decide +kernel) rfl⟩
theorem f_Se_104 : uF "FrameFerry$Sender" 104 2 3 false .int := ⟨R_Rd, T_Rd, 14, ty_Rd, rfl, by decide, tb_of 93 (by decide +kernel) rfl, l_Rd, ty_Rd_ok, n_Rd, rfl, rfl⟩
theorem f_Se_107 : uF "FrameFerry$Sender" 107 2 4 false .int := ⟨R_Rd, T_Rd, 14, ty_Rd, rfl, by decide, tb_of 97 (by decide +kernel) rfl, l_Rd, ty_Rd_ok, n_Rd, rfl, rfl⟩
theorem s_Se_110 : uCv "FrameFerry$Sender" 110 y_Se_goToNextFile 0 (.code y_Se_goToNextFile prog_6_method_13_code 1 none) := ⟨⟨tb_of 329 (by decide +kernel) rfl, tb_of 2 (by decide +kernel) rfl, tb_of 332 (by decide +kernel) rfl, by decide +kernel⟩, tb_of 331 (by decide +kernel) rfl, tb_sel 10 (by decide +kernel) rfl⟩
theorem s_Se_121 : uCv "FrameFerry$Sender" 121 y_Se_leave 0 (.code y_Se_leave prog_6_method_15_code 1 none) := ⟨⟨tb_of 389 (by decide +kernel) rfl, tb_of 2 (by decide +kernel) rfl, tb_of 392 (by decide +kernel) rfl, by decide +kernel⟩, tb_of 391 (by decide +kernel) rfl, tb_sel 14 (by decide +kernel) rfl⟩
theorem s_Se_117 : uCv "FrameFerry$Sender" 117 y_Se_goToPlace 1 (.code y_Se_goToPlace prog_6_method_14_code 3 none) := ⟨⟨tb_of 385 (by decide +kernel) rfl, tb_of 2 (by decide +kernel) rfl, tb_of 388 (by decide +kernel) rfl, by decide +kernel⟩, tb_of 387 (by decide +kernel) rfl, tb_sel 13 (by decide +kernel) rfl⟩
theorem f_Se_61 : uF "FrameFerry$Sender" 61 1 1 false .int := ⟨R_Pi, T_Pi, 3, ty_Pi, rfl, by decide, tb_of 40 (by decide +kernel) rfl, l_Pi, ty_Pi_ok, n_Pi, rfl, rfl⟩
theorem s_Se_62 : uCv "FrameFerry$Sender" 62 y_Rd_goOutside 0 (.code y_Rd_goOutside prog_4_method_2_code 1 none) := ⟨⟨tb_of 655 (by decide +kernel) rfl, tb_of 6 (by decide +kernel) rfl, tb_of 509 (by decide +kernel) rfl, by decide +kernel⟩, tb_of 507 (by decide +kernel) rfl, tb_of 508 (by decide +kernel) rfl⟩
theorem s_Se_82 : uCv "FrameFerry$Sender" 82 y_Pi_drop 2 (.code y_Pi_drop prog_3_method_6_code 4 (some .int)) := ⟨⟨tb_of 394 (by decide +kernel) rfl, tb_of 3 (by decide +kernel) rfl, tb_of 397 (by decide +kernel) rfl, by decide +kernel⟩, tb_of 395 (by decide +kernel) rfl, tb_of 396 (by decide +kernel) rfl⟩
theorem s_Se_72 : uCv "FrameFerry$Sender" 72 y_Pi_byteAt 1 (.code y_Pi_byteAt prog_3_method_4_code 2 (some .int)) := ⟨⟨tb_of 250 (by decide +kernel) rfl, tb_of 3 (by decide +kernel) rfl, tb_of 253 (by decide +kernel) rfl, by decide +kernel⟩, tb_of 251 (by decide +kernel) rfl, tb_of 252 (by decide +kernel) rfl⟩
theorem s_Se_76 : uCv "FrameFerry$Sender" 76 y_Rd_take 1 (.code y_Rd_take prog_4_method_5_code 2 (some .int)) := ⟨⟨tb_of 258 (by decide +kernel) rfl, tb_of 6 (by decide +kernel) rfl, tb_of 261 (by decide +kernel) rfl, by decide +kernel⟩, tb_of 259 (by decide +kernel) rfl, tb_of 260 (by decide +kernel) rfl⟩
theorem s_Se_79 : uCv "FrameFerry$Sender" 79 y_Se_takeHeader 0 (.code y_Se_takeHeader prog_6_method_11_code 1 none) := ⟨⟨tb_of 325 (by decide +kernel) rfl, tb_of 2 (by decide +kernel) rfl, tb_of 328 (by decide +kernel) rfl, by decide +kernel⟩, tb_of 327 (by decide +kernel) rfl, tb_sel 9 (by decide +kernel) rfl⟩
theorem s_Se_89 : uCv "FrameFerry$Sender" 89 y_Se_sendPackets 0 (.code y_Se_sendPackets prog_6_method_10_code 3 none) := ⟨⟨tb_of 501 (by decide +kernel) rfl, tb_of 2 (by decide +kernel) rfl, tb_of 407 (by decide +kernel) rfl, by decide +kernel⟩, tb_of 405 (by decide +kernel) rfl, tb_of 406 (by decide +kernel) rfl⟩
section G
variable {p : Program} {l : Launch} {e : Env} {s : State} {m : MethodId} {args : Array Value} {below : List Frame} {meth : Method} {c : Code} {D : va_G} {cc : Nat → ClassId} {L L0 : List Nat} {A A0 : Nat → Nat} {J : Nat → Int64} {t16 t32 sz : Nat}
-- FrameFerry$Sender.fileAt (I)LFrameFerry$StoredFile;
theorem d_Se_fileAt_0 : decode prog_6_method_2_code 0 = .ok (.iload_n 1, 1) := by decide +kernel
theorem d_Se_fileAt_1 : decode prog_6_method_2_code 1 = .ok (.ifCond .lt 20, 3) := by decide +kernel
theorem d_Se_fileAt_4 : decode prog_6_method_2_code 4 = .ok (.iload_n 1, 1) := by decide +kernel
theorem d_Se_fileAt_5 : decode prog_6_method_2_code 5 = .ok (.aload_n 0, 1) := by decide +kernel
theorem d_Se_fileAt_6 : decode prog_6_method_2_code 6 = .ok (.getfield 45, 3) := by decide +kernel
theorem d_Se_fileAt_9 : decode prog_6_method_2_code 9 = .ok (.if_icmp .ge 12, 3) := by decide +kernel
theorem d_Se_fileAt_12 : decode prog_6_method_2_code 12 = .ok (.aload_n 0, 1) := by decide +kernel
theorem d_Se_fileAt_13 : decode prog_6_method_2_code 13 = .ok (.getfield 38, 3) := by decide +kernel
theorem d_Se_fileAt_16 : decode prog_6_method_2_code 16 = .ok (.iload_n 1, 1) := by decide +kernel
theorem d_Se_fileAt_17 : decode prog_6_method_2_code 17 = .ok (.aaload, 1) := by decide +kernel
theorem d_Se_fileAt_18 : decode prog_6_method_2_code 18 = .ok (.goto 4, 3) := by decide +kernel
theorem d_Se_fileAt_21 : decode prog_6_method_2_code 21 = .ok (.aconst_null, 1) := by decide +kernel
theorem d_Se_fileAt_22 : decode prog_6_method_2_code 22 = .ok (.areturn, 1) := by decide +kernel
def rm_Se_fileAt : Room := { frames := 0, cells := 0, slots := 0, locals := 0 }
def wp_Se_fileAt (L : List Nat) (I : UI) (R : UR) (x1 : Int32) (Q : Option Nat → UI → UR → Prop) : Prop :=
  ((x1 < 0 → Q none I R) ∧ (¬ x1 < 0 → ((I 2 1 ≤ x1 → Q none I R) ∧ (¬ I 2 1 ≤ x1 → vp_in x1 4 ∧ ∀ z1 : Option Nat, z1 = R 18 x1.toNatClampNeg → Q z1 I R))))
set_option maxHeartbeats 4000000 in
set_option maxRecDepth 100000 in
theorem c_Se_fileAt (l : Launch) (D : va_G) (cc : Nat → ClassId) (L : List Nat) (A : Nat → Nat) (J : Nat → Int64) (t16 t32 : Nat) (I : UI) (R : UR) (x1 : Int32) (Q : Option Nat → UI → UR → Prop) (h : wp_Se_fileAt L I R x1 Q) : uMr l y_Se_fileAt (.code y_Se_fileAt prog_6_method_2_code 2 (some (.object "FrameFerry$StoredFile"))) rm_Se_fileAt [.ref (A 2), .int x1] D cc L A J t16 t32 I R Q := by
  intro sz
  refine u_entry (by decide) (Nat.le_of_ble_eq_true rfl) (fun p e s m args below meth c hsz X V hr hlk ls hl => ?_)
  have X : uX p s m args c prog_6_method_2_code 2 "FrameFerry$Sender" D cc L A t16 t32 := X
  have hx := X.1
  have hb := X.2.1
  have hl : lv_has ls 2 [(0, .ref (A 2)), (1, .int x1)] := hl
  unfold wp_Se_fileAt at h
  generalize hH : s.heap = H at V ⊢
  generalize hlo : ([] : List Loc) = locs at V ⊢
  refine lv_iload_n (pc := 0) hx hb d_Se_fileAt_0 rfl (lv_at hl 1 rfl) ?_
  refine lv_if_lt (pc := 1) (tgt := 21) hx hb d_Se_fileAt_1 (by decide) (fun hc => ?_) (fun hc => ?_)
  · have h := h.1 hc
    refine lv_null (pc := 21) hx hb d_Se_fileAt_21 ?_
    exact u_retr (pc := 22) (i := none) X V hr hlk hsz rfl h d_Se_fileAt_22
  · have h := h.2 hc
    refine lv_iload_n (pc := 4) hx hb d_Se_fileAt_4 rfl (lv_at hl 1 rfl) ?_
    refine lv_aload_n (pc := 5) hx hb d_Se_fileAt_5 rfl (lv_at hl 0 rfl) ?_
    refine u_geti (pc := 6) X V (X.fix rfl) rfl rfl f_Se_45 rfl d_Se_fileAt_6 ?_
    refine lv_icmp_ge (pc := 9) (tgt := 21) hx hb d_Se_fileAt_9 (by decide) (fun hc => ?_) (fun hc => ?_)
    · have h := h.1 hc
      refine lv_null (pc := 21) hx hb d_Se_fileAt_21 ?_
      exact u_retr (pc := 22) (i := none) X V hr hlk hsz rfl h d_Se_fileAt_22
    · have h := h.2 hc
      refine lv_aload_n (pc := 12) hx hb d_Se_fileAt_12 rfl (lv_at hl 0 rfl) ?_
      refine u_getr (pc := 13) (o' := 18) X V (X.fix rfl) rfl rfl f_Se_38 rfl rfl d_Se_fileAt_13 ?_
      refine lv_iload_n (pc := 16) hx hb d_Se_fileAt_16 rfl (lv_at hl 1 rfl) ?_
      refine u_aald (pc := 17) X V (X.fix rfl) rfl (by decide) rfl h.1 d_Se_fileAt_17 (fun z1 ez1 => ?_)
      have h := h.2 z1 ez1
      refine lv_goto (pc := 18) (tgt := 22) hx hb d_Se_fileAt_18 (by decide) ?_
      exact u_retr (pc := 22) (i := z1) X V hr hlk hsz rfl h d_Se_fileAt_22
-- FrameFerry$Sender.fileAt (I)LFrameFerry$StoredFile;
set_option maxHeartbeats 4000000 in
set_option maxRecDepth 100000 in
theorem cp_Se_fileAt (l : Launch) (D : va_G) (cc : Nat → ClassId) (L : List Nat) (A : Nat → Nat) (J : Nat → Int64) (t16 t32 : Nat) (I : UI) (R : UR) (x1 : Int32) (Q : Option Nat → Prop) (h : wp_Se_fileAt L I R x1 (fun r _ _ => Q r)) : uMrP l y_Se_fileAt (.code y_Se_fileAt prog_6_method_2_code 2 (some (.object "FrameFerry$StoredFile"))) rm_Se_fileAt [.ref (A 2), .int x1] D cc L A J t16 t32 I R Q := by
  intro sz
  refine u_entryP (by decide) (Nat.le_of_ble_eq_true rfl) (fun p e s m args below meth c hsz X V hr hlk ls hl => ?_)
  have X : uX p s m args c prog_6_method_2_code 2 "FrameFerry$Sender" D cc L A t16 t32 := X
  have hx := X.1
  have hb := X.2.1
  have hl : lv_has ls 2 [(0, .ref (A 2)), (1, .int x1)] := hl
  unfold wp_Se_fileAt at h
  refine lv_iload_n (pc := 0) hx hb d_Se_fileAt_0 rfl (lv_at hl 1 rfl) ?_
  refine lv_if_lt (pc := 1) (tgt := 21) hx hb d_Se_fileAt_1 (by decide) (fun hc => ?_) (fun hc => ?_)
  · have h := h.1 hc
    refine lv_null (pc := 21) hx hb d_Se_fileAt_21 ?_
    exact u_retrP (pc := 22) (i := none) X hr hlk rfl h d_Se_fileAt_22
  · have h := h.2 hc
    refine lv_iload_n (pc := 4) hx hb d_Se_fileAt_4 rfl (lv_at hl 1 rfl) ?_
    refine lv_aload_n (pc := 5) hx hb d_Se_fileAt_5 rfl (lv_at hl 0 rfl) ?_
    refine u_geti (pc := 6) X V (X.fix rfl) rfl rfl f_Se_45 rfl d_Se_fileAt_6 ?_
    refine lv_icmp_ge (pc := 9) (tgt := 21) hx hb d_Se_fileAt_9 (by decide) (fun hc => ?_) (fun hc => ?_)
    · have h := h.1 hc
      refine lv_null (pc := 21) hx hb d_Se_fileAt_21 ?_
      exact u_retrP (pc := 22) (i := none) X hr hlk rfl h d_Se_fileAt_22
    · have h := h.2 hc
      refine lv_aload_n (pc := 12) hx hb d_Se_fileAt_12 rfl (lv_at hl 0 rfl) ?_
      refine u_getr (pc := 13) (o' := 18) X V (X.fix rfl) rfl rfl f_Se_38 rfl rfl d_Se_fileAt_13 ?_
      refine lv_iload_n (pc := 16) hx hb d_Se_fileAt_16 rfl (lv_at hl 1 rfl) ?_
      refine u_aald (pc := 17) X V (X.fix rfl) rfl (by decide) rfl h.1 d_Se_fileAt_17 (fun z1 ez1 => ?_)
      have h := h.2 z1 ez1
      refine lv_goto (pc := 18) (tgt := 22) hx hb d_Se_fileAt_18 (by decide) ?_
      exact u_retrP (pc := 22) (i := z1) X hr hlk rfl h d_Se_fileAt_22
-- FrameFerry$Sender.hasFile (I)Z
theorem d_Se_hasFile_0 : decode prog_6_method_3_code 0 = .ok (.iconst 0, 1) := by decide +kernel
theorem d_Se_hasFile_1 : decode prog_6_method_3_code 1 = .ok (.istore_n 2, 1) := by decide +kernel
theorem d_Se_hasFile_2 : decode prog_6_method_3_code 2 = .ok (.iload_n 2, 1) := by decide +kernel
theorem d_Se_hasFile_3 : decode prog_6_method_3_code 3 = .ok (.aload_n 0, 1) := by decide +kernel
theorem d_Se_hasFile_4 : decode prog_6_method_3_code 4 = .ok (.getfield 45, 3) := by decide +kernel
theorem d_Se_hasFile_7 : decode prog_6_method_3_code 7 = .ok (.if_icmp .ge 30, 3) := by decide +kernel
theorem d_Se_hasFile_10 : decode prog_6_method_3_code 10 = .ok (.aload_n 0, 1) := by decide +kernel
theorem d_Se_hasFile_11 : decode prog_6_method_3_code 11 = .ok (.getfield 38, 3) := by decide +kernel
theorem d_Se_hasFile_14 : decode prog_6_method_3_code 14 = .ok (.iload_n 2, 1) := by decide +kernel
theorem d_Se_hasFile_15 : decode prog_6_method_3_code 15 = .ok (.aaload, 1) := by decide +kernel
theorem d_Se_hasFile_16 : decode prog_6_method_3_code 16 = .ok (.astore_n 3, 1) := by decide +kernel
theorem d_Se_hasFile_17 : decode prog_6_method_3_code 17 = .ok (.aload_n 3, 1) := by decide +kernel
theorem d_Se_hasFile_18 : decode prog_6_method_3_code 18 = .ok (.ifnull 13, 3) := by decide +kernel
theorem d_Se_hasFile_21 : decode prog_6_method_3_code 21 = .ok (.aload_n 3, 1) := by decide +kernel
theorem d_Se_hasFile_22 : decode prog_6_method_3_code 22 = .ok (.getfield 48, 3) := by decide +kernel
theorem d_Se_hasFile_25 : decode prog_6_method_3_code 25 = .ok (.iload_n 1, 1) := by decide +kernel
theorem d_Se_hasFile_26 : decode prog_6_method_3_code 26 = .ok (.if_icmp .ne 5, 3) := by decide +kernel
theorem d_Se_hasFile_29 : decode prog_6_method_3_code 29 = .ok (.iconst 1, 1) := by decide +kernel
theorem d_Se_hasFile_30 : decode prog_6_method_3_code 30 = .ok (.ireturn, 1) := by decide +kernel
theorem d_Se_hasFile_31 : decode prog_6_method_3_code 31 = .ok (.iinc 2 1, 3) := by decide +kernel
theorem d_Se_hasFile_34 : decode prog_6_method_3_code 34 = .ok (.goto (-32), 3) := by decide +kernel
theorem d_Se_hasFile_37 : decode prog_6_method_3_code 37 = .ok (.iconst 0, 1) := by decide +kernel
theorem d_Se_hasFile_38 : decode prog_6_method_3_code 38 = .ok (.ireturn, 1) := by decide +kernel
def rm_Se_hasFile : Room := { frames := 0, cells := 0, slots := 0, locals := 0 }
def wp_Se_hasFile_L31 (L : List Nat) (Q : Int32 → UI → UR → Prop) (K2 : UI → UR → Int32 → Int32 → Prop) (I : UI) (R : UR) (x1 : Int32) (x2 : Int32) : Prop :=
  ∀ v3 : Int32, v3 = x2 + 1 → K2 I R x1 v3
set_option maxHeartbeats 4000000 in
set_option maxRecDepth 100000 in
theorem j_Se_hasFile_31 (X : uX p s m args c prog_6_method_3_code 4 "FrameFerry$Sender" D cc L A t16 t32) (hr : meth.sig.returnType = (some .boolean)) (hlk : meth.locks = false) (hsz : sz = s.heap.size) {Q : Int32 → UI → UR → Prop} {K2 : UI → UR → Int32 → Int32 → Prop} (hK2 : ∀ (I : UI) (R : UR) (x1 : Int32) (x2 : Int32) (H : Heap) (locs : List Loc) (ls : Array Slot), uV s D cc L A J I R H locs → lv_has ls 4 [(0, .ref (A 2)), (1, .int x1), (2, .int x2)] → K2 I R x1 x2 → W p l e rm_Se_hasFile s m args below meth c H locs 0 0 (MQ below (va_Qi (fun (r : Int32) (u : UI × UR) => Q r u.1 u.2) (uBv D cc L A J) (uA L A sz)) args s 0 0 (uA L A sz)) (F0 m 2 ls [])) {I : UI} {R : UR} {x1 : Int32} {x2 : Int32} {H : Heap} {locs : List Loc} {ls : Array Slot} (V : uV s D cc L A J I R H locs) (hl : lv_has ls 4 [(0, .ref (A 2)), (1, .int x1), (2, .int x2)]) (h : wp_Se_hasFile_L31 L Q K2 I R x1 x2) : W p l e rm_Se_hasFile s m args below meth c H locs 0 0 (MQ below (va_Qi (fun (r : Int32) (u : UI × UR) => Q r u.1 u.2) (uBv D cc L A J) (uA L A sz)) args s 0 0 (uA L A sz)) (F0 m 31 ls []) := by
  have hx := X.1
  have hb := X.2.1
  unfold wp_Se_hasFile_L31 at h
  obtain ⟨v3, ev3⟩ : ∃ z : Int32, z = x2 + 1 := ⟨_, rfl⟩
  have h := h v3 ev3
  refine lv_iinc (pc := 31) (k := 2) (v := v3) (lv' := [(2, .int v3), (0, .ref (A 2)), (1, .int x1)]) hx hb d_Se_hasFile_31 hl rfl (by rw [ev3]; rfl) (by decide) rfl (fun ls hl => ?_)
  refine lv_goto (pc := 34) (tgt := 2) hx hb d_Se_hasFile_34 (by decide) ?_
  exact hK2 I R x1 v3 H locs ls V (lv_sub hl [1, 2, 0] rfl) h
def wp_Se_hasFile_L2 (L : List Nat) (Q : Int32 → UI → UR → Prop) : Nat → UI → UR → Int32 → Int32 → Prop
  | 0, _, _, _, _ => False
  | n + 1, I, R, x1, x2 => ((I 2 1 ≤ x2 → (zb 0 ∧ Q 0 I R)) ∧ (¬ I 2 1 ≤ x2 → vp_in x2 4 ∧ ∀ z1 : Option Nat, z1 = R 18 x2.toNatClampNeg → ((z1 = none → wp_Se_hasFile_L31 L Q (fun I R x1 x2 => wp_Se_hasFile_L2 L Q n I R x1 x2) I R x1 x2) ∧ (∀ i2 : Nat, z1 = some i2 → isSf L i2 ∧ ((¬ I i2 1 = x1 → wp_Se_hasFile_L31 L Q (fun I R x1 x2 => wp_Se_hasFile_L2 L Q n I R x1 x2) I R x1 x2) ∧ (I i2 1 = x1 → (zb 1 ∧ Q 1 I R)))))))
set_option maxHeartbeats 4000000 in
set_option maxRecDepth 100000 in
theorem j_Se_hasFile_2 (X : uX p s m args c prog_6_method_3_code 4 "FrameFerry$Sender" D cc L A t16 t32) (hr : meth.sig.returnType = (some .boolean)) (hlk : meth.locks = false) (hsz : sz = s.heap.size) {Q : Int32 → UI → UR → Prop} : ∀ (n : Nat) (I : UI) (R : UR) (x1 : Int32) (x2 : Int32) (H : Heap) (locs : List Loc) (ls : Array Slot), uV s D cc L A J I R H locs → lv_has ls 4 [(0, .ref (A 2)), (1, .int x1), (2, .int x2)] → wp_Se_hasFile_L2 L Q n I R x1 x2 → W p l e rm_Se_hasFile s m args below meth c H locs 0 0 (MQ below (va_Qi (fun (r : Int32) (u : UI × UR) => Q r u.1 u.2) (uBv D cc L A J) (uA L A sz)) args s 0 0 (uA L A sz)) (F0 m 2 ls []) := by
  intro n
  induction n with
  | zero => exact fun I R x1 x2 H locs ls V hl h => False.elim h
  | succ n ih =>
    intro I R x1 x2 H locs ls V hl h
    have hx := X.1
    have hb := X.2.1
    rw [wp_Se_hasFile_L2] at h
    refine lv_iload_n (pc := 2) hx hb d_Se_hasFile_2 rfl (lv_at hl 2 rfl) ?_
    refine lv_aload_n (pc := 3) hx hb d_Se_hasFile_3 rfl (lv_at hl 0 rfl) ?_
    refine u_geti (pc := 4) X V (X.fix rfl) rfl rfl f_Se_45 rfl d_Se_hasFile_4 ?_
    refine lv_icmp_ge (pc := 7) (tgt := 37) hx hb d_Se_hasFile_7 (by decide) (fun hc => ?_) (fun hc => ?_)
    · have h := h.1 hc
      refine lv_iconst (pc := 37) (v := 0) hx hb d_Se_hasFile_37 (by decide) ?_
      exact u_retz (pc := 38) X V hr hlk hsz h.1 h.2 d_Se_hasFile_38
    · have h := h.2 hc
      refine lv_aload_n (pc := 10) hx hb d_Se_hasFile_10 rfl (lv_at hl 0 rfl) ?_
      refine u_getr (pc := 11) (o' := 18) X V (X.fix rfl) rfl rfl f_Se_38 rfl rfl d_Se_hasFile_11 ?_
      refine lv_iload_n (pc := 14) hx hb d_Se_hasFile_14 rfl (lv_at hl 2 rfl) ?_
      refine u_aald (pc := 15) X V (X.fix rfl) rfl (by decide) rfl h.1 d_Se_hasFile_15 (fun z1 ez1 => ?_)
      have h := h.2 z1 ez1
      refine u_astore_n (pc := 16) (lv' := [(3, va_rf (Option.map A z1)), (0, .ref (A 2)), (1, .int x1), (2, .int x2)]) hx hb d_Se_hasFile_16 rfl hl (by decide) rfl (fun ls hl => ?_)
      refine u_aload_n (pc := 17) hx hb d_Se_hasFile_17 rfl (lv_at hl 0 rfl) ?_
      rcases z1 with _ | i2
      · have h := h.1 rfl
        refine lv_ifnullN (pc := 18) (tgt := 31) hx hb d_Se_hasFile_18 (by decide) ?_
        exact j_Se_hasFile_31 X hr hlk hsz ih V (lv_sub hl [1, 2, 3] rfl) h
      · have h := h.2 i2 rfl
        refine lv_ifnull (pc := 18) hx hb d_Se_hasFile_18 ?_
        refine lv_aload_n (pc := 21) hx hb d_Se_hasFile_21 rfl (lv_at hl 0 rfl) ?_
        have h_i2 := h.1
        have h := h.2
        refine u_geti (pc := 22) X V h_i2.1 h_i2.2.1 rfl f_Se_48 rfl d_Se_hasFile_22 ?_
        refine lv_iload_n (pc := 25) hx hb d_Se_hasFile_25 rfl (lv_at hl 2 rfl) ?_
        refine lv_icmp_ne (pc := 26) (tgt := 31) hx hb d_Se_hasFile_26 (by decide) (fun hc => ?_) (fun hc => ?_)
        · have h := h.1 hc
          exact j_Se_hasFile_31 X hr hlk hsz ih V (lv_sub hl [1, 2, 3] rfl) h
        · have h := h.2 hc
          refine lv_iconst (pc := 29) (v := 1) hx hb d_Se_hasFile_29 (by decide) ?_
          exact u_retz (pc := 30) X V hr hlk hsz h.1 h.2 d_Se_hasFile_30
def wp_Se_hasFile (L : List Nat) (I : UI) (R : UR) (x1 : Int32) (Q : Int32 → UI → UR → Prop) : Prop :=
  (∃ n2 : Nat, wp_Se_hasFile_L2 L Q n2 I R x1 0)
set_option maxHeartbeats 4000000 in
set_option maxRecDepth 100000 in
theorem c_Se_hasFile (l : Launch) (D : va_G) (cc : Nat → ClassId) (L : List Nat) (A : Nat → Nat) (J : Nat → Int64) (t16 t32 : Nat) (I : UI) (R : UR) (x1 : Int32) (Q : Int32 → UI → UR → Prop) (h : wp_Se_hasFile L I R x1 Q) : uMi l y_Se_hasFile (.code y_Se_hasFile prog_6_method_3_code 4 (some .boolean)) rm_Se_hasFile [.ref (A 2), .int x1] D cc L A J t16 t32 I R Q := by
  intro sz
  refine u_entry (by decide) (Nat.le_of_ble_eq_true rfl) (fun p e s m args below meth c hsz X V hr hlk ls hl => ?_)
  have X : uX p s m args c prog_6_method_3_code 4 "FrameFerry$Sender" D cc L A t16 t32 := X
  have hx := X.1
  have hb := X.2.1
  have hl : lv_has ls 4 [(0, .ref (A 2)), (1, .int x1)] := hl
  unfold wp_Se_hasFile at h
  generalize hH : s.heap = H at V ⊢
  generalize hlo : ([] : List Loc) = locs at V ⊢
  refine lv_iconst (pc := 0) (v := 0) hx hb d_Se_hasFile_0 (by decide) ?_
  refine lv_istore_n (pc := 1) (lv' := [(2, .int 0), (0, .ref (A 2)), (1, .int x1)]) hx hb d_Se_hasFile_1 rfl hl (by decide) rfl (fun ls hl => ?_)
  obtain ⟨n2, h⟩ := h
  exact j_Se_hasFile_2 X hr hlk hsz n2 I R x1 0 H locs ls V (lv_sub hl [1, 2, 0] rfl) h
-- FrameFerry$Sender.hasFile (I)Z
set_option maxHeartbeats 4000000 in
set_option maxRecDepth 100000 in
theorem jp_Se_hasFile_31 (X : uX p s m args c prog_6_method_3_code 4 "FrameFerry$Sender" D cc L A t16 t32) (hr : meth.sig.returnType = (some .boolean)) (hlk : meth.locks = false) (hsz : sz = s.heap.size) {Q : Int32 → Prop} {K2 : UI → UR → Int32 → Int32 → Prop} (hK2 : ∀ (I : UI) (R : UR) (x1 : Int32) (x2 : Int32) (ls : Array Slot), uV s D cc L A J I R s.heap [] → lv_has ls 4 [(0, .ref (A 2)), (1, .int x1), (2, .int x2)] → K2 I R x1 x2 → W p l e rm_Se_hasFile s m args below meth c s.heap [] 0 0 (MQ below ((fun _ st oc t => ∃ r : Int32, oc = .returned (some (.int r)) ∧ Q r ∧ t.heap = st.heap)) args s 0 0 (fun _ => False)) (F0 m 2 ls [])) {I : UI} {R : UR} {x1 : Int32} {x2 : Int32} {ls : Array Slot} (V : uV s D cc L A J I R s.heap []) (hl : lv_has ls 4 [(0, .ref (A 2)), (1, .int x1), (2, .int x2)]) (h : wp_Se_hasFile_L31 L (fun r _ _ => Q r) K2 I R x1 x2) : W p l e rm_Se_hasFile s m args below meth c s.heap [] 0 0 (MQ below ((fun _ st oc t => ∃ r : Int32, oc = .returned (some (.int r)) ∧ Q r ∧ t.heap = st.heap)) args s 0 0 (fun _ => False)) (F0 m 31 ls []) := by
  have hx := X.1
  have hb := X.2.1
  unfold wp_Se_hasFile_L31 at h
  obtain ⟨v3, ev3⟩ : ∃ z : Int32, z = x2 + 1 := ⟨_, rfl⟩
  have h := h v3 ev3
  refine lv_iinc (pc := 31) (k := 2) (v := v3) (lv' := [(2, .int v3), (0, .ref (A 2)), (1, .int x1)]) hx hb d_Se_hasFile_31 hl rfl (by rw [ev3]; rfl) (by decide) rfl (fun ls hl => ?_)
  refine lv_goto (pc := 34) (tgt := 2) hx hb d_Se_hasFile_34 (by decide) ?_
  exact hK2 I R x1 v3 ls V (lv_sub hl [1, 2, 0] rfl) h
set_option maxHeartbeats 4000000 in
set_option maxRecDepth 100000 in
theorem jp_Se_hasFile_2 (X : uX p s m args c prog_6_method_3_code 4 "FrameFerry$Sender" D cc L A t16 t32) (hr : meth.sig.returnType = (some .boolean)) (hlk : meth.locks = false) (hsz : sz = s.heap.size) {Q : Int32 → Prop} : ∀ (n : Nat) (I : UI) (R : UR) (x1 : Int32) (x2 : Int32) (ls : Array Slot), uV s D cc L A J I R s.heap [] → lv_has ls 4 [(0, .ref (A 2)), (1, .int x1), (2, .int x2)] → wp_Se_hasFile_L2 L (fun r _ _ => Q r) n I R x1 x2 → W p l e rm_Se_hasFile s m args below meth c s.heap [] 0 0 (MQ below ((fun _ st oc t => ∃ r : Int32, oc = .returned (some (.int r)) ∧ Q r ∧ t.heap = st.heap)) args s 0 0 (fun _ => False)) (F0 m 2 ls []) := by
  intro n
  induction n with
  | zero => exact fun I R x1 x2 ls V hl h => False.elim h
  | succ n ih =>
    intro I R x1 x2 ls V hl h
    have hx := X.1
    have hb := X.2.1
    rw [wp_Se_hasFile_L2] at h
    refine lv_iload_n (pc := 2) hx hb d_Se_hasFile_2 rfl (lv_at hl 2 rfl) ?_
    refine lv_aload_n (pc := 3) hx hb d_Se_hasFile_3 rfl (lv_at hl 0 rfl) ?_
    refine u_geti (pc := 4) X V (X.fix rfl) rfl rfl f_Se_45 rfl d_Se_hasFile_4 ?_
    refine lv_icmp_ge (pc := 7) (tgt := 37) hx hb d_Se_hasFile_7 (by decide) (fun hc => ?_) (fun hc => ?_)
    · have h := h.1 hc
      refine lv_iconst (pc := 37) (v := 0) hx hb d_Se_hasFile_37 (by decide) ?_
      exact u_retzP (pc := 38) X hr hlk h.1 h.2 d_Se_hasFile_38
    · have h := h.2 hc
      refine lv_aload_n (pc := 10) hx hb d_Se_hasFile_10 rfl (lv_at hl 0 rfl) ?_
      refine u_getr (pc := 11) (o' := 18) X V (X.fix rfl) rfl rfl f_Se_38 rfl rfl d_Se_hasFile_11 ?_
      refine lv_iload_n (pc := 14) hx hb d_Se_hasFile_14 rfl (lv_at hl 2 rfl) ?_
      refine u_aald (pc := 15) X V (X.fix rfl) rfl (by decide) rfl h.1 d_Se_hasFile_15 (fun z1 ez1 => ?_)
      have h := h.2 z1 ez1
      refine u_astore_n (pc := 16) (lv' := [(3, va_rf (Option.map A z1)), (0, .ref (A 2)), (1, .int x1), (2, .int x2)]) hx hb d_Se_hasFile_16 rfl hl (by decide) rfl (fun ls hl => ?_)
      refine u_aload_n (pc := 17) hx hb d_Se_hasFile_17 rfl (lv_at hl 0 rfl) ?_
      rcases z1 with _ | i2
      · have h := h.1 rfl
        refine lv_ifnullN (pc := 18) (tgt := 31) hx hb d_Se_hasFile_18 (by decide) ?_
        exact jp_Se_hasFile_31 X hr hlk hsz ih V (lv_sub hl [1, 2, 3] rfl) h
      · have h := h.2 i2 rfl
        refine lv_ifnull (pc := 18) hx hb d_Se_hasFile_18 ?_
        refine lv_aload_n (pc := 21) hx hb d_Se_hasFile_21 rfl (lv_at hl 0 rfl) ?_
        have h_i2 := h.1
        have h := h.2
        refine u_geti (pc := 22) X V h_i2.1 h_i2.2.1 rfl f_Se_48 rfl d_Se_hasFile_22 ?_
        refine lv_iload_n (pc := 25) hx hb d_Se_hasFile_25 rfl (lv_at hl 2 rfl) ?_
        refine lv_icmp_ne (pc := 26) (tgt := 31) hx hb d_Se_hasFile_26 (by decide) (fun hc => ?_) (fun hc => ?_)
        · have h := h.1 hc
          exact jp_Se_hasFile_31 X hr hlk hsz ih V (lv_sub hl [1, 2, 3] rfl) h
        · have h := h.2 hc
          refine lv_iconst (pc := 29) (v := 1) hx hb d_Se_hasFile_29 (by decide) ?_
          exact u_retzP (pc := 30) X hr hlk h.1 h.2 d_Se_hasFile_30
set_option maxHeartbeats 4000000 in
set_option maxRecDepth 100000 in
theorem cp_Se_hasFile (l : Launch) (D : va_G) (cc : Nat → ClassId) (L : List Nat) (A : Nat → Nat) (J : Nat → Int64) (t16 t32 : Nat) (I : UI) (R : UR) (x1 : Int32) (Q : Int32 → Prop) (h : wp_Se_hasFile L I R x1 (fun r _ _ => Q r)) : uMiP l y_Se_hasFile (.code y_Se_hasFile prog_6_method_3_code 4 (some .boolean)) rm_Se_hasFile [.ref (A 2), .int x1] D cc L A J t16 t32 I R Q := by
  intro sz
  refine u_entryP (by decide) (Nat.le_of_ble_eq_true rfl) (fun p e s m args below meth c hsz X V hr hlk ls hl => ?_)
  have X : uX p s m args c prog_6_method_3_code 4 "FrameFerry$Sender" D cc L A t16 t32 := X
  have hx := X.1
  have hb := X.2.1
  have hl : lv_has ls 4 [(0, .ref (A 2)), (1, .int x1)] := hl
  unfold wp_Se_hasFile at h
  refine lv_iconst (pc := 0) (v := 0) hx hb d_Se_hasFile_0 (by decide) ?_
  refine lv_istore_n (pc := 1) (lv' := [(2, .int 0), (0, .ref (A 2)), (1, .int x1)]) hx hb d_Se_hasFile_1 rfl hl (by decide) rfl (fun ls hl => ?_)
  obtain ⟨n2, h⟩ := h
  exact jp_Se_hasFile_2 X hr hlk hsz n2 I R x1 0 ls V (lv_sub hl [1, 2, 0] rfl) h
-- FrameFerry$Sender.dropFiles ()I
theorem d_Se_dropFiles_0 : decode prog_6_method_5_code 0 = .ok (.aload_n 0, 1) := by decide +kernel
theorem d_Se_dropFiles_1 : decode prog_6_method_5_code 1 = .ok (.getfield 45, 3) := by decide +kernel
theorem d_Se_dropFiles_4 : decode prog_6_method_5_code 4 = .ok (.istore_n 1, 1) := by decide +kernel
theorem d_Se_dropFiles_5 : decode prog_6_method_5_code 5 = .ok (.aload_n 0, 1) := by decide +kernel
theorem d_Se_dropFiles_6 : decode prog_6_method_5_code 6 = .ok (.iconst 0, 1) := by decide +kernel
theorem d_Se_dropFiles_7 : decode prog_6_method_5_code 7 = .ok (.putfield 45, 3) := by decide +kernel
theorem d_Se_dropFiles_10 : decode prog_6_method_5_code 10 = .ok (.aload_n 0, 1) := by decide +kernel
theorem d_Se_dropFiles_11 : decode prog_6_method_5_code 11 = .ok (.iconst 0, 1) := by decide +kernel
theorem d_Se_dropFiles_12 : decode prog_6_method_5_code 12 = .ok (.putfield 55, 3) := by decide +kernel
theorem d_Se_dropFiles_15 : decode prog_6_method_5_code 15 = .ok (.iload_n 1, 1) := by decide +kernel
theorem d_Se_dropFiles_16 : decode prog_6_method_5_code 16 = .ok (.ireturn, 1) := by decide +kernel
def rm_Se_dropFiles : Room := { frames := 0, cells := 0, slots := 0, locals := 0 }
def wp_Se_dropFiles (L : List Nat) (I : UI) (R : UR) (Q : Int32 → UI → UR → Prop) : Prop :=
  ∀ v1 : Int32, v1 = I 2 1 → ∀ I2 : UI, I2 = u2 I 2 1 0 → ∀ I3 : UI, I3 = u2 I2 2 3 0 → Q v1 I3 R
set_option maxHeartbeats 4000000 in
set_option maxRecDepth 100000 in
theorem c_Se_dropFiles (l : Launch) (D : va_G) (cc : Nat → ClassId) (L : List Nat) (A : Nat → Nat) (J : Nat → Int64) (t16 t32 : Nat) (I : UI) (R : UR) (Q : Int32 → UI → UR → Prop) (h : wp_Se_dropFiles L I R Q) : uMi l y_Se_dropFiles (.code y_Se_dropFiles prog_6_method_5_code 2 (some .int)) rm_Se_dropFiles [.ref (A 2)] D cc L A J t16 t32 I R Q := by
  intro sz
  refine u_entry (by decide) (Nat.le_of_ble_eq_true rfl) (fun p e s m args below meth c hsz X V hr hlk ls hl => ?_)
  have X : uX p s m args c prog_6_method_5_code 2 "FrameFerry$Sender" D cc L A t16 t32 := X
  have hx := X.1
  have hb := X.2.1
  have hl : lv_has ls 2 [(0, .ref (A 2))] := hl
  unfold wp_Se_dropFiles at h
  generalize hH : s.heap = H at V ⊢
  generalize hlo : ([] : List Loc) = locs at V ⊢
  refine lv_aload_n (pc := 0) hx hb d_Se_dropFiles_0 rfl (lv_at hl 0 rfl) ?_
  refine u_geti (pc := 1) X V (X.fix rfl) rfl rfl f_Se_45 rfl d_Se_dropFiles_1 ?_
  refine lv_topi (fun v1 ev1 => ?_)
  have h := h v1 ev1
  refine lv_istore_n (pc := 4) (lv' := [(1, .int v1), (0, .ref (A 2))]) hx hb d_Se_dropFiles_4 rfl hl (by decide) rfl (fun ls hl => ?_)
  refine lv_aload_n (pc := 5) hx hb d_Se_dropFiles_5 rfl (lv_at hl 1 rfl) ?_
  refine lv_iconst (pc := 6) (v := 0) hx hb d_Se_dropFiles_6 (by decide) ?_
  refine u_puti (pc := 7) X V (X.fix rfl) rfl rfl f_Se_45 rfl d_Se_dropFiles_7 (fun I2 eI2 H locs V => ?_)
  have h := h I2 eI2
  refine lv_aload_n (pc := 10) hx hb d_Se_dropFiles_10 rfl (lv_at hl 1 rfl) ?_
  refine lv_iconst (pc := 11) (v := 0) hx hb d_Se_dropFiles_11 (by decide) ?_
  refine u_puti (pc := 12) X V (X.fix rfl) rfl rfl f_Se_55 rfl d_Se_dropFiles_12 (fun I3 eI3 H locs V => ?_)
  have h := h I3 eI3
  refine lv_iload_n (pc := 15) hx hb d_Se_dropFiles_15 rfl (lv_at hl 0 rfl) ?_
  exact u_reti (pc := 16) X V hr hlk hsz h d_Se_dropFiles_16
-- FrameFerry$Sender.fileNumber ()I
theorem d_Se_fileNumber_0 : decode prog_6_method_6_code 0 = .ok (.aload_n 0, 1) := by decide +kernel
theorem d_Se_fileNumber_1 : decode prog_6_method_6_code 1 = .ok (.getfield 18, 3) := by decide +kernel
theorem d_Se_fileNumber_4 : decode prog_6_method_6_code 4 = .ok (.iconst 4, 1) := by decide +kernel
theorem d_Se_fileNumber_5 : decode prog_6_method_6_code 5 = .ok (.if_icmp .eq 11, 3) := by decide +kernel
theorem d_Se_fileNumber_8 : decode prog_6_method_6_code 8 = .ok (.aload_n 0, 1) := by decide +kernel
theorem d_Se_fileNumber_9 : decode prog_6_method_6_code 9 = .ok (.getfield 18, 3) := by decide +kernel
theorem d_Se_fileNumber_12 : decode prog_6_method_6_code 12 = .ok (.iconst 5, 1) := by decide +kernel
theorem d_Se_fileNumber_13 : decode prog_6_method_6_code 13 = .ok (.if_icmp .ne 10, 3) := by decide +kernel
theorem d_Se_fileNumber_16 : decode prog_6_method_6_code 16 = .ok (.aload_n 0, 1) := by decide +kernel
theorem d_Se_fileNumber_17 : decode prog_6_method_6_code 17 = .ok (.getfield 45, 3) := by decide +kernel
theorem d_Se_fileNumber_20 : decode prog_6_method_6_code 20 = .ok (.goto 7, 3) := by decide +kernel
theorem d_Se_fileNumber_23 : decode prog_6_method_6_code 23 = .ok (.aload_n 0, 1) := by decide +kernel
theorem d_Se_fileNumber_24 : decode prog_6_method_6_code 24 = .ok (.getfield 58, 3) := by decide +kernel
theorem d_Se_fileNumber_27 : decode prog_6_method_6_code 27 = .ok (.ireturn, 1) := by decide +kernel
def rm_Se_fileNumber : Room := { frames := 0, cells := 0, slots := 0, locals := 0 }
def wp_Se_fileNumber_L16 (L : List Nat) (Q : Int32 → UI → UR → Prop) (I : UI) (R : UR) : Prop :=
  Q (I 2 1) I R
set_option maxHeartbeats 4000000 in
set_option maxRecDepth 100000 in
theorem j_Se_fileNumber_16 (X : uX p s m args c prog_6_method_6_code 1 "FrameFerry$Sender" D cc L A t16 t32) (hr : meth.sig.returnType = (some .int)) (hlk : meth.locks = false) (hsz : sz = s.heap.size) {Q : Int32 → UI → UR → Prop} {I : UI} {R : UR} {H : Heap} {locs : List Loc} {ls : Array Slot} (V : uV s D cc L A J I R H locs) (hl : lv_has ls 1 [(0, .ref (A 2))]) (h : wp_Se_fileNumber_L16 L Q I R) : W p l e rm_Se_fileNumber s m args below meth c H locs 0 0 (MQ below (va_Qi (fun (r : Int32) (u : UI × UR) => Q r u.1 u.2) (uBv D cc L A J) (uA L A sz)) args s 0 0 (uA L A sz)) (F0 m 16 ls []) := by
  have hx := X.1
  have hb := X.2.1
  unfold wp_Se_fileNumber_L16 at h
  refine lv_aload_n (pc := 16) hx hb d_Se_fileNumber_16 rfl (lv_at hl 0 rfl) ?_
  refine u_geti (pc := 17) X V (X.fix rfl) rfl rfl f_Se_45 rfl d_Se_fileNumber_17 ?_
  refine lv_goto (pc := 20) (tgt := 27) hx hb d_Se_fileNumber_20 (by decide) ?_
  exact u_reti (pc := 27) X V hr hlk hsz h d_Se_fileNumber_27
def wp_Se_fileNumber (L : List Nat) (I : UI) (R : UR) (Q : Int32 → UI → UR → Prop) : Prop :=
  ((I 2 2 = 4 → wp_Se_fileNumber_L16 L Q I R) ∧ (¬ I 2 2 = 4 → ((¬ I 2 2 = 5 → Q (I 2 7) I R) ∧ (I 2 2 = 5 → wp_Se_fileNumber_L16 L Q I R))))
set_option maxHeartbeats 4000000 in
set_option maxRecDepth 100000 in
theorem c_Se_fileNumber (l : Launch) (D : va_G) (cc : Nat → ClassId) (L : List Nat) (A : Nat → Nat) (J : Nat → Int64) (t16 t32 : Nat) (I : UI) (R : UR) (Q : Int32 → UI → UR → Prop) (h : wp_Se_fileNumber L I R Q) : uMi l y_Se_fileNumber (.code y_Se_fileNumber prog_6_method_6_code 1 (some .int)) rm_Se_fileNumber [.ref (A 2)] D cc L A J t16 t32 I R Q := by
  intro sz
  refine u_entry (by decide) (Nat.le_of_ble_eq_true rfl) (fun p e s m args below meth c hsz X V hr hlk ls hl => ?_)
  have X : uX p s m args c prog_6_method_6_code 1 "FrameFerry$Sender" D cc L A t16 t32 := X
  have hx := X.1
  have hb := X.2.1
  have hl : lv_has ls 1 [(0, .ref (A 2))] := hl
  unfold wp_Se_fileNumber at h
  generalize hH : s.heap = H at V ⊢
  generalize hlo : ([] : List Loc) = locs at V ⊢
  refine lv_aload_n (pc := 0) hx hb d_Se_fileNumber_0 rfl (lv_at hl 0 rfl) ?_
  refine u_geti (pc := 1) X V (X.fix rfl) rfl rfl f_Se_18 rfl d_Se_fileNumber_1 ?_
  refine lv_iconst (pc := 4) (v := 4) hx hb d_Se_fileNumber_4 (by decide) ?_
  refine lv_icmp_eq (pc := 5) (tgt := 16) hx hb d_Se_fileNumber_5 (by decide) (fun hc => ?_) (fun hc => ?_)
  · have h := h.1 hc
    exact j_Se_fileNumber_16 X hr hlk hsz V (lv_sub hl [0] rfl) h
  · have h := h.2 hc
    refine lv_aload_n (pc := 8) hx hb d_Se_fileNumber_8 rfl (lv_at hl 0 rfl) ?_
    refine u_geti (pc := 9) X V (X.fix rfl) rfl rfl f_Se_18 rfl d_Se_fileNumber_9 ?_
    refine lv_iconst (pc := 12) (v := 5) hx hb d_Se_fileNumber_12 (by decide) ?_
    refine lv_icmp_ne (pc := 13) (tgt := 23) hx hb d_Se_fileNumber_13 (by decide) (fun hc => ?_) (fun hc => ?_)
    · have h := h.1 hc
      refine lv_aload_n (pc := 23) hx hb d_Se_fileNumber_23 rfl (lv_at hl 0 rfl) ?_
      refine u_geti (pc := 24) X V (X.fix rfl) rfl rfl f_Se_58 rfl d_Se_fileNumber_24 ?_
      exact u_reti (pc := 27) X V hr hlk hsz h d_Se_fileNumber_27
    · have h := h.2 hc
      exact j_Se_fileNumber_16 X hr hlk hsz V (lv_sub hl [0] rfl) h
-- FrameFerry$Sender.hasFileAtHand ()Z
theorem d_Se_hasFileAtHand_0 : decode prog_6_method_12_code 0 = .ok (.aload_n 0, 1) := by decide +kernel
theorem d_Se_hasFileAtHand_1 : decode prog_6_method_12_code 1 = .ok (.getfield 18, 3) := by decide +kernel
theorem d_Se_hasFileAtHand_4 : decode prog_6_method_12_code 4 = .ok (.iconst 1, 1) := by decide +kernel
theorem d_Se_hasFileAtHand_5 : decode prog_6_method_12_code 5 = .ok (.if_icmp .eq 19, 3) := by decide +kernel
theorem d_Se_hasFileAtHand_8 : decode prog_6_method_12_code 8 = .ok (.aload_n 0, 1) := by decide +kernel
theorem d_Se_hasFileAtHand_9 : decode prog_6_method_12_code 9 = .ok (.getfield 18, 3) := by decide +kernel
theorem d_Se_hasFileAtHand_12 : decode prog_6_method_12_code 12 = .ok (.iconst 2, 1) := by decide +kernel
theorem d_Se_hasFileAtHand_13 : decode prog_6_method_12_code 13 = .ok (.if_icmp .eq 11, 3) := by decide +kernel
theorem d_Se_hasFileAtHand_16 : decode prog_6_method_12_code 16 = .ok (.aload_n 0, 1) := by decide +kernel
theorem d_Se_hasFileAtHand_17 : decode prog_6_method_12_code 17 = .ok (.getfield 18, 3) := by decide +kernel
theorem d_Se_hasFileAtHand_20 : decode prog_6_method_12_code 20 = .ok (.iconst 3, 1) := by decide +kernel
theorem d_Se_hasFileAtHand_21 : decode prog_6_method_12_code 21 = .ok (.if_icmp .ne 7, 3) := by decide +kernel
theorem d_Se_hasFileAtHand_24 : decode prog_6_method_12_code 24 = .ok (.iconst 1, 1) := by decide +kernel
theorem d_Se_hasFileAtHand_25 : decode prog_6_method_12_code 25 = .ok (.goto 4, 3) := by decide +kernel
theorem d_Se_hasFileAtHand_28 : decode prog_6_method_12_code 28 = .ok (.iconst 0, 1) := by decide +kernel
theorem d_Se_hasFileAtHand_29 : decode prog_6_method_12_code 29 = .ok (.ireturn, 1) := by decide +kernel
def rm_Se_hasFileAtHand : Room := { frames := 0, cells := 0, slots := 0, locals := 0 }
def wp_Se_hasFileAtHand_L24 (L : List Nat) (Q : Int32 → UI → UR → Prop) (I : UI) (R : UR) : Prop :=
  (zb 1 ∧ Q 1 I R)
set_option maxHeartbeats 4000000 in
set_option maxRecDepth 100000 in
theorem j_Se_hasFileAtHand_24 (X : uX p s m args c prog_6_method_12_code 1 "FrameFerry$Sender" D cc L A t16 t32) (hr : meth.sig.returnType = (some .boolean)) (hlk : meth.locks = false) (hsz : sz = s.heap.size) {Q : Int32 → UI → UR → Prop} {I : UI} {R : UR} {H : Heap} {locs : List Loc} {ls : Array Slot} (V : uV s D cc L A J I R H locs) (hl : lv_has ls 1 []) (h : wp_Se_hasFileAtHand_L24 L Q I R) : W p l e rm_Se_hasFileAtHand s m args below meth c H locs 0 0 (MQ below (va_Qi (fun (r : Int32) (u : UI × UR) => Q r u.1 u.2) (uBv D cc L A J) (uA L A sz)) args s 0 0 (uA L A sz)) (F0 m 24 ls []) := by
  have hx := X.1
  have hb := X.2.1
  unfold wp_Se_hasFileAtHand_L24 at h
  refine lv_iconst (pc := 24) (v := 1) hx hb d_Se_hasFileAtHand_24 (by decide) ?_
  refine lv_goto (pc := 25) (tgt := 29) hx hb d_Se_hasFileAtHand_25 (by decide) ?_
  exact u_retz (pc := 29) X V hr hlk hsz h.1 h.2 d_Se_hasFileAtHand_29
def wp_Se_hasFileAtHand (L : List Nat) (I : UI) (R : UR) (Q : Int32 → UI → UR → Prop) : Prop :=
  ((I 2 2 = 1 → wp_Se_hasFileAtHand_L24 L Q I R) ∧ (¬ I 2 2 = 1 → ((I 2 2 = 2 → wp_Se_hasFileAtHand_L24 L Q I R) ∧ (¬ I 2 2 = 2 → ((¬ I 2 2 = 3 → (zb 0 ∧ Q 0 I R)) ∧ (I 2 2 = 3 → wp_Se_hasFileAtHand_L24 L Q I R))))))
set_option maxHeartbeats 4000000 in
set_option maxRecDepth 100000 in
theorem c_Se_hasFileAtHand (l : Launch) (D : va_G) (cc : Nat → ClassId) (L : List Nat) (A : Nat → Nat) (J : Nat → Int64) (t16 t32 : Nat) (I : UI) (R : UR) (Q : Int32 → UI → UR → Prop) (h : wp_Se_hasFileAtHand L I R Q) : uMi l y_Se_hasFileAtHand (.code y_Se_hasFileAtHand prog_6_method_12_code 1 (some .boolean)) rm_Se_hasFileAtHand [.ref (A 2)] D cc L A J t16 t32 I R Q := by
  intro sz
  refine u_entry (by decide) (Nat.le_of_ble_eq_true rfl) (fun p e s m args below meth c hsz X V hr hlk ls hl => ?_)
  have X : uX p s m args c prog_6_method_12_code 1 "FrameFerry$Sender" D cc L A t16 t32 := X
  have hx := X.1
  have hb := X.2.1
  have hl : lv_has ls 1 [(0, .ref (A 2))] := hl
  unfold wp_Se_hasFileAtHand at h
  generalize hH : s.heap = H at V ⊢
  generalize hlo : ([] : List Loc) = locs at V ⊢
  refine lv_aload_n (pc := 0) hx hb d_Se_hasFileAtHand_0 rfl (lv_at hl 0 rfl) ?_
  refine u_geti (pc := 1) X V (X.fix rfl) rfl rfl f_Se_18 rfl d_Se_hasFileAtHand_1 ?_
  refine lv_iconst (pc := 4) (v := 1) hx hb d_Se_hasFileAtHand_4 (by decide) ?_
  refine lv_icmp_eq (pc := 5) (tgt := 24) hx hb d_Se_hasFileAtHand_5 (by decide) (fun hc => ?_) (fun hc => ?_)
  · have h := h.1 hc
    exact j_Se_hasFileAtHand_24 X hr hlk hsz V (lv_sub hl [] rfl) h
  · have h := h.2 hc
    refine lv_aload_n (pc := 8) hx hb d_Se_hasFileAtHand_8 rfl (lv_at hl 0 rfl) ?_
    refine u_geti (pc := 9) X V (X.fix rfl) rfl rfl f_Se_18 rfl d_Se_hasFileAtHand_9 ?_
    refine lv_iconst (pc := 12) (v := 2) hx hb d_Se_hasFileAtHand_12 (by decide) ?_
    refine lv_icmp_eq (pc := 13) (tgt := 24) hx hb d_Se_hasFileAtHand_13 (by decide) (fun hc => ?_) (fun hc => ?_)
    · have h := h.1 hc
      exact j_Se_hasFileAtHand_24 X hr hlk hsz V (lv_sub hl [] rfl) h
    · have h := h.2 hc
      refine lv_aload_n (pc := 16) hx hb d_Se_hasFileAtHand_16 rfl (lv_at hl 0 rfl) ?_
      refine u_geti (pc := 17) X V (X.fix rfl) rfl rfl f_Se_18 rfl d_Se_hasFileAtHand_17 ?_
      refine lv_iconst (pc := 20) (v := 3) hx hb d_Se_hasFileAtHand_20 (by decide) ?_
      refine lv_icmp_ne (pc := 21) (tgt := 28) hx hb d_Se_hasFileAtHand_21 (by decide) (fun hc => ?_) (fun hc => ?_)
      · have h := h.1 hc
        refine lv_iconst (pc := 28) (v := 0) hx hb d_Se_hasFileAtHand_28 (by decide) ?_
        exact u_retz (pc := 29) X V hr hlk hsz h.1 h.2 d_Se_hasFileAtHand_29
      · have h := h.2 hc
        exact j_Se_hasFileAtHand_24 X hr hlk hsz V (lv_sub hl [] rfl) h
-- FrameFerry$Sender.goToNextFile ()V
theorem d_Se_goToNextFile_0 : decode prog_6_method_13_code 0 = .ok (.aload_n 0, 1) := by decide +kernel
theorem d_Se_goToNextFile_1 : decode prog_6_method_13_code 1 = .ok (.aload_n 0, 1) := by decide +kernel
theorem d_Se_goToNextFile_2 : decode prog_6_method_13_code 2 = .ok (.getfield 18, 3) := by decide +kernel
theorem d_Se_goToNextFile_5 : decode prog_6_method_13_code 5 = .ok (.ifCond .ne 7, 3) := by decide +kernel
theorem d_Se_goToNextFile_8 : decode prog_6_method_13_code 8 = .ok (.iconst 0, 1) := by decide +kernel
theorem d_Se_goToNextFile_9 : decode prog_6_method_13_code 9 = .ok (.goto 9, 3) := by decide +kernel
theorem d_Se_goToNextFile_12 : decode prog_6_method_13_code 12 = .ok (.aload_n 0, 1) := by decide +kernel
theorem d_Se_goToNextFile_13 : decode prog_6_method_13_code 13 = .ok (.getfield 58, 3) := by decide +kernel
theorem d_Se_goToNextFile_16 : decode prog_6_method_13_code 16 = .ok (.iconst 1, 1) := by decide +kernel
theorem d_Se_goToNextFile_17 : decode prog_6_method_13_code 17 = .ok (.iadd, 1) := by decide +kernel
theorem d_Se_goToNextFile_18 : decode prog_6_method_13_code 18 = .ok (.putfield 58, 3) := by decide +kernel
theorem d_Se_goToNextFile_21 : decode prog_6_method_13_code 21 = .ok (.aload_n 0, 1) := by decide +kernel
theorem d_Se_goToNextFile_22 : decode prog_6_method_13_code 22 = .ok (.getfield 58, 3) := by decide +kernel
theorem d_Se_goToNextFile_25 : decode prog_6_method_13_code 25 = .ok (.aload_n 0, 1) := by decide +kernel
theorem d_Se_goToNextFile_26 : decode prog_6_method_13_code 26 = .ok (.getfield 45, 3) := by decide +kernel
theorem d_Se_goToNextFile_29 : decode prog_6_method_13_code 29 = .ok (.if_icmp .ge 16, 3) := by decide +kernel
theorem d_Se_goToNextFile_32 : decode prog_6_method_13_code 32 = .ok (.aload_n 0, 1) := by decide +kernel
theorem d_Se_goToNextFile_33 : decode prog_6_method_13_code 33 = .ok (.iconst 1, 1) := by decide +kernel
theorem d_Se_goToNextFile_34 : decode prog_6_method_13_code 34 = .ok (.putfield 18, 3) := by decide +kernel
theorem d_Se_goToNextFile_37 : decode prog_6_method_13_code 37 = .ok (.aload_n 0, 1) := by decide +kernel
theorem d_Se_goToNextFile_38 : decode prog_6_method_13_code 38 = .ok (.iconst 0, 1) := by decide +kernel
theorem d_Se_goToNextFile_39 : decode prog_6_method_13_code 39 = .ok (.putfield 55, 3) := by decide +kernel
theorem d_Se_goToNextFile_42 : decode prog_6_method_13_code 42 = .ok (.goto 8, 3) := by decide +kernel
theorem d_Se_goToNextFile_45 : decode prog_6_method_13_code 45 = .ok (.aload_n 0, 1) := by decide +kernel
theorem d_Se_goToNextFile_46 : decode prog_6_method_13_code 46 = .ok (.iconst 4, 1) := by decide +kernel
theorem d_Se_goToNextFile_47 : decode prog_6_method_13_code 47 = .ok (.putfield 18, 3) := by decide +kernel
theorem d_Se_goToNextFile_50 : decode prog_6_method_13_code 50 = .ok (.return_, 1) := by decide +kernel
def rm_Se_goToNextFile : Room := { frames := 0, cells := 0, slots := 0, locals := 0 }
def wp_Se_goToNextFile_L18 (L : List Nat) (Q : UI → UR → Prop) (I : UI) (R : UR) (s0 : Int32) : Prop :=
  ∀ I1 : UI, I1 = u2 I 2 7 s0 → ((I1 2 1 ≤ I1 2 7 → ∀ I2 : UI, I2 = u2 I1 2 2 4 → Q I2 R) ∧ (¬ I1 2 1 ≤ I1 2 7 → ∀ I3 : UI, I3 = u2 I1 2 2 1 → ∀ I4 : UI, I4 = u2 I3 2 3 0 → Q I4 R))
set_option maxHeartbeats 4000000 in
set_option maxRecDepth 100000 in
theorem j_Se_goToNextFile_18 (X : uX p s m args c prog_6_method_13_code 1 "FrameFerry$Sender" D cc L A t16 t32) (hr : meth.sig.returnType = none) (hlk : meth.locks = false) (hsz : sz = s.heap.size) {Q : UI → UR → Prop} {I : UI} {R : UR} {s0 : Int32} {H : Heap} {locs : List Loc} {ls : Array Slot} (V : uV s D cc L A J I R H locs) (hl : lv_has ls 1 [(0, .ref (A 2))]) (h : wp_Se_goToNextFile_L18 L Q I R s0) : W p l e rm_Se_goToNextFile s m args below meth c H locs 0 0 (MQ below (va_Qv (fun u : UI × UR => Q u.1 u.2) (uBv D cc L A J) (uA L A sz)) args s 0 0 (uA L A sz)) (F0 m 18 ls [.int s0, .ref (A 2)]) := by
  have hx := X.1
  have hb := X.2.1
  unfold wp_Se_goToNextFile_L18 at h
  refine u_puti (pc := 18) X V (X.fix rfl) rfl rfl f_Se_58 rfl d_Se_goToNextFile_18 (fun I1 eI1 H locs V => ?_)
  have h := h I1 eI1
  refine lv_aload_n (pc := 21) hx hb d_Se_goToNextFile_21 rfl (lv_at hl 0 rfl) ?_
  refine u_geti (pc := 22) X V (X.fix rfl) rfl rfl f_Se_58 rfl d_Se_goToNextFile_22 ?_
  refine lv_aload_n (pc := 25) hx hb d_Se_goToNextFile_25 rfl (lv_at hl 0 rfl) ?_
  refine u_geti (pc := 26) X V (X.fix rfl) rfl rfl f_Se_45 rfl d_Se_goToNextFile_26 ?_
  refine lv_icmp_ge (pc := 29) (tgt := 45) hx hb d_Se_goToNextFile_29 (by decide) (fun hc => ?_) (fun hc => ?_)
  · have h := h.1 hc
    refine lv_aload_n (pc := 45) hx hb d_Se_goToNextFile_45 rfl (lv_at hl 0 rfl) ?_
    refine lv_iconst (pc := 46) (v := 4) hx hb d_Se_goToNextFile_46 (by decide) ?_
    refine u_puti (pc := 47) X V (X.fix rfl) rfl rfl f_Se_18 rfl d_Se_goToNextFile_47 (fun I2 eI2 H locs V => ?_)
    have h := h I2 eI2
    exact u_retv (pc := 50) X V hr hlk hsz h d_Se_goToNextFile_50
  · have h := h.2 hc
    refine lv_aload_n (pc := 32) hx hb d_Se_goToNextFile_32 rfl (lv_at hl 0 rfl) ?_
    refine lv_iconst (pc := 33) (v := 1) hx hb d_Se_goToNextFile_33 (by decide) ?_
    refine u_puti (pc := 34) X V (X.fix rfl) rfl rfl f_Se_18 rfl d_Se_goToNextFile_34 (fun I3 eI3 H locs V => ?_)
    have h := h I3 eI3
    refine lv_aload_n (pc := 37) hx hb d_Se_goToNextFile_37 rfl (lv_at hl 0 rfl) ?_
    refine lv_iconst (pc := 38) (v := 0) hx hb d_Se_goToNextFile_38 (by decide) ?_
    refine u_puti (pc := 39) X V (X.fix rfl) rfl rfl f_Se_55 rfl d_Se_goToNextFile_39 (fun I4 eI4 H locs V => ?_)
    have h := h I4 eI4
    refine lv_goto (pc := 42) (tgt := 50) hx hb d_Se_goToNextFile_42 (by decide) ?_
    exact u_retv (pc := 50) X V hr hlk hsz h d_Se_goToNextFile_50
def wp_Se_goToNextFile (L : List Nat) (I : UI) (R : UR) (Q : UI → UR → Prop) : Prop :=
  ((¬ I 2 2 = 0 → wp_Se_goToNextFile_L18 L Q I R ((I 2 7) + 1)) ∧ (I 2 2 = 0 → wp_Se_goToNextFile_L18 L Q I R 0))
set_option maxHeartbeats 4000000 in
set_option maxRecDepth 100000 in
theorem c_Se_goToNextFile (l : Launch) (D : va_G) (cc : Nat → ClassId) (L : List Nat) (A : Nat → Nat) (J : Nat → Int64) (t16 t32 : Nat) (I : UI) (R : UR) (Q : UI → UR → Prop) (h : wp_Se_goToNextFile L I R Q) : uMv l y_Se_goToNextFile (.code y_Se_goToNextFile prog_6_method_13_code 1 none) rm_Se_goToNextFile [.ref (A 2)] D cc L A J t16 t32 I R Q := by
  intro sz
  refine u_entry (by decide) (Nat.le_of_ble_eq_true rfl) (fun p e s m args below meth c hsz X V hr hlk ls hl => ?_)
  have X : uX p s m args c prog_6_method_13_code 1 "FrameFerry$Sender" D cc L A t16 t32 := X
  have hx := X.1
  have hb := X.2.1
  have hl : lv_has ls 1 [(0, .ref (A 2))] := hl
  unfold wp_Se_goToNextFile at h
  generalize hH : s.heap = H at V ⊢
  generalize hlo : ([] : List Loc) = locs at V ⊢
  refine lv_aload_n (pc := 0) hx hb d_Se_goToNextFile_0 rfl (lv_at hl 0 rfl) ?_
  refine lv_aload_n (pc := 1) hx hb d_Se_goToNextFile_1 rfl (lv_at hl 0 rfl) ?_
  refine u_geti (pc := 2) X V (X.fix rfl) rfl rfl f_Se_18 rfl d_Se_goToNextFile_2 ?_
  refine lv_if_ne (pc := 5) (tgt := 12) hx hb d_Se_goToNextFile_5 (by decide) (fun hc => ?_) (fun hc => ?_)
  · have h := h.1 hc
    refine lv_aload_n (pc := 12) hx hb d_Se_goToNextFile_12 rfl (lv_at hl 0 rfl) ?_
    refine u_geti (pc := 13) X V (X.fix rfl) rfl rfl f_Se_58 rfl d_Se_goToNextFile_13 ?_
    refine lv_iconst (pc := 16) (v := 1) hx hb d_Se_goToNextFile_16 (by decide) ?_
    refine lv_iadd (pc := 17) hx hb d_Se_goToNextFile_17 ?_
    exact j_Se_goToNextFile_18 X hr hlk hsz V (lv_sub hl [0] rfl) h
  · have h := h.2 hc
    refine lv_iconst (pc := 8) (v := 0) hx hb d_Se_goToNextFile_8 (by decide) ?_
    refine lv_goto (pc := 9) (tgt := 18) hx hb d_Se_goToNextFile_9 (by decide) ?_
    exact j_Se_goToNextFile_18 X hr hlk hsz V (lv_sub hl [0] rfl) h
-- FrameFerry$Sender.goToPlace (I)V
theorem d_Se_goToPlace_0 : decode prog_6_method_14_code 0 = .ok (.aload_n 0, 1) := by decide +kernel
theorem d_Se_goToPlace_1 : decode prog_6_method_14_code 1 = .ok (.aload_n 0, 1) := by decide +kernel
theorem d_Se_goToPlace_2 : decode prog_6_method_14_code 2 = .ok (.getfield 58, 3) := by decide +kernel
theorem d_Se_goToPlace_5 : decode prog_6_method_14_code 5 = .ok (.invokevirtual 92, 3) := by decide +kernel
theorem d_Se_goToPlace_8 : decode prog_6_method_14_code 8 = .ok (.astore_n 2, 1) := by decide +kernel
theorem d_Se_goToPlace_9 : decode prog_6_method_14_code 9 = .ok (.aload_n 0, 1) := by decide +kernel
theorem d_Se_goToPlace_10 : decode prog_6_method_14_code 10 = .ok (.invokevirtual 113, 3) := by decide +kernel
theorem d_Se_goToPlace_13 : decode prog_6_method_14_code 13 = .ok (.ifCond .eq 34, 3) := by decide +kernel
theorem d_Se_goToPlace_16 : decode prog_6_method_14_code 16 = .ok (.aload_n 2, 1) := by decide +kernel
theorem d_Se_goToPlace_17 : decode prog_6_method_14_code 17 = .ok (.ifnull 30, 3) := by decide +kernel
theorem d_Se_goToPlace_20 : decode prog_6_method_14_code 20 = .ok (.iload_n 1, 1) := by decide +kernel
theorem d_Se_goToPlace_21 : decode prog_6_method_14_code 21 = .ok (.ifCond .lt 26, 3) := by decide +kernel
theorem d_Se_goToPlace_24 : decode prog_6_method_14_code 24 = .ok (.iload_n 1, 1) := by decide +kernel
theorem d_Se_goToPlace_25 : decode prog_6_method_14_code 25 = .ok (.aload_n 2, 1) := by decide +kernel
theorem d_Se_goToPlace_26 : decode prog_6_method_14_code 26 = .ok (.getfield 52, 3) := by decide +kernel
theorem d_Se_goToPlace_29 : decode prog_6_method_14_code 29 = .ok (.if_icmp .gt 18, 3) := by decide +kernel
theorem d_Se_goToPlace_32 : decode prog_6_method_14_code 32 = .ok (.aload_n 0, 1) := by decide +kernel
theorem d_Se_goToPlace_33 : decode prog_6_method_14_code 33 = .ok (.iconst 2, 1) := by decide +kernel
theorem d_Se_goToPlace_34 : decode prog_6_method_14_code 34 = .ok (.putfield 18, 3) := by decide +kernel
theorem d_Se_goToPlace_37 : decode prog_6_method_14_code 37 = .ok (.aload_n 0, 1) := by decide +kernel
theorem d_Se_goToPlace_38 : decode prog_6_method_14_code 38 = .ok (.iload_n 1, 1) := by decide +kernel
theorem d_Se_goToPlace_39 : decode prog_6_method_14_code 39 = .ok (.putfield 55, 3) := by decide +kernel
theorem d_Se_goToPlace_42 : decode prog_6_method_14_code 42 = .ok (.aload_n 0, 1) := by decide +kernel
theorem d_Se_goToPlace_43 : decode prog_6_method_14_code 43 = .ok (.iconst 1, 1) := by decide +kernel
theorem d_Se_goToPlace_44 : decode prog_6_method_14_code 44 = .ok (.putfield 86, 3) := by decide +kernel
theorem d_Se_goToPlace_47 : decode prog_6_method_14_code 47 = .ok (.return_, 1) := by decide +kernel
def rm_Se_goToPlace : Room := { frames := 1, cells := 0, slots := 0, locals := 21 }
def wp_Se_goToPlace (L : List Nat) (I : UI) (R : UR) (x1 : Int32) (Q : UI → UR → Prop) : Prop :=
  wp_Se_fileAt L I R (I 2 7) (fun z3 I1 R2 => wp_Se_hasFileAtHand L I1 R2 (fun r6 I4 R5 => ((r6 = 0 → Q I4 R5) ∧ (¬ r6 = 0 → ((z3 = none → Q I4 R5) ∧ (∀ i7 : Nat, z3 = some i7 → ((x1 < 0 → Q I4 R5) ∧ (¬ x1 < 0 → isSf L i7 ∧ ((I4 i7 2 < x1 → Q I4 R5) ∧ (¬ I4 i7 2 < x1 → ∀ I8 : UI, I8 = u2 I4 2 2 2 → ∀ I9 : UI, I9 = u2 I8 2 3 x1 → zb 1 ∧ ∀ I10 : UI, I10 = u2 I9 2 10 1 → Q I10 R5))))))))))
set_option maxHeartbeats 4000000 in
set_option maxRecDepth 100000 in
theorem c_Se_goToPlace (l : Launch) (D : va_G) (cc : Nat → ClassId) (L : List Nat) (A : Nat → Nat) (J : Nat → Int64) (t16 t32 : Nat) (I : UI) (R : UR) (x1 : Int32) (Q : UI → UR → Prop) (h : wp_Se_goToPlace L I R x1 Q) : uMv l y_Se_goToPlace (.code y_Se_goToPlace prog_6_method_14_code 3 none) rm_Se_goToPlace [.ref (A 2), .int x1] D cc L A J t16 t32 I R Q := by
  intro sz
  refine u_entry (by decide) (Nat.le_of_ble_eq_true rfl) (fun p e s m args below meth c hsz X V hr hlk ls hl => ?_)
  have X : uX p s m args c prog_6_method_14_code 3 "FrameFerry$Sender" D cc L A t16 t32 := X
  have hx := X.1
  have hb := X.2.1
  have hl : lv_has ls 3 [(0, .ref (A 2)), (1, .int x1)] := hl
  unfold wp_Se_goToPlace at h
  generalize hH : s.heap = H at V ⊢
  generalize hlo : ([] : List Loc) = locs at V ⊢
  refine lv_aload_n (pc := 0) hx hb d_Se_goToPlace_0 rfl (lv_at hl 0 rfl) ?_
  refine lv_aload_n (pc := 1) hx hb d_Se_goToPlace_1 rfl (lv_at hl 0 rfl) ?_
  refine u_geti (pc := 2) X V (X.fix rfl) rfl rfl f_Se_58 rfl d_Se_goToPlace_2 ?_
  refine u_cVr (pc := 5) (As := [.int (I 2 7)]) X V s_Se_92 (X.fix rfl) rfl rfl rfl (c_Se_fileAt l D cc L A J t16 t32 _ _ (I 2 7) _ h) ⟨rfl, rfl, Nat.le_of_ble_eq_true rfl, Nat.le_of_ble_eq_true rfl⟩ rfl hl.1 rfl (Nat.le_of_ble_eq_true rfl) d_Se_goToPlace_5 ⟨Nat.zero_le _, Nat.zero_le _⟩ (fun z3 I1 R2 h H locs V => ?_)
  refine u_astore_n (pc := 8) (lv' := [(2, va_rf (Option.map A z3)), (0, .ref (A 2)), (1, .int x1)]) hx hb d_Se_goToPlace_8 rfl hl (by decide) rfl (fun ls hl => ?_)
  refine lv_aload_n (pc := 9) hx hb d_Se_goToPlace_9 rfl (lv_at hl 1 rfl) ?_
  refine u_cVi (pc := 10) (As := []) X V s_Se_113 (X.fix rfl) rfl rfl rfl (c_Se_hasFileAtHand l D cc L A J t16 t32 _ _  _ h) ⟨rfl, rfl, Nat.le_of_ble_eq_true rfl, Nat.le_of_ble_eq_true rfl⟩ rfl hl.1 rfl (Nat.le_of_ble_eq_true rfl) d_Se_goToPlace_10 ⟨Nat.zero_le _, Nat.zero_le _⟩ (fun r6 I4 R5 h H locs V => ?_)
  refine lv_if_eq (pc := 13) (tgt := 47) hx hb d_Se_goToPlace_13 (by decide) (fun hc => ?_) (fun hc => ?_)
  · have h := h.1 hc
    exact u_retv (pc := 47) X V hr hlk hsz h d_Se_goToPlace_47
  · have h := h.2 hc
    refine u_aload_n (pc := 16) hx hb d_Se_goToPlace_16 rfl (lv_at hl 0 rfl) ?_
    rcases z3 with _ | i7
    · have h := h.1 rfl
      refine lv_ifnullN (pc := 17) (tgt := 47) hx hb d_Se_goToPlace_17 (by decide) ?_
      exact u_retv (pc := 47) X V hr hlk hsz h d_Se_goToPlace_47
    · have h := h.2 i7 rfl
      refine lv_ifnull (pc := 17) hx hb d_Se_goToPlace_17 ?_
      refine lv_iload_n (pc := 20) hx hb d_Se_goToPlace_20 rfl (lv_at hl 2 rfl) ?_
      refine lv_if_lt (pc := 21) (tgt := 47) hx hb d_Se_goToPlace_21 (by decide) (fun hc => ?_) (fun hc => ?_)
      · have h := h.1 hc
        exact u_retv (pc := 47) X V hr hlk hsz h d_Se_goToPlace_47
      · have h := h.2 hc
        refine lv_iload_n (pc := 24) hx hb d_Se_goToPlace_24 rfl (lv_at hl 2 rfl) ?_
        refine lv_aload_n (pc := 25) hx hb d_Se_goToPlace_25 rfl (lv_at hl 0 rfl) ?_
        have h_i7 := h.1
        have h := h.2
        refine u_geti (pc := 26) X V h_i7.1 h_i7.2.1 rfl f_Se_52 rfl d_Se_goToPlace_26 ?_
        refine lv_icmp_gt (pc := 29) (tgt := 47) hx hb d_Se_goToPlace_29 (by decide) (fun hc => ?_) (fun hc => ?_)
        · have h := h.1 hc
          exact u_retv (pc := 47) X V hr hlk hsz h d_Se_goToPlace_47
        · have h := h.2 hc
          refine lv_aload_n (pc := 32) hx hb d_Se_goToPlace_32 rfl (lv_at hl 1 rfl) ?_
          refine lv_iconst (pc := 33) (v := 2) hx hb d_Se_goToPlace_33 (by decide) ?_
          refine u_puti (pc := 34) X V (X.fix rfl) rfl rfl f_Se_18 rfl d_Se_goToPlace_34 (fun I8 eI8 H locs V => ?_)
          have h := h I8 eI8
          refine lv_aload_n (pc := 37) hx hb d_Se_goToPlace_37 rfl (lv_at hl 1 rfl) ?_
          refine lv_iload_n (pc := 38) hx hb d_Se_goToPlace_38 rfl (lv_at hl 2 rfl) ?_
          refine u_puti (pc := 39) X V (X.fix rfl) rfl rfl f_Se_55 rfl d_Se_goToPlace_39 (fun I9 eI9 H locs V => ?_)
          have h := h I9 eI9
          refine lv_aload_n (pc := 42) hx hb d_Se_goToPlace_42 rfl (lv_at hl 1 rfl) ?_
          refine lv_iconst (pc := 43) (v := 1) hx hb d_Se_goToPlace_43 (by decide) ?_
          refine u_putz (pc := 44) X V (X.fix rfl) rfl rfl f_Se_86 rfl h.1 d_Se_goToPlace_44 (fun I10 eI10 H locs V => ?_)
          have h := h.2 I10 eI10
          exact u_retv (pc := 47) X V hr hlk hsz h d_Se_goToPlace_47
-- FrameFerry$Sender.leave ()V
theorem d_Se_leave_0 : decode prog_6_method_15_code 0 = .ok (.aload_n 0, 1) := by decide +kernel
theorem d_Se_leave_1 : decode prog_6_method_15_code 1 = .ok (.getfield 18, 3) := by decide +kernel
theorem d_Se_leave_4 : decode prog_6_method_15_code 4 = .ok (.iconst 4, 1) := by decide +kernel
theorem d_Se_leave_5 : decode prog_6_method_15_code 5 = .ok (.if_icmp .ne 26, 3) := by decide +kernel
theorem d_Se_leave_8 : decode prog_6_method_15_code 8 = .ok (.aload_n 0, 1) := by decide +kernel
theorem d_Se_leave_9 : decode prog_6_method_15_code 9 = .ok (.getfield 12, 3) := by decide +kernel
theorem d_Se_leave_12 : decode prog_6_method_15_code 12 = .ok (.bipush 79, 2) := by decide +kernel
theorem d_Se_leave_14 : decode prog_6_method_15_code 14 = .ok (.invokevirtual 124, 3) := by decide +kernel
theorem d_Se_leave_17 : decode prog_6_method_15_code 17 = .ok (.aload_n 0, 1) := by decide +kernel
theorem d_Se_leave_18 : decode prog_6_method_15_code 18 = .ok (.getfield 12, 3) := by decide +kernel
theorem d_Se_leave_21 : decode prog_6_method_15_code 21 = .ok (.bipush 79, 2) := by decide +kernel
theorem d_Se_leave_23 : decode prog_6_method_15_code 23 = .ok (.invokevirtual 124, 3) := by decide +kernel
theorem d_Se_leave_26 : decode prog_6_method_15_code 26 = .ok (.aload_n 0, 1) := by decide +kernel
theorem d_Se_leave_27 : decode prog_6_method_15_code 27 = .ok (.iconst 5, 1) := by decide +kernel
theorem d_Se_leave_28 : decode prog_6_method_15_code 28 = .ok (.putfield 18, 3) := by decide +kernel
theorem d_Se_leave_31 : decode prog_6_method_15_code 31 = .ok (.return_, 1) := by decide +kernel
def rm_Se_leave : Room := { frames := 1, cells := 0, slots := 0, locals := 21 }
def wp_Se_leave (L : List Nat) (I : UI) (R : UR) (Q : UI → UR → Prop) : Prop :=
  ((¬ I 2 2 = 4 → Q I R) ∧ (I 2 2 = 4 → wp_Pi_add I R 4 79 (fun I1 R2 => wp_Pi_add I1 R2 4 79 (fun I3 R4 => ∀ I5 : UI, I5 = u2 I3 2 2 5 → Q I5 R4))))
set_option maxHeartbeats 4000000 in
set_option maxRecDepth 100000 in
theorem c_Se_leave (l : Launch) (D : va_G) (cc : Nat → ClassId) (L : List Nat) (A : Nat → Nat) (J : Nat → Int64) (t16 t32 : Nat) (I : UI) (R : UR) (Q : UI → UR → Prop) (h : wp_Se_leave L I R Q) : uMv l y_Se_leave (.code y_Se_leave prog_6_method_15_code 1 none) rm_Se_leave [.ref (A 2)] D cc L A J t16 t32 I R Q := by
  intro sz
  refine u_entry (by decide) (Nat.le_of_ble_eq_true rfl) (fun p e s m args below meth c hsz X V hr hlk ls hl => ?_)
  have X : uX p s m args c prog_6_method_15_code 1 "FrameFerry$Sender" D cc L A t16 t32 := X
  have hx := X.1
  have hb := X.2.1
  have hl : lv_has ls 1 [(0, .ref (A 2))] := hl
  unfold wp_Se_leave at h
  generalize hH : s.heap = H at V ⊢
  generalize hlo : ([] : List Loc) = locs at V ⊢
  refine lv_aload_n (pc := 0) hx hb d_Se_leave_0 rfl (lv_at hl 0 rfl) ?_
  refine u_geti (pc := 1) X V (X.fix rfl) rfl rfl f_Se_18 rfl d_Se_leave_1 ?_
  refine lv_iconst (pc := 4) (v := 4) hx hb d_Se_leave_4 (by decide) ?_
  refine lv_icmp_ne (pc := 5) (tgt := 31) hx hb d_Se_leave_5 (by decide) (fun hc => ?_) (fun hc => ?_)
  · have h := h.1 hc
    exact u_retv (pc := 31) X V hr hlk hsz h d_Se_leave_31
  · have h := h.2 hc
    refine lv_aload_n (pc := 8) hx hb d_Se_leave_8 rfl (lv_at hl 0 rfl) ?_
    refine u_getr (pc := 9) (o' := 4) X V (X.fix rfl) rfl rfl f_Se_12 rfl rfl d_Se_leave_9 ?_
    refine lv_bipush (pc := 12) (v := 79) hx hb d_Se_leave_12 (by decide) ?_
    refine u_cVv (pc := 14) (As := [.int 79]) X V s_Se_124 (X.fix rfl) rfl rfl rfl (c_Pi_add l D cc L A J t16 t32 _ _ 4 ⟨(X.fix rfl), rfl, (X.fix rfl), rfl⟩ 79 _ h) ⟨rfl, rfl, Nat.le_of_ble_eq_true rfl, Nat.le_of_ble_eq_true rfl⟩ rfl hl.1 rfl (Nat.le_of_ble_eq_true rfl) d_Se_leave_14 ⟨Nat.zero_le _, Nat.zero_le _⟩ (fun I1 R2 h H locs V => ?_)
    refine lv_aload_n (pc := 17) hx hb d_Se_leave_17 rfl (lv_at hl 0 rfl) ?_
    refine u_getr (pc := 18) (o' := 4) X V (X.fix rfl) rfl rfl f_Se_12 rfl rfl d_Se_leave_18 ?_
    refine lv_bipush (pc := 21) (v := 79) hx hb d_Se_leave_21 (by decide) ?_
    refine u_cVv (pc := 23) (As := [.int 79]) X V s_Se_124 (X.fix rfl) rfl rfl rfl (c_Pi_add l D cc L A J t16 t32 _ _ 4 ⟨(X.fix rfl), rfl, (X.fix rfl), rfl⟩ 79 _ h) ⟨rfl, rfl, Nat.le_of_ble_eq_true rfl, Nat.le_of_ble_eq_true rfl⟩ rfl hl.1 rfl (Nat.le_of_ble_eq_true rfl) d_Se_leave_23 ⟨Nat.zero_le _, Nat.zero_le _⟩ (fun I3 R4 h H locs V => ?_)
    refine lv_aload_n (pc := 26) hx hb d_Se_leave_26 rfl (lv_at hl 0 rfl) ?_
    refine lv_iconst (pc := 27) (v := 5) hx hb d_Se_leave_27 (by decide) ?_
    refine u_puti (pc := 28) X V (X.fix rfl) rfl rfl f_Se_18 rfl d_Se_leave_28 (fun I5 eI5 H locs V => ?_)
    have h := h I5 eI5
    exact u_retv (pc := 31) X V hr hlk hsz h d_Se_leave_31
-- FrameFerry$Sender.sendForState ()V
theorem d_Se_sendForState_0 : decode prog_6_method_16_code 0 = .ok (.aload_n 0, 1) := by decide +kernel
theorem d_Se_sendForState_1 : decode prog_6_method_16_code 1 = .ok (.aload_n 0, 1) := by decide +kernel
theorem d_Se_sendForState_2 : decode prog_6_method_16_code 2 = .ok (.getfield 58, 3) := by decide +kernel
theorem d_Se_sendForState_5 : decode prog_6_method_16_code 5 = .ok (.invokevirtual 92, 3) := by decide +kernel
theorem d_Se_sendForState_8 : decode prog_6_method_16_code 8 = .ok (.astore_n 1, 1) := by decide +kernel
theorem d_Se_sendForState_9 : decode prog_6_method_16_code 9 = .ok (.aload_n 0, 1) := by decide +kernel
theorem d_Se_sendForState_10 : decode prog_6_method_16_code 10 = .ok (.getfield 18, 3) := by decide +kernel
theorem d_Se_sendForState_13 : decode prog_6_method_16_code 13 = .ok (.ifCond .ne 19, 3) := by decide +kernel
theorem d_Se_sendForState_16 : decode prog_6_method_16_code 16 = .ok (.aload_n 0, 1) := by decide +kernel
theorem d_Se_sendForState_17 : decode prog_6_method_16_code 17 = .ok (.getfield 25, 3) := by decide +kernel
theorem d_Se_sendForState_20 : decode prog_6_method_16_code 20 = .ok (.aload_n 0, 1) := by decide +kernel
theorem d_Se_sendForState_21 : decode prog_6_method_16_code 21 = .ok (.getfield 12, 3) := by decide +kernel
theorem d_Se_sendForState_24 : decode prog_6_method_16_code 24 = .ok (.iconst 0, 1) := by decide +kernel
theorem d_Se_sendForState_25 : decode prog_6_method_16_code 25 = .ok (.iconst 0, 1) := by decide +kernel
theorem d_Se_sendForState_26 : decode prog_6_method_16_code 26 = .ok (.invokevirtual 127, 3) := by decide +kernel
theorem d_Se_sendForState_29 : decode prog_6_method_16_code 29 = .ok (.goto 168, 3) := by decide +kernel
theorem d_Se_sendForState_32 : decode prog_6_method_16_code 32 = .ok (.aload_n 0, 1) := by decide +kernel
theorem d_Se_sendForState_33 : decode prog_6_method_16_code 33 = .ok (.getfield 18, 3) := by decide +kernel
theorem d_Se_sendForState_36 : decode prog_6_method_16_code 36 = .ok (.iconst 4, 1) := by decide +kernel
theorem d_Se_sendForState_37 : decode prog_6_method_16_code 37 = .ok (.if_icmp .ne 20, 3) := by decide +kernel
theorem d_Se_sendForState_40 : decode prog_6_method_16_code 40 = .ok (.aload_n 0, 1) := by decide +kernel
theorem d_Se_sendForState_41 : decode prog_6_method_16_code 41 = .ok (.getfield 25, 3) := by decide +kernel
theorem d_Se_sendForState_44 : decode prog_6_method_16_code 44 = .ok (.aload_n 0, 1) := by decide +kernel
theorem d_Se_sendForState_45 : decode prog_6_method_16_code 45 = .ok (.getfield 12, 3) := by decide +kernel
theorem d_Se_sendForState_48 : decode prog_6_method_16_code 48 = .ok (.bipush 8, 2) := by decide +kernel
theorem d_Se_sendForState_50 : decode prog_6_method_16_code 50 = .ok (.iconst 0, 1) := by decide +kernel
theorem d_Se_sendForState_51 : decode prog_6_method_16_code 51 = .ok (.invokevirtual 127, 3) := by decide +kernel
theorem d_Se_sendForState_54 : decode prog_6_method_16_code 54 = .ok (.goto 143, 3) := by decide +kernel
theorem d_Se_sendForState_57 : decode prog_6_method_16_code 57 = .ok (.aload_n 0, 1) := by decide +kernel
theorem d_Se_sendForState_58 : decode prog_6_method_16_code 58 = .ok (.getfield 18, 3) := by decide +kernel
theorem d_Se_sendForState_61 : decode prog_6_method_16_code 61 = .ok (.iconst 1, 1) := by decide +kernel
theorem d_Se_sendForState_62 : decode prog_6_method_16_code 62 = .ok (.if_icmp .ne 102, 3) := by decide +kernel
theorem d_Se_sendForState_65 : decode prog_6_method_16_code 65 = .ok (.aload_n 1, 1) := by decide +kernel
theorem d_Se_sendForState_66 : decode prog_6_method_16_code 66 = .ok (.ifnull 98, 3) := by decide +kernel
theorem d_Se_sendForState_69 : decode prog_6_method_16_code 69 = .ok (.aload_n 0, 1) := by decide +kernel
theorem d_Se_sendForState_70 : decode prog_6_method_16_code 70 = .ok (.getfield 25, 3) := by decide +kernel
theorem d_Se_sendForState_73 : decode prog_6_method_16_code 73 = .ok (.aload_n 0, 1) := by decide +kernel
theorem d_Se_sendForState_74 : decode prog_6_method_16_code 74 = .ok (.getfield 12, 3) := by decide +kernel
theorem d_Se_sendForState_77 : decode prog_6_method_16_code 77 = .ok (.iconst 4, 1) := by decide +kernel
theorem d_Se_sendForState_78 : decode prog_6_method_16_code 78 = .ok (.iconst 0, 1) := by decide +kernel
theorem d_Se_sendForState_79 : decode prog_6_method_16_code 79 = .ok (.aload_n 0, 1) := by decide +kernel
theorem d_Se_sendForState_80 : decode prog_6_method_16_code 80 = .ok (.getfield 65, 3) := by decide +kernel
theorem d_Se_sendForState_83 : decode prog_6_method_16_code 83 = .ok (.invokevirtual 96, 3) := by decide +kernel
theorem d_Se_sendForState_86 : decode prog_6_method_16_code 86 = .ok (.aload_n 0, 1) := by decide +kernel
theorem d_Se_sendForState_87 : decode prog_6_method_16_code 87 = .ok (.getfield 25, 3) := by decide +kernel
theorem d_Se_sendForState_90 : decode prog_6_method_16_code 90 = .ok (.invokevirtual 131, 3) := by decide +kernel
theorem d_Se_sendForState_93 : decode prog_6_method_16_code 93 = .ok (.aload_n 0, 1) := by decide +kernel
theorem d_Se_sendForState_94 : decode prog_6_method_16_code 94 = .ok (.getfield 25, 3) := by decide +kernel
theorem d_Se_sendForState_97 : decode prog_6_method_16_code 97 = .ok (.aload_n 0, 1) := by decide +kernel
theorem d_Se_sendForState_98 : decode prog_6_method_16_code 98 = .ok (.getfield 12, 3) := by decide +kernel
theorem d_Se_sendForState_101 : decode prog_6_method_16_code 101 = .ok (.bipush 97, 2) := by decide +kernel
theorem d_Se_sendForState_103 : decode prog_6_method_16_code 103 = .ok (.aload_n 1, 1) := by decide +kernel
theorem d_Se_sendForState_104 : decode prog_6_method_16_code 104 = .ok (.getfield 48, 3) := by decide +kernel
theorem d_Se_sendForState_107 : decode prog_6_method_16_code 107 = .ok (.iadd, 1) := by decide +kernel
theorem d_Se_sendForState_108 : decode prog_6_method_16_code 108 = .ok (.invokevirtual 134, 3) := by decide +kernel
theorem d_Se_sendForState_111 : decode prog_6_method_16_code 111 = .ok (.aload_n 0, 1) := by decide +kernel
theorem d_Se_sendForState_112 : decode prog_6_method_16_code 112 = .ok (.getfield 25, 3) := by decide +kernel
theorem d_Se_sendForState_115 : decode prog_6_method_16_code 115 = .ok (.aload_n 0, 1) := by decide +kernel
theorem d_Se_sendForState_116 : decode prog_6_method_16_code 116 = .ok (.getfield 12, 3) := by decide +kernel
theorem d_Se_sendForState_119 : decode prog_6_method_16_code 119 = .ok (.aload_n 1, 1) := by decide +kernel
theorem d_Se_sendForState_120 : decode prog_6_method_16_code 120 = .ok (.getfield 52, 3) := by decide +kernel
theorem d_Se_sendForState_123 : decode prog_6_method_16_code 123 = .ok (.bipush 8, 2) := by decide +kernel
theorem d_Se_sendForState_125 : decode prog_6_method_16_code 125 = .ok (.iushr, 1) := by decide +kernel
theorem d_Se_sendForState_126 : decode prog_6_method_16_code 126 = .ok (.invokevirtual 134, 3) := by decide +kernel
theorem d_Se_sendForState_129 : decode prog_6_method_16_code 129 = .ok (.aload_n 0, 1) := by decide +kernel
theorem d_Se_sendForState_130 : decode prog_6_method_16_code 130 = .ok (.getfield 25, 3) := by decide +kernel
theorem d_Se_sendForState_133 : decode prog_6_method_16_code 133 = .ok (.aload_n 0, 1) := by decide +kernel
theorem d_Se_sendForState_134 : decode prog_6_method_16_code 134 = .ok (.getfield 12, 3) := by decide +kernel
theorem d_Se_sendForState_137 : decode prog_6_method_16_code 137 = .ok (.aload_n 1, 1) := by decide +kernel
theorem d_Se_sendForState_138 : decode prog_6_method_16_code 138 = .ok (.getfield 52, 3) := by decide +kernel
theorem d_Se_sendForState_141 : decode prog_6_method_16_code 141 = .ok (.sipush 255, 3) := by decide +kernel
theorem d_Se_sendForState_144 : decode prog_6_method_16_code 144 = .ok (.iand, 1) := by decide +kernel
theorem d_Se_sendForState_145 : decode prog_6_method_16_code 145 = .ok (.invokevirtual 134, 3) := by decide +kernel
theorem d_Se_sendForState_148 : decode prog_6_method_16_code 148 = .ok (.aload_n 0, 1) := by decide +kernel
theorem d_Se_sendForState_149 : decode prog_6_method_16_code 149 = .ok (.getfield 25, 3) := by decide +kernel
theorem d_Se_sendForState_152 : decode prog_6_method_16_code 152 = .ok (.aload_n 0, 1) := by decide +kernel
theorem d_Se_sendForState_153 : decode prog_6_method_16_code 153 = .ok (.getfield 12, 3) := by decide +kernel
theorem d_Se_sendForState_156 : decode prog_6_method_16_code 156 = .ok (.bipush 107, 2) := by decide +kernel
theorem d_Se_sendForState_158 : decode prog_6_method_16_code 158 = .ok (.invokevirtual 138, 3) := by decide +kernel
theorem d_Se_sendForState_161 : decode prog_6_method_16_code 161 = .ok (.goto 36, 3) := by decide +kernel
theorem d_Se_sendForState_164 : decode prog_6_method_16_code 164 = .ok (.aload_n 0, 1) := by decide +kernel
theorem d_Se_sendForState_165 : decode prog_6_method_16_code 165 = .ok (.getfield 18, 3) := by decide +kernel
theorem d_Se_sendForState_168 : decode prog_6_method_16_code 168 = .ok (.iconst 3, 1) := by decide +kernel
theorem d_Se_sendForState_169 : decode prog_6_method_16_code 169 = .ok (.if_icmp .ne 28, 3) := by decide +kernel
theorem d_Se_sendForState_172 : decode prog_6_method_16_code 172 = .ok (.aload_n 1, 1) := by decide +kernel
theorem d_Se_sendForState_173 : decode prog_6_method_16_code 173 = .ok (.ifnull 24, 3) := by decide +kernel
theorem d_Se_sendForState_176 : decode prog_6_method_16_code 176 = .ok (.aload_n 0, 1) := by decide +kernel
theorem d_Se_sendForState_177 : decode prog_6_method_16_code 177 = .ok (.getfield 25, 3) := by decide +kernel
theorem d_Se_sendForState_180 : decode prog_6_method_16_code 180 = .ok (.aload_n 0, 1) := by decide +kernel
theorem d_Se_sendForState_181 : decode prog_6_method_16_code 181 = .ok (.getfield 12, 3) := by decide +kernel
theorem d_Se_sendForState_184 : decode prog_6_method_16_code 184 = .ok (.bipush 11, 2) := by decide +kernel
theorem d_Se_sendForState_186 : decode prog_6_method_16_code 186 = .ok (.aload_n 1, 1) := by decide +kernel
theorem d_Se_sendForState_187 : decode prog_6_method_16_code 187 = .ok (.getfield 52, 3) := by decide +kernel
theorem d_Se_sendForState_190 : decode prog_6_method_16_code 190 = .ok (.aload_n 0, 1) := by decide +kernel
theorem d_Se_sendForState_191 : decode prog_6_method_16_code 191 = .ok (.getfield 65, 3) := by decide +kernel
theorem d_Se_sendForState_194 : decode prog_6_method_16_code 194 = .ok (.invokevirtual 96, 3) := by decide +kernel
theorem d_Se_sendForState_197 : decode prog_6_method_16_code 197 = .ok (.return_, 1) := by decide +kernel
def rm_Se_sendForState : Room := { frames := 3, cells := 0, slots := 0, locals := 68 }
def wp_Se_sendForState_L164 (L : List Nat) (Q : UI → UR → Prop) (I : UI) (R : UR) (z1 : Option Nat) : Prop :=
  ((¬ I 2 2 = 3 → Q I R) ∧ (I 2 2 = 3 → ((z1 = none → Q I R) ∧ (∀ i4 : Nat, z1 = some i4 → isSf L i4 ∧ wp_Wr_bytesHeader I R 8 4 11 (I i4 2) (I 2 9) (fun I5 R6 => Q I5 R6)))))
set_option maxHeartbeats 4000000 in
set_option maxRecDepth 100000 in
theorem j_Se_sendForState_164 (X : uX p s m args c prog_6_method_16_code 2 "FrameFerry$Sender" D cc L A t16 t32) (hr : meth.sig.returnType = none) (hlk : meth.locks = false) (hsz : sz = s.heap.size) {Q : UI → UR → Prop} {I : UI} {R : UR} {z1 : Option Nat} {H : Heap} {locs : List Loc} {ls : Array Slot} (V : uV s D cc L A J I R H locs) (hl : lv_has ls 2 [(0, .ref (A 2)), (1, va_rf (Option.map A z1))]) (h : wp_Se_sendForState_L164 L Q I R z1) : W p l e rm_Se_sendForState s m args below meth c H locs 0 0 (MQ below (va_Qv (fun u : UI × UR => Q u.1 u.2) (uBv D cc L A J) (uA L A sz)) args s 0 0 (uA L A sz)) (F0 m 164 ls []) := by
  have hx := X.1
  have hb := X.2.1
  unfold wp_Se_sendForState_L164 at h
  refine lv_aload_n (pc := 164) hx hb d_Se_sendForState_164 rfl (lv_at hl 0 rfl) ?_
  refine u_geti (pc := 165) X V (X.fix rfl) rfl rfl f_Se_18 rfl d_Se_sendForState_165 ?_
  refine lv_iconst (pc := 168) (v := 3) hx hb d_Se_sendForState_168 (by decide) ?_
  refine lv_icmp_ne (pc := 169) (tgt := 197) hx hb d_Se_sendForState_169 (by decide) (fun hc => ?_) (fun hc => ?_)
  · have h := h.1 hc
    exact u_retv (pc := 197) X V hr hlk hsz h d_Se_sendForState_197
  · have h := h.2 hc
    refine u_aload_n (pc := 172) hx hb d_Se_sendForState_172 rfl (lv_at hl 1 rfl) ?_
    rcases z1 with _ | i4
    · have h := h.1 rfl
      refine lv_ifnullN (pc := 173) (tgt := 197) hx hb d_Se_sendForState_173 (by decide) ?_
      exact u_retv (pc := 197) X V hr hlk hsz h d_Se_sendForState_197
    · have h := h.2 i4 rfl
      refine lv_ifnull (pc := 173) hx hb d_Se_sendForState_173 ?_
      refine lv_aload_n (pc := 176) hx hb d_Se_sendForState_176 rfl (lv_at hl 0 rfl) ?_
      refine u_getr (pc := 177) (o' := 8) X V (X.fix rfl) rfl rfl f_Se_25 rfl rfl d_Se_sendForState_177 ?_
      refine lv_aload_n (pc := 180) hx hb d_Se_sendForState_180 rfl (lv_at hl 0 rfl) ?_
      refine u_getr (pc := 181) (o' := 4) X V (X.fix rfl) rfl rfl f_Se_12 rfl rfl d_Se_sendForState_181 ?_
      refine lv_bipush (pc := 184) (v := 11) hx hb d_Se_sendForState_184 (by decide) ?_
      refine lv_aload_n (pc := 186) hx hb d_Se_sendForState_186 rfl (lv_at hl 1 rfl) ?_
      have h_i4 := h.1
      have h := h.2
      refine u_geti (pc := 187) X V h_i4.1 h_i4.2.1 rfl f_Se_52 rfl d_Se_sendForState_187 ?_
      refine lv_aload_n (pc := 190) hx hb d_Se_sendForState_190 rfl (lv_at hl 0 rfl) ?_
      refine u_geti (pc := 191) X V (X.fix rfl) rfl rfl f_Se_65 rfl d_Se_sendForState_191 ?_
      refine u_cVv (pc := 194) (As := [.ref (A 4), .int 11, .int (I i4 2), .int (I 2 9)]) X V s_Se_96 (X.fix rfl) rfl rfl rfl (c_Wr_bytesHeader l D cc L A J t16 t32 _ _ 8 ⟨(X.fix rfl), rfl, (X.fix rfl), rfl⟩ 4 ⟨(X.fix rfl), rfl, (X.fix rfl), rfl⟩ 11 (I i4 2) (I 2 9) _ h) ⟨rfl, rfl, Nat.le_of_ble_eq_true rfl, Nat.le_of_ble_eq_true rfl⟩ rfl hl.1 rfl (Nat.le_of_ble_eq_true rfl) d_Se_sendForState_194 ⟨Nat.zero_le _, Nat.zero_le _⟩ (fun I5 R6 h H locs V => ?_)
      exact u_retv (pc := 197) X V hr hlk hsz h d_Se_sendForState_197
def wp_Se_sendForState (L : List Nat) (I : UI) (R : UR) (Q : UI → UR → Prop) : Prop :=
  wp_Se_fileAt L I R (I 2 7) (fun z3 I1 R2 => ((¬ I1 2 2 = 0 → ((¬ I1 2 2 = 4 → ((¬ I1 2 2 = 1 → wp_Se_sendForState_L164 L Q I1 R2 z3) ∧ (I1 2 2 = 1 → ((z3 = none → wp_Se_sendForState_L164 L Q I1 R2 none) ∧ (∀ i7 : Nat, z3 = some i7 → wp_Wr_bytesHeader I1 R2 8 4 4 0 (I1 2 9) (fun I8 R9 => wp_Wr_beginPacket I8 R9 8 (fun I10 R11 => isSf L i7 ∧ wp_Wr_packetByte I10 R11 8 4 (97 + (I10 i7 1)) (fun I12 R13 => wp_Wr_packetByte I12 R13 8 4 (ush (I12 i7 2) 8) (fun I14 R15 => wp_Wr_packetByte I14 R15 8 4 ((I14 i7 2) &&& 255) (fun I16 R17 => wp_Wr_endPacket I16 R17 8 4 107 (fun I18 R19 => Q I18 R19))))))))))) ∧ (I1 2 2 = 4 → wp_Wr_hexHeader I1 R2 8 4 8 0 (fun I20 R21 => Q I20 R21)))) ∧ (I1 2 2 = 0 → wp_Wr_hexHeader I1 R2 8 4 0 0 (fun I22 R23 => Q I22 R23))))
set_option maxHeartbeats 4000000 in
set_option maxRecDepth 100000 in
theorem c_Se_sendForState (l : Launch) (D : va_G) (cc : Nat → ClassId) (L : List Nat) (A : Nat → Nat) (J : Nat → Int64) (t16 t32 : Nat) (I : UI) (R : UR) (Q : UI → UR → Prop) (h : wp_Se_sendForState L I R Q) : uMv l y_Se_sendForState (.code y_Se_sendForState prog_6_method_16_code 2 none) rm_Se_sendForState [.ref (A 2)] D cc L A J t16 t32 I R Q := by
  intro sz
  refine u_entry (by decide) (Nat.le_of_ble_eq_true rfl) (fun p e s m args below meth c hsz X V hr hlk ls hl => ?_)
  have X : uX p s m args c prog_6_method_16_code 2 "FrameFerry$Sender" D cc L A t16 t32 := X
  have hx := X.1
  have hb := X.2.1
  have hl : lv_has ls 2 [(0, .ref (A 2))] := hl
  unfold wp_Se_sendForState at h
  generalize hH : s.heap = H at V ⊢
  generalize hlo : ([] : List Loc) = locs at V ⊢
  refine lv_aload_n (pc := 0) hx hb d_Se_sendForState_0 rfl (lv_at hl 0 rfl) ?_
  refine lv_aload_n (pc := 1) hx hb d_Se_sendForState_1 rfl (lv_at hl 0 rfl) ?_
  refine u_geti (pc := 2) X V (X.fix rfl) rfl rfl f_Se_58 rfl d_Se_sendForState_2 ?_
  refine u_cVr (pc := 5) (As := [.int (I 2 7)]) X V s_Se_92 (X.fix rfl) rfl rfl rfl (c_Se_fileAt l D cc L A J t16 t32 _ _ (I 2 7) _ h) ⟨rfl, rfl, Nat.le_of_ble_eq_true rfl, Nat.le_of_ble_eq_true rfl⟩ rfl hl.1 rfl (Nat.le_of_ble_eq_true rfl) d_Se_sendForState_5 ⟨Nat.zero_le _, Nat.zero_le _⟩ (fun z3 I1 R2 h H locs V => ?_)
  refine u_astore_n (pc := 8) (lv' := [(1, va_rf (Option.map A z3)), (0, .ref (A 2))]) hx hb d_Se_sendForState_8 rfl hl (by decide) rfl (fun ls hl => ?_)
  refine lv_aload_n (pc := 9) hx hb d_Se_sendForState_9 rfl (lv_at hl 1 rfl) ?_
  refine u_geti (pc := 10) X V (X.fix rfl) rfl rfl f_Se_18 rfl d_Se_sendForState_10 ?_
  refine lv_if_ne (pc := 13) (tgt := 32) hx hb d_Se_sendForState_13 (by decide) (fun hc => ?_) (fun hc => ?_)
  · have h := h.1 hc
    refine lv_aload_n (pc := 32) hx hb d_Se_sendForState_32 rfl (lv_at hl 1 rfl) ?_
    refine u_geti (pc := 33) X V (X.fix rfl) rfl rfl f_Se_18 rfl d_Se_sendForState_33 ?_
    refine lv_iconst (pc := 36) (v := 4) hx hb d_Se_sendForState_36 (by decide) ?_
    refine lv_icmp_ne (pc := 37) (tgt := 57) hx hb d_Se_sendForState_37 (by decide) (fun hc => ?_) (fun hc => ?_)
    · have h := h.1 hc
      refine lv_aload_n (pc := 57) hx hb d_Se_sendForState_57 rfl (lv_at hl 1 rfl) ?_
      refine u_geti (pc := 58) X V (X.fix rfl) rfl rfl f_Se_18 rfl d_Se_sendForState_58 ?_
      refine lv_iconst (pc := 61) (v := 1) hx hb d_Se_sendForState_61 (by decide) ?_
      refine lv_icmp_ne (pc := 62) (tgt := 164) hx hb d_Se_sendForState_62 (by decide) (fun hc => ?_) (fun hc => ?_)
      · have h := h.1 hc
        exact j_Se_sendForState_164 X hr hlk hsz V (lv_sub hl [1, 0] rfl) h
      · have h := h.2 hc
        refine u_aload_n (pc := 65) hx hb d_Se_sendForState_65 rfl (lv_at hl 0 rfl) ?_
        rcases z3 with _ | i7
        · have h := h.1 rfl
          refine lv_ifnullN (pc := 66) (tgt := 164) hx hb d_Se_sendForState_66 (by decide) ?_
          exact j_Se_sendForState_164 X hr hlk hsz V (lv_sub hl [1, 0] rfl) h
        · have h := h.2 i7 rfl
          refine lv_ifnull (pc := 66) hx hb d_Se_sendForState_66 ?_
          refine lv_aload_n (pc := 69) hx hb d_Se_sendForState_69 rfl (lv_at hl 1 rfl) ?_
          refine u_getr (pc := 70) (o' := 8) X V (X.fix rfl) rfl rfl f_Se_25 rfl rfl d_Se_sendForState_70 ?_
          refine lv_aload_n (pc := 73) hx hb d_Se_sendForState_73 rfl (lv_at hl 1 rfl) ?_
          refine u_getr (pc := 74) (o' := 4) X V (X.fix rfl) rfl rfl f_Se_12 rfl rfl d_Se_sendForState_74 ?_
          refine lv_iconst (pc := 77) (v := 4) hx hb d_Se_sendForState_77 (by decide) ?_
          refine lv_iconst (pc := 78) (v := 0) hx hb d_Se_sendForState_78 (by decide) ?_
          refine lv_aload_n (pc := 79) hx hb d_Se_sendForState_79 rfl (lv_at hl 1 rfl) ?_
          refine u_geti (pc := 80) X V (X.fix rfl) rfl rfl f_Se_65 rfl d_Se_sendForState_80 ?_
          refine u_cVv (pc := 83) (As := [.ref (A 4), .int 4, .int 0, .int (I1 2 9)]) X V s_Se_96 (X.fix rfl) rfl rfl rfl (c_Wr_bytesHeader l D cc L A J t16 t32 _ _ 8 ⟨(X.fix rfl), rfl, (X.fix rfl), rfl⟩ 4 ⟨(X.fix rfl), rfl, (X.fix rfl), rfl⟩ 4 0 (I1 2 9) _ h) ⟨rfl, rfl, Nat.le_of_ble_eq_true rfl, Nat.le_of_ble_eq_true rfl⟩ rfl hl.1 rfl (Nat.le_of_ble_eq_true rfl) d_Se_sendForState_83 ⟨Nat.zero_le _, Nat.zero_le _⟩ (fun I8 R9 h H locs V => ?_)
          refine lv_aload_n (pc := 86) hx hb d_Se_sendForState_86 rfl (lv_at hl 1 rfl) ?_
          refine u_getr (pc := 87) (o' := 8) X V (X.fix rfl) rfl rfl f_Se_25 rfl rfl d_Se_sendForState_87 ?_
          refine u_cVv (pc := 90) (As := []) X V s_Se_131 (X.fix rfl) rfl rfl rfl (c_Wr_beginPacket l D cc L A J t16 t32 _ _ 8 ⟨(X.fix rfl), rfl, (X.fix rfl), rfl⟩ _ h) ⟨rfl, rfl, Nat.le_of_ble_eq_true rfl, Nat.le_of_ble_eq_true rfl⟩ rfl hl.1 rfl (Nat.le_of_ble_eq_true rfl) d_Se_sendForState_90 ⟨Nat.zero_le _, Nat.zero_le _⟩ (fun I10 R11 h H locs V => ?_)
          refine lv_aload_n (pc := 93) hx hb d_Se_sendForState_93 rfl (lv_at hl 1 rfl) ?_
          refine u_getr (pc := 94) (o' := 8) X V (X.fix rfl) rfl rfl f_Se_25 rfl rfl d_Se_sendForState_94 ?_
          refine lv_aload_n (pc := 97) hx hb d_Se_sendForState_97 rfl (lv_at hl 1 rfl) ?_
          refine u_getr (pc := 98) (o' := 4) X V (X.fix rfl) rfl rfl f_Se_12 rfl rfl d_Se_sendForState_98 ?_
          refine lv_bipush (pc := 101) (v := 97) hx hb d_Se_sendForState_101 (by decide) ?_
          refine lv_aload_n (pc := 103) hx hb d_Se_sendForState_103 rfl (lv_at hl 0 rfl) ?_
          have h_i7 := h.1
          have h := h.2
          refine u_geti (pc := 104) X V h_i7.1 h_i7.2.1 rfl f_Se_48 rfl d_Se_sendForState_104 ?_
          refine lv_iadd (pc := 107) hx hb d_Se_sendForState_107 ?_
          refine u_cVv (pc := 108) (As := [.ref (A 4), .int (97 + (I10 i7 1))]) X V s_Se_134 (X.fix rfl) rfl rfl rfl (c_Wr_packetByte l D cc L A J t16 t32 _ _ 8 ⟨(X.fix rfl), rfl, (X.fix rfl), rfl⟩ 4 ⟨(X.fix rfl), rfl, (X.fix rfl), rfl⟩ (97 + (I10 i7 1)) _ h) ⟨rfl, rfl, Nat.le_of_ble_eq_true rfl, Nat.le_of_ble_eq_true rfl⟩ rfl hl.1 rfl (Nat.le_of_ble_eq_true rfl) d_Se_sendForState_108 ⟨Nat.zero_le _, Nat.zero_le _⟩ (fun I12 R13 h H locs V => ?_)
          refine lv_aload_n (pc := 111) hx hb d_Se_sendForState_111 rfl (lv_at hl 1 rfl) ?_
          refine u_getr (pc := 112) (o' := 8) X V (X.fix rfl) rfl rfl f_Se_25 rfl rfl d_Se_sendForState_112 ?_
          refine lv_aload_n (pc := 115) hx hb d_Se_sendForState_115 rfl (lv_at hl 1 rfl) ?_
          refine u_getr (pc := 116) (o' := 4) X V (X.fix rfl) rfl rfl f_Se_12 rfl rfl d_Se_sendForState_116 ?_
          refine lv_aload_n (pc := 119) hx hb d_Se_sendForState_119 rfl (lv_at hl 0 rfl) ?_
          refine u_geti (pc := 120) X V h_i7.1 h_i7.2.1 rfl f_Se_52 rfl d_Se_sendForState_120 ?_
          refine lv_bipush (pc := 123) (v := 8) hx hb d_Se_sendForState_123 (by decide) ?_
          refine lv_iushr (pc := 125) (v := ush (I12 i7 2) 8) hx hb d_Se_sendForState_125 rfl ?_
          refine u_cVv (pc := 126) (As := [.ref (A 4), .int (ush (I12 i7 2) 8)]) X V s_Se_134 (X.fix rfl) rfl rfl rfl (c_Wr_packetByte l D cc L A J t16 t32 _ _ 8 ⟨(X.fix rfl), rfl, (X.fix rfl), rfl⟩ 4 ⟨(X.fix rfl), rfl, (X.fix rfl), rfl⟩ (ush (I12 i7 2) 8) _ h) ⟨rfl, rfl, Nat.le_of_ble_eq_true rfl, Nat.le_of_ble_eq_true rfl⟩ rfl hl.1 rfl (Nat.le_of_ble_eq_true rfl) d_Se_sendForState_126 ⟨Nat.zero_le _, Nat.zero_le _⟩ (fun I14 R15 h H locs V => ?_)
          refine lv_aload_n (pc := 129) hx hb d_Se_sendForState_129 rfl (lv_at hl 1 rfl) ?_
          refine u_getr (pc := 130) (o' := 8) X V (X.fix rfl) rfl rfl f_Se_25 rfl rfl d_Se_sendForState_130 ?_
          refine lv_aload_n (pc := 133) hx hb d_Se_sendForState_133 rfl (lv_at hl 1 rfl) ?_
          refine u_getr (pc := 134) (o' := 4) X V (X.fix rfl) rfl rfl f_Se_12 rfl rfl d_Se_sendForState_134 ?_
          refine lv_aload_n (pc := 137) hx hb d_Se_sendForState_137 rfl (lv_at hl 0 rfl) ?_
          refine u_geti (pc := 138) X V h_i7.1 h_i7.2.1 rfl f_Se_52 rfl d_Se_sendForState_138 ?_
          refine lv_sipush (pc := 141) (v := 255) hx hb d_Se_sendForState_141 (by decide) ?_
          refine lv_iand (pc := 144) hx hb d_Se_sendForState_144 ?_
          refine u_cVv (pc := 145) (As := [.ref (A 4), .int ((I14 i7 2) &&& 255)]) X V s_Se_134 (X.fix rfl) rfl rfl rfl (c_Wr_packetByte l D cc L A J t16 t32 _ _ 8 ⟨(X.fix rfl), rfl, (X.fix rfl), rfl⟩ 4 ⟨(X.fix rfl), rfl, (X.fix rfl), rfl⟩ ((I14 i7 2) &&& 255) _ h) ⟨rfl, rfl, Nat.le_of_ble_eq_true rfl, Nat.le_of_ble_eq_true rfl⟩ rfl hl.1 rfl (Nat.le_of_ble_eq_true rfl) d_Se_sendForState_145 ⟨Nat.zero_le _, Nat.zero_le _⟩ (fun I16 R17 h H locs V => ?_)
          refine lv_aload_n (pc := 148) hx hb d_Se_sendForState_148 rfl (lv_at hl 1 rfl) ?_
          refine u_getr (pc := 149) (o' := 8) X V (X.fix rfl) rfl rfl f_Se_25 rfl rfl d_Se_sendForState_149 ?_
          refine lv_aload_n (pc := 152) hx hb d_Se_sendForState_152 rfl (lv_at hl 1 rfl) ?_
          refine u_getr (pc := 153) (o' := 4) X V (X.fix rfl) rfl rfl f_Se_12 rfl rfl d_Se_sendForState_153 ?_
          refine lv_bipush (pc := 156) (v := 107) hx hb d_Se_sendForState_156 (by decide) ?_
          refine u_cVv (pc := 158) (As := [.ref (A 4), .int 107]) X V s_Se_138 (X.fix rfl) rfl rfl rfl (c_Wr_endPacket l D cc L A J t16 t32 _ _ 8 ⟨(X.fix rfl), rfl, (X.fix rfl), rfl⟩ 4 ⟨(X.fix rfl), rfl, (X.fix rfl), rfl⟩ 107 _ h) ⟨rfl, rfl, Nat.le_of_ble_eq_true rfl, Nat.le_of_ble_eq_true rfl⟩ rfl hl.1 rfl (Nat.le_of_ble_eq_true rfl) d_Se_sendForState_158 ⟨Nat.zero_le _, Nat.zero_le _⟩ (fun I18 R19 h H locs V => ?_)
          refine lv_goto (pc := 161) (tgt := 197) hx hb d_Se_sendForState_161 (by decide) ?_
          exact u_retv (pc := 197) X V hr hlk hsz h d_Se_sendForState_197
    · have h := h.2 hc
      refine lv_aload_n (pc := 40) hx hb d_Se_sendForState_40 rfl (lv_at hl 1 rfl) ?_
      refine u_getr (pc := 41) (o' := 8) X V (X.fix rfl) rfl rfl f_Se_25 rfl rfl d_Se_sendForState_41 ?_
      refine lv_aload_n (pc := 44) hx hb d_Se_sendForState_44 rfl (lv_at hl 1 rfl) ?_
      refine u_getr (pc := 45) (o' := 4) X V (X.fix rfl) rfl rfl f_Se_12 rfl rfl d_Se_sendForState_45 ?_
      refine lv_bipush (pc := 48) (v := 8) hx hb d_Se_sendForState_48 (by decide) ?_
      refine lv_iconst (pc := 50) (v := 0) hx hb d_Se_sendForState_50 (by decide) ?_
      refine u_cVv (pc := 51) (As := [.ref (A 4), .int 8, .int 0]) X V s_Se_127 (X.fix rfl) rfl rfl rfl (c_Wr_hexHeader l D cc L A J t16 t32 _ _ 8 ⟨(X.fix rfl), rfl, (X.fix rfl), rfl⟩ 4 ⟨(X.fix rfl), rfl, (X.fix rfl), rfl⟩ 8 0 _ h) ⟨rfl, rfl, Nat.le_of_ble_eq_true rfl, Nat.le_of_ble_eq_true rfl⟩ rfl hl.1 rfl (Nat.le_of_ble_eq_true rfl) d_Se_sendForState_51 ⟨Nat.zero_le _, Nat.zero_le _⟩ (fun I20 R21 h H locs V => ?_)
      refine lv_goto (pc := 54) (tgt := 197) hx hb d_Se_sendForState_54 (by decide) ?_
      exact u_retv (pc := 197) X V hr hlk hsz h d_Se_sendForState_197
  · have h := h.2 hc
    refine lv_aload_n (pc := 16) hx hb d_Se_sendForState_16 rfl (lv_at hl 1 rfl) ?_
    refine u_getr (pc := 17) (o' := 8) X V (X.fix rfl) rfl rfl f_Se_25 rfl rfl d_Se_sendForState_17 ?_
    refine lv_aload_n (pc := 20) hx hb d_Se_sendForState_20 rfl (lv_at hl 1 rfl) ?_
    refine u_getr (pc := 21) (o' := 4) X V (X.fix rfl) rfl rfl f_Se_12 rfl rfl d_Se_sendForState_21 ?_
    refine lv_iconst (pc := 24) (v := 0) hx hb d_Se_sendForState_24 (by decide) ?_
    refine lv_iconst (pc := 25) (v := 0) hx hb d_Se_sendForState_25 (by decide) ?_
    refine u_cVv (pc := 26) (As := [.ref (A 4), .int 0, .int 0]) X V s_Se_127 (X.fix rfl) rfl rfl rfl (c_Wr_hexHeader l D cc L A J t16 t32 _ _ 8 ⟨(X.fix rfl), rfl, (X.fix rfl), rfl⟩ 4 ⟨(X.fix rfl), rfl, (X.fix rfl), rfl⟩ 0 0 _ h) ⟨rfl, rfl, Nat.le_of_ble_eq_true rfl, Nat.le_of_ble_eq_true rfl⟩ rfl hl.1 rfl (Nat.le_of_ble_eq_true rfl) d_Se_sendForState_26 ⟨Nat.zero_le _, Nat.zero_le _⟩ (fun I22 R23 h H locs V => ?_)
    refine lv_goto (pc := 29) (tgt := 197) hx hb d_Se_sendForState_29 (by decide) ?_
    exact u_retv (pc := 197) X V hr hlk hsz h d_Se_sendForState_197
-- FrameFerry$Sender.sendPacket (LFrameFerry$StoredFile;)V
theorem d_Se_sendPacket_0 : decode prog_6_method_17_code 0 = .ok (.aload_n 0, 1) := by decide +kernel
theorem d_Se_sendPacket_1 : decode prog_6_method_17_code 1 = .ok (.getfield 55, 3) := by decide +kernel
theorem d_Se_sendPacket_4 : decode prog_6_method_17_code 4 = .ok (.aload_n 0, 1) := by decide +kernel
theorem d_Se_sendPacket_5 : decode prog_6_method_17_code 5 = .ok (.getfield 42, 3) := by decide +kernel
theorem d_Se_sendPacket_8 : decode prog_6_method_17_code 8 = .ok (.iadd, 1) := by decide +kernel
theorem d_Se_sendPacket_9 : decode prog_6_method_17_code 9 = .ok (.aload_n 1, 1) := by decide +kernel
theorem d_Se_sendPacket_10 : decode prog_6_method_17_code 10 = .ok (.getfield 52, 3) := by decide +kernel
theorem d_Se_sendPacket_13 : decode prog_6_method_17_code 13 = .ok (.invokestatic 141, 3) := by decide +kernel
theorem d_Se_sendPacket_16 : decode prog_6_method_17_code 16 = .ok (.istore_n 2, 1) := by decide +kernel
theorem d_Se_sendPacket_17 : decode prog_6_method_17_code 17 = .ok (.aload_n 0, 1) := by decide +kernel
theorem d_Se_sendPacket_18 : decode prog_6_method_17_code 18 = .ok (.getfield 25, 3) := by decide +kernel
theorem d_Se_sendPacket_21 : decode prog_6_method_17_code 21 = .ok (.invokevirtual 131, 3) := by decide +kernel
theorem d_Se_sendPacket_24 : decode prog_6_method_17_code 24 = .ok (.aload_n 0, 1) := by decide +kernel
theorem d_Se_sendPacket_25 : decode prog_6_method_17_code 25 = .ok (.getfield 55, 3) := by decide +kernel
theorem d_Se_sendPacket_28 : decode prog_6_method_17_code 28 = .ok (.istore_n 3, 1) := by decide +kernel
theorem d_Se_sendPacket_29 : decode prog_6_method_17_code 29 = .ok (.iload_n 3, 1) := by decide +kernel
theorem d_Se_sendPacket_30 : decode prog_6_method_17_code 30 = .ok (.iload_n 2, 1) := by decide +kernel
theorem d_Se_sendPacket_31 : decode prog_6_method_17_code 31 = .ok (.if_icmp .ge 25, 3) := by decide +kernel
theorem d_Se_sendPacket_34 : decode prog_6_method_17_code 34 = .ok (.aload_n 0, 1) := by decide +kernel
theorem d_Se_sendPacket_35 : decode prog_6_method_17_code 35 = .ok (.getfield 25, 3) := by decide +kernel
theorem d_Se_sendPacket_38 : decode prog_6_method_17_code 38 = .ok (.aload_n 0, 1) := by decide +kernel
theorem d_Se_sendPacket_39 : decode prog_6_method_17_code 39 = .ok (.getfield 12, 3) := by decide +kernel
theorem d_Se_sendPacket_42 : decode prog_6_method_17_code 42 = .ok (.aload_n 1, 1) := by decide +kernel
theorem d_Se_sendPacket_43 : decode prog_6_method_17_code 43 = .ok (.iload_n 3, 1) := by decide +kernel
theorem d_Se_sendPacket_44 : decode prog_6_method_17_code 44 = .ok (.invokevirtual 146, 3) := by decide +kernel
theorem d_Se_sendPacket_47 : decode prog_6_method_17_code 47 = .ok (.invokevirtual 134, 3) := by decide +kernel
theorem d_Se_sendPacket_50 : decode prog_6_method_17_code 50 = .ok (.iinc 3 1, 3) := by decide +kernel
theorem d_Se_sendPacket_53 : decode prog_6_method_17_code 53 = .ok (.goto (-24), 3) := by decide +kernel
theorem d_Se_sendPacket_56 : decode prog_6_method_17_code 56 = .ok (.aload_n 0, 1) := by decide +kernel
theorem d_Se_sendPacket_57 : decode prog_6_method_17_code 57 = .ok (.iload_n 2, 1) := by decide +kernel
theorem d_Se_sendPacket_58 : decode prog_6_method_17_code 58 = .ok (.putfield 55, 3) := by decide +kernel
theorem d_Se_sendPacket_61 : decode prog_6_method_17_code 61 = .ok (.aload_n 0, 1) := by decide +kernel
theorem d_Se_sendPacket_62 : decode prog_6_method_17_code 62 = .ok (.getfield 55, 3) := by decide +kernel
theorem d_Se_sendPacket_65 : decode prog_6_method_17_code 65 = .ok (.aload_n 1, 1) := by decide +kernel
theorem d_Se_sendPacket_66 : decode prog_6_method_17_code 66 = .ok (.getfield 52, 3) := by decide +kernel
theorem d_Se_sendPacket_69 : decode prog_6_method_17_code 69 = .ok (.if_icmp .ge 19, 3) := by decide +kernel
theorem d_Se_sendPacket_72 : decode prog_6_method_17_code 72 = .ok (.aload_n 0, 1) := by decide +kernel
theorem d_Se_sendPacket_73 : decode prog_6_method_17_code 73 = .ok (.getfield 25, 3) := by decide +kernel
theorem d_Se_sendPacket_76 : decode prog_6_method_17_code 76 = .ok (.aload_n 0, 1) := by decide +kernel
theorem d_Se_sendPacket_77 : decode prog_6_method_17_code 77 = .ok (.getfield 12, 3) := by decide +kernel
theorem d_Se_sendPacket_80 : decode prog_6_method_17_code 80 = .ok (.bipush 105, 2) := by decide +kernel
theorem d_Se_sendPacket_82 : decode prog_6_method_17_code 82 = .ok (.invokevirtual 138, 3) := by decide +kernel
theorem d_Se_sendPacket_85 : decode prog_6_method_17_code 85 = .ok (.goto 21, 3) := by decide +kernel
theorem d_Se_sendPacket_88 : decode prog_6_method_17_code 88 = .ok (.aload_n 0, 1) := by decide +kernel
theorem d_Se_sendPacket_89 : decode prog_6_method_17_code 89 = .ok (.getfield 25, 3) := by decide +kernel
theorem d_Se_sendPacket_92 : decode prog_6_method_17_code 92 = .ok (.aload_n 0, 1) := by decide +kernel
theorem d_Se_sendPacket_93 : decode prog_6_method_17_code 93 = .ok (.getfield 12, 3) := by decide +kernel
theorem d_Se_sendPacket_96 : decode prog_6_method_17_code 96 = .ok (.bipush 104, 2) := by decide +kernel
theorem d_Se_sendPacket_98 : decode prog_6_method_17_code 98 = .ok (.invokevirtual 138, 3) := by decide +kernel
theorem d_Se_sendPacket_101 : decode prog_6_method_17_code 101 = .ok (.aload_n 0, 1) := by decide +kernel
theorem d_Se_sendPacket_102 : decode prog_6_method_17_code 102 = .ok (.iconst 3, 1) := by decide +kernel
theorem d_Se_sendPacket_103 : decode prog_6_method_17_code 103 = .ok (.putfield 18, 3) := by decide +kernel
theorem d_Se_sendPacket_106 : decode prog_6_method_17_code 106 = .ok (.return_, 1) := by decide +kernel
def rm_Se_sendPacket : Room := { frames := 3, cells := 0, slots := 0, locals := 65 }
def wp_Se_sendPacket_L29 (L : List Nat) (q1 : Nat) (Q : UI → UR → Prop) : Nat → UI → UR → Int32 → Int32 → Prop
  | 0, _, _, _, _ => False
  | n + 1, I, R, x2, x3 => ((x2 ≤ x3 → ∀ I5 : UI, I5 = u2 I 2 3 x2 → ((I5 q1 2 ≤ I5 2 3 → wp_Wr_endPacket I5 R 8 4 104 (fun I6 R7 => ∀ I8 : UI, I8 = u2 I6 2 2 3 → Q I8 R7)) ∧ (¬ I5 q1 2 ≤ I5 2 3 → wp_Wr_endPacket I5 R 8 4 105 (fun I9 R10 => Q I9 R10)))) ∧ (¬ x2 ≤ x3 → wp_Sf_byteAt I R q1 x3 (fun r13 I11 R12 => wp_Wr_packetByte I11 R12 8 4 r13 (fun I14 R15 => ∀ v16 : Int32, v16 = x3 + 1 → wp_Se_sendPacket_L29 L q1 Q n I14 R15 x2 v16))))
set_option maxHeartbeats 4000000 in
set_option maxRecDepth 100000 in
theorem j_Se_sendPacket_29 (X : uX p s m args c prog_6_method_17_code 4 "FrameFerry$Sender" D cc L A t16 t32) (hr : meth.sig.returnType = none) (hlk : meth.locks = false) (hsz : sz = s.heap.size) {q1 : Nat} (h_q1 : isSf L q1) {Q : UI → UR → Prop} : ∀ (n : Nat) (I : UI) (R : UR) (x2 : Int32) (x3 : Int32) (H : Heap) (locs : List Loc) (ls : Array Slot), uV s D cc L A J I R H locs → lv_has ls 4 [(0, .ref (A 2)), (1, .ref (A q1)), (2, .int x2), (3, .int x3)] → wp_Se_sendPacket_L29 L q1 Q n I R x2 x3 → W p l e rm_Se_sendPacket s m args below meth c H locs 0 0 (MQ below (va_Qv (fun u : UI × UR => Q u.1 u.2) (uBv D cc L A J) (uA L A sz)) args s 0 0 (uA L A sz)) (F0 m 29 ls []) := by
  intro n
  induction n with
  | zero => exact fun I R x2 x3 H locs ls V hl h => False.elim h
  | succ n ih =>
    intro I R x2 x3 H locs ls V hl h
    have hx := X.1
    have hb := X.2.1
    rw [wp_Se_sendPacket_L29] at h
    refine lv_iload_n (pc := 29) hx hb d_Se_sendPacket_29 rfl (lv_at hl 3 rfl) ?_
    refine lv_iload_n (pc := 30) hx hb d_Se_sendPacket_30 rfl (lv_at hl 2 rfl) ?_
    refine lv_icmp_ge (pc := 31) (tgt := 56) hx hb d_Se_sendPacket_31 (by decide) (fun hc => ?_) (fun hc => ?_)
    · have h := h.1 hc
      refine lv_aload_n (pc := 56) hx hb d_Se_sendPacket_56 rfl (lv_at hl 0 rfl) ?_
      refine lv_iload_n (pc := 57) hx hb d_Se_sendPacket_57 rfl (lv_at hl 2 rfl) ?_
      refine u_puti (pc := 58) X V (X.fix rfl) rfl rfl f_Se_55 rfl d_Se_sendPacket_58 (fun I5 eI5 H locs V => ?_)
      have h := h I5 eI5
      refine lv_aload_n (pc := 61) hx hb d_Se_sendPacket_61 rfl (lv_at hl 0 rfl) ?_
      refine u_geti (pc := 62) X V (X.fix rfl) rfl rfl f_Se_55 rfl d_Se_sendPacket_62 ?_
      refine lv_aload_n (pc := 65) hx hb d_Se_sendPacket_65 rfl (lv_at hl 1 rfl) ?_
      refine u_geti (pc := 66) X V h_q1.1 h_q1.2.1 rfl f_Se_52 rfl d_Se_sendPacket_66 ?_
      refine lv_icmp_ge (pc := 69) (tgt := 88) hx hb d_Se_sendPacket_69 (by decide) (fun hc => ?_) (fun hc => ?_)
      · have h := h.1 hc
        refine lv_aload_n (pc := 88) hx hb d_Se_sendPacket_88 rfl (lv_at hl 0 rfl) ?_
        refine u_getr (pc := 89) (o' := 8) X V (X.fix rfl) rfl rfl f_Se_25 rfl rfl d_Se_sendPacket_89 ?_
        refine lv_aload_n (pc := 92) hx hb d_Se_sendPacket_92 rfl (lv_at hl 0 rfl) ?_
        refine u_getr (pc := 93) (o' := 4) X V (X.fix rfl) rfl rfl f_Se_12 rfl rfl d_Se_sendPacket_93 ?_
        refine lv_bipush (pc := 96) (v := 104) hx hb d_Se_sendPacket_96 (by decide) ?_
        refine u_cVv (pc := 98) (As := [.ref (A 4), .int 104]) X V s_Se_138 (X.fix rfl) rfl rfl rfl (c_Wr_endPacket l D cc L A J t16 t32 _ _ 8 ⟨(X.fix rfl), rfl, (X.fix rfl), rfl⟩ 4 ⟨(X.fix rfl), rfl, (X.fix rfl), rfl⟩ 104 _ h) ⟨rfl, rfl, Nat.le_of_ble_eq_true rfl, Nat.le_of_ble_eq_true rfl⟩ rfl hl.1 rfl (Nat.le_of_ble_eq_true rfl) d_Se_sendPacket_98 ⟨Nat.zero_le _, Nat.zero_le _⟩ (fun I6 R7 h H locs V => ?_)
        refine lv_aload_n (pc := 101) hx hb d_Se_sendPacket_101 rfl (lv_at hl 0 rfl) ?_
        refine lv_iconst (pc := 102) (v := 3) hx hb d_Se_sendPacket_102 (by decide) ?_
        refine u_puti (pc := 103) X V (X.fix rfl) rfl rfl f_Se_18 rfl d_Se_sendPacket_103 (fun I8 eI8 H locs V => ?_)
        have h := h I8 eI8
        exact u_retv (pc := 106) X V hr hlk hsz h d_Se_sendPacket_106
      · have h := h.2 hc
        refine lv_aload_n (pc := 72) hx hb d_Se_sendPacket_72 rfl (lv_at hl 0 rfl) ?_
        refine u_getr (pc := 73) (o' := 8) X V (X.fix rfl) rfl rfl f_Se_25 rfl rfl d_Se_sendPacket_73 ?_
        refine lv_aload_n (pc := 76) hx hb d_Se_sendPacket_76 rfl (lv_at hl 0 rfl) ?_
        refine u_getr (pc := 77) (o' := 4) X V (X.fix rfl) rfl rfl f_Se_12 rfl rfl d_Se_sendPacket_77 ?_
        refine lv_bipush (pc := 80) (v := 105) hx hb d_Se_sendPacket_80 (by decide) ?_
        refine u_cVv (pc := 82) (As := [.ref (A 4), .int 105]) X V s_Se_138 (X.fix rfl) rfl rfl rfl (c_Wr_endPacket l D cc L A J t16 t32 _ _ 8 ⟨(X.fix rfl), rfl, (X.fix rfl), rfl⟩ 4 ⟨(X.fix rfl), rfl, (X.fix rfl), rfl⟩ 105 _ h) ⟨rfl, rfl, Nat.le_of_ble_eq_true rfl, Nat.le_of_ble_eq_true rfl⟩ rfl hl.1 rfl (Nat.le_of_ble_eq_true rfl) d_Se_sendPacket_82 ⟨Nat.zero_le _, Nat.zero_le _⟩ (fun I9 R10 h H locs V => ?_)
        refine lv_goto (pc := 85) (tgt := 106) hx hb d_Se_sendPacket_85 (by decide) ?_
        exact u_retv (pc := 106) X V hr hlk hsz h d_Se_sendPacket_106
    · have h := h.2 hc
      refine lv_aload_n (pc := 34) hx hb d_Se_sendPacket_34 rfl (lv_at hl 0 rfl) ?_
      refine u_getr (pc := 35) (o' := 8) X V (X.fix rfl) rfl rfl f_Se_25 rfl rfl d_Se_sendPacket_35 ?_
      refine lv_aload_n (pc := 38) hx hb d_Se_sendPacket_38 rfl (lv_at hl 0 rfl) ?_
      refine u_getr (pc := 39) (o' := 4) X V (X.fix rfl) rfl rfl f_Se_12 rfl rfl d_Se_sendPacket_39 ?_
      refine lv_aload_n (pc := 42) hx hb d_Se_sendPacket_42 rfl (lv_at hl 1 rfl) ?_
      refine lv_iload_n (pc := 43) hx hb d_Se_sendPacket_43 rfl (lv_at hl 3 rfl) ?_
      refine u_cVi (pc := 44) (As := [.int x3]) X V s_Se_146 h_q1.1 h_q1.2.1 rfl rfl (c_Sf_byteAt l D cc L A J t16 t32 _ _ q1 h_q1 x3 _ h) ⟨rfl, rfl, Nat.le_of_ble_eq_true rfl, Nat.le_of_ble_eq_true rfl⟩ rfl hl.1 rfl (Nat.le_of_ble_eq_true rfl) d_Se_sendPacket_44 ⟨Nat.zero_le _, Nat.zero_le _⟩ (fun r13 I11 R12 h H locs V => ?_)
      refine u_cVv (pc := 47) (As := [.ref (A 4), .int r13]) X V s_Se_134 (X.fix rfl) rfl rfl rfl (c_Wr_packetByte l D cc L A J t16 t32 _ _ 8 ⟨(X.fix rfl), rfl, (X.fix rfl), rfl⟩ 4 ⟨(X.fix rfl), rfl, (X.fix rfl), rfl⟩ r13 _ h) ⟨rfl, rfl, Nat.le_of_ble_eq_true rfl, Nat.le_of_ble_eq_true rfl⟩ rfl hl.1 rfl (Nat.le_of_ble_eq_true rfl) d_Se_sendPacket_47 ⟨Nat.zero_le _, Nat.zero_le _⟩ (fun I14 R15 h H locs V => ?_)
      obtain ⟨v16, ev16⟩ : ∃ z : Int32, z = x3 + 1 := ⟨_, rfl⟩
      have h := h v16 ev16
      refine lv_iinc (pc := 50) (k := 3) (v := v16) (lv' := [(3, .int v16), (0, .ref (A 2)), (1, .ref (A q1)), (2, .int x2)]) hx hb d_Se_sendPacket_50 hl rfl (by rw [ev16]; rfl) (by decide) rfl (fun ls hl => ?_)
      refine lv_goto (pc := 53) (tgt := 29) hx hb d_Se_sendPacket_53 (by decide) ?_
      exact ih I14 R15 x2 v16 H locs ls V (lv_sub hl [1, 2, 3, 0] rfl) h
def wp_Se_sendPacket (L : List Nat) (I : UI) (R : UR) (q1 : Nat) (Q : UI → UR → Prop) : Prop :=
  ∀ v1 : Int32, v1 = (if I q1 2 < (I 2 3) + (I 2 8) then I q1 2 else (I 2 3) + (I 2 8)) → wp_Wr_beginPacket I R 8 (fun I2 R3 => ∀ v4 : Int32, v4 = I2 2 3 → (∃ n29 : Nat, wp_Se_sendPacket_L29 L q1 Q n29 I2 R3 v1 v4))
set_option maxHeartbeats 4000000 in
set_option maxRecDepth 100000 in
theorem c_Se_sendPacket (l : Launch) (D : va_G) (cc : Nat → ClassId) (L : List Nat) (A : Nat → Nat) (J : Nat → Int64) (t16 t32 : Nat) (I : UI) (R : UR) (q1 : Nat) (h_q1 : isSf L q1) (Q : UI → UR → Prop) (h : wp_Se_sendPacket L I R q1 Q) : uMv l y_Se_sendPacket (.code y_Se_sendPacket prog_6_method_17_code 4 none) rm_Se_sendPacket [.ref (A 2), .ref (A q1)] D cc L A J t16 t32 I R Q := by
  intro sz
  refine u_entry (by decide) (Nat.le_of_ble_eq_true rfl) (fun p e s m args below meth c hsz X V hr hlk ls hl => ?_)
  have X : uX p s m args c prog_6_method_17_code 4 "FrameFerry$Sender" D cc L A t16 t32 := X
  have hx := X.1
  have hb := X.2.1
  have hl : lv_has ls 4 [(0, .ref (A 2)), (1, .ref (A q1))] := hl
  unfold wp_Se_sendPacket at h
  generalize hH : s.heap = H at V ⊢
  generalize hlo : ([] : List Loc) = locs at V ⊢
  refine lv_aload_n (pc := 0) hx hb d_Se_sendPacket_0 rfl (lv_at hl 0 rfl) ?_
  refine u_geti (pc := 1) X V (X.fix rfl) rfl rfl f_Se_55 rfl d_Se_sendPacket_1 ?_
  refine lv_aload_n (pc := 4) hx hb d_Se_sendPacket_4 rfl (lv_at hl 0 rfl) ?_
  refine u_geti (pc := 5) X V (X.fix rfl) rfl rfl f_Se_42 rfl d_Se_sendPacket_5 ?_
  refine lv_iadd (pc := 8) hx hb d_Se_sendPacket_8 ?_
  refine lv_aload_n (pc := 9) hx hb d_Se_sendPacket_9 rfl (lv_at hl 1 rfl) ?_
  refine u_geti (pc := 10) X V h_q1.1 h_q1.2.1 rfl f_Se_52 rfl d_Se_sendPacket_10 ?_
  refine u_min (pc := 13) X mi_Se_141 hl.1 (Nat.le_of_ble_eq_true rfl) (Nat.le_of_ble_eq_true rfl) ⟨Nat.zero_le _, Nat.zero_le _⟩ d_Se_sendPacket_13 ?_
  refine lv_topi (fun v1 ev1 => ?_)
  have h := h v1 ev1
  refine lv_istore_n (pc := 16) (lv' := [(2, .int v1), (0, .ref (A 2)), (1, .ref (A q1))]) hx hb d_Se_sendPacket_16 rfl hl (by decide) rfl (fun ls hl => ?_)
  refine lv_aload_n (pc := 17) hx hb d_Se_sendPacket_17 rfl (lv_at hl 1 rfl) ?_
  refine u_getr (pc := 18) (o' := 8) X V (X.fix rfl) rfl rfl f_Se_25 rfl rfl d_Se_sendPacket_18 ?_
  refine u_cVv (pc := 21) (As := []) X V s_Se_131 (X.fix rfl) rfl rfl rfl (c_Wr_beginPacket l D cc L A J t16 t32 _ _ 8 ⟨(X.fix rfl), rfl, (X.fix rfl), rfl⟩ _ h) ⟨rfl, rfl, Nat.le_of_ble_eq_true rfl, Nat.le_of_ble_eq_true rfl⟩ rfl hl.1 rfl (Nat.le_of_ble_eq_true rfl) d_Se_sendPacket_21 ⟨Nat.zero_le _, Nat.zero_le _⟩ (fun I2 R3 h H locs V => ?_)
  refine lv_aload_n (pc := 24) hx hb d_Se_sendPacket_24 rfl (lv_at hl 1 rfl) ?_
  refine u_geti (pc := 25) X V (X.fix rfl) rfl rfl f_Se_55 rfl d_Se_sendPacket_25 ?_
  refine lv_topi (fun v4 ev4 => ?_)
  have h := h v4 ev4
  refine lv_istore_n (pc := 28) (lv' := [(3, .int v4), (2, .int v1), (0, .ref (A 2)), (1, .ref (A q1))]) hx hb d_Se_sendPacket_28 rfl hl (by decide) rfl (fun ls hl => ?_)
  obtain ⟨n29, h⟩ := h
  exact j_Se_sendPacket_29 X hr hlk hsz h_q1 n29 I2 R3 v1 v4 H locs ls V (lv_sub hl [2, 3, 1, 0] rfl) h
-- FrameFerry$Sender.sendPackets ()V
theorem d_Se_sendPackets_0 : decode prog_6_method_10_code 0 = .ok (.aload_n 0, 1) := by decide +kernel
theorem d_Se_sendPackets_1 : decode prog_6_method_10_code 1 = .ok (.aload_n 0, 1) := by decide +kernel
theorem d_Se_sendPackets_2 : decode prog_6_method_10_code 2 = .ok (.getfield 58, 3) := by decide +kernel
theorem d_Se_sendPackets_5 : decode prog_6_method_10_code 5 = .ok (.invokevirtual 92, 3) := by decide +kernel
theorem d_Se_sendPackets_8 : decode prog_6_method_10_code 8 = .ok (.astore_n 1, 1) := by decide +kernel
theorem d_Se_sendPackets_9 : decode prog_6_method_10_code 9 = .ok (.aload_n 0, 1) := by decide +kernel
theorem d_Se_sendPackets_10 : decode prog_6_method_10_code 10 = .ok (.getfield 18, 3) := by decide +kernel
theorem d_Se_sendPackets_13 : decode prog_6_method_10_code 13 = .ok (.iconst 2, 1) := by decide +kernel
theorem d_Se_sendPackets_14 : decode prog_6_method_10_code 14 = .ok (.if_icmp .ne 7, 3) := by decide +kernel
theorem d_Se_sendPackets_17 : decode prog_6_method_10_code 17 = .ok (.aload_n 1, 1) := by decide +kernel
theorem d_Se_sendPackets_18 : decode prog_6_method_10_code 18 = .ok (.ifnonnull 4, 3) := by decide +kernel
theorem d_Se_sendPackets_21 : decode prog_6_method_10_code 21 = .ok (.return_, 1) := by decide +kernel
theorem d_Se_sendPackets_22 : decode prog_6_method_10_code 22 = .ok (.aload_n 0, 1) := by decide +kernel
theorem d_Se_sendPackets_23 : decode prog_6_method_10_code 23 = .ok (.getfield 86, 3) := by decide +kernel
theorem d_Se_sendPackets_26 : decode prog_6_method_10_code 26 = .ok (.ifCond .eq 29, 3) := by decide +kernel
theorem d_Se_sendPackets_29 : decode prog_6_method_10_code 29 = .ok (.aload_n 0, 1) := by decide +kernel
theorem d_Se_sendPackets_30 : decode prog_6_method_10_code 30 = .ok (.getfield 25, 3) := by decide +kernel
theorem d_Se_sendPackets_33 : decode prog_6_method_10_code 33 = .ok (.aload_n 0, 1) := by decide +kernel
theorem d_Se_sendPackets_34 : decode prog_6_method_10_code 34 = .ok (.getfield 12, 3) := by decide +kernel
theorem d_Se_sendPackets_37 : decode prog_6_method_10_code 37 = .ok (.bipush 10, 2) := by decide +kernel
theorem d_Se_sendPackets_39 : decode prog_6_method_10_code 39 = .ok (.aload_n 0, 1) := by decide +kernel
theorem d_Se_sendPackets_40 : decode prog_6_method_10_code 40 = .ok (.getfield 55, 3) := by decide +kernel
theorem d_Se_sendPackets_43 : decode prog_6_method_10_code 43 = .ok (.aload_n 0, 1) := by decide +kernel
theorem d_Se_sendPackets_44 : decode prog_6_method_10_code 44 = .ok (.getfield 65, 3) := by decide +kernel
theorem d_Se_sendPackets_47 : decode prog_6_method_10_code 47 = .ok (.invokevirtual 96, 3) := by decide +kernel
theorem d_Se_sendPackets_50 : decode prog_6_method_10_code 50 = .ok (.aload_n 0, 1) := by decide +kernel
theorem d_Se_sendPackets_51 : decode prog_6_method_10_code 51 = .ok (.iconst 0, 1) := by decide +kernel
theorem d_Se_sendPackets_52 : decode prog_6_method_10_code 52 = .ok (.putfield 86, 3) := by decide +kernel
theorem d_Se_sendPackets_55 : decode prog_6_method_10_code 55 = .ok (.iconst 0, 1) := by decide +kernel
theorem d_Se_sendPackets_56 : decode prog_6_method_10_code 56 = .ok (.istore_n 2, 1) := by decide +kernel
theorem d_Se_sendPackets_57 : decode prog_6_method_10_code 57 = .ok (.iload_n 2, 1) := by decide +kernel
theorem d_Se_sendPackets_58 : decode prog_6_method_10_code 58 = .ok (.iconst 4, 1) := by decide +kernel
theorem d_Se_sendPackets_59 : decode prog_6_method_10_code 59 = .ok (.if_icmp .ge 22, 3) := by decide +kernel
theorem d_Se_sendPackets_62 : decode prog_6_method_10_code 62 = .ok (.aload_n 0, 1) := by decide +kernel
theorem d_Se_sendPackets_63 : decode prog_6_method_10_code 63 = .ok (.getfield 18, 3) := by decide +kernel
theorem d_Se_sendPackets_66 : decode prog_6_method_10_code 66 = .ok (.iconst 2, 1) := by decide +kernel
theorem d_Se_sendPackets_67 : decode prog_6_method_10_code 67 = .ok (.if_icmp .ne 14, 3) := by decide +kernel
theorem d_Se_sendPackets_70 : decode prog_6_method_10_code 70 = .ok (.aload_n 0, 1) := by decide +kernel
theorem d_Se_sendPackets_71 : decode prog_6_method_10_code 71 = .ok (.aload_n 1, 1) := by decide +kernel
theorem d_Se_sendPackets_72 : decode prog_6_method_10_code 72 = .ok (.invokevirtual 100, 3) := by decide +kernel
theorem d_Se_sendPackets_75 : decode prog_6_method_10_code 75 = .ok (.iinc 2 1, 3) := by decide +kernel
theorem d_Se_sendPackets_78 : decode prog_6_method_10_code 78 = .ok (.goto (-21), 3) := by decide +kernel
theorem d_Se_sendPackets_81 : decode prog_6_method_10_code 81 = .ok (.aload_n 0, 1) := by decide +kernel
theorem d_Se_sendPackets_82 : decode prog_6_method_10_code 82 = .ok (.getfield 18, 3) := by decide +kernel
theorem d_Se_sendPackets_85 : decode prog_6_method_10_code 85 = .ok (.iconst 3, 1) := by decide +kernel
theorem d_Se_sendPackets_86 : decode prog_6_method_10_code 86 = .ok (.if_icmp .ne 7, 3) := by decide +kernel
theorem d_Se_sendPackets_89 : decode prog_6_method_10_code 89 = .ok (.aload_n 0, 1) := by decide +kernel
theorem d_Se_sendPackets_90 : decode prog_6_method_10_code 90 = .ok (.invokevirtual 69, 3) := by decide +kernel
theorem d_Se_sendPackets_93 : decode prog_6_method_10_code 93 = .ok (.return_, 1) := by decide +kernel
def rm_Se_sendPackets : Room := { frames := 4, cells := 0, slots := 0, locals := 89 }
def wp_Se_sendPackets_L81 (L : List Nat) (Q : UI → UR → Prop) (I : UI) (R : UR) : Prop :=
  ((¬ I 2 2 = 3 → Q I R) ∧ (I 2 2 = 3 → wp_Se_sendForState L I R (fun I5 R6 => Q I5 R6)))
set_option maxHeartbeats 4000000 in
set_option maxRecDepth 100000 in
theorem j_Se_sendPackets_81 (X : uX p s m args c prog_6_method_10_code 3 "FrameFerry$Sender" D cc L A t16 t32) (hr : meth.sig.returnType = none) (hlk : meth.locks = false) (hsz : sz = s.heap.size) {Q : UI → UR → Prop} {I : UI} {R : UR} {H : Heap} {locs : List Loc} {ls : Array Slot} (V : uV s D cc L A J I R H locs) (hl : lv_has ls 3 [(0, .ref (A 2))]) (h : wp_Se_sendPackets_L81 L Q I R) : W p l e rm_Se_sendPackets s m args below meth c H locs 0 0 (MQ below (va_Qv (fun u : UI × UR => Q u.1 u.2) (uBv D cc L A J) (uA L A sz)) args s 0 0 (uA L A sz)) (F0 m 81 ls []) := by
  have hx := X.1
  have hb := X.2.1
  unfold wp_Se_sendPackets_L81 at h
  refine lv_aload_n (pc := 81) hx hb d_Se_sendPackets_81 rfl (lv_at hl 0 rfl) ?_
  refine u_geti (pc := 82) X V (X.fix rfl) rfl rfl f_Se_18 rfl d_Se_sendPackets_82 ?_
  refine lv_iconst (pc := 85) (v := 3) hx hb d_Se_sendPackets_85 (by decide) ?_
  refine lv_icmp_ne (pc := 86) (tgt := 93) hx hb d_Se_sendPackets_86 (by decide) (fun hc => ?_) (fun hc => ?_)
  · have h := h.1 hc
    exact u_retv (pc := 93) X V hr hlk hsz h d_Se_sendPackets_93
  · have h := h.2 hc
    refine lv_aload_n (pc := 89) hx hb d_Se_sendPackets_89 rfl (lv_at hl 0 rfl) ?_
    refine u_cVv (pc := 90) (As := []) X V s_Se_69 (X.fix rfl) rfl rfl rfl (c_Se_sendForState l D cc L A J t16 t32 _ _  _ h) ⟨rfl, rfl, Nat.le_of_ble_eq_true rfl, Nat.le_of_ble_eq_true rfl⟩ rfl hl.1 rfl (Nat.le_of_ble_eq_true rfl) d_Se_sendPackets_90 ⟨Nat.zero_le _, Nat.zero_le _⟩ (fun I5 R6 h H locs V => ?_)
    exact u_retv (pc := 93) X V hr hlk hsz h d_Se_sendPackets_93
def wp_Se_sendPackets_L57 (L : List Nat) (Q : UI → UR → Prop) : Nat → UI → UR → Option Nat → Int32 → Prop
  | 0, _, _, _, _ => False
  | n + 1, I, R, z1, x2 => ((4 ≤ x2 → wp_Se_sendPackets_L81 L Q I R) ∧ (¬ 4 ≤ x2 → ((¬ I 2 2 = 2 → wp_Se_sendPackets_L81 L Q I R) ∧ (I 2 2 = 2 → (∃ i7 : Nat, z1 = some i7 ∧ isSf L i7 ∧ wp_Se_sendPacket L I R i7 (fun I8 R9 => ∀ v10 : Int32, v10 = x2 + 1 → wp_Se_sendPackets_L57 L Q n I8 R9 (some i7) v10))))))
set_option maxHeartbeats 4000000 in
set_option maxRecDepth 100000 in
theorem j_Se_sendPackets_57 (X : uX p s m args c prog_6_method_10_code 3 "FrameFerry$Sender" D cc L A t16 t32) (hr : meth.sig.returnType = none) (hlk : meth.locks = false) (hsz : sz = s.heap.size) {Q : UI → UR → Prop} : ∀ (n : Nat) (I : UI) (R : UR) (z1 : Option Nat) (x2 : Int32) (H : Heap) (locs : List Loc) (ls : Array Slot), uV s D cc L A J I R H locs → lv_has ls 3 [(0, .ref (A 2)), (1, va_rf (Option.map A z1)), (2, .int x2)] → wp_Se_sendPackets_L57 L Q n I R z1 x2 → W p l e rm_Se_sendPackets s m args below meth c H locs 0 0 (MQ below (va_Qv (fun u : UI × UR => Q u.1 u.2) (uBv D cc L A J) (uA L A sz)) args s 0 0 (uA L A sz)) (F0 m 57 ls []) := by
  intro n
  induction n with
  | zero => exact fun I R z1 x2 H locs ls V hl h => False.elim h
  | succ n ih =>
    intro I R z1 x2 H locs ls V hl h
    have hx := X.1
    have hb := X.2.1
    rw [wp_Se_sendPackets_L57] at h
    refine lv_iload_n (pc := 57) hx hb d_Se_sendPackets_57 rfl (lv_at hl 2 rfl) ?_
    refine lv_iconst (pc := 58) (v := 4) hx hb d_Se_sendPackets_58 (by decide) ?_
    refine lv_icmp_ge (pc := 59) (tgt := 81) hx hb d_Se_sendPackets_59 (by decide) (fun hc => ?_) (fun hc => ?_)
    · have h := h.1 hc
      exact j_Se_sendPackets_81 X hr hlk hsz V (lv_sub hl [0] rfl) h
    · have h := h.2 hc
      refine lv_aload_n (pc := 62) hx hb d_Se_sendPackets_62 rfl (lv_at hl 0 rfl) ?_
      refine u_geti (pc := 63) X V (X.fix rfl) rfl rfl f_Se_18 rfl d_Se_sendPackets_63 ?_
      refine lv_iconst (pc := 66) (v := 2) hx hb d_Se_sendPackets_66 (by decide) ?_
      refine lv_icmp_ne (pc := 67) (tgt := 81) hx hb d_Se_sendPackets_67 (by decide) (fun hc => ?_) (fun hc => ?_)
      · have h := h.1 hc
        exact j_Se_sendPackets_81 X hr hlk hsz V (lv_sub hl [0] rfl) h
      · have h := h.2 hc
        refine lv_aload_n (pc := 70) hx hb d_Se_sendPackets_70 rfl (lv_at hl 0 rfl) ?_
        refine u_aload_n (pc := 71) hx hb d_Se_sendPackets_71 rfl (lv_at hl 1 rfl) ?_
        obtain ⟨i7, rfl, h_i7, h⟩ := h
        refine u_cVv (pc := 72) (As := [va_rf (Option.map A (some i7))]) X V s_Se_100 (X.fix rfl) rfl rfl rfl (c_Se_sendPacket l D cc L A J t16 t32 _ _ i7 h_i7 _ h) ⟨rfl, rfl, Nat.le_of_ble_eq_true rfl, Nat.le_of_ble_eq_true rfl⟩ rfl hl.1 rfl (Nat.le_of_ble_eq_true rfl) d_Se_sendPackets_72 ⟨Nat.zero_le _, Nat.zero_le _⟩ (fun I8 R9 h H locs V => ?_)
        obtain ⟨v10, ev10⟩ : ∃ z : Int32, z = x2 + 1 := ⟨_, rfl⟩
        have h := h v10 ev10
        refine lv_iinc (pc := 75) (k := 2) (v := v10) (lv' := [(2, .int v10), (0, .ref (A 2)), (1, va_rf (Option.map A (some i7)))]) hx hb d_Se_sendPackets_75 hl rfl (by rw [ev10]; rfl) (by decide) rfl (fun ls hl => ?_)
        refine lv_goto (pc := 78) (tgt := 57) hx hb d_Se_sendPackets_78 (by decide) ?_
        exact ih I8 R9 (some i7) v10 H locs ls V (lv_sub hl [1, 2, 0] rfl) h
def wp_Se_sendPackets_L55 (L : List Nat) (Q : UI → UR → Prop) (I : UI) (R : UR) (z1 : Option Nat) : Prop :=
  (∃ n57 : Nat, wp_Se_sendPackets_L57 L Q n57 I R z1 0)
set_option maxHeartbeats 4000000 in
set_option maxRecDepth 100000 in
theorem j_Se_sendPackets_55 (X : uX p s m args c prog_6_method_10_code 3 "FrameFerry$Sender" D cc L A t16 t32) (hr : meth.sig.returnType = none) (hlk : meth.locks = false) (hsz : sz = s.heap.size) {Q : UI → UR → Prop} {I : UI} {R : UR} {z1 : Option Nat} {H : Heap} {locs : List Loc} {ls : Array Slot} (V : uV s D cc L A J I R H locs) (hl : lv_has ls 3 [(0, .ref (A 2)), (1, va_rf (Option.map A z1))]) (h : wp_Se_sendPackets_L55 L Q I R z1) : W p l e rm_Se_sendPackets s m args below meth c H locs 0 0 (MQ below (va_Qv (fun u : UI × UR => Q u.1 u.2) (uBv D cc L A J) (uA L A sz)) args s 0 0 (uA L A sz)) (F0 m 55 ls []) := by
  have hx := X.1
  have hb := X.2.1
  unfold wp_Se_sendPackets_L55 at h
  refine lv_iconst (pc := 55) (v := 0) hx hb d_Se_sendPackets_55 (by decide) ?_
  refine lv_istore_n (pc := 56) (lv' := [(2, .int 0), (0, .ref (A 2)), (1, va_rf (Option.map A z1))]) hx hb d_Se_sendPackets_56 rfl hl (by decide) (by cases z1 <;> rfl) (fun ls hl => ?_)
  obtain ⟨n57, h⟩ := h
  exact j_Se_sendPackets_57 X hr hlk hsz n57 I R z1 0 H locs ls V (lv_sub hl [1, 2, 0] rfl) h
def wp_Se_sendPackets (L : List Nat) (I : UI) (R : UR) (Q : UI → UR → Prop) : Prop :=
  wp_Se_fileAt L I R (I 2 7) (fun z3 I1 R2 => ((¬ I1 2 2 = 2 → Q I1 R2) ∧ (I1 2 2 = 2 → ((z3 = none → Q I1 R2) ∧ (∀ i4 : Nat, z3 = some i4 → ((I1 2 10 = 0 → wp_Se_sendPackets_L55 L Q I1 R2 (some i4)) ∧ (¬ I1 2 10 = 0 → wp_Wr_bytesHeader I1 R2 8 4 10 (I1 2 3) (I1 2 9) (fun I11 R12 => zb 0 ∧ ∀ I13 : UI, I13 = u2 I11 2 10 0 → wp_Se_sendPackets_L55 L Q I13 R12 (some i4)))))))))
set_option maxHeartbeats 4000000 in
set_option maxRecDepth 100000 in
theorem c_Se_sendPackets (l : Launch) (D : va_G) (cc : Nat → ClassId) (L : List Nat) (A : Nat → Nat) (J : Nat → Int64) (t16 t32 : Nat) (I : UI) (R : UR) (Q : UI → UR → Prop) (h : wp_Se_sendPackets L I R Q) : uMv l y_Se_sendPackets (.code y_Se_sendPackets prog_6_method_10_code 3 none) rm_Se_sendPackets [.ref (A 2)] D cc L A J t16 t32 I R Q := by
  intro sz
  refine u_entry (by decide) (Nat.le_of_ble_eq_true rfl) (fun p e s m args below meth c hsz X V hr hlk ls hl => ?_)
  have X : uX p s m args c prog_6_method_10_code 3 "FrameFerry$Sender" D cc L A t16 t32 := X
  have hx := X.1
  have hb := X.2.1
  have hl : lv_has ls 3 [(0, .ref (A 2))] := hl
  unfold wp_Se_sendPackets at h
  generalize hH : s.heap = H at V ⊢
  generalize hlo : ([] : List Loc) = locs at V ⊢
  refine lv_aload_n (pc := 0) hx hb d_Se_sendPackets_0 rfl (lv_at hl 0 rfl) ?_
  refine lv_aload_n (pc := 1) hx hb d_Se_sendPackets_1 rfl (lv_at hl 0 rfl) ?_
  refine u_geti (pc := 2) X V (X.fix rfl) rfl rfl f_Se_58 rfl d_Se_sendPackets_2 ?_
  refine u_cVr (pc := 5) (As := [.int (I 2 7)]) X V s_Se_92 (X.fix rfl) rfl rfl rfl (c_Se_fileAt l D cc L A J t16 t32 _ _ (I 2 7) _ h) ⟨rfl, rfl, Nat.le_of_ble_eq_true rfl, Nat.le_of_ble_eq_true rfl⟩ rfl hl.1 rfl (Nat.le_of_ble_eq_true rfl) d_Se_sendPackets_5 ⟨Nat.zero_le _, Nat.zero_le _⟩ (fun z3 I1 R2 h H locs V => ?_)
  refine u_astore_n (pc := 8) (lv' := [(1, va_rf (Option.map A z3)), (0, .ref (A 2))]) hx hb d_Se_sendPackets_8 rfl hl (by decide) rfl (fun ls hl => ?_)
  refine lv_aload_n (pc := 9) hx hb d_Se_sendPackets_9 rfl (lv_at hl 1 rfl) ?_
  refine u_geti (pc := 10) X V (X.fix rfl) rfl rfl f_Se_18 rfl d_Se_sendPackets_10 ?_
  refine lv_iconst (pc := 13) (v := 2) hx hb d_Se_sendPackets_13 (by decide) ?_
  refine lv_icmp_ne (pc := 14) (tgt := 21) hx hb d_Se_sendPackets_14 (by decide) (fun hc => ?_) (fun hc => ?_)
  · have h := h.1 hc
    exact u_retv (pc := 21) X V hr hlk hsz h d_Se_sendPackets_21
  · have h := h.2 hc
    refine u_aload_n (pc := 17) hx hb d_Se_sendPackets_17 rfl (lv_at hl 0 rfl) ?_
    rcases z3 with _ | i4
    · have h := h.1 rfl
      refine lv_ifnonnullN (pc := 18) hx hb d_Se_sendPackets_18 ?_
      exact u_retv (pc := 21) X V hr hlk hsz h d_Se_sendPackets_21
    · have h := h.2 i4 rfl
      refine lv_ifnonnull (pc := 18) (tgt := 22) hx hb d_Se_sendPackets_18 (by decide) ?_
      refine lv_aload_n (pc := 22) hx hb d_Se_sendPackets_22 rfl (lv_at hl 1 rfl) ?_
      refine u_geti (pc := 23) X V (X.fix rfl) rfl rfl f_Se_86 rfl d_Se_sendPackets_23 ?_
      refine lv_if_eq (pc := 26) (tgt := 55) hx hb d_Se_sendPackets_26 (by decide) (fun hc => ?_) (fun hc => ?_)
      · have h := h.1 hc
        exact j_Se_sendPackets_55 X hr hlk hsz V (lv_sub hl [1, 0] rfl) h
      · have h := h.2 hc
        refine lv_aload_n (pc := 29) hx hb d_Se_sendPackets_29 rfl (lv_at hl 1 rfl) ?_
        refine u_getr (pc := 30) (o' := 8) X V (X.fix rfl) rfl rfl f_Se_25 rfl rfl d_Se_sendPackets_30 ?_
        refine lv_aload_n (pc := 33) hx hb d_Se_sendPackets_33 rfl (lv_at hl 1 rfl) ?_
        refine u_getr (pc := 34) (o' := 4) X V (X.fix rfl) rfl rfl f_Se_12 rfl rfl d_Se_sendPackets_34 ?_
        refine lv_bipush (pc := 37) (v := 10) hx hb d_Se_sendPackets_37 (by decide) ?_
        refine lv_aload_n (pc := 39) hx hb d_Se_sendPackets_39 rfl (lv_at hl 1 rfl) ?_
        refine u_geti (pc := 40) X V (X.fix rfl) rfl rfl f_Se_55 rfl d_Se_sendPackets_40 ?_
        refine lv_aload_n (pc := 43) hx hb d_Se_sendPackets_43 rfl (lv_at hl 1 rfl) ?_
        refine u_geti (pc := 44) X V (X.fix rfl) rfl rfl f_Se_65 rfl d_Se_sendPackets_44 ?_
        refine u_cVv (pc := 47) (As := [.ref (A 4), .int 10, .int (I1 2 3), .int (I1 2 9)]) X V s_Se_96 (X.fix rfl) rfl rfl rfl (c_Wr_bytesHeader l D cc L A J t16 t32 _ _ 8 ⟨(X.fix rfl), rfl, (X.fix rfl), rfl⟩ 4 ⟨(X.fix rfl), rfl, (X.fix rfl), rfl⟩ 10 (I1 2 3) (I1 2 9) _ h) ⟨rfl, rfl, Nat.le_of_ble_eq_true rfl, Nat.le_of_ble_eq_true rfl⟩ rfl hl.1 rfl (Nat.le_of_ble_eq_true rfl) d_Se_sendPackets_47 ⟨Nat.zero_le _, Nat.zero_le _⟩ (fun I11 R12 h H locs V => ?_)
        refine lv_aload_n (pc := 50) hx hb d_Se_sendPackets_50 rfl (lv_at hl 1 rfl) ?_
        refine lv_iconst (pc := 51) (v := 0) hx hb d_Se_sendPackets_51 (by decide) ?_
        refine u_putz (pc := 52) X V (X.fix rfl) rfl rfl f_Se_86 rfl h.1 d_Se_sendPackets_52 (fun I13 eI13 H locs V => ?_)
        have h := h.2 I13 eI13
        exact j_Se_sendPackets_55 X hr hlk hsz V (lv_sub hl [1, 0] rfl) h
-- FrameFerry$Sender.takeHeader ()V
theorem d_Se_takeHeader_0 : decode prog_6_method_11_code 0 = .ok (.aload_n 0, 1) := by decide +kernel
theorem d_Se_takeHeader_1 : decode prog_6_method_11_code 1 = .ok (.getfield 32, 3) := by decide +kernel
theorem d_Se_takeHeader_4 : decode prog_6_method_11_code 4 = .ok (.getfield 104, 3) := by decide +kernel
theorem d_Se_takeHeader_7 : decode prog_6_method_11_code 7 = .ok (.tableswitch 143 1 9 #[49, 143, 143, 143, 97, 129, 143, 136, 115], 49) := by decide +kernel
theorem d_Se_takeHeader_56 : decode prog_6_method_11_code 56 = .ok (.aload_n 0, 1) := by decide +kernel
theorem d_Se_takeHeader_57 : decode prog_6_method_11_code 57 = .ok (.aload_n 0, 1) := by decide +kernel
theorem d_Se_takeHeader_58 : decode prog_6_method_11_code 58 = .ok (.getfield 32, 3) := by decide +kernel
theorem d_Se_takeHeader_61 : decode prog_6_method_11_code 61 = .ok (.getfield 107, 3) := by decide +kernel
theorem d_Se_takeHeader_64 : decode prog_6_method_11_code 64 = .ok (.bipush 32, 2) := by decide +kernel
theorem d_Se_takeHeader_66 : decode prog_6_method_11_code 66 = .ok (.iand, 1) := by decide +kernel
theorem d_Se_takeHeader_67 : decode prog_6_method_11_code 67 = .ok (.ifCond .eq 7, 3) := by decide +kernel
theorem d_Se_takeHeader_70 : decode prog_6_method_11_code 70 = .ok (.iconst 1, 1) := by decide +kernel
theorem d_Se_takeHeader_71 : decode prog_6_method_11_code 71 = .ok (.goto 4, 3) := by decide +kernel
theorem d_Se_takeHeader_74 : decode prog_6_method_11_code 74 = .ok (.iconst 0, 1) := by decide +kernel
theorem d_Se_takeHeader_75 : decode prog_6_method_11_code 75 = .ok (.putfield 65, 3) := by decide +kernel
theorem d_Se_takeHeader_78 : decode prog_6_method_11_code 78 = .ok (.aload_n 0, 1) := by decide +kernel
theorem d_Se_takeHeader_79 : decode prog_6_method_11_code 79 = .ok (.getfield 18, 3) := by decide +kernel
theorem d_Se_takeHeader_82 : decode prog_6_method_11_code 82 = .ok (.ifCond .eq 11, 3) := by decide +kernel
theorem d_Se_takeHeader_85 : decode prog_6_method_11_code 85 = .ok (.aload_n 0, 1) := by decide +kernel
theorem d_Se_takeHeader_86 : decode prog_6_method_11_code 86 = .ok (.getfield 18, 3) := by decide +kernel
theorem d_Se_takeHeader_89 : decode prog_6_method_11_code 89 = .ok (.iconst 3, 1) := by decide +kernel
theorem d_Se_takeHeader_90 : decode prog_6_method_11_code 90 = .ok (.if_icmp .ne 60, 3) := by decide +kernel
theorem d_Se_takeHeader_93 : decode prog_6_method_11_code 93 = .ok (.aload_n 0, 1) := by decide +kernel
theorem d_Se_takeHeader_94 : decode prog_6_method_11_code 94 = .ok (.invokevirtual 110, 3) := by decide +kernel
theorem d_Se_takeHeader_97 : decode prog_6_method_11_code 97 = .ok (.aload_n 0, 1) := by decide +kernel
theorem d_Se_takeHeader_98 : decode prog_6_method_11_code 98 = .ok (.invokevirtual 69, 3) := by decide +kernel
theorem d_Se_takeHeader_101 : decode prog_6_method_11_code 101 = .ok (.goto 49, 3) := by decide +kernel
theorem d_Se_takeHeader_104 : decode prog_6_method_11_code 104 = .ok (.aload_n 0, 1) := by decide +kernel
theorem d_Se_takeHeader_105 : decode prog_6_method_11_code 105 = .ok (.invokevirtual 113, 3) := by decide +kernel
theorem d_Se_takeHeader_108 : decode prog_6_method_11_code 108 = .ok (.ifCond .eq 42, 3) := by decide +kernel
theorem d_Se_takeHeader_111 : decode prog_6_method_11_code 111 = .ok (.aload_n 0, 1) := by decide +kernel
theorem d_Se_takeHeader_112 : decode prog_6_method_11_code 112 = .ok (.invokevirtual 110, 3) := by decide +kernel
theorem d_Se_takeHeader_115 : decode prog_6_method_11_code 115 = .ok (.aload_n 0, 1) := by decide +kernel
theorem d_Se_takeHeader_116 : decode prog_6_method_11_code 116 = .ok (.invokevirtual 69, 3) := by decide +kernel
theorem d_Se_takeHeader_119 : decode prog_6_method_11_code 119 = .ok (.goto 31, 3) := by decide +kernel
theorem d_Se_takeHeader_122 : decode prog_6_method_11_code 122 = .ok (.aload_n 0, 1) := by decide +kernel
theorem d_Se_takeHeader_123 : decode prog_6_method_11_code 123 = .ok (.aload_n 0, 1) := by decide +kernel
theorem d_Se_takeHeader_124 : decode prog_6_method_11_code 124 = .ok (.getfield 32, 3) := by decide +kernel
theorem d_Se_takeHeader_127 : decode prog_6_method_11_code 127 = .ok (.getfield 107, 3) := by decide +kernel
theorem d_Se_takeHeader_130 : decode prog_6_method_11_code 130 = .ok (.invokevirtual 117, 3) := by decide +kernel
theorem d_Se_takeHeader_133 : decode prog_6_method_11_code 133 = .ok (.goto 17, 3) := by decide +kernel
theorem d_Se_takeHeader_136 : decode prog_6_method_11_code 136 = .ok (.aload_n 0, 1) := by decide +kernel
theorem d_Se_takeHeader_137 : decode prog_6_method_11_code 137 = .ok (.invokevirtual 69, 3) := by decide +kernel
theorem d_Se_takeHeader_140 : decode prog_6_method_11_code 140 = .ok (.goto 10, 3) := by decide +kernel
theorem d_Se_takeHeader_143 : decode prog_6_method_11_code 143 = .ok (.aload_n 0, 1) := by decide +kernel
theorem d_Se_takeHeader_144 : decode prog_6_method_11_code 144 = .ok (.invokevirtual 121, 3) := by decide +kernel
theorem d_Se_takeHeader_147 : decode prog_6_method_11_code 147 = .ok (.goto 3, 3) := by decide +kernel
theorem d_Se_takeHeader_150 : decode prog_6_method_11_code 150 = .ok (.return_, 1) := by decide +kernel
def rm_Se_takeHeader : Room := { frames := 4, cells := 0, slots := 0, locals := 89 }
def wp_Se_takeHeader_L93 (L : List Nat) (Q : UI → UR → Prop) (I : UI) (R : UR) : Prop :=
  wp_Se_goToNextFile L I R (fun I3 R4 => wp_Se_sendForState L I3 R4 (fun I5 R6 => Q I5 R6))
set_option maxHeartbeats 4000000 in
set_option maxRecDepth 100000 in
theorem j_Se_takeHeader_93 (X : uX p s m args c prog_6_method_11_code 1 "FrameFerry$Sender" D cc L A t16 t32) (hr : meth.sig.returnType = none) (hlk : meth.locks = false) (hsz : sz = s.heap.size) {Q : UI → UR → Prop} {I : UI} {R : UR} {H : Heap} {locs : List Loc} {ls : Array Slot} (V : uV s D cc L A J I R H locs) (hl : lv_has ls 1 [(0, .ref (A 2))]) (h : wp_Se_takeHeader_L93 L Q I R) : W p l e rm_Se_takeHeader s m args below meth c H locs 0 0 (MQ below (va_Qv (fun u : UI × UR => Q u.1 u.2) (uBv D cc L A J) (uA L A sz)) args s 0 0 (uA L A sz)) (F0 m 93 ls []) := by
  have hx := X.1
  have hb := X.2.1
  unfold wp_Se_takeHeader_L93 at h
  refine lv_aload_n (pc := 93) hx hb d_Se_takeHeader_93 rfl (lv_at hl 0 rfl) ?_
  refine u_cVv (pc := 94) (As := []) X V s_Se_110 (X.fix rfl) rfl rfl rfl (c_Se_goToNextFile l D cc L A J t16 t32 _ _  _ h) ⟨rfl, rfl, Nat.le_of_ble_eq_true rfl, Nat.le_of_ble_eq_true rfl⟩ rfl hl.1 rfl (Nat.le_of_ble_eq_true rfl) d_Se_takeHeader_94 ⟨Nat.zero_le _, Nat.zero_le _⟩ (fun I3 R4 h H locs V => ?_)
  refine lv_aload_n (pc := 97) hx hb d_Se_takeHeader_97 rfl (lv_at hl 0 rfl) ?_
  refine u_cVv (pc := 98) (As := []) X V s_Se_69 (X.fix rfl) rfl rfl rfl (c_Se_sendForState l D cc L A J t16 t32 _ _  _ h) ⟨rfl, rfl, Nat.le_of_ble_eq_true rfl, Nat.le_of_ble_eq_true rfl⟩ rfl hl.1 rfl (Nat.le_of_ble_eq_true rfl) d_Se_takeHeader_98 ⟨Nat.zero_le _, Nat.zero_le _⟩ (fun I5 R6 h H locs V => ?_)
  refine lv_goto (pc := 101) (tgt := 150) hx hb d_Se_takeHeader_101 (by decide) ?_
  exact u_retv (pc := 150) X V hr hlk hsz h d_Se_takeHeader_150
def wp_Se_takeHeader_L75 (L : List Nat) (Q : UI → UR → Prop) (I : UI) (R : UR) (s0 : Int32) : Prop :=
  zb s0 ∧ ∀ I2 : UI, I2 = u2 I 2 9 s0 → ((I2 2 2 = 0 → wp_Se_takeHeader_L93 L Q I2 R) ∧ (¬ I2 2 2 = 0 → ((¬ I2 2 2 = 3 → Q I2 R) ∧ (I2 2 2 = 3 → wp_Se_takeHeader_L93 L Q I2 R))))
set_option maxHeartbeats 4000000 in
set_option maxRecDepth 100000 in
theorem j_Se_takeHeader_75 (X : uX p s m args c prog_6_method_11_code 1 "FrameFerry$Sender" D cc L A t16 t32) (hr : meth.sig.returnType = none) (hlk : meth.locks = false) (hsz : sz = s.heap.size) {Q : UI → UR → Prop} {I : UI} {R : UR} {s0 : Int32} {H : Heap} {locs : List Loc} {ls : Array Slot} (V : uV s D cc L A J I R H locs) (hl : lv_has ls 1 [(0, .ref (A 2))]) (h : wp_Se_takeHeader_L75 L Q I R s0) : W p l e rm_Se_takeHeader s m args below meth c H locs 0 0 (MQ below (va_Qv (fun u : UI × UR => Q u.1 u.2) (uBv D cc L A J) (uA L A sz)) args s 0 0 (uA L A sz)) (F0 m 75 ls [.int s0, .ref (A 2)]) := by
  have hx := X.1
  have hb := X.2.1
  unfold wp_Se_takeHeader_L75 at h
  refine u_putz (pc := 75) X V (X.fix rfl) rfl rfl f_Se_65 rfl h.1 d_Se_takeHeader_75 (fun I2 eI2 H locs V => ?_)
  have h := h.2 I2 eI2
  refine lv_aload_n (pc := 78) hx hb d_Se_takeHeader_78 rfl (lv_at hl 0 rfl) ?_
  refine u_geti (pc := 79) X V (X.fix rfl) rfl rfl f_Se_18 rfl d_Se_takeHeader_79 ?_
  refine lv_if_eq (pc := 82) (tgt := 93) hx hb d_Se_takeHeader_82 (by decide) (fun hc => ?_) (fun hc => ?_)
  · have h := h.1 hc
    exact j_Se_takeHeader_93 X hr hlk hsz V (lv_sub hl [0] rfl) h
  · have h := h.2 hc
    refine lv_aload_n (pc := 85) hx hb d_Se_takeHeader_85 rfl (lv_at hl 0 rfl) ?_
    refine u_geti (pc := 86) X V (X.fix rfl) rfl rfl f_Se_18 rfl d_Se_takeHeader_86 ?_
    refine lv_iconst (pc := 89) (v := 3) hx hb d_Se_takeHeader_89 (by decide) ?_
    refine lv_icmp_ne (pc := 90) (tgt := 150) hx hb d_Se_takeHeader_90 (by decide) (fun hc => ?_) (fun hc => ?_)
    · have h := h.1 hc
      exact u_retv (pc := 150) X V hr hlk hsz h d_Se_takeHeader_150
    · have h := h.2 hc
      exact j_Se_takeHeader_93 X hr hlk hsz V (lv_sub hl [0] rfl) h
def wp_Se_takeHeader (L : List Nat) (I : UI) (R : UR) (Q : UI → UR → Prop) : Prop :=
  ∀ v1 : Int32, v1 = I 12 3 → ((v1 = 1 → (((I 12 4) &&& 32 = 0 → wp_Se_takeHeader_L75 L Q I R 0) ∧ (¬ (I 12 4) &&& 32 = 0 → wp_Se_takeHeader_L75 L Q I R 1))) ∧ (¬ v1 = 1 → ((v1 = 2 → Q I R) ∧ (¬ v1 = 2 → ((v1 = 3 → Q I R) ∧ (¬ v1 = 3 → ((v1 = 4 → Q I R) ∧ (¬ v1 = 4 → ((v1 = 5 → wp_Se_hasFileAtHand L I R (fun r9 I7 R8 => ((r9 = 0 → Q I7 R8) ∧ (¬ r9 = 0 → wp_Se_goToNextFile L I7 R8 (fun I10 R11 => wp_Se_sendForState L I10 R11 (fun I12 R13 => Q I12 R13)))))) ∧ (¬ v1 = 5 → ((v1 = 6 → wp_Se_sendForState L I R (fun I14 R15 => Q I14 R15)) ∧ (¬ v1 = 6 → ((v1 = 7 → Q I R) ∧ (¬ v1 = 7 → ((v1 = 8 → wp_Se_leave L I R (fun I16 R17 => Q I16 R17)) ∧ (¬ v1 = 8 → ((v1 = 9 → wp_Se_goToPlace L I R (I 12 4) (fun I18 R19 => Q I18 R19)) ∧ (¬ v1 = 9 → Q I R))))))))))))))))))
set_option maxHeartbeats 4000000 in
set_option maxRecDepth 100000 in
theorem c_Se_takeHeader (l : Launch) (D : va_G) (cc : Nat → ClassId) (L : List Nat) (A : Nat → Nat) (J : Nat → Int64) (t16 t32 : Nat) (I : UI) (R : UR) (Q : UI → UR → Prop) (h : wp_Se_takeHeader L I R Q) : uMv l y_Se_takeHeader (.code y_Se_takeHeader prog_6_method_11_code 1 none) rm_Se_takeHeader [.ref (A 2)] D cc L A J t16 t32 I R Q := by
  intro sz
  refine u_entry (by decide) (Nat.le_of_ble_eq_true rfl) (fun p e s m args below meth c hsz X V hr hlk ls hl => ?_)
  have X : uX p s m args c prog_6_method_11_code 1 "FrameFerry$Sender" D cc L A t16 t32 := X
  have hx := X.1
  have hb := X.2.1
  have hl : lv_has ls 1 [(0, .ref (A 2))] := hl
  unfold wp_Se_takeHeader at h
  generalize hH : s.heap = H at V ⊢
  generalize hlo : ([] : List Loc) = locs at V ⊢
  refine lv_aload_n (pc := 0) hx hb d_Se_takeHeader_0 rfl (lv_at hl 0 rfl) ?_
  refine u_getr (pc := 1) (o' := 12) X V (X.fix rfl) rfl rfl f_Se_32 rfl rfl d_Se_takeHeader_1 ?_
  refine u_geti (pc := 4) X V (X.fix rfl) rfl rfl f_Se_104 rfl d_Se_takeHeader_4 ?_
  refine lv_topi (fun v1 ev1 => ?_)
  have h := h v1 ev1
  by_cases hn0 : v1 = 1
  · have h := h.1 hn0
    rw [hn0]
    refine lv_tableIn (pc := 7) (tgt := 56) (off := 49) hx hb d_Se_takeHeader_7 (by decide) (by decide) rfl (by decide) ?_
    refine lv_aload_n (pc := 56) hx hb d_Se_takeHeader_56 rfl (lv_at hl 0 rfl) ?_
    refine lv_aload_n (pc := 57) hx hb d_Se_takeHeader_57 rfl (lv_at hl 0 rfl) ?_
    refine u_getr (pc := 58) (o' := 12) X V (X.fix rfl) rfl rfl f_Se_32 rfl rfl d_Se_takeHeader_58 ?_
    refine u_geti (pc := 61) X V (X.fix rfl) rfl rfl f_Se_107 rfl d_Se_takeHeader_61 ?_
    refine lv_bipush (pc := 64) (v := 32) hx hb d_Se_takeHeader_64 (by decide) ?_
    refine lv_iand (pc := 66) hx hb d_Se_takeHeader_66 ?_
    refine lv_if_eq (pc := 67) (tgt := 74) hx hb d_Se_takeHeader_67 (by decide) (fun hc => ?_) (fun hc => ?_)
    · have h := h.1 hc
      refine lv_iconst (pc := 74) (v := 0) hx hb d_Se_takeHeader_74 (by decide) ?_
      exact j_Se_takeHeader_75 X hr hlk hsz V (lv_sub hl [0] rfl) h
    · have h := h.2 hc
      refine lv_iconst (pc := 70) (v := 1) hx hb d_Se_takeHeader_70 (by decide) ?_
      refine lv_goto (pc := 71) (tgt := 75) hx hb d_Se_takeHeader_71 (by decide) ?_
      exact j_Se_takeHeader_75 X hr hlk hsz V (lv_sub hl [0] rfl) h
  · have h := h.2 hn0
    by_cases hn1 : v1 = 2
    · have h := h.1 hn1
      rw [hn1]
      refine lv_tableIn (pc := 7) (tgt := 150) (off := 143) hx hb d_Se_takeHeader_7 (by decide) (by decide) rfl (by decide) ?_
      exact u_retv (pc := 150) X V hr hlk hsz h d_Se_takeHeader_150
    · have h := h.2 hn1
      by_cases hn2 : v1 = 3
      · have h := h.1 hn2
        rw [hn2]
        refine lv_tableIn (pc := 7) (tgt := 150) (off := 143) hx hb d_Se_takeHeader_7 (by decide) (by decide) rfl (by decide) ?_
        exact u_retv (pc := 150) X V hr hlk hsz h d_Se_takeHeader_150
      · have h := h.2 hn2
        by_cases hn3 : v1 = 4
        · have h := h.1 hn3
          rw [hn3]
          refine lv_tableIn (pc := 7) (tgt := 150) (off := 143) hx hb d_Se_takeHeader_7 (by decide) (by decide) rfl (by decide) ?_
          exact u_retv (pc := 150) X V hr hlk hsz h d_Se_takeHeader_150
        · have h := h.2 hn3
          by_cases hn4 : v1 = 5
          · have h := h.1 hn4
            rw [hn4]
            refine lv_tableIn (pc := 7) (tgt := 104) (off := 97) hx hb d_Se_takeHeader_7 (by decide) (by decide) rfl (by decide) ?_
            refine lv_aload_n (pc := 104) hx hb d_Se_takeHeader_104 rfl (lv_at hl 0 rfl) ?_
            refine u_cVi (pc := 105) (As := []) X V s_Se_113 (X.fix rfl) rfl rfl rfl (c_Se_hasFileAtHand l D cc L A J t16 t32 _ _  _ h) ⟨rfl, rfl, Nat.le_of_ble_eq_true rfl, Nat.le_of_ble_eq_true rfl⟩ rfl hl.1 rfl (Nat.le_of_ble_eq_true rfl) d_Se_takeHeader_105 ⟨Nat.zero_le _, Nat.zero_le _⟩ (fun r9 I7 R8 h H locs V => ?_)
            refine lv_if_eq (pc := 108) (tgt := 150) hx hb d_Se_takeHeader_108 (by decide) (fun hc => ?_) (fun hc => ?_)
            · have h := h.1 hc
              exact u_retv (pc := 150) X V hr hlk hsz h d_Se_takeHeader_150
            · have h := h.2 hc
              refine lv_aload_n (pc := 111) hx hb d_Se_takeHeader_111 rfl (lv_at hl 0 rfl) ?_
              refine u_cVv (pc := 112) (As := []) X V s_Se_110 (X.fix rfl) rfl rfl rfl (c_Se_goToNextFile l D cc L A J t16 t32 _ _  _ h) ⟨rfl, rfl, Nat.le_of_ble_eq_true rfl, Nat.le_of_ble_eq_true rfl⟩ rfl hl.1 rfl (Nat.le_of_ble_eq_true rfl) d_Se_takeHeader_112 ⟨Nat.zero_le _, Nat.zero_le _⟩ (fun I10 R11 h H locs V => ?_)
              refine lv_aload_n (pc := 115) hx hb d_Se_takeHeader_115 rfl (lv_at hl 0 rfl) ?_
              refine u_cVv (pc := 116) (As := []) X V s_Se_69 (X.fix rfl) rfl rfl rfl (c_Se_sendForState l D cc L A J t16 t32 _ _  _ h) ⟨rfl, rfl, Nat.le_of_ble_eq_true rfl, Nat.le_of_ble_eq_true rfl⟩ rfl hl.1 rfl (Nat.le_of_ble_eq_true rfl) d_Se_takeHeader_116 ⟨Nat.zero_le _, Nat.zero_le _⟩ (fun I12 R13 h H locs V => ?_)
              refine lv_goto (pc := 119) (tgt := 150) hx hb d_Se_takeHeader_119 (by decide) ?_
              exact u_retv (pc := 150) X V hr hlk hsz h d_Se_takeHeader_150
          · have h := h.2 hn4
            by_cases hn5 : v1 = 6
            · have h := h.1 hn5
              rw [hn5]
              refine lv_tableIn (pc := 7) (tgt := 136) (off := 129) hx hb d_Se_takeHeader_7 (by decide) (by decide) rfl (by decide) ?_
              refine lv_aload_n (pc := 136) hx hb d_Se_takeHeader_136 rfl (lv_at hl 0 rfl) ?_
              refine u_cVv (pc := 137) (As := []) X V s_Se_69 (X.fix rfl) rfl rfl rfl (c_Se_sendForState l D cc L A J t16 t32 _ _  _ h) ⟨rfl, rfl, Nat.le_of_ble_eq_true rfl, Nat.le_of_ble_eq_true rfl⟩ rfl hl.1 rfl (Nat.le_of_ble_eq_true rfl) d_Se_takeHeader_137 ⟨Nat.zero_le _, Nat.zero_le _⟩ (fun I14 R15 h H locs V => ?_)
              refine lv_goto (pc := 140) (tgt := 150) hx hb d_Se_takeHeader_140 (by decide) ?_
              exact u_retv (pc := 150) X V hr hlk hsz h d_Se_takeHeader_150
            · have h := h.2 hn5
              by_cases hn6 : v1 = 7
              · have h := h.1 hn6
                rw [hn6]
                refine lv_tableIn (pc := 7) (tgt := 150) (off := 143) hx hb d_Se_takeHeader_7 (by decide) (by decide) rfl (by decide) ?_
                exact u_retv (pc := 150) X V hr hlk hsz h d_Se_takeHeader_150
              · have h := h.2 hn6
                by_cases hn7 : v1 = 8
                · have h := h.1 hn7
                  rw [hn7]
                  refine lv_tableIn (pc := 7) (tgt := 143) (off := 136) hx hb d_Se_takeHeader_7 (by decide) (by decide) rfl (by decide) ?_
                  refine lv_aload_n (pc := 143) hx hb d_Se_takeHeader_143 rfl (lv_at hl 0 rfl) ?_
                  refine u_cVv (pc := 144) (As := []) X V s_Se_121 (X.fix rfl) rfl rfl rfl (c_Se_leave l D cc L A J t16 t32 _ _  _ h) ⟨rfl, rfl, Nat.le_of_ble_eq_true rfl, Nat.le_of_ble_eq_true rfl⟩ rfl hl.1 rfl (Nat.le_of_ble_eq_true rfl) d_Se_takeHeader_144 ⟨Nat.zero_le _, Nat.zero_le _⟩ (fun I16 R17 h H locs V => ?_)
                  refine lv_goto (pc := 147) (tgt := 150) hx hb d_Se_takeHeader_147 (by decide) ?_
                  exact u_retv (pc := 150) X V hr hlk hsz h d_Se_takeHeader_150
                · have h := h.2 hn7
                  by_cases hn8 : v1 = 9
                  · have h := h.1 hn8
                    rw [hn8]
                    refine lv_tableIn (pc := 7) (tgt := 122) (off := 115) hx hb d_Se_takeHeader_7 (by decide) (by decide) rfl (by decide) ?_
                    refine lv_aload_n (pc := 122) hx hb d_Se_takeHeader_122 rfl (lv_at hl 0 rfl) ?_
                    refine lv_aload_n (pc := 123) hx hb d_Se_takeHeader_123 rfl (lv_at hl 0 rfl) ?_
                    refine u_getr (pc := 124) (o' := 12) X V (X.fix rfl) rfl rfl f_Se_32 rfl rfl d_Se_takeHeader_124 ?_
                    refine u_geti (pc := 127) X V (X.fix rfl) rfl rfl f_Se_107 rfl d_Se_takeHeader_127 ?_
                    refine u_cVv (pc := 130) (As := [.int (I 12 4)]) X V s_Se_117 (X.fix rfl) rfl rfl rfl (c_Se_goToPlace l D cc L A J t16 t32 _ _ (I 12 4) _ h) ⟨rfl, rfl, Nat.le_of_ble_eq_true rfl, Nat.le_of_ble_eq_true rfl⟩ rfl hl.1 rfl (Nat.le_of_ble_eq_true rfl) d_Se_takeHeader_130 ⟨Nat.zero_le _, Nat.zero_le _⟩ (fun I18 R19 h H locs V => ?_)
                    refine lv_goto (pc := 133) (tgt := 150) hx hb d_Se_takeHeader_133 (by decide) ?_
                    exact u_retv (pc := 150) X V hr hlk hsz h d_Se_takeHeader_150
                  · have h := h.2 hn8
                    have hd0 := nr_ok (a := 1) hn0 rfl
                    have hd1 := nr_ok (a := 2) hn1 rfl
                    have hd2 := nr_ok (a := 3) hn2 rfl
                    have hd3 := nr_ok (a := 4) hn3 rfl
                    have hd4 := nr_ok (a := 5) hn4 rfl
                    have hd5 := nr_ok (a := 6) hn5 rfl
                    have hd6 := nr_ok (a := 7) hn6 rfl
                    have hd7 := nr_ok (a := 8) hn7 rfl
                    have hd8 := nr_ok (a := 9) hn8 rfl
                    refine lv_tableOut (pc := 7) (tgt := 150) hx hb d_Se_takeHeader_7 (by omega) (by decide) ?_
                    exact u_retv (pc := 150) X V hr hlk hsz h d_Se_takeHeader_150
-- FrameFerry$Sender.begin (I)V
theorem d_Se_begin_0 : decode prog_6_method_7_code 0 = .ok (.aload_n 0, 1) := by decide +kernel
theorem d_Se_begin_1 : decode prog_6_method_7_code 1 = .ok (.getfield 12, 3) := by decide +kernel
theorem d_Se_begin_4 : decode prog_6_method_7_code 4 = .ok (.iconst 0, 1) := by decide +kernel
theorem d_Se_begin_5 : decode prog_6_method_7_code 5 = .ok (.putfield 61, 3) := by decide +kernel
theorem d_Se_begin_8 : decode prog_6_method_7_code 8 = .ok (.aload_n 0, 1) := by decide +kernel
theorem d_Se_begin_9 : decode prog_6_method_7_code 9 = .ok (.getfield 32, 3) := by decide +kernel
theorem d_Se_begin_12 : decode prog_6_method_7_code 12 = .ok (.invokevirtual 62, 3) := by decide +kernel
theorem d_Se_begin_15 : decode prog_6_method_7_code 15 = .ok (.aload_n 0, 1) := by decide +kernel
theorem d_Se_begin_16 : decode prog_6_method_7_code 16 = .ok (.iload_n 1, 1) := by decide +kernel
theorem d_Se_begin_17 : decode prog_6_method_7_code 17 = .ok (.putfield 42, 3) := by decide +kernel
theorem d_Se_begin_20 : decode prog_6_method_7_code 20 = .ok (.aload_n 0, 1) := by decide +kernel
theorem d_Se_begin_21 : decode prog_6_method_7_code 21 = .ok (.iconst 0, 1) := by decide +kernel
theorem d_Se_begin_22 : decode prog_6_method_7_code 22 = .ok (.putfield 18, 3) := by decide +kernel
theorem d_Se_begin_25 : decode prog_6_method_7_code 25 = .ok (.aload_n 0, 1) := by decide +kernel
theorem d_Se_begin_26 : decode prog_6_method_7_code 26 = .ok (.iconst 0, 1) := by decide +kernel
theorem d_Se_begin_27 : decode prog_6_method_7_code 27 = .ok (.putfield 58, 3) := by decide +kernel
theorem d_Se_begin_30 : decode prog_6_method_7_code 30 = .ok (.aload_n 0, 1) := by decide +kernel
theorem d_Se_begin_31 : decode prog_6_method_7_code 31 = .ok (.iconst 0, 1) := by decide +kernel
theorem d_Se_begin_32 : decode prog_6_method_7_code 32 = .ok (.putfield 55, 3) := by decide +kernel
theorem d_Se_begin_35 : decode prog_6_method_7_code 35 = .ok (.aload_n 0, 1) := by decide +kernel
theorem d_Se_begin_36 : decode prog_6_method_7_code 36 = .ok (.iconst 0, 1) := by decide +kernel
theorem d_Se_begin_37 : decode prog_6_method_7_code 37 = .ok (.putfield 65, 3) := by decide +kernel
theorem d_Se_begin_40 : decode prog_6_method_7_code 40 = .ok (.aload_n 0, 1) := by decide +kernel
theorem d_Se_begin_41 : decode prog_6_method_7_code 41 = .ok (.invokevirtual 69, 3) := by decide +kernel
theorem d_Se_begin_44 : decode prog_6_method_7_code 44 = .ok (.return_, 1) := by decide +kernel
def rm_Se_begin : Room := { frames := 4, cells := 0, slots := 0, locals := 89 }
def wp_Se_begin (L : List Nat) (I : UI) (R : UR) (x1 : Int32) (Q : UI → UR → Prop) : Prop :=
  ∀ I1 : UI, I1 = u2 I 4 1 0 → wp_Rd_goOutside I1 R 12 (fun I2 R3 => ∀ I4 : UI, I4 = u2 I2 2 8 x1 → ∀ I5 : UI, I5 = u2 I4 2 2 0 → ∀ I6 : UI, I6 = u2 I5 2 7 0 → ∀ I7 : UI, I7 = u2 I6 2 3 0 → zb 0 ∧ ∀ I8 : UI, I8 = u2 I7 2 9 0 → wp_Se_sendForState L I8 R3 (fun I9 R10 => Q I9 R10))
set_option maxHeartbeats 4000000 in
set_option maxRecDepth 100000 in
theorem c_Se_begin (l : Launch) (D : va_G) (cc : Nat → ClassId) (L : List Nat) (A : Nat → Nat) (J : Nat → Int64) (t16 t32 : Nat) (I : UI) (R : UR) (x1 : Int32) (Q : UI → UR → Prop) (h : wp_Se_begin L I R x1 Q) : uMv l y_Se_begin (.code y_Se_begin prog_6_method_7_code 2 none) rm_Se_begin [.ref (A 2), .int x1] D cc L A J t16 t32 I R Q := by
  intro sz
  refine u_entry (by decide) (Nat.le_of_ble_eq_true rfl) (fun p e s m args below meth c hsz X V hr hlk ls hl => ?_)
  have X : uX p s m args c prog_6_method_7_code 2 "FrameFerry$Sender" D cc L A t16 t32 := X
  have hx := X.1
  have hb := X.2.1
  have hl : lv_has ls 2 [(0, .ref (A 2)), (1, .int x1)] := hl
  unfold wp_Se_begin at h
  generalize hH : s.heap = H at V ⊢
  generalize hlo : ([] : List Loc) = locs at V ⊢
  refine lv_aload_n (pc := 0) hx hb d_Se_begin_0 rfl (lv_at hl 0 rfl) ?_
  refine u_getr (pc := 1) (o' := 4) X V (X.fix rfl) rfl rfl f_Se_12 rfl rfl d_Se_begin_1 ?_
  refine lv_iconst (pc := 4) (v := 0) hx hb d_Se_begin_4 (by decide) ?_
  refine u_puti (pc := 5) X V (X.fix rfl) rfl rfl f_Se_61 rfl d_Se_begin_5 (fun I1 eI1 H locs V => ?_)
  have h := h I1 eI1
  refine lv_aload_n (pc := 8) hx hb d_Se_begin_8 rfl (lv_at hl 0 rfl) ?_
  refine u_getr (pc := 9) (o' := 12) X V (X.fix rfl) rfl rfl f_Se_32 rfl rfl d_Se_begin_9 ?_
  refine u_cVv (pc := 12) (As := []) X V s_Se_62 (X.fix rfl) rfl rfl rfl (c_Rd_goOutside l D cc L A J t16 t32 _ _ 12 ⟨(X.fix rfl), rfl, (X.fix rfl), rfl, (X.fix rfl), rfl⟩ _ h) ⟨rfl, rfl, Nat.le_of_ble_eq_true rfl, Nat.le_of_ble_eq_true rfl⟩ rfl hl.1 rfl (Nat.le_of_ble_eq_true rfl) d_Se_begin_12 ⟨Nat.zero_le _, Nat.zero_le _⟩ (fun I2 R3 h H locs V => ?_)
  refine lv_aload_n (pc := 15) hx hb d_Se_begin_15 rfl (lv_at hl 0 rfl) ?_
  refine lv_iload_n (pc := 16) hx hb d_Se_begin_16 rfl (lv_at hl 1 rfl) ?_
  refine u_puti (pc := 17) X V (X.fix rfl) rfl rfl f_Se_42 rfl d_Se_begin_17 (fun I4 eI4 H locs V => ?_)
  have h := h I4 eI4
  refine lv_aload_n (pc := 20) hx hb d_Se_begin_20 rfl (lv_at hl 0 rfl) ?_
  refine lv_iconst (pc := 21) (v := 0) hx hb d_Se_begin_21 (by decide) ?_
  refine u_puti (pc := 22) X V (X.fix rfl) rfl rfl f_Se_18 rfl d_Se_begin_22 (fun I5 eI5 H locs V => ?_)
  have h := h I5 eI5
  refine lv_aload_n (pc := 25) hx hb d_Se_begin_25 rfl (lv_at hl 0 rfl) ?_
  refine lv_iconst (pc := 26) (v := 0) hx hb d_Se_begin_26 (by decide) ?_
  refine u_puti (pc := 27) X V (X.fix rfl) rfl rfl f_Se_58 rfl d_Se_begin_27 (fun I6 eI6 H locs V => ?_)
  have h := h I6 eI6
  refine lv_aload_n (pc := 30) hx hb d_Se_begin_30 rfl (lv_at hl 0 rfl) ?_
  refine lv_iconst (pc := 31) (v := 0) hx hb d_Se_begin_31 (by decide) ?_
  refine u_puti (pc := 32) X V (X.fix rfl) rfl rfl f_Se_55 rfl d_Se_begin_32 (fun I7 eI7 H locs V => ?_)
  have h := h I7 eI7
  refine lv_aload_n (pc := 35) hx hb d_Se_begin_35 rfl (lv_at hl 0 rfl) ?_
  refine lv_iconst (pc := 36) (v := 0) hx hb d_Se_begin_36 (by decide) ?_
  refine u_putz (pc := 37) X V (X.fix rfl) rfl rfl f_Se_65 rfl h.1 d_Se_begin_37 (fun I8 eI8 H locs V => ?_)
  have h := h.2 I8 eI8
  refine lv_aload_n (pc := 40) hx hb d_Se_begin_40 rfl (lv_at hl 0 rfl) ?_
  refine u_cVv (pc := 41) (As := []) X V s_Se_69 (X.fix rfl) rfl rfl rfl (c_Se_sendForState l D cc L A J t16 t32 _ _  _ h) ⟨rfl, rfl, Nat.le_of_ble_eq_true rfl, Nat.le_of_ble_eq_true rfl⟩ rfl hl.1 rfl (Nat.le_of_ble_eq_true rfl) d_Se_begin_41 ⟨Nat.zero_le _, Nat.zero_le _⟩ (fun I9 R10 h H locs V => ?_)
  exact u_retv (pc := 44) X V hr hlk hsz h d_Se_begin_44
-- FrameFerry$Sender.readAll (LFrameFerry$Pipe;)V
theorem d_Se_readAll_0 : decode prog_6_method_8_code 0 = .ok (.aload_n 1, 1) := by decide +kernel
theorem d_Se_readAll_1 : decode prog_6_method_8_code 1 = .ok (.getfield 61, 3) := by decide +kernel
theorem d_Se_readAll_4 : decode prog_6_method_8_code 4 = .ok (.istore_n 2, 1) := by decide +kernel
theorem d_Se_readAll_5 : decode prog_6_method_8_code 5 = .ok (.iconst 0, 1) := by decide +kernel
theorem d_Se_readAll_6 : decode prog_6_method_8_code 6 = .ok (.istore_n 3, 1) := by decide +kernel
theorem d_Se_readAll_7 : decode prog_6_method_8_code 7 = .ok (.iload_n 3, 1) := by decide +kernel
theorem d_Se_readAll_8 : decode prog_6_method_8_code 8 = .ok (.iload_n 2, 1) := by decide +kernel
theorem d_Se_readAll_9 : decode prog_6_method_8_code 9 = .ok (.if_icmp .ge 29, 3) := by decide +kernel
theorem d_Se_readAll_12 : decode prog_6_method_8_code 12 = .ok (.aload_n 0, 1) := by decide +kernel
theorem d_Se_readAll_13 : decode prog_6_method_8_code 13 = .ok (.getfield 32, 3) := by decide +kernel
theorem d_Se_readAll_16 : decode prog_6_method_8_code 16 = .ok (.aload_n 1, 1) := by decide +kernel
theorem d_Se_readAll_17 : decode prog_6_method_8_code 17 = .ok (.iload_n 3, 1) := by decide +kernel
theorem d_Se_readAll_18 : decode prog_6_method_8_code 18 = .ok (.invokevirtual 72, 3) := by decide +kernel
theorem d_Se_readAll_21 : decode prog_6_method_8_code 21 = .ok (.invokevirtual 76, 3) := by decide +kernel
theorem d_Se_readAll_24 : decode prog_6_method_8_code 24 = .ok (.iconst 1, 1) := by decide +kernel
theorem d_Se_readAll_25 : decode prog_6_method_8_code 25 = .ok (.if_icmp .ne 7, 3) := by decide +kernel
theorem d_Se_readAll_28 : decode prog_6_method_8_code 28 = .ok (.aload_n 0, 1) := by decide +kernel
theorem d_Se_readAll_29 : decode prog_6_method_8_code 29 = .ok (.invokevirtual 79, 3) := by decide +kernel
theorem d_Se_readAll_32 : decode prog_6_method_8_code 32 = .ok (.iinc 3 1, 3) := by decide +kernel
theorem d_Se_readAll_35 : decode prog_6_method_8_code 35 = .ok (.goto (-28), 3) := by decide +kernel
theorem d_Se_readAll_38 : decode prog_6_method_8_code 38 = .ok (.aload_n 1, 1) := by decide +kernel
theorem d_Se_readAll_39 : decode prog_6_method_8_code 39 = .ok (.iconst 0, 1) := by decide +kernel
theorem d_Se_readAll_40 : decode prog_6_method_8_code 40 = .ok (.iload_n 2, 1) := by decide +kernel
theorem d_Se_readAll_41 : decode prog_6_method_8_code 41 = .ok (.invokevirtual 82, 3) := by decide +kernel
theorem d_Se_readAll_44 : decode prog_6_method_8_code 44 = .ok (.pop, 1) := by decide +kernel
theorem d_Se_readAll_45 : decode prog_6_method_8_code 45 = .ok (.return_, 1) := by decide +kernel
def rm_Se_readAll : Room := { frames := 5, cells := 0, slots := 0, locals := 109 }
def wp_Se_readAll_L32 (L : List Nat) (q1 : Nat) (Q : UI → UR → Prop) (K7 : UI → UR → Int32 → Int32 → Prop) (I : UI) (R : UR) (x2 : Int32) (x3 : Int32) : Prop :=
  ∀ v11 : Int32, v11 = x3 + 1 → K7 I R x2 v11
set_option maxHeartbeats 4000000 in
set_option maxRecDepth 100000 in
theorem j_Se_readAll_32 (X : uX p s m args c prog_6_method_8_code 4 "FrameFerry$Sender" D cc L A t16 t32) (hr : meth.sig.returnType = none) (hlk : meth.locks = false) (hsz : sz = s.heap.size) {q1 : Nat} (h_q1 : isPi L q1) {Q : UI → UR → Prop} {K7 : UI → UR → Int32 → Int32 → Prop} (hK7 : ∀ (I : UI) (R : UR) (x2 : Int32) (x3 : Int32) (H : Heap) (locs : List Loc) (ls : Array Slot), uV s D cc L A J I R H locs → lv_has ls 4 [(0, .ref (A 2)), (1, .ref (A q1)), (2, .int x2), (3, .int x3)] → K7 I R x2 x3 → W p l e rm_Se_readAll s m args below meth c H locs 0 0 (MQ below (va_Qv (fun u : UI × UR => Q u.1 u.2) (uBv D cc L A J) (uA L A sz)) args s 0 0 (uA L A sz)) (F0 m 7 ls [])) {I : UI} {R : UR} {x2 : Int32} {x3 : Int32} {H : Heap} {locs : List Loc} {ls : Array Slot} (V : uV s D cc L A J I R H locs) (hl : lv_has ls 4 [(0, .ref (A 2)), (1, .ref (A q1)), (2, .int x2), (3, .int x3)]) (h : wp_Se_readAll_L32 L q1 Q K7 I R x2 x3) : W p l e rm_Se_readAll s m args below meth c H locs 0 0 (MQ below (va_Qv (fun u : UI × UR => Q u.1 u.2) (uBv D cc L A J) (uA L A sz)) args s 0 0 (uA L A sz)) (F0 m 32 ls []) := by
  have hx := X.1
  have hb := X.2.1
  unfold wp_Se_readAll_L32 at h
  obtain ⟨v11, ev11⟩ : ∃ z : Int32, z = x3 + 1 := ⟨_, rfl⟩
  have h := h v11 ev11
  refine lv_iinc (pc := 32) (k := 3) (v := v11) (lv' := [(3, .int v11), (0, .ref (A 2)), (1, .ref (A q1)), (2, .int x2)]) hx hb d_Se_readAll_32 hl rfl (by rw [ev11]; rfl) (by decide) rfl (fun ls hl => ?_)
  refine lv_goto (pc := 35) (tgt := 7) hx hb d_Se_readAll_35 (by decide) ?_
  exact hK7 I R x2 v11 H locs ls V (lv_sub hl [1, 2, 3, 0] rfl) h
def wp_Se_readAll_L7 (L : List Nat) (q1 : Nat) (Q : UI → UR → Prop) : Nat → UI → UR → Int32 → Int32 → Prop
  | 0, _, _, _, _ => False
  | n + 1, I, R, x2, x3 => ((x2 ≤ x3 → wp_Pi_drop I R q1 0 x2 (fun r4 I2 R3 => Q I2 R3)) ∧ (¬ x2 ≤ x3 → wp_Pi_byteAt I R q1 x3 (fun r7 I5 R6 => wp_Rd_take I5 R6 12 r7 (fun r10 I8 R9 => ((¬ r10 = 1 → wp_Se_readAll_L32 L q1 Q (fun I R x2 x3 => wp_Se_readAll_L7 L q1 Q n I R x2 x3) I8 R9 x2 x3) ∧ (r10 = 1 → wp_Se_takeHeader L I8 R9 (fun I12 R13 => wp_Se_readAll_L32 L q1 Q (fun I R x2 x3 => wp_Se_readAll_L7 L q1 Q n I R x2 x3) I12 R13 x2 x3)))))))
set_option maxHeartbeats 4000000 in
set_option maxRecDepth 100000 in
theorem j_Se_readAll_7 (X : uX p s m args c prog_6_method_8_code 4 "FrameFerry$Sender" D cc L A t16 t32) (hr : meth.sig.returnType = none) (hlk : meth.locks = false) (hsz : sz = s.heap.size) {q1 : Nat} (h_q1 : isPi L q1) {Q : UI → UR → Prop} : ∀ (n : Nat) (I : UI) (R : UR) (x2 : Int32) (x3 : Int32) (H : Heap) (locs : List Loc) (ls : Array Slot), uV s D cc L A J I R H locs → lv_has ls 4 [(0, .ref (A 2)), (1, .ref (A q1)), (2, .int x2), (3, .int x3)] → wp_Se_readAll_L7 L q1 Q n I R x2 x3 → W p l e rm_Se_readAll s m args below meth c H locs 0 0 (MQ below (va_Qv (fun u : UI × UR => Q u.1 u.2) (uBv D cc L A J) (uA L A sz)) args s 0 0 (uA L A sz)) (F0 m 7 ls []) := by
  intro n
  induction n with
  | zero => exact fun I R x2 x3 H locs ls V hl h => False.elim h
  | succ n ih =>
    intro I R x2 x3 H locs ls V hl h
    have hx := X.1
    have hb := X.2.1
    rw [wp_Se_readAll_L7] at h
    refine lv_iload_n (pc := 7) hx hb d_Se_readAll_7 rfl (lv_at hl 3 rfl) ?_
    refine lv_iload_n (pc := 8) hx hb d_Se_readAll_8 rfl (lv_at hl 2 rfl) ?_
    refine lv_icmp_ge (pc := 9) (tgt := 38) hx hb d_Se_readAll_9 (by decide) (fun hc => ?_) (fun hc => ?_)
    · have h := h.1 hc
      refine lv_aload_n (pc := 38) hx hb d_Se_readAll_38 rfl (lv_at hl 1 rfl) ?_
      refine lv_iconst (pc := 39) (v := 0) hx hb d_Se_readAll_39 (by decide) ?_
      refine lv_iload_n (pc := 40) hx hb d_Se_readAll_40 rfl (lv_at hl 2 rfl) ?_
      refine u_cVi (pc := 41) (As := [.int 0, .int x2]) X V s_Se_82 h_q1.1 h_q1.2.1 rfl rfl (c_Pi_drop l D cc L A J t16 t32 _ _ q1 h_q1 0 x2 _ h) ⟨rfl, rfl, Nat.le_of_ble_eq_true rfl, Nat.le_of_ble_eq_true rfl⟩ rfl hl.1 rfl (Nat.le_of_ble_eq_true rfl) d_Se_readAll_41 ⟨Nat.zero_le _, Nat.zero_le _⟩ (fun r4 I2 R3 h H locs V => ?_)
      refine lv_pop (pc := 44) hx hb d_Se_readAll_44 rfl ?_
      exact u_retv (pc := 45) X V hr hlk hsz h d_Se_readAll_45
    · have h := h.2 hc
      refine lv_aload_n (pc := 12) hx hb d_Se_readAll_12 rfl (lv_at hl 0 rfl) ?_
      refine u_getr (pc := 13) (o' := 12) X V (X.fix rfl) rfl rfl f_Se_32 rfl rfl d_Se_readAll_13 ?_
      refine lv_aload_n (pc := 16) hx hb d_Se_readAll_16 rfl (lv_at hl 1 rfl) ?_
      refine lv_iload_n (pc := 17) hx hb d_Se_readAll_17 rfl (lv_at hl 3 rfl) ?_
      refine u_cVi (pc := 18) (As := [.int x3]) X V s_Se_72 h_q1.1 h_q1.2.1 rfl rfl (c_Pi_byteAt l D cc L A J t16 t32 _ _ q1 h_q1 x3 _ h) ⟨rfl, rfl, Nat.le_of_ble_eq_true rfl, Nat.le_of_ble_eq_true rfl⟩ rfl hl.1 rfl (Nat.le_of_ble_eq_true rfl) d_Se_readAll_18 ⟨Nat.zero_le _, Nat.zero_le _⟩ (fun r7 I5 R6 h H locs V => ?_)
      refine u_cVi (pc := 21) (As := [.int r7]) X V s_Se_76 (X.fix rfl) rfl rfl rfl (c_Rd_take l D cc L A J t16 t32 _ _ 12 ⟨(X.fix rfl), rfl, (X.fix rfl), rfl, (X.fix rfl), rfl⟩ r7 _ h) ⟨rfl, rfl, Nat.le_of_ble_eq_true rfl, Nat.le_of_ble_eq_true rfl⟩ rfl hl.1 rfl (Nat.le_of_ble_eq_true rfl) d_Se_readAll_21 ⟨Nat.zero_le _, Nat.zero_le _⟩ (fun r10 I8 R9 h H locs V => ?_)
      refine lv_iconst (pc := 24) (v := 1) hx hb d_Se_readAll_24 (by decide) ?_
      refine lv_icmp_ne (pc := 25) (tgt := 32) hx hb d_Se_readAll_25 (by decide) (fun hc => ?_) (fun hc => ?_)
      · have h := h.1 hc
        exact j_Se_readAll_32 X hr hlk hsz h_q1 ih V (lv_sub hl [0, 1, 2, 3] rfl) h
      · have h := h.2 hc
        refine lv_aload_n (pc := 28) hx hb d_Se_readAll_28 rfl (lv_at hl 0 rfl) ?_
        refine u_cVv (pc := 29) (As := []) X V s_Se_79 (X.fix rfl) rfl rfl rfl (c_Se_takeHeader l D cc L A J t16 t32 _ _  _ h) ⟨rfl, rfl, Nat.le_of_ble_eq_true rfl, Nat.le_of_ble_eq_true rfl⟩ rfl hl.1 rfl (Nat.le_of_ble_eq_true rfl) d_Se_readAll_29 ⟨Nat.zero_le _, Nat.zero_le _⟩ (fun I12 R13 h H locs V => ?_)
        exact j_Se_readAll_32 X hr hlk hsz h_q1 ih V (lv_sub hl [0, 1, 2, 3] rfl) h
def wp_Se_readAll (L : List Nat) (I : UI) (R : UR) (q1 : Nat) (Q : UI → UR → Prop) : Prop :=
  ∀ v1 : Int32, v1 = I q1 1 → (∃ n7 : Nat, wp_Se_readAll_L7 L q1 Q n7 I R v1 0)
set_option maxHeartbeats 4000000 in
set_option maxRecDepth 100000 in
theorem c_Se_readAll (l : Launch) (D : va_G) (cc : Nat → ClassId) (L : List Nat) (A : Nat → Nat) (J : Nat → Int64) (t16 t32 : Nat) (I : UI) (R : UR) (q1 : Nat) (h_q1 : isPi L q1) (Q : UI → UR → Prop) (h : wp_Se_readAll L I R q1 Q) : uMv l y_Se_readAll (.code y_Se_readAll prog_6_method_8_code 4 none) rm_Se_readAll [.ref (A 2), .ref (A q1)] D cc L A J t16 t32 I R Q := by
  intro sz
  refine u_entry (by decide) (Nat.le_of_ble_eq_true rfl) (fun p e s m args below meth c hsz X V hr hlk ls hl => ?_)
  have X : uX p s m args c prog_6_method_8_code 4 "FrameFerry$Sender" D cc L A t16 t32 := X
  have hx := X.1
  have hb := X.2.1
  have hl : lv_has ls 4 [(0, .ref (A 2)), (1, .ref (A q1))] := hl
  unfold wp_Se_readAll at h
  generalize hH : s.heap = H at V ⊢
  generalize hlo : ([] : List Loc) = locs at V ⊢
  refine lv_aload_n (pc := 0) hx hb d_Se_readAll_0 rfl (lv_at hl 1 rfl) ?_
  refine u_geti (pc := 1) X V h_q1.1 h_q1.2.1 rfl f_Se_61 rfl d_Se_readAll_1 ?_
  refine lv_topi (fun v1 ev1 => ?_)
  have h := h v1 ev1
  refine lv_istore_n (pc := 4) (lv' := [(2, .int v1), (0, .ref (A 2)), (1, .ref (A q1))]) hx hb d_Se_readAll_4 rfl hl (by decide) rfl (fun ls hl => ?_)
  refine lv_iconst (pc := 5) (v := 0) hx hb d_Se_readAll_5 (by decide) ?_
  refine lv_istore_n (pc := 6) (lv' := [(3, .int 0), (2, .int v1), (0, .ref (A 2)), (1, .ref (A q1))]) hx hb d_Se_readAll_6 rfl hl (by decide) rfl (fun ls hl => ?_)
  obtain ⟨n7, h⟩ := h
  exact j_Se_readAll_7 X hr hlk hsz h_q1 n7 I R v1 0 H locs ls V (lv_sub hl [2, 3, 1, 0] rfl) h
-- FrameFerry$Sender.sendLate ()V
theorem d_Se_sendLate_0 : decode prog_6_method_9_code 0 = .ok (.aload_n 0, 1) := by decide +kernel
theorem d_Se_sendLate_1 : decode prog_6_method_9_code 1 = .ok (.getfield 18, 3) := by decide +kernel
theorem d_Se_sendLate_4 : decode prog_6_method_9_code 4 = .ok (.iconst 2, 1) := by decide +kernel
theorem d_Se_sendLate_5 : decode prog_6_method_9_code 5 = .ok (.if_icmp .ne 15, 3) := by decide +kernel
theorem d_Se_sendLate_8 : decode prog_6_method_9_code 8 = .ok (.aload_n 0, 1) := by decide +kernel
theorem d_Se_sendLate_9 : decode prog_6_method_9_code 9 = .ok (.iconst 1, 1) := by decide +kernel
theorem d_Se_sendLate_10 : decode prog_6_method_9_code 10 = .ok (.putfield 86, 3) := by decide +kernel
theorem d_Se_sendLate_13 : decode prog_6_method_9_code 13 = .ok (.aload_n 0, 1) := by decide +kernel
theorem d_Se_sendLate_14 : decode prog_6_method_9_code 14 = .ok (.invokevirtual 89, 3) := by decide +kernel
theorem d_Se_sendLate_17 : decode prog_6_method_9_code 17 = .ok (.goto 7, 3) := by decide +kernel
theorem d_Se_sendLate_20 : decode prog_6_method_9_code 20 = .ok (.aload_n 0, 1) := by decide +kernel
theorem d_Se_sendLate_21 : decode prog_6_method_9_code 21 = .ok (.invokevirtual 69, 3) := by decide +kernel
theorem d_Se_sendLate_24 : decode prog_6_method_9_code 24 = .ok (.return_, 1) := by decide +kernel
def rm_Se_sendLate : Room := { frames := 5, cells := 0, slots := 0, locals := 111 }
def wp_Se_sendLate (L : List Nat) (I : UI) (R : UR) (Q : UI → UR → Prop) : Prop :=
  ((¬ I 2 2 = 2 → wp_Se_sendForState L I R (fun I1 R2 => Q I1 R2)) ∧ (I 2 2 = 2 → zb 1 ∧ ∀ I3 : UI, I3 = u2 I 2 10 1 → wp_Se_sendPackets L I3 R (fun I4 R5 => Q I4 R5)))
set_option maxHeartbeats 4000000 in
set_option maxRecDepth 100000 in
theorem c_Se_sendLate (l : Launch) (D : va_G) (cc : Nat → ClassId) (L : List Nat) (A : Nat → Nat) (J : Nat → Int64) (t16 t32 : Nat) (I : UI) (R : UR) (Q : UI → UR → Prop) (h : wp_Se_sendLate L I R Q) : uMv l y_Se_sendLate (.code y_Se_sendLate prog_6_method_9_code 1 none) rm_Se_sendLate [.ref (A 2)] D cc L A J t16 t32 I R Q := by
  intro sz
  refine u_entry (by decide) (Nat.le_of_ble_eq_true rfl) (fun p e s m args below meth c hsz X V hr hlk ls hl => ?_)
  have X : uX p s m args c prog_6_method_9_code 1 "FrameFerry$Sender" D cc L A t16 t32 := X
  have hx := X.1
  have hb := X.2.1
  have hl : lv_has ls 1 [(0, .ref (A 2))] := hl
  unfold wp_Se_sendLate at h
  generalize hH : s.heap = H at V ⊢
  generalize hlo : ([] : List Loc) = locs at V ⊢
  refine lv_aload_n (pc := 0) hx hb d_Se_sendLate_0 rfl (lv_at hl 0 rfl) ?_
  refine u_geti (pc := 1) X V (X.fix rfl) rfl rfl f_Se_18 rfl d_Se_sendLate_1 ?_
  refine lv_iconst (pc := 4) (v := 2) hx hb d_Se_sendLate_4 (by decide) ?_
  refine lv_icmp_ne (pc := 5) (tgt := 20) hx hb d_Se_sendLate_5 (by decide) (fun hc => ?_) (fun hc => ?_)
  · have h := h.1 hc
    refine lv_aload_n (pc := 20) hx hb d_Se_sendLate_20 rfl (lv_at hl 0 rfl) ?_
    refine u_cVv (pc := 21) (As := []) X V s_Se_69 (X.fix rfl) rfl rfl rfl (c_Se_sendForState l D cc L A J t16 t32 _ _  _ h) ⟨rfl, rfl, Nat.le_of_ble_eq_true rfl, Nat.le_of_ble_eq_true rfl⟩ rfl hl.1 rfl (Nat.le_of_ble_eq_true rfl) d_Se_sendLate_21 ⟨Nat.zero_le _, Nat.zero_le _⟩ (fun I1 R2 h H locs V => ?_)
    exact u_retv (pc := 24) X V hr hlk hsz h d_Se_sendLate_24
  · have h := h.2 hc
    refine lv_aload_n (pc := 8) hx hb d_Se_sendLate_8 rfl (lv_at hl 0 rfl) ?_
    refine lv_iconst (pc := 9) (v := 1) hx hb d_Se_sendLate_9 (by decide) ?_
    refine u_putz (pc := 10) X V (X.fix rfl) rfl rfl f_Se_86 rfl h.1 d_Se_sendLate_10 (fun I3 eI3 H locs V => ?_)
    have h := h.2 I3 eI3
    refine lv_aload_n (pc := 13) hx hb d_Se_sendLate_13 rfl (lv_at hl 0 rfl) ?_
    refine u_cVv (pc := 14) (As := []) X V s_Se_89 (X.fix rfl) rfl rfl rfl (c_Se_sendPackets l D cc L A J t16 t32 _ _  _ h) ⟨rfl, rfl, Nat.le_of_ble_eq_true rfl, Nat.le_of_ble_eq_true rfl⟩ rfl hl.1 rfl (Nat.le_of_ble_eq_true rfl) d_Se_sendLate_14 ⟨Nat.zero_le _, Nat.zero_le _⟩ (fun I4 R5 h H locs V => ?_)
    refine lv_goto (pc := 17) (tgt := 24) hx hb d_Se_sendLate_17 (by decide) ?_
    exact u_retv (pc := 24) X V hr hlk hsz h d_Se_sendLate_24
end G
