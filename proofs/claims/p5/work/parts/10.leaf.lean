/-! Written by wip/gen/gen.py. -/
theorem f_Ck_7 : uF "FrameFerry$Check" 7 0 0 false .boolean := ⟨R_Ck, T_Ck, 2, ty_Ck, rfl, by decide, tb_of 64 (by decide +kernel) rfl, l_Ck, ty_Ck_ok, n_Ck, rfl, rfl⟩
theorem f_Ck_13 : uF "FrameFerry$Check" 13 0 1 false .int := ⟨R_Ck, T_Ck, 2, ty_Ck, rfl, by decide, tb_of 65 (by decide +kernel) rfl, l_Ck, ty_Ck_ok, n_Ck, rfl, rfl⟩
theorem k_Ck_21 : Cond.constant "FrameFerry$Check" 21 65535 ∈ tb := tb_of 299 (by decide +kernel) rfl
theorem f_Ck_22 : Cond.fieldLink "FrameFerry$Check" 22 "FrameFerry$Check" "STEPS_16" "[I" ∈ tb := tb_of 300 (by decide +kernel) rfl
theorem f_Ck_17 : Cond.fieldLink "FrameFerry$Check" 17 "FrameFerry$Check" "STEPS_32" "[I" ∈ tb := tb_of 297 (by decide +kernel) rfl
theorem f_Pi_15 : uF "FrameFerry$Pipe" 15 1 2 false .int := ⟨R_Pi, T_Pi, 3, ty_Pi, rfl, by decide, tb_of 42 (by decide +kernel) rfl, l_Pi, ty_Pi_ok, n_Pi, rfl, rfl⟩
theorem f_Pi_19 : uF "FrameFerry$Pipe" 19 1 1 false .int := ⟨R_Pi, T_Pi, 3, ty_Pi, rfl, by decide, tb_of 39 (by decide +kernel) rfl, l_Pi, ty_Pi_ok, n_Pi, rfl, rfl⟩
theorem s_Pi_22 : uCv "FrameFerry$Pipe" 22 y_Pi_has 1 (.code y_Pi_has prog_3_method_3_code 2 (some .boolean)) := ⟨⟨tb_of 254 (by decide +kernel) rfl, tb_of 3 (by decide +kernel) rfl, tb_of 257 (by decide +kernel) rfl, by decide +kernel⟩, tb_of 255 (by decide +kernel) rfl, tb_of 256 (by decide +kernel) rfl⟩
theorem mi_Pi_26 : Cond.methodLink "FrameFerry$Pipe" 26 Lib.Math.min.name ∈ tb ∧ Cond.static Lib.Math.min.name ∈ tb ∧ Cond.initialized "java/lang/Math" ∈ tb ∧ Cond.code Lib.Math.min.name Lib.Math.min.code 2 (some .int) ∈ tb := ⟨tb_of 398 (by decide +kernel) rfl, tb_of 399 (by decide +kernel) rfl, tb_of 15 (by decide +kernel) rfl, tb_of 400 (by decide +kernel) rfl⟩
theorem cp_Pi_32 : Cond.methodLink "FrameFerry$Pipe" 32 arraycopyName ∈ tb ∧ Cond.native arraycopyName ∈ tb ∧ Cond.static arraycopyName ∈ tb ∧ Cond.initialized "java/lang/System" ∈ tb := ⟨tb_of 401 (by decide +kernel) rfl, tb_of 403 (by decide +kernel) rfl, tb_of 402 (by decide +kernel) rfl, tb_of 16 (by decide +kernel) rfl⟩
theorem f_Sf_15 : uF "FrameFerry$StoredFile" 15 5 2 false .int := ⟨R_Sf, T_Sf, 3, ty_Sf, rfl, by decide, tb_of 464 (by decide +kernel) rfl, l_Sf, ty_Sf_ok, n_Sf, rfl, rfl⟩
section G
variable {p : Program} {l : Launch} {e : Env} {s : State} {m : MethodId} {args : Array Value} {below : List Frame} {meth : Method} {c : Code} {D : va_G} {cc : Nat → ClassId} {L L0 : List Nat} {A A0 : Nat → Nat} {J : Nat → Int64} {t16 t32 sz : Nat}
-- FrameFerry$Check.begin (Z)V
theorem d_Ck_begin_0 : decode prog_2_method_2_code 0 = .ok (.aload_n 0, 1) := by decide +kernel
theorem d_Ck_begin_1 : decode prog_2_method_2_code 1 = .ok (.iload_n 1, 1) := by decide +kernel
theorem d_Ck_begin_2 : decode prog_2_method_2_code 2 = .ok (.putfield 7, 3) := by decide +kernel
theorem d_Ck_begin_5 : decode prog_2_method_2_code 5 = .ok (.aload_n 0, 1) := by decide +kernel
theorem d_Ck_begin_6 : decode prog_2_method_2_code 6 = .ok (.iload_n 1, 1) := by decide +kernel
theorem d_Ck_begin_7 : decode prog_2_method_2_code 7 = .ok (.ifCond .eq 7, 3) := by decide +kernel
theorem d_Ck_begin_10 : decode prog_2_method_2_code 10 = .ok (.iconst (-1), 1) := by decide +kernel
theorem d_Ck_begin_11 : decode prog_2_method_2_code 11 = .ok (.goto 4, 3) := by decide +kernel
theorem d_Ck_begin_14 : decode prog_2_method_2_code 14 = .ok (.iconst 0, 1) := by decide +kernel
theorem d_Ck_begin_15 : decode prog_2_method_2_code 15 = .ok (.putfield 13, 3) := by decide +kernel
theorem d_Ck_begin_18 : decode prog_2_method_2_code 18 = .ok (.return_, 1) := by decide +kernel
def rm_Ck_begin : Room := { frames := 0, cells := 0, slots := 0, locals := 0 }
def wp_Ck_begin_L15 (o : Nat) (Q : UI → UR → Prop) (I : UI) (R : UR) (s0 : Int32) : Prop :=
  ∀ I2 : UI, I2 = u2 I o 1 s0 → Q I2 R
set_option maxHeartbeats 4000000 in
set_option maxRecDepth 100000 in
theorem j_Ck_begin_15 (X : uX p s m args c prog_2_method_2_code 2 "FrameFerry$Check" D cc L A t16 t32) (hr : meth.sig.returnType = none) (hlk : meth.locks = false) (hsz : sz = s.heap.size) {o : Nat} (h_o : isCk L o) {Q : UI → UR → Prop} {I : UI} {R : UR} {s0 : Int32} {H : Heap} {locs : List Loc} {ls : Array Slot} (V : uV s D cc L A J I R H locs) (hl : lv_has ls 2 []) (h : wp_Ck_begin_L15 o Q I R s0) : W p l e rm_Ck_begin s m args below meth c H locs 0 0 (MQ below (va_Qv (fun u : UI × UR => Q u.1 u.2) (uBv D cc L A J) (uA L A sz)) args s 0 0 (uA L A sz)) (F0 m 15 ls [.int s0, .ref (A o)]) := by
  have hx := X.1
  have hb := X.2.1
  unfold wp_Ck_begin_L15 at h
  refine u_puti (pc := 15) X V h_o.1 h_o.2 rfl f_Ck_13 rfl d_Ck_begin_15 (fun I2 eI2 H locs V => ?_)
  have h := h I2 eI2
  exact u_retv (pc := 18) X V hr hlk hsz h d_Ck_begin_18
def wp_Ck_begin (I : UI) (R : UR) (o : Nat) (x1 : Int32) (Q : UI → UR → Prop) : Prop :=
  zb x1 ∧ ∀ I1 : UI, I1 = u2 I o 0 x1 → ((x1 = 0 → wp_Ck_begin_L15 o Q I1 R 0) ∧ (¬ x1 = 0 → wp_Ck_begin_L15 o Q I1 R (-1)))
set_option maxHeartbeats 4000000 in
set_option maxRecDepth 100000 in
theorem c_Ck_begin (l : Launch) (D : va_G) (cc : Nat → ClassId) (L : List Nat) (A : Nat → Nat) (J : Nat → Int64) (t16 t32 : Nat) (I : UI) (R : UR) (o : Nat) (h_o : isCk L o) (x1 : Int32) (Q : UI → UR → Prop) (h : wp_Ck_begin I R o x1 Q) : uMv l y_Ck_begin (.code y_Ck_begin prog_2_method_2_code 2 none) rm_Ck_begin [.ref (A o), .int x1] D cc L A J t16 t32 I R Q := by
  intro sz
  refine u_entry (by decide) (Nat.le_of_ble_eq_true rfl) (fun p e s m args below meth c hsz X V hr hlk ls hl => ?_)
  have X : uX p s m args c prog_2_method_2_code 2 "FrameFerry$Check" D cc L A t16 t32 := X
  have hx := X.1
  have hb := X.2.1
  have hl : lv_has ls 2 [(0, .ref (A o)), (1, .int x1)] := hl
  unfold wp_Ck_begin at h
  generalize hH : s.heap = H at V ⊢
  generalize hlo : ([] : List Loc) = locs at V ⊢
  refine lv_aload_n (pc := 0) hx hb d_Ck_begin_0 rfl (lv_at hl 0 rfl) ?_
  refine lv_iload_n (pc := 1) hx hb d_Ck_begin_1 rfl (lv_at hl 1 rfl) ?_
  refine u_putz (pc := 2) X V h_o.1 h_o.2 rfl f_Ck_7 rfl h.1 d_Ck_begin_2 (fun I1 eI1 H locs V => ?_)
  have h := h.2 I1 eI1
  refine lv_aload_n (pc := 5) hx hb d_Ck_begin_5 rfl (lv_at hl 0 rfl) ?_
  refine lv_iload_n (pc := 6) hx hb d_Ck_begin_6 rfl (lv_at hl 1 rfl) ?_
  refine lv_if_eq (pc := 7) (tgt := 14) hx hb d_Ck_begin_7 (by decide) (fun hc => ?_) (fun hc => ?_)
  · have h := h.1 hc
    refine lv_iconst (pc := 14) (v := 0) hx hb d_Ck_begin_14 (by decide) ?_
    exact j_Ck_begin_15 X hr hlk hsz h_o V (lv_sub hl [] rfl) h
  · have h := h.2 hc
    refine lv_iconst (pc := 10) (v := (-1)) hx hb d_Ck_begin_10 (by decide) ?_
    refine lv_goto (pc := 11) (tgt := 15) hx hb d_Ck_begin_11 (by decide) ?_
    exact j_Ck_begin_15 X hr hlk hsz h_o V (lv_sub hl [] rfl) h
-- FrameFerry$Check.add (I)V
theorem d_Ck_add_0 : decode prog_2_method_3_code 0 = .ok (.aload_n 0, 1) := by decide +kernel
theorem d_Ck_add_1 : decode prog_2_method_3_code 1 = .ok (.getfield 7, 3) := by decide +kernel
theorem d_Ck_add_4 : decode prog_2_method_3_code 4 = .ok (.ifCond .eq 56, 3) := by decide +kernel
theorem d_Ck_add_7 : decode prog_2_method_3_code 7 = .ok (.aload_n 0, 1) := by decide +kernel
theorem d_Ck_add_8 : decode prog_2_method_3_code 8 = .ok (.aload_n 0, 1) := by decide +kernel
theorem d_Ck_add_9 : decode prog_2_method_3_code 9 = .ok (.getfield 13, 3) := by decide +kernel
theorem d_Ck_add_12 : decode prog_2_method_3_code 12 = .ok (.iconst 4, 1) := by decide +kernel
theorem d_Ck_add_13 : decode prog_2_method_3_code 13 = .ok (.iushr, 1) := by decide +kernel
theorem d_Ck_add_14 : decode prog_2_method_3_code 14 = .ok (.getstatic 17, 3) := by decide +kernel
theorem d_Ck_add_17 : decode prog_2_method_3_code 17 = .ok (.aload_n 0, 1) := by decide +kernel
theorem d_Ck_add_18 : decode prog_2_method_3_code 18 = .ok (.getfield 13, 3) := by decide +kernel
theorem d_Ck_add_21 : decode prog_2_method_3_code 21 = .ok (.iload_n 1, 1) := by decide +kernel
theorem d_Ck_add_22 : decode prog_2_method_3_code 22 = .ok (.ixor, 1) := by decide +kernel
theorem d_Ck_add_23 : decode prog_2_method_3_code 23 = .ok (.bipush 15, 2) := by decide +kernel
theorem d_Ck_add_25 : decode prog_2_method_3_code 25 = .ok (.iand, 1) := by decide +kernel
theorem d_Ck_add_26 : decode prog_2_method_3_code 26 = .ok (.iaload, 1) := by decide +kernel
theorem d_Ck_add_27 : decode prog_2_method_3_code 27 = .ok (.ixor, 1) := by decide +kernel
theorem d_Ck_add_28 : decode prog_2_method_3_code 28 = .ok (.putfield 13, 3) := by decide +kernel
theorem d_Ck_add_31 : decode prog_2_method_3_code 31 = .ok (.aload_n 0, 1) := by decide +kernel
theorem d_Ck_add_32 : decode prog_2_method_3_code 32 = .ok (.aload_n 0, 1) := by decide +kernel
theorem d_Ck_add_33 : decode prog_2_method_3_code 33 = .ok (.getfield 13, 3) := by decide +kernel
theorem d_Ck_add_36 : decode prog_2_method_3_code 36 = .ok (.iconst 4, 1) := by decide +kernel
theorem d_Ck_add_37 : decode prog_2_method_3_code 37 = .ok (.iushr, 1) := by decide +kernel
theorem d_Ck_add_38 : decode prog_2_method_3_code 38 = .ok (.getstatic 17, 3) := by decide +kernel
theorem d_Ck_add_41 : decode prog_2_method_3_code 41 = .ok (.aload_n 0, 1) := by decide +kernel
theorem d_Ck_add_42 : decode prog_2_method_3_code 42 = .ok (.getfield 13, 3) := by decide +kernel
theorem d_Ck_add_45 : decode prog_2_method_3_code 45 = .ok (.iload_n 1, 1) := by decide +kernel
theorem d_Ck_add_46 : decode prog_2_method_3_code 46 = .ok (.iconst 4, 1) := by decide +kernel
theorem d_Ck_add_47 : decode prog_2_method_3_code 47 = .ok (.iushr, 1) := by decide +kernel
theorem d_Ck_add_48 : decode prog_2_method_3_code 48 = .ok (.ixor, 1) := by decide +kernel
theorem d_Ck_add_49 : decode prog_2_method_3_code 49 = .ok (.bipush 15, 2) := by decide +kernel
theorem d_Ck_add_51 : decode prog_2_method_3_code 51 = .ok (.iand, 1) := by decide +kernel
theorem d_Ck_add_52 : decode prog_2_method_3_code 52 = .ok (.iaload, 1) := by decide +kernel
theorem d_Ck_add_53 : decode prog_2_method_3_code 53 = .ok (.ixor, 1) := by decide +kernel
theorem d_Ck_add_54 : decode prog_2_method_3_code 54 = .ok (.putfield 13, 3) := by decide +kernel
theorem d_Ck_add_57 : decode prog_2_method_3_code 57 = .ok (.goto 65, 3) := by decide +kernel
theorem d_Ck_add_60 : decode prog_2_method_3_code 60 = .ok (.aload_n 0, 1) := by decide +kernel
theorem d_Ck_add_61 : decode prog_2_method_3_code 61 = .ok (.aload_n 0, 1) := by decide +kernel
theorem d_Ck_add_62 : decode prog_2_method_3_code 62 = .ok (.getfield 13, 3) := by decide +kernel
theorem d_Ck_add_65 : decode prog_2_method_3_code 65 = .ok (.iconst 4, 1) := by decide +kernel
theorem d_Ck_add_66 : decode prog_2_method_3_code 66 = .ok (.ishl, 1) := by decide +kernel
theorem d_Ck_add_67 : decode prog_2_method_3_code 67 = .ok (.ldc 21, 2) := by decide +kernel
theorem d_Ck_add_69 : decode prog_2_method_3_code 69 = .ok (.iand, 1) := by decide +kernel
theorem d_Ck_add_70 : decode prog_2_method_3_code 70 = .ok (.getstatic 22, 3) := by decide +kernel
theorem d_Ck_add_73 : decode prog_2_method_3_code 73 = .ok (.aload_n 0, 1) := by decide +kernel
theorem d_Ck_add_74 : decode prog_2_method_3_code 74 = .ok (.getfield 13, 3) := by decide +kernel
theorem d_Ck_add_77 : decode prog_2_method_3_code 77 = .ok (.bipush 12, 2) := by decide +kernel
theorem d_Ck_add_79 : decode prog_2_method_3_code 79 = .ok (.iushr, 1) := by decide +kernel
theorem d_Ck_add_80 : decode prog_2_method_3_code 80 = .ok (.iload_n 1, 1) := by decide +kernel
theorem d_Ck_add_81 : decode prog_2_method_3_code 81 = .ok (.iconst 4, 1) := by decide +kernel
theorem d_Ck_add_82 : decode prog_2_method_3_code 82 = .ok (.iushr, 1) := by decide +kernel
theorem d_Ck_add_83 : decode prog_2_method_3_code 83 = .ok (.ixor, 1) := by decide +kernel
theorem d_Ck_add_84 : decode prog_2_method_3_code 84 = .ok (.bipush 15, 2) := by decide +kernel
theorem d_Ck_add_86 : decode prog_2_method_3_code 86 = .ok (.iand, 1) := by decide +kernel
theorem d_Ck_add_87 : decode prog_2_method_3_code 87 = .ok (.iaload, 1) := by decide +kernel
theorem d_Ck_add_88 : decode prog_2_method_3_code 88 = .ok (.ixor, 1) := by decide +kernel
theorem d_Ck_add_89 : decode prog_2_method_3_code 89 = .ok (.putfield 13, 3) := by decide +kernel
theorem d_Ck_add_92 : decode prog_2_method_3_code 92 = .ok (.aload_n 0, 1) := by decide +kernel
theorem d_Ck_add_93 : decode prog_2_method_3_code 93 = .ok (.aload_n 0, 1) := by decide +kernel
theorem d_Ck_add_94 : decode prog_2_method_3_code 94 = .ok (.getfield 13, 3) := by decide +kernel
theorem d_Ck_add_97 : decode prog_2_method_3_code 97 = .ok (.iconst 4, 1) := by decide +kernel
theorem d_Ck_add_98 : decode prog_2_method_3_code 98 = .ok (.ishl, 1) := by decide +kernel
theorem d_Ck_add_99 : decode prog_2_method_3_code 99 = .ok (.ldc 21, 2) := by decide +kernel
theorem d_Ck_add_101 : decode prog_2_method_3_code 101 = .ok (.iand, 1) := by decide +kernel
theorem d_Ck_add_102 : decode prog_2_method_3_code 102 = .ok (.getstatic 22, 3) := by decide +kernel
theorem d_Ck_add_105 : decode prog_2_method_3_code 105 = .ok (.aload_n 0, 1) := by decide +kernel
theorem d_Ck_add_106 : decode prog_2_method_3_code 106 = .ok (.getfield 13, 3) := by decide +kernel
theorem d_Ck_add_109 : decode prog_2_method_3_code 109 = .ok (.bipush 12, 2) := by decide +kernel
theorem d_Ck_add_111 : decode prog_2_method_3_code 111 = .ok (.iushr, 1) := by decide +kernel
theorem d_Ck_add_112 : decode prog_2_method_3_code 112 = .ok (.iload_n 1, 1) := by decide +kernel
theorem d_Ck_add_113 : decode prog_2_method_3_code 113 = .ok (.ixor, 1) := by decide +kernel
theorem d_Ck_add_114 : decode prog_2_method_3_code 114 = .ok (.bipush 15, 2) := by decide +kernel
theorem d_Ck_add_116 : decode prog_2_method_3_code 116 = .ok (.iand, 1) := by decide +kernel
theorem d_Ck_add_117 : decode prog_2_method_3_code 117 = .ok (.iaload, 1) := by decide +kernel
theorem d_Ck_add_118 : decode prog_2_method_3_code 118 = .ok (.ixor, 1) := by decide +kernel
theorem d_Ck_add_119 : decode prog_2_method_3_code 119 = .ok (.putfield 13, 3) := by decide +kernel
theorem d_Ck_add_122 : decode prog_2_method_3_code 122 = .ok (.return_, 1) := by decide +kernel
def rm_Ck_add : Room := { frames := 0, cells := 0, slots := 0, locals := 0 }
def wp_Ck_add (I : UI) (R : UR) (o : Nat) (x1 : Int32) (Q : UI → UR → Prop) : Prop :=
  ((I o 0 = 0 → vp_in (((ush (I o 1) 12) ^^^ (ush x1 4)) &&& 15) 16 ∧ ∀ I1 : UI, I1 = u2 I o 1 ((((I o 1) <<< (4 &&& 31)) &&& 65535) ^^^ (s16 (((ush (I o 1) 12) ^^^ (ush x1 4)) &&& 15).toNatClampNeg)) → vp_in (((ush (I1 o 1) 12) ^^^ x1) &&& 15) 16 ∧ ∀ I2 : UI, I2 = u2 I1 o 1 ((((I1 o 1) <<< (4 &&& 31)) &&& 65535) ^^^ (s16 (((ush (I1 o 1) 12) ^^^ x1) &&& 15).toNatClampNeg)) → Q I2 R) ∧ (¬ I o 0 = 0 → vp_in (((I o 1) ^^^ x1) &&& 15) 16 ∧ ∀ I3 : UI, I3 = u2 I o 1 ((ush (I o 1) 4) ^^^ (s32 (((I o 1) ^^^ x1) &&& 15).toNatClampNeg)) → vp_in (((I3 o 1) ^^^ (ush x1 4)) &&& 15) 16 ∧ ∀ I4 : UI, I4 = u2 I3 o 1 ((ush (I3 o 1) 4) ^^^ (s32 (((I3 o 1) ^^^ (ush x1 4)) &&& 15).toNatClampNeg)) → Q I4 R))
set_option maxHeartbeats 4000000 in
set_option maxRecDepth 100000 in
theorem c_Ck_add (l : Launch) (D : va_G) (cc : Nat → ClassId) (L : List Nat) (A : Nat → Nat) (J : Nat → Int64) (t16 t32 : Nat) (I : UI) (R : UR) (o : Nat) (h_o : isCk L o) (x1 : Int32) (Q : UI → UR → Prop) (h : wp_Ck_add I R o x1 Q) : uMv l y_Ck_add (.code y_Ck_add prog_2_method_3_code 2 none) rm_Ck_add [.ref (A o), .int x1] D cc L A J t16 t32 I R Q := by
  intro sz
  refine u_entry (by decide) (Nat.le_of_ble_eq_true rfl) (fun p e s m args below meth c hsz X V hr hlk ls hl => ?_)
  have X : uX p s m args c prog_2_method_3_code 2 "FrameFerry$Check" D cc L A t16 t32 := X
  have hx := X.1
  have hb := X.2.1
  have hl : lv_has ls 2 [(0, .ref (A o)), (1, .int x1)] := hl
  unfold wp_Ck_add at h
  generalize hH : s.heap = H at V ⊢
  generalize hlo : ([] : List Loc) = locs at V ⊢
  refine lv_aload_n (pc := 0) hx hb d_Ck_add_0 rfl (lv_at hl 0 rfl) ?_
  refine u_geti (pc := 1) X V h_o.1 h_o.2 rfl f_Ck_7 rfl d_Ck_add_1 ?_
  refine lv_if_eq (pc := 4) (tgt := 60) hx hb d_Ck_add_4 (by decide) (fun hc => ?_) (fun hc => ?_)
  · have h := h.1 hc
    refine lv_aload_n (pc := 60) hx hb d_Ck_add_60 rfl (lv_at hl 0 rfl) ?_
    refine lv_aload_n (pc := 61) hx hb d_Ck_add_61 rfl (lv_at hl 0 rfl) ?_
    refine u_geti (pc := 62) X V h_o.1 h_o.2 rfl f_Ck_13 rfl d_Ck_add_62 ?_
    refine lv_iconst (pc := 65) (v := 4) hx hb d_Ck_add_65 (by decide) ?_
    refine lv_ishl (pc := 66) hx hb d_Ck_add_66 ?_
    refine lv_ldc (pc := 67) hx hb X.2.2.2.1 (X.2.2.2.2.1 _ k_Ck_21) d_Ck_add_67 ?_
    refine lv_iand (pc := 69) hx hb d_Ck_add_69 ?_
    refine u_get16 (pc := 70) X V f_Ck_22 d_Ck_add_70 ?_
    refine lv_aload_n (pc := 73) hx hb d_Ck_add_73 rfl (lv_at hl 0 rfl) ?_
    refine u_geti (pc := 74) X V h_o.1 h_o.2 rfl f_Ck_13 rfl d_Ck_add_74 ?_
    refine lv_bipush (pc := 77) (v := 12) hx hb d_Ck_add_77 (by decide) ?_
    refine lv_iushr (pc := 79) (v := ush (I o 1) 12) hx hb d_Ck_add_79 rfl ?_
    refine lv_iload_n (pc := 80) hx hb d_Ck_add_80 rfl (lv_at hl 1 rfl) ?_
    refine lv_iconst (pc := 81) (v := 4) hx hb d_Ck_add_81 (by decide) ?_
    refine lv_iushr (pc := 82) (v := ush x1 4) hx hb d_Ck_add_82 rfl ?_
    refine lv_ixor (pc := 83) hx hb d_Ck_add_83 ?_
    refine lv_bipush (pc := 84) (v := 15) hx hb d_Ck_add_84 (by decide) ?_
    refine lv_iand (pc := 86) hx hb d_Ck_add_86 ?_
    refine u_ald16 (pc := 87) X V h.1 d_Ck_add_87 ?_
    have h := h.2
    refine lv_ixor (pc := 88) hx hb d_Ck_add_88 ?_
    refine u_puti (pc := 89) X V h_o.1 h_o.2 rfl f_Ck_13 rfl d_Ck_add_89 (fun I1 eI1 H locs V => ?_)
    have h := h I1 eI1
    refine lv_aload_n (pc := 92) hx hb d_Ck_add_92 rfl (lv_at hl 0 rfl) ?_
    refine lv_aload_n (pc := 93) hx hb d_Ck_add_93 rfl (lv_at hl 0 rfl) ?_
    refine u_geti (pc := 94) X V h_o.1 h_o.2 rfl f_Ck_13 rfl d_Ck_add_94 ?_
    refine lv_iconst (pc := 97) (v := 4) hx hb d_Ck_add_97 (by decide) ?_
    refine lv_ishl (pc := 98) hx hb d_Ck_add_98 ?_
    refine lv_ldc (pc := 99) hx hb X.2.2.2.1 (X.2.2.2.2.1 _ k_Ck_21) d_Ck_add_99 ?_
    refine lv_iand (pc := 101) hx hb d_Ck_add_101 ?_
    refine u_get16 (pc := 102) X V f_Ck_22 d_Ck_add_102 ?_
    refine lv_aload_n (pc := 105) hx hb d_Ck_add_105 rfl (lv_at hl 0 rfl) ?_
    refine u_geti (pc := 106) X V h_o.1 h_o.2 rfl f_Ck_13 rfl d_Ck_add_106 ?_
    refine lv_bipush (pc := 109) (v := 12) hx hb d_Ck_add_109 (by decide) ?_
    refine lv_iushr (pc := 111) (v := ush (I1 o 1) 12) hx hb d_Ck_add_111 rfl ?_
    refine lv_iload_n (pc := 112) hx hb d_Ck_add_112 rfl (lv_at hl 1 rfl) ?_
    refine lv_ixor (pc := 113) hx hb d_Ck_add_113 ?_
    refine lv_bipush (pc := 114) (v := 15) hx hb d_Ck_add_114 (by decide) ?_
    refine lv_iand (pc := 116) hx hb d_Ck_add_116 ?_
    refine u_ald16 (pc := 117) X V h.1 d_Ck_add_117 ?_
    have h := h.2
    refine lv_ixor (pc := 118) hx hb d_Ck_add_118 ?_
    refine u_puti (pc := 119) X V h_o.1 h_o.2 rfl f_Ck_13 rfl d_Ck_add_119 (fun I2 eI2 H locs V => ?_)
    have h := h I2 eI2
    exact u_retv (pc := 122) X V hr hlk hsz h d_Ck_add_122
  · have h := h.2 hc
    refine lv_aload_n (pc := 7) hx hb d_Ck_add_7 rfl (lv_at hl 0 rfl) ?_
    refine lv_aload_n (pc := 8) hx hb d_Ck_add_8 rfl (lv_at hl 0 rfl) ?_
    refine u_geti (pc := 9) X V h_o.1 h_o.2 rfl f_Ck_13 rfl d_Ck_add_9 ?_
    refine lv_iconst (pc := 12) (v := 4) hx hb d_Ck_add_12 (by decide) ?_
    refine lv_iushr (pc := 13) (v := ush (I o 1) 4) hx hb d_Ck_add_13 rfl ?_
    refine u_get32 (pc := 14) X V f_Ck_17 d_Ck_add_14 ?_
    refine lv_aload_n (pc := 17) hx hb d_Ck_add_17 rfl (lv_at hl 0 rfl) ?_
    refine u_geti (pc := 18) X V h_o.1 h_o.2 rfl f_Ck_13 rfl d_Ck_add_18 ?_
    refine lv_iload_n (pc := 21) hx hb d_Ck_add_21 rfl (lv_at hl 1 rfl) ?_
    refine lv_ixor (pc := 22) hx hb d_Ck_add_22 ?_
    refine lv_bipush (pc := 23) (v := 15) hx hb d_Ck_add_23 (by decide) ?_
    refine lv_iand (pc := 25) hx hb d_Ck_add_25 ?_
    refine u_ald32 (pc := 26) X V h.1 d_Ck_add_26 ?_
    have h := h.2
    refine lv_ixor (pc := 27) hx hb d_Ck_add_27 ?_
    refine u_puti (pc := 28) X V h_o.1 h_o.2 rfl f_Ck_13 rfl d_Ck_add_28 (fun I3 eI3 H locs V => ?_)
    have h := h I3 eI3
    refine lv_aload_n (pc := 31) hx hb d_Ck_add_31 rfl (lv_at hl 0 rfl) ?_
    refine lv_aload_n (pc := 32) hx hb d_Ck_add_32 rfl (lv_at hl 0 rfl) ?_
    refine u_geti (pc := 33) X V h_o.1 h_o.2 rfl f_Ck_13 rfl d_Ck_add_33 ?_
    refine lv_iconst (pc := 36) (v := 4) hx hb d_Ck_add_36 (by decide) ?_
    refine lv_iushr (pc := 37) (v := ush (I3 o 1) 4) hx hb d_Ck_add_37 rfl ?_
    refine u_get32 (pc := 38) X V f_Ck_17 d_Ck_add_38 ?_
    refine lv_aload_n (pc := 41) hx hb d_Ck_add_41 rfl (lv_at hl 0 rfl) ?_
    refine u_geti (pc := 42) X V h_o.1 h_o.2 rfl f_Ck_13 rfl d_Ck_add_42 ?_
    refine lv_iload_n (pc := 45) hx hb d_Ck_add_45 rfl (lv_at hl 1 rfl) ?_
    refine lv_iconst (pc := 46) (v := 4) hx hb d_Ck_add_46 (by decide) ?_
    refine lv_iushr (pc := 47) (v := ush x1 4) hx hb d_Ck_add_47 rfl ?_
    refine lv_ixor (pc := 48) hx hb d_Ck_add_48 ?_
    refine lv_bipush (pc := 49) (v := 15) hx hb d_Ck_add_49 (by decide) ?_
    refine lv_iand (pc := 51) hx hb d_Ck_add_51 ?_
    refine u_ald32 (pc := 52) X V h.1 d_Ck_add_52 ?_
    have h := h.2
    refine lv_ixor (pc := 53) hx hb d_Ck_add_53 ?_
    refine u_puti (pc := 54) X V h_o.1 h_o.2 rfl f_Ck_13 rfl d_Ck_add_54 (fun I4 eI4 H locs V => ?_)
    have h := h I4 eI4
    refine lv_goto (pc := 57) (tgt := 122) hx hb d_Ck_add_57 (by decide) ?_
    exact u_retv (pc := 122) X V hr hlk hsz h d_Ck_add_122
-- FrameFerry$Check.size ()I
theorem d_Ck_size_0 : decode prog_2_method_4_code 0 = .ok (.aload_n 0, 1) := by decide +kernel
theorem d_Ck_size_1 : decode prog_2_method_4_code 1 = .ok (.getfield 7, 3) := by decide +kernel
theorem d_Ck_size_4 : decode prog_2_method_4_code 4 = .ok (.ifCond .eq 7, 3) := by decide +kernel
theorem d_Ck_size_7 : decode prog_2_method_4_code 7 = .ok (.iconst 4, 1) := by decide +kernel
theorem d_Ck_size_8 : decode prog_2_method_4_code 8 = .ok (.goto 4, 3) := by decide +kernel
theorem d_Ck_size_11 : decode prog_2_method_4_code 11 = .ok (.iconst 2, 1) := by decide +kernel
theorem d_Ck_size_12 : decode prog_2_method_4_code 12 = .ok (.ireturn, 1) := by decide +kernel
def rm_Ck_size : Room := { frames := 0, cells := 0, slots := 0, locals := 0 }
def wp_Ck_size (I : UI) (R : UR) (o : Nat) (Q : Int32 → UI → UR → Prop) : Prop :=
  ((I o 0 = 0 → Q 2 I R) ∧ (¬ I o 0 = 0 → Q 4 I R))
set_option maxHeartbeats 4000000 in
set_option maxRecDepth 100000 in
theorem c_Ck_size (l : Launch) (D : va_G) (cc : Nat → ClassId) (L : List Nat) (A : Nat → Nat) (J : Nat → Int64) (t16 t32 : Nat) (I : UI) (R : UR) (o : Nat) (h_o : isCk L o) (Q : Int32 → UI → UR → Prop) (h : wp_Ck_size I R o Q) : uMi l y_Ck_size (.code y_Ck_size prog_2_method_4_code 1 (some .int)) rm_Ck_size [.ref (A o)] D cc L A J t16 t32 I R Q := by
  intro sz
  refine u_entry (by decide) (Nat.le_of_ble_eq_true rfl) (fun p e s m args below meth c hsz X V hr hlk ls hl => ?_)
  have X : uX p s m args c prog_2_method_4_code 1 "FrameFerry$Check" D cc L A t16 t32 := X
  have hx := X.1
  have hb := X.2.1
  have hl : lv_has ls 1 [(0, .ref (A o))] := hl
  unfold wp_Ck_size at h
  generalize hH : s.heap = H at V ⊢
  generalize hlo : ([] : List Loc) = locs at V ⊢
  refine lv_aload_n (pc := 0) hx hb d_Ck_size_0 rfl (lv_at hl 0 rfl) ?_
  refine u_geti (pc := 1) X V h_o.1 h_o.2 rfl f_Ck_7 rfl d_Ck_size_1 ?_
  refine lv_if_eq (pc := 4) (tgt := 11) hx hb d_Ck_size_4 (by decide) (fun hc => ?_) (fun hc => ?_)
  · have h := h.1 hc
    refine lv_iconst (pc := 11) (v := 2) hx hb d_Ck_size_11 (by decide) ?_
    exact u_reti (pc := 12) X V hr hlk hsz h d_Ck_size_12
  · have h := h.2 hc
    refine lv_iconst (pc := 7) (v := 4) hx hb d_Ck_size_7 (by decide) ?_
    refine lv_goto (pc := 8) (tgt := 12) hx hb d_Ck_size_8 (by decide) ?_
    exact u_reti (pc := 12) X V hr hlk hsz h d_Ck_size_12
-- FrameFerry$Check.part (I)I
theorem d_Ck_part_0 : decode prog_2_method_5_code 0 = .ok (.aload_n 0, 1) := by decide +kernel
theorem d_Ck_part_1 : decode prog_2_method_5_code 1 = .ok (.getfield 7, 3) := by decide +kernel
theorem d_Ck_part_4 : decode prog_2_method_5_code 4 = .ok (.ifCond .eq 17, 3) := by decide +kernel
theorem d_Ck_part_7 : decode prog_2_method_5_code 7 = .ok (.aload_n 0, 1) := by decide +kernel
theorem d_Ck_part_8 : decode prog_2_method_5_code 8 = .ok (.getfield 13, 3) := by decide +kernel
theorem d_Ck_part_11 : decode prog_2_method_5_code 11 = .ok (.iconst (-1), 1) := by decide +kernel
theorem d_Ck_part_12 : decode prog_2_method_5_code 12 = .ok (.ixor, 1) := by decide +kernel
theorem d_Ck_part_13 : decode prog_2_method_5_code 13 = .ok (.bipush 8, 2) := by decide +kernel
theorem d_Ck_part_15 : decode prog_2_method_5_code 15 = .ok (.iload_n 1, 1) := by decide +kernel
theorem d_Ck_part_16 : decode prog_2_method_5_code 16 = .ok (.imul, 1) := by decide +kernel
theorem d_Ck_part_17 : decode prog_2_method_5_code 17 = .ok (.iushr, 1) := by decide +kernel
theorem d_Ck_part_18 : decode prog_2_method_5_code 18 = .ok (.goto 15, 3) := by decide +kernel
theorem d_Ck_part_21 : decode prog_2_method_5_code 21 = .ok (.aload_n 0, 1) := by decide +kernel
theorem d_Ck_part_22 : decode prog_2_method_5_code 22 = .ok (.getfield 13, 3) := by decide +kernel
theorem d_Ck_part_25 : decode prog_2_method_5_code 25 = .ok (.bipush 8, 2) := by decide +kernel
theorem d_Ck_part_27 : decode prog_2_method_5_code 27 = .ok (.bipush 8, 2) := by decide +kernel
theorem d_Ck_part_29 : decode prog_2_method_5_code 29 = .ok (.iload_n 1, 1) := by decide +kernel
theorem d_Ck_part_30 : decode prog_2_method_5_code 30 = .ok (.imul, 1) := by decide +kernel
theorem d_Ck_part_31 : decode prog_2_method_5_code 31 = .ok (.isub, 1) := by decide +kernel
theorem d_Ck_part_32 : decode prog_2_method_5_code 32 = .ok (.iushr, 1) := by decide +kernel
theorem d_Ck_part_33 : decode prog_2_method_5_code 33 = .ok (.sipush 255, 3) := by decide +kernel
theorem d_Ck_part_36 : decode prog_2_method_5_code 36 = .ok (.iand, 1) := by decide +kernel
theorem d_Ck_part_37 : decode prog_2_method_5_code 37 = .ok (.ireturn, 1) := by decide +kernel
def rm_Ck_part : Room := { frames := 0, cells := 0, slots := 0, locals := 0 }
def wp_Ck_part (I : UI) (R : UR) (o : Nat) (x1 : Int32) (Q : Int32 → UI → UR → Prop) : Prop :=
  ((I o 0 = 0 → Q ((ush (I o 1) (8 - (8 * x1))) &&& 255) I R) ∧ (¬ I o 0 = 0 → Q ((ush ((I o 1) ^^^ (-1)) (8 * x1)) &&& 255) I R))
set_option maxHeartbeats 4000000 in
set_option maxRecDepth 100000 in
theorem c_Ck_part (l : Launch) (D : va_G) (cc : Nat → ClassId) (L : List Nat) (A : Nat → Nat) (J : Nat → Int64) (t16 t32 : Nat) (I : UI) (R : UR) (o : Nat) (h_o : isCk L o) (x1 : Int32) (Q : Int32 → UI → UR → Prop) (h : wp_Ck_part I R o x1 Q) : uMi l y_Ck_part (.code y_Ck_part prog_2_method_5_code 2 (some .int)) rm_Ck_part [.ref (A o), .int x1] D cc L A J t16 t32 I R Q := by
  intro sz
  refine u_entry (by decide) (Nat.le_of_ble_eq_true rfl) (fun p e s m args below meth c hsz X V hr hlk ls hl => ?_)
  have X : uX p s m args c prog_2_method_5_code 2 "FrameFerry$Check" D cc L A t16 t32 := X
  have hx := X.1
  have hb := X.2.1
  have hl : lv_has ls 2 [(0, .ref (A o)), (1, .int x1)] := hl
  unfold wp_Ck_part at h
  generalize hH : s.heap = H at V ⊢
  generalize hlo : ([] : List Loc) = locs at V ⊢
  refine lv_aload_n (pc := 0) hx hb d_Ck_part_0 rfl (lv_at hl 0 rfl) ?_
  refine u_geti (pc := 1) X V h_o.1 h_o.2 rfl f_Ck_7 rfl d_Ck_part_1 ?_
  refine lv_if_eq (pc := 4) (tgt := 21) hx hb d_Ck_part_4 (by decide) (fun hc => ?_) (fun hc => ?_)
  · have h := h.1 hc
    refine lv_aload_n (pc := 21) hx hb d_Ck_part_21 rfl (lv_at hl 0 rfl) ?_
    refine u_geti (pc := 22) X V h_o.1 h_o.2 rfl f_Ck_13 rfl d_Ck_part_22 ?_
    refine lv_bipush (pc := 25) (v := 8) hx hb d_Ck_part_25 (by decide) ?_
    refine lv_bipush (pc := 27) (v := 8) hx hb d_Ck_part_27 (by decide) ?_
    refine lv_iload_n (pc := 29) hx hb d_Ck_part_29 rfl (lv_at hl 1 rfl) ?_
    refine lv_imul (pc := 30) hx hb d_Ck_part_30 ?_
    refine lv_isub (pc := 31) hx hb d_Ck_part_31 ?_
    refine lv_iushr (pc := 32) (v := ush (I o 1) (8 - (8 * x1))) hx hb d_Ck_part_32 rfl ?_
    refine lv_sipush (pc := 33) (v := 255) hx hb d_Ck_part_33 (by decide) ?_
    refine lv_iand (pc := 36) hx hb d_Ck_part_36 ?_
    exact u_reti (pc := 37) X V hr hlk hsz h d_Ck_part_37
  · have h := h.2 hc
    refine lv_aload_n (pc := 7) hx hb d_Ck_part_7 rfl (lv_at hl 0 rfl) ?_
    refine u_geti (pc := 8) X V h_o.1 h_o.2 rfl f_Ck_13 rfl d_Ck_part_8 ?_
    refine lv_iconst (pc := 11) (v := (-1)) hx hb d_Ck_part_11 (by decide) ?_
    refine lv_ixor (pc := 12) hx hb d_Ck_part_12 ?_
    refine lv_bipush (pc := 13) (v := 8) hx hb d_Ck_part_13 (by decide) ?_
    refine lv_iload_n (pc := 15) hx hb d_Ck_part_15 rfl (lv_at hl 1 rfl) ?_
    refine lv_imul (pc := 16) hx hb d_Ck_part_16 ?_
    refine lv_iushr (pc := 17) (v := ush ((I o 1) ^^^ (-1)) (8 * x1)) hx hb d_Ck_part_17 rfl ?_
    refine lv_goto (pc := 18) (tgt := 33) hx hb d_Ck_part_18 (by decide) ?_
    refine lv_sipush (pc := 33) (v := 255) hx hb d_Ck_part_33 (by decide) ?_
    refine lv_iand (pc := 36) hx hb d_Ck_part_36 ?_
    exact u_reti (pc := 37) X V hr hlk hsz h d_Ck_part_37
-- FrameFerry$Pipe.add (I)V
theorem d_Pi_add_0 : decode prog_3_method_2_code 0 = .ok (.aload_n 0, 1) := by decide +kernel
theorem d_Pi_add_1 : decode prog_3_method_2_code 1 = .ok (.dup, 1) := by decide +kernel
theorem d_Pi_add_2 : decode prog_3_method_2_code 2 = .ok (.getfield 15, 3) := by decide +kernel
theorem d_Pi_add_5 : decode prog_3_method_2_code 5 = .ok (.iconst 1, 1) := by decide +kernel
theorem d_Pi_add_6 : decode prog_3_method_2_code 6 = .ok (.iadd, 1) := by decide +kernel
theorem d_Pi_add_7 : decode prog_3_method_2_code 7 = .ok (.putfield 15, 3) := by decide +kernel
theorem d_Pi_add_10 : decode prog_3_method_2_code 10 = .ok (.aload_n 0, 1) := by decide +kernel
theorem d_Pi_add_11 : decode prog_3_method_2_code 11 = .ok (.getfield 19, 3) := by decide +kernel
theorem d_Pi_add_14 : decode prog_3_method_2_code 14 = .ok (.sipush 3000, 3) := by decide +kernel
theorem d_Pi_add_17 : decode prog_3_method_2_code 17 = .ok (.if_icmp .ge 24, 3) := by decide +kernel
theorem d_Pi_add_20 : decode prog_3_method_2_code 20 = .ok (.aload_n 0, 1) := by decide +kernel
theorem d_Pi_add_21 : decode prog_3_method_2_code 21 = .ok (.getfield 9, 3) := by decide +kernel
theorem d_Pi_add_24 : decode prog_3_method_2_code 24 = .ok (.aload_n 0, 1) := by decide +kernel
theorem d_Pi_add_25 : decode prog_3_method_2_code 25 = .ok (.getfield 19, 3) := by decide +kernel
theorem d_Pi_add_28 : decode prog_3_method_2_code 28 = .ok (.iload_n 1, 1) := by decide +kernel
theorem d_Pi_add_29 : decode prog_3_method_2_code 29 = .ok (.i2b, 1) := by decide +kernel
theorem d_Pi_add_30 : decode prog_3_method_2_code 30 = .ok (.bastore, 1) := by decide +kernel
theorem d_Pi_add_31 : decode prog_3_method_2_code 31 = .ok (.aload_n 0, 1) := by decide +kernel
theorem d_Pi_add_32 : decode prog_3_method_2_code 32 = .ok (.dup, 1) := by decide +kernel
theorem d_Pi_add_33 : decode prog_3_method_2_code 33 = .ok (.getfield 19, 3) := by decide +kernel
theorem d_Pi_add_36 : decode prog_3_method_2_code 36 = .ok (.iconst 1, 1) := by decide +kernel
theorem d_Pi_add_37 : decode prog_3_method_2_code 37 = .ok (.iadd, 1) := by decide +kernel
theorem d_Pi_add_38 : decode prog_3_method_2_code 38 = .ok (.putfield 19, 3) := by decide +kernel
theorem d_Pi_add_41 : decode prog_3_method_2_code 41 = .ok (.return_, 1) := by decide +kernel
def rm_Pi_add : Room := { frames := 0, cells := 0, slots := 0, locals := 0 }
def wp_Pi_add (I : UI) (R : UR) (o : Nat) (x1 : Int32) (Q : UI → UR → Prop) : Prop :=
  ∀ I1 : UI, I1 = u2 I o 2 ((I o 2) + 1) → ((3000 ≤ I1 o 1 → Q I1 R) ∧ (¬ 3000 ≤ I1 o 1 → vp_in (I1 o 1) 3000 ∧ ∀ I2 : UI, I2 = u2 I1 (o + 1) ((I1 o 1).toNatClampNeg) (((x1).toInt8.toInt32).toInt8.toInt32) → ∀ I3 : UI, I3 = u2 I2 o 1 ((I2 o 1) + 1) → Q I3 R))
set_option maxHeartbeats 4000000 in
set_option maxRecDepth 100000 in
theorem c_Pi_add (l : Launch) (D : va_G) (cc : Nat → ClassId) (L : List Nat) (A : Nat → Nat) (J : Nat → Int64) (t16 t32 : Nat) (I : UI) (R : UR) (o : Nat) (h_o : isPi L o) (x1 : Int32) (Q : UI → UR → Prop) (h : wp_Pi_add I R o x1 Q) : uMv l y_Pi_add (.code y_Pi_add prog_3_method_2_code 2 none) rm_Pi_add [.ref (A o), .int x1] D cc L A J t16 t32 I R Q := by
  intro sz
  refine u_entry (by decide) (Nat.le_of_ble_eq_true rfl) (fun p e s m args below meth c hsz X V hr hlk ls hl => ?_)
  have X : uX p s m args c prog_3_method_2_code 2 "FrameFerry$Pipe" D cc L A t16 t32 := X
  have hx := X.1
  have hb := X.2.1
  have hl : lv_has ls 2 [(0, .ref (A o)), (1, .int x1)] := hl
  unfold wp_Pi_add at h
  generalize hH : s.heap = H at V ⊢
  generalize hlo : ([] : List Loc) = locs at V ⊢
  refine lv_aload_n (pc := 0) hx hb d_Pi_add_0 rfl (lv_at hl 0 rfl) ?_
  refine lv_dup (pc := 1) hx hb d_Pi_add_1 rfl ?_
  refine u_geti (pc := 2) X V h_o.1 h_o.2.1 rfl f_Pi_15 rfl d_Pi_add_2 ?_
  refine lv_iconst (pc := 5) (v := 1) hx hb d_Pi_add_5 (by decide) ?_
  refine lv_iadd (pc := 6) hx hb d_Pi_add_6 ?_
  refine u_puti (pc := 7) X V h_o.1 h_o.2.1 rfl f_Pi_15 rfl d_Pi_add_7 (fun I1 eI1 H locs V => ?_)
  have h := h I1 eI1
  refine lv_aload_n (pc := 10) hx hb d_Pi_add_10 rfl (lv_at hl 0 rfl) ?_
  refine u_geti (pc := 11) X V h_o.1 h_o.2.1 rfl f_Pi_19 rfl d_Pi_add_11 ?_
  refine lv_sipush (pc := 14) (v := 3000) hx hb d_Pi_add_14 (by decide) ?_
  refine lv_icmp_ge (pc := 17) (tgt := 41) hx hb d_Pi_add_17 (by decide) (fun hc => ?_) (fun hc => ?_)
  · have h := h.1 hc
    exact u_retv (pc := 41) X V hr hlk hsz h d_Pi_add_41
  · have h := h.2 hc
    refine lv_aload_n (pc := 20) hx hb d_Pi_add_20 rfl (lv_at hl 0 rfl) ?_
    refine u_getr (pc := 21) (o' := (o + 1)) X V h_o.1 h_o.2.1 rfl f_Pi_9 rfl rfl d_Pi_add_21 ?_
    refine lv_aload_n (pc := 24) hx hb d_Pi_add_24 rfl (lv_at hl 0 rfl) ?_
    refine u_geti (pc := 25) X V h_o.1 h_o.2.1 rfl f_Pi_19 rfl d_Pi_add_25 ?_
    refine lv_iload_n (pc := 28) hx hb d_Pi_add_28 rfl (lv_at hl 1 rfl) ?_
    refine lv_i2b (pc := 29) (v := (x1).toInt8.toInt32) hx hb d_Pi_add_29 rfl ?_
    refine u_bast (pc := 30) X V h_o.2.2.1 h_o.2.2.2 rfl rfl h.1 d_Pi_add_30 (fun I2 eI2 H locs V => ?_)
    have h := h.2 I2 eI2
    refine lv_aload_n (pc := 31) hx hb d_Pi_add_31 rfl (lv_at hl 0 rfl) ?_
    refine lv_dup (pc := 32) hx hb d_Pi_add_32 rfl ?_
    refine u_geti (pc := 33) X V h_o.1 h_o.2.1 rfl f_Pi_19 rfl d_Pi_add_33 ?_
    refine lv_iconst (pc := 36) (v := 1) hx hb d_Pi_add_36 (by decide) ?_
    refine lv_iadd (pc := 37) hx hb d_Pi_add_37 ?_
    refine u_puti (pc := 38) X V h_o.1 h_o.2.1 rfl f_Pi_19 rfl d_Pi_add_38 (fun I3 eI3 H locs V => ?_)
    have h := h I3 eI3
    exact u_retv (pc := 41) X V hr hlk hsz h d_Pi_add_41
-- FrameFerry$Pipe.has (I)Z
theorem d_Pi_has_0 : decode prog_3_method_3_code 0 = .ok (.iload_n 1, 1) := by decide +kernel
theorem d_Pi_has_1 : decode prog_3_method_3_code 1 = .ok (.ifCond .lt 15, 3) := by decide +kernel
theorem d_Pi_has_4 : decode prog_3_method_3_code 4 = .ok (.iload_n 1, 1) := by decide +kernel
theorem d_Pi_has_5 : decode prog_3_method_3_code 5 = .ok (.aload_n 0, 1) := by decide +kernel
theorem d_Pi_has_6 : decode prog_3_method_3_code 6 = .ok (.getfield 19, 3) := by decide +kernel
theorem d_Pi_has_9 : decode prog_3_method_3_code 9 = .ok (.if_icmp .ge 7, 3) := by decide +kernel
theorem d_Pi_has_12 : decode prog_3_method_3_code 12 = .ok (.iconst 1, 1) := by decide +kernel
theorem d_Pi_has_13 : decode prog_3_method_3_code 13 = .ok (.goto 4, 3) := by decide +kernel
theorem d_Pi_has_16 : decode prog_3_method_3_code 16 = .ok (.iconst 0, 1) := by decide +kernel
theorem d_Pi_has_17 : decode prog_3_method_3_code 17 = .ok (.ireturn, 1) := by decide +kernel
def rm_Pi_has : Room := { frames := 0, cells := 0, slots := 0, locals := 0 }
def wp_Pi_has (I : UI) (R : UR) (o : Nat) (x1 : Int32) (Q : Int32 → UI → UR → Prop) : Prop :=
  ((x1 < 0 → (zb 0 ∧ Q 0 I R)) ∧ (¬ x1 < 0 → ((I o 1 ≤ x1 → (zb 0 ∧ Q 0 I R)) ∧ (¬ I o 1 ≤ x1 → (zb 1 ∧ Q 1 I R)))))
set_option maxHeartbeats 4000000 in
set_option maxRecDepth 100000 in
theorem c_Pi_has (l : Launch) (D : va_G) (cc : Nat → ClassId) (L : List Nat) (A : Nat → Nat) (J : Nat → Int64) (t16 t32 : Nat) (I : UI) (R : UR) (o : Nat) (h_o : isPi L o) (x1 : Int32) (Q : Int32 → UI → UR → Prop) (h : wp_Pi_has I R o x1 Q) : uMi l y_Pi_has (.code y_Pi_has prog_3_method_3_code 2 (some .boolean)) rm_Pi_has [.ref (A o), .int x1] D cc L A J t16 t32 I R Q := by
  intro sz
  refine u_entry (by decide) (Nat.le_of_ble_eq_true rfl) (fun p e s m args below meth c hsz X V hr hlk ls hl => ?_)
  have X : uX p s m args c prog_3_method_3_code 2 "FrameFerry$Pipe" D cc L A t16 t32 := X
  have hx := X.1
  have hb := X.2.1
  have hl : lv_has ls 2 [(0, .ref (A o)), (1, .int x1)] := hl
  unfold wp_Pi_has at h
  generalize hH : s.heap = H at V ⊢
  generalize hlo : ([] : List Loc) = locs at V ⊢
  refine lv_iload_n (pc := 0) hx hb d_Pi_has_0 rfl (lv_at hl 1 rfl) ?_
  refine lv_if_lt (pc := 1) (tgt := 16) hx hb d_Pi_has_1 (by decide) (fun hc => ?_) (fun hc => ?_)
  · have h := h.1 hc
    refine lv_iconst (pc := 16) (v := 0) hx hb d_Pi_has_16 (by decide) ?_
    exact u_retz (pc := 17) X V hr hlk hsz h.1 h.2 d_Pi_has_17
  · have h := h.2 hc
    refine lv_iload_n (pc := 4) hx hb d_Pi_has_4 rfl (lv_at hl 1 rfl) ?_
    refine lv_aload_n (pc := 5) hx hb d_Pi_has_5 rfl (lv_at hl 0 rfl) ?_
    refine u_geti (pc := 6) X V h_o.1 h_o.2.1 rfl f_Pi_19 rfl d_Pi_has_6 ?_
    refine lv_icmp_ge (pc := 9) (tgt := 16) hx hb d_Pi_has_9 (by decide) (fun hc => ?_) (fun hc => ?_)
    · have h := h.1 hc
      refine lv_iconst (pc := 16) (v := 0) hx hb d_Pi_has_16 (by decide) ?_
      exact u_retz (pc := 17) X V hr hlk hsz h.1 h.2 d_Pi_has_17
    · have h := h.2 hc
      refine lv_iconst (pc := 12) (v := 1) hx hb d_Pi_has_12 (by decide) ?_
      refine lv_goto (pc := 13) (tgt := 17) hx hb d_Pi_has_13 (by decide) ?_
      exact u_retz (pc := 17) X V hr hlk hsz h.1 h.2 d_Pi_has_17
-- FrameFerry$Pipe.byteAt (I)I
theorem d_Pi_byteAt_0 : decode prog_3_method_4_code 0 = .ok (.aload_n 0, 1) := by decide +kernel
theorem d_Pi_byteAt_1 : decode prog_3_method_4_code 1 = .ok (.iload_n 1, 1) := by decide +kernel
theorem d_Pi_byteAt_2 : decode prog_3_method_4_code 2 = .ok (.invokevirtual 22, 3) := by decide +kernel
theorem d_Pi_byteAt_5 : decode prog_3_method_4_code 5 = .ok (.ifCond .eq 16, 3) := by decide +kernel
theorem d_Pi_byteAt_8 : decode prog_3_method_4_code 8 = .ok (.aload_n 0, 1) := by decide +kernel
theorem d_Pi_byteAt_9 : decode prog_3_method_4_code 9 = .ok (.getfield 9, 3) := by decide +kernel
theorem d_Pi_byteAt_12 : decode prog_3_method_4_code 12 = .ok (.iload_n 1, 1) := by decide +kernel
theorem d_Pi_byteAt_13 : decode prog_3_method_4_code 13 = .ok (.baload, 1) := by decide +kernel
theorem d_Pi_byteAt_14 : decode prog_3_method_4_code 14 = .ok (.sipush 255, 3) := by decide +kernel
theorem d_Pi_byteAt_17 : decode prog_3_method_4_code 17 = .ok (.iand, 1) := by decide +kernel
theorem d_Pi_byteAt_18 : decode prog_3_method_4_code 18 = .ok (.goto 4, 3) := by decide +kernel
theorem d_Pi_byteAt_21 : decode prog_3_method_4_code 21 = .ok (.iconst (-1), 1) := by decide +kernel
theorem d_Pi_byteAt_22 : decode prog_3_method_4_code 22 = .ok (.ireturn, 1) := by decide +kernel
def rm_Pi_byteAt : Room := { frames := 1, cells := 0, slots := 0, locals := 21 }
def wp_Pi_byteAt (I : UI) (R : UR) (o : Nat) (x1 : Int32) (Q : Int32 → UI → UR → Prop) : Prop :=
  wp_Pi_has I R o x1 (fun r3 I1 R2 => ((r3 = 0 → Q (-1) I1 R2) ∧ (¬ r3 = 0 → vp_in x1 3000 ∧ Q ((I1 (o + 1) x1.toNatClampNeg) &&& 255) I1 R2)))
set_option maxHeartbeats 4000000 in
set_option maxRecDepth 100000 in
theorem c_Pi_byteAt (l : Launch) (D : va_G) (cc : Nat → ClassId) (L : List Nat) (A : Nat → Nat) (J : Nat → Int64) (t16 t32 : Nat) (I : UI) (R : UR) (o : Nat) (h_o : isPi L o) (x1 : Int32) (Q : Int32 → UI → UR → Prop) (h : wp_Pi_byteAt I R o x1 Q) : uMi l y_Pi_byteAt (.code y_Pi_byteAt prog_3_method_4_code 2 (some .int)) rm_Pi_byteAt [.ref (A o), .int x1] D cc L A J t16 t32 I R Q := by
  intro sz
  refine u_entry (by decide) (Nat.le_of_ble_eq_true rfl) (fun p e s m args below meth c hsz X V hr hlk ls hl => ?_)
  have X : uX p s m args c prog_3_method_4_code 2 "FrameFerry$Pipe" D cc L A t16 t32 := X
  have hx := X.1
  have hb := X.2.1
  have hl : lv_has ls 2 [(0, .ref (A o)), (1, .int x1)] := hl
  unfold wp_Pi_byteAt at h
  generalize hH : s.heap = H at V ⊢
  generalize hlo : ([] : List Loc) = locs at V ⊢
  refine lv_aload_n (pc := 0) hx hb d_Pi_byteAt_0 rfl (lv_at hl 0 rfl) ?_
  refine lv_iload_n (pc := 1) hx hb d_Pi_byteAt_1 rfl (lv_at hl 1 rfl) ?_
  refine u_cVi (pc := 2) (As := [.int x1]) X V s_Pi_22 h_o.1 h_o.2.1 rfl rfl (c_Pi_has l D cc L A J t16 t32 _ _ o h_o x1 _ h) ⟨rfl, rfl, Nat.le_of_ble_eq_true rfl, Nat.le_of_ble_eq_true rfl⟩ rfl hl.1 rfl (Nat.le_of_ble_eq_true rfl) d_Pi_byteAt_2 ⟨Nat.zero_le _, Nat.zero_le _⟩ (fun r3 I1 R2 h H locs V => ?_)
  refine lv_if_eq (pc := 5) (tgt := 21) hx hb d_Pi_byteAt_5 (by decide) (fun hc => ?_) (fun hc => ?_)
  · have h := h.1 hc
    refine lv_iconst (pc := 21) (v := (-1)) hx hb d_Pi_byteAt_21 (by decide) ?_
    exact u_reti (pc := 22) X V hr hlk hsz h d_Pi_byteAt_22
  · have h := h.2 hc
    refine lv_aload_n (pc := 8) hx hb d_Pi_byteAt_8 rfl (lv_at hl 0 rfl) ?_
    refine u_getr (pc := 9) (o' := (o + 1)) X V h_o.1 h_o.2.1 rfl f_Pi_9 rfl rfl d_Pi_byteAt_9 ?_
    refine lv_iload_n (pc := 12) hx hb d_Pi_byteAt_12 rfl (lv_at hl 1 rfl) ?_
    refine u_bald (pc := 13) X V h_o.2.2.1 h_o.2.2.2 rfl rfl h.1 d_Pi_byteAt_13 ?_
    have h := h.2
    refine lv_sipush (pc := 14) (v := 255) hx hb d_Pi_byteAt_14 (by decide) ?_
    refine lv_iand (pc := 17) hx hb d_Pi_byteAt_17 ?_
    refine lv_goto (pc := 18) (tgt := 22) hx hb d_Pi_byteAt_18 (by decide) ?_
    exact u_reti (pc := 22) X V hr hlk hsz h d_Pi_byteAt_22
-- FrameFerry$Pipe.turnBit (II)Z
theorem d_Pi_turnBit_0 : decode prog_3_method_5_code 0 = .ok (.aload_n 0, 1) := by decide +kernel
theorem d_Pi_turnBit_1 : decode prog_3_method_5_code 1 = .ok (.iload_n 1, 1) := by decide +kernel
theorem d_Pi_turnBit_2 : decode prog_3_method_5_code 2 = .ok (.invokevirtual 22, 3) := by decide +kernel
theorem d_Pi_turnBit_5 : decode prog_3_method_5_code 5 = .ok (.ifCond .ne 5, 3) := by decide +kernel
theorem d_Pi_turnBit_8 : decode prog_3_method_5_code 8 = .ok (.iconst 0, 1) := by decide +kernel
theorem d_Pi_turnBit_9 : decode prog_3_method_5_code 9 = .ok (.ireturn, 1) := by decide +kernel
theorem d_Pi_turnBit_10 : decode prog_3_method_5_code 10 = .ok (.aload_n 0, 1) := by decide +kernel
theorem d_Pi_turnBit_11 : decode prog_3_method_5_code 11 = .ok (.getfield 9, 3) := by decide +kernel
theorem d_Pi_turnBit_14 : decode prog_3_method_5_code 14 = .ok (.iload_n 1, 1) := by decide +kernel
theorem d_Pi_turnBit_15 : decode prog_3_method_5_code 15 = .ok (.aload_n 0, 1) := by decide +kernel
theorem d_Pi_turnBit_16 : decode prog_3_method_5_code 16 = .ok (.getfield 9, 3) := by decide +kernel
theorem d_Pi_turnBit_19 : decode prog_3_method_5_code 19 = .ok (.iload_n 1, 1) := by decide +kernel
theorem d_Pi_turnBit_20 : decode prog_3_method_5_code 20 = .ok (.baload, 1) := by decide +kernel
theorem d_Pi_turnBit_21 : decode prog_3_method_5_code 21 = .ok (.iconst 1, 1) := by decide +kernel
theorem d_Pi_turnBit_22 : decode prog_3_method_5_code 22 = .ok (.iload_n 2, 1) := by decide +kernel
theorem d_Pi_turnBit_23 : decode prog_3_method_5_code 23 = .ok (.ishl, 1) := by decide +kernel
theorem d_Pi_turnBit_24 : decode prog_3_method_5_code 24 = .ok (.ixor, 1) := by decide +kernel
theorem d_Pi_turnBit_25 : decode prog_3_method_5_code 25 = .ok (.i2b, 1) := by decide +kernel
theorem d_Pi_turnBit_26 : decode prog_3_method_5_code 26 = .ok (.bastore, 1) := by decide +kernel
theorem d_Pi_turnBit_27 : decode prog_3_method_5_code 27 = .ok (.iconst 1, 1) := by decide +kernel
theorem d_Pi_turnBit_28 : decode prog_3_method_5_code 28 = .ok (.ireturn, 1) := by decide +kernel
def rm_Pi_turnBit : Room := { frames := 1, cells := 0, slots := 0, locals := 21 }
def wp_Pi_turnBit (I : UI) (R : UR) (o : Nat) (x1 : Int32) (x2 : Int32) (Q : Int32 → UI → UR → Prop) : Prop :=
  wp_Pi_has I R o x1 (fun r3 I1 R2 => ((¬ r3 = 0 → vp_in x1 3000 ∧ vp_in x1 3000 ∧ ∀ I4 : UI, I4 = u2 I1 (o + 1) x1.toNatClampNeg ((((I1 (o + 1) x1.toNatClampNeg) ^^^ (1 <<< (x2 &&& 31))).toInt8.toInt32).toInt8.toInt32) → (zb 1 ∧ Q 1 I4 R2)) ∧ (r3 = 0 → (zb 0 ∧ Q 0 I1 R2))))
set_option maxHeartbeats 4000000 in
set_option maxRecDepth 100000 in
theorem c_Pi_turnBit (l : Launch) (D : va_G) (cc : Nat → ClassId) (L : List Nat) (A : Nat → Nat) (J : Nat → Int64) (t16 t32 : Nat) (I : UI) (R : UR) (o : Nat) (h_o : isPi L o) (x1 : Int32) (x2 : Int32) (Q : Int32 → UI → UR → Prop) (h : wp_Pi_turnBit I R o x1 x2 Q) : uMi l y_Pi_turnBit (.code y_Pi_turnBit prog_3_method_5_code 3 (some .boolean)) rm_Pi_turnBit [.ref (A o), .int x1, .int x2] D cc L A J t16 t32 I R Q := by
  intro sz
  refine u_entry (by decide) (Nat.le_of_ble_eq_true rfl) (fun p e s m args below meth c hsz X V hr hlk ls hl => ?_)
  have X : uX p s m args c prog_3_method_5_code 3 "FrameFerry$Pipe" D cc L A t16 t32 := X
  have hx := X.1
  have hb := X.2.1
  have hl : lv_has ls 3 [(0, .ref (A o)), (1, .int x1), (2, .int x2)] := hl
  unfold wp_Pi_turnBit at h
  generalize hH : s.heap = H at V ⊢
  generalize hlo : ([] : List Loc) = locs at V ⊢
  refine lv_aload_n (pc := 0) hx hb d_Pi_turnBit_0 rfl (lv_at hl 0 rfl) ?_
  refine lv_iload_n (pc := 1) hx hb d_Pi_turnBit_1 rfl (lv_at hl 1 rfl) ?_
  refine u_cVi (pc := 2) (As := [.int x1]) X V s_Pi_22 h_o.1 h_o.2.1 rfl rfl (c_Pi_has l D cc L A J t16 t32 _ _ o h_o x1 _ h) ⟨rfl, rfl, Nat.le_of_ble_eq_true rfl, Nat.le_of_ble_eq_true rfl⟩ rfl hl.1 rfl (Nat.le_of_ble_eq_true rfl) d_Pi_turnBit_2 ⟨Nat.zero_le _, Nat.zero_le _⟩ (fun r3 I1 R2 h H locs V => ?_)
  refine lv_if_ne (pc := 5) (tgt := 10) hx hb d_Pi_turnBit_5 (by decide) (fun hc => ?_) (fun hc => ?_)
  · have h := h.1 hc
    refine lv_aload_n (pc := 10) hx hb d_Pi_turnBit_10 rfl (lv_at hl 0 rfl) ?_
    refine u_getr (pc := 11) (o' := (o + 1)) X V h_o.1 h_o.2.1 rfl f_Pi_9 rfl rfl d_Pi_turnBit_11 ?_
    refine lv_iload_n (pc := 14) hx hb d_Pi_turnBit_14 rfl (lv_at hl 1 rfl) ?_
    refine lv_aload_n (pc := 15) hx hb d_Pi_turnBit_15 rfl (lv_at hl 0 rfl) ?_
    refine u_getr (pc := 16) (o' := (o + 1)) X V h_o.1 h_o.2.1 rfl f_Pi_9 rfl rfl d_Pi_turnBit_16 ?_
    refine lv_iload_n (pc := 19) hx hb d_Pi_turnBit_19 rfl (lv_at hl 1 rfl) ?_
    refine u_bald (pc := 20) X V h_o.2.2.1 h_o.2.2.2 rfl rfl h.1 d_Pi_turnBit_20 ?_
    have h := h.2
    refine lv_iconst (pc := 21) (v := 1) hx hb d_Pi_turnBit_21 (by decide) ?_
    refine lv_iload_n (pc := 22) hx hb d_Pi_turnBit_22 rfl (lv_at hl 2 rfl) ?_
    refine lv_ishl (pc := 23) hx hb d_Pi_turnBit_23 ?_
    refine lv_ixor (pc := 24) hx hb d_Pi_turnBit_24 ?_
    refine lv_i2b (pc := 25) (v := ((I1 (o + 1) x1.toNatClampNeg) ^^^ (1 <<< (x2 &&& 31))).toInt8.toInt32) hx hb d_Pi_turnBit_25 rfl ?_
    refine u_bast (pc := 26) X V h_o.2.2.1 h_o.2.2.2 rfl rfl h.1 d_Pi_turnBit_26 (fun I4 eI4 H locs V => ?_)
    have h := h.2 I4 eI4
    refine lv_iconst (pc := 27) (v := 1) hx hb d_Pi_turnBit_27 (by decide) ?_
    exact u_retz (pc := 28) X V hr hlk hsz h.1 h.2 d_Pi_turnBit_28
  · have h := h.2 hc
    refine lv_iconst (pc := 8) (v := 0) hx hb d_Pi_turnBit_8 (by decide) ?_
    exact u_retz (pc := 9) X V hr hlk hsz h.1 h.2 d_Pi_turnBit_9
-- FrameFerry$Pipe.drop (II)I
theorem d_Pi_drop_0 : decode prog_3_method_6_code 0 = .ok (.aload_n 0, 1) := by decide +kernel
theorem d_Pi_drop_1 : decode prog_3_method_6_code 1 = .ok (.iload_n 1, 1) := by decide +kernel
theorem d_Pi_drop_2 : decode prog_3_method_6_code 2 = .ok (.invokevirtual 22, 3) := by decide +kernel
theorem d_Pi_drop_5 : decode prog_3_method_6_code 5 = .ok (.ifCond .eq 7, 3) := by decide +kernel
theorem d_Pi_drop_8 : decode prog_3_method_6_code 8 = .ok (.iload_n 2, 1) := by decide +kernel
theorem d_Pi_drop_9 : decode prog_3_method_6_code 9 = .ok (.ifCond .ge 5, 3) := by decide +kernel
theorem d_Pi_drop_12 : decode prog_3_method_6_code 12 = .ok (.iconst 0, 1) := by decide +kernel
theorem d_Pi_drop_13 : decode prog_3_method_6_code 13 = .ok (.ireturn, 1) := by decide +kernel
theorem d_Pi_drop_14 : decode prog_3_method_6_code 14 = .ok (.iload_n 2, 1) := by decide +kernel
theorem d_Pi_drop_15 : decode prog_3_method_6_code 15 = .ok (.aload_n 0, 1) := by decide +kernel
theorem d_Pi_drop_16 : decode prog_3_method_6_code 16 = .ok (.getfield 19, 3) := by decide +kernel
theorem d_Pi_drop_19 : decode prog_3_method_6_code 19 = .ok (.iload_n 1, 1) := by decide +kernel
theorem d_Pi_drop_20 : decode prog_3_method_6_code 20 = .ok (.isub, 1) := by decide +kernel
theorem d_Pi_drop_21 : decode prog_3_method_6_code 21 = .ok (.invokestatic 26, 3) := by decide +kernel
theorem d_Pi_drop_24 : decode prog_3_method_6_code 24 = .ok (.istore_n 3, 1) := by decide +kernel
theorem d_Pi_drop_25 : decode prog_3_method_6_code 25 = .ok (.aload_n 0, 1) := by decide +kernel
theorem d_Pi_drop_26 : decode prog_3_method_6_code 26 = .ok (.getfield 9, 3) := by decide +kernel
theorem d_Pi_drop_29 : decode prog_3_method_6_code 29 = .ok (.iload_n 1, 1) := by decide +kernel
theorem d_Pi_drop_30 : decode prog_3_method_6_code 30 = .ok (.iload_n 3, 1) := by decide +kernel
theorem d_Pi_drop_31 : decode prog_3_method_6_code 31 = .ok (.iadd, 1) := by decide +kernel
theorem d_Pi_drop_32 : decode prog_3_method_6_code 32 = .ok (.aload_n 0, 1) := by decide +kernel
theorem d_Pi_drop_33 : decode prog_3_method_6_code 33 = .ok (.getfield 9, 3) := by decide +kernel
theorem d_Pi_drop_36 : decode prog_3_method_6_code 36 = .ok (.iload_n 1, 1) := by decide +kernel
theorem d_Pi_drop_37 : decode prog_3_method_6_code 37 = .ok (.aload_n 0, 1) := by decide +kernel
theorem d_Pi_drop_38 : decode prog_3_method_6_code 38 = .ok (.getfield 19, 3) := by decide +kernel
theorem d_Pi_drop_41 : decode prog_3_method_6_code 41 = .ok (.iload_n 1, 1) := by decide +kernel
theorem d_Pi_drop_42 : decode prog_3_method_6_code 42 = .ok (.isub, 1) := by decide +kernel
theorem d_Pi_drop_43 : decode prog_3_method_6_code 43 = .ok (.iload_n 3, 1) := by decide +kernel
theorem d_Pi_drop_44 : decode prog_3_method_6_code 44 = .ok (.isub, 1) := by decide +kernel
theorem d_Pi_drop_45 : decode prog_3_method_6_code 45 = .ok (.invokestatic 32, 3) := by decide +kernel
theorem d_Pi_drop_48 : decode prog_3_method_6_code 48 = .ok (.aload_n 0, 1) := by decide +kernel
theorem d_Pi_drop_49 : decode prog_3_method_6_code 49 = .ok (.dup, 1) := by decide +kernel
theorem d_Pi_drop_50 : decode prog_3_method_6_code 50 = .ok (.getfield 19, 3) := by decide +kernel
theorem d_Pi_drop_53 : decode prog_3_method_6_code 53 = .ok (.iload_n 3, 1) := by decide +kernel
theorem d_Pi_drop_54 : decode prog_3_method_6_code 54 = .ok (.isub, 1) := by decide +kernel
theorem d_Pi_drop_55 : decode prog_3_method_6_code 55 = .ok (.putfield 19, 3) := by decide +kernel
theorem d_Pi_drop_58 : decode prog_3_method_6_code 58 = .ok (.iload_n 3, 1) := by decide +kernel
theorem d_Pi_drop_59 : decode prog_3_method_6_code 59 = .ok (.ireturn, 1) := by decide +kernel
def rm_Pi_drop : Room := { frames := 1, cells := 0, slots := 0, locals := 40 }
def wp_Pi_drop (I : UI) (R : UR) (o : Nat) (x1 : Int32) (x2 : Int32) (Q : Int32 → UI → UR → Prop) : Prop :=
  wp_Pi_has I R o x1 (fun r3 I1 R2 => ((r3 = 0 → Q 0 I1 R2) ∧ (¬ r3 = 0 → ((0 ≤ x2 → ∀ v4 : Int32, v4 = (if (I1 o 1) - x1 < x2 then (I1 o 1) - x1 else x2) → ((¬ (x1 + v4) < 0 ∧ ¬ x1 < 0 ∧ ¬ (((I1 o 1) - x1) - v4) < 0) ∧ ((x1 + v4).toNatClampNeg + (((I1 o 1) - x1) - v4).toNatClampNeg ≤ 3000 ∧ x1.toNatClampNeg + (((I1 o 1) - x1) - v4).toNatClampNeg ≤ 3000) ∧ ∀ i, i < (((I1 o 1) - x1) - v4).toNatClampNeg → fits .byte (.int (I1 (o + 1) ((x1 + v4).toNatClampNeg + i))) = true) ∧ ∀ I5 : UI, I5 = u2c I1 (o + 1) ((x1 + v4).toNatClampNeg) x1.toNatClampNeg ((((I1 o 1) - x1) - v4).toNatClampNeg) → ∀ I6 : UI, I6 = u2 I5 o 1 ((I5 o 1) - v4) → Q v4 I6 R2) ∧ (¬ 0 ≤ x2 → Q 0 I1 R2)))))
set_option maxHeartbeats 4000000 in
set_option maxRecDepth 100000 in
theorem c_Pi_drop (l : Launch) (D : va_G) (cc : Nat → ClassId) (L : List Nat) (A : Nat → Nat) (J : Nat → Int64) (t16 t32 : Nat) (I : UI) (R : UR) (o : Nat) (h_o : isPi L o) (x1 : Int32) (x2 : Int32) (Q : Int32 → UI → UR → Prop) (h : wp_Pi_drop I R o x1 x2 Q) : uMi l y_Pi_drop (.code y_Pi_drop prog_3_method_6_code 4 (some .int)) rm_Pi_drop [.ref (A o), .int x1, .int x2] D cc L A J t16 t32 I R Q := by
  intro sz
  refine u_entry (by decide) (Nat.le_of_ble_eq_true rfl) (fun p e s m args below meth c hsz X V hr hlk ls hl => ?_)
  have X : uX p s m args c prog_3_method_6_code 4 "FrameFerry$Pipe" D cc L A t16 t32 := X
  have hx := X.1
  have hb := X.2.1
  have hl : lv_has ls 4 [(0, .ref (A o)), (1, .int x1), (2, .int x2)] := hl
  unfold wp_Pi_drop at h
  generalize hH : s.heap = H at V ⊢
  generalize hlo : ([] : List Loc) = locs at V ⊢
  refine lv_aload_n (pc := 0) hx hb d_Pi_drop_0 rfl (lv_at hl 0 rfl) ?_
  refine lv_iload_n (pc := 1) hx hb d_Pi_drop_1 rfl (lv_at hl 1 rfl) ?_
  refine u_cVi (pc := 2) (As := [.int x1]) X V s_Pi_22 h_o.1 h_o.2.1 rfl rfl (c_Pi_has l D cc L A J t16 t32 _ _ o h_o x1 _ h) ⟨rfl, rfl, Nat.le_of_ble_eq_true rfl, Nat.le_of_ble_eq_true rfl⟩ rfl hl.1 rfl (Nat.le_of_ble_eq_true rfl) d_Pi_drop_2 ⟨Nat.zero_le _, Nat.zero_le _⟩ (fun r3 I1 R2 h H locs V => ?_)
  refine lv_if_eq (pc := 5) (tgt := 12) hx hb d_Pi_drop_5 (by decide) (fun hc => ?_) (fun hc => ?_)
  · have h := h.1 hc
    refine lv_iconst (pc := 12) (v := 0) hx hb d_Pi_drop_12 (by decide) ?_
    exact u_reti (pc := 13) X V hr hlk hsz h d_Pi_drop_13
  · have h := h.2 hc
    refine lv_iload_n (pc := 8) hx hb d_Pi_drop_8 rfl (lv_at hl 2 rfl) ?_
    refine lv_if_ge (pc := 9) (tgt := 14) hx hb d_Pi_drop_9 (by decide) (fun hc => ?_) (fun hc => ?_)
    · have h := h.1 hc
      refine lv_iload_n (pc := 14) hx hb d_Pi_drop_14 rfl (lv_at hl 2 rfl) ?_
      refine lv_aload_n (pc := 15) hx hb d_Pi_drop_15 rfl (lv_at hl 0 rfl) ?_
      refine u_geti (pc := 16) X V h_o.1 h_o.2.1 rfl f_Pi_19 rfl d_Pi_drop_16 ?_
      refine lv_iload_n (pc := 19) hx hb d_Pi_drop_19 rfl (lv_at hl 1 rfl) ?_
      refine lv_isub (pc := 20) hx hb d_Pi_drop_20 ?_
      refine u_min (pc := 21) X mi_Pi_26 hl.1 (Nat.le_of_ble_eq_true rfl) (Nat.le_of_ble_eq_true rfl) ⟨Nat.zero_le _, Nat.zero_le _⟩ d_Pi_drop_21 ?_
      refine lv_topi (fun v4 ev4 => ?_)
      have h := h v4 ev4
      refine lv_istore_n (pc := 24) (lv' := [(3, .int v4), (0, .ref (A o)), (1, .int x1), (2, .int x2)]) hx hb d_Pi_drop_24 rfl hl (by decide) rfl (fun ls hl => ?_)
      refine lv_aload_n (pc := 25) hx hb d_Pi_drop_25 rfl (lv_at hl 1 rfl) ?_
      refine u_getr (pc := 26) (o' := (o + 1)) X V h_o.1 h_o.2.1 rfl f_Pi_9 rfl rfl d_Pi_drop_26 ?_
      refine lv_iload_n (pc := 29) hx hb d_Pi_drop_29 rfl (lv_at hl 2 rfl) ?_
      refine lv_iload_n (pc := 30) hx hb d_Pi_drop_30 rfl (lv_at hl 0 rfl) ?_
      refine lv_iadd (pc := 31) hx hb d_Pi_drop_31 ?_
      refine lv_aload_n (pc := 32) hx hb d_Pi_drop_32 rfl (lv_at hl 1 rfl) ?_
      refine u_getr (pc := 33) (o' := (o + 1)) X V h_o.1 h_o.2.1 rfl f_Pi_9 rfl rfl d_Pi_drop_33 ?_
      refine lv_iload_n (pc := 36) hx hb d_Pi_drop_36 rfl (lv_at hl 2 rfl) ?_
      refine lv_aload_n (pc := 37) hx hb d_Pi_drop_37 rfl (lv_at hl 1 rfl) ?_
      refine u_geti (pc := 38) X V h_o.1 h_o.2.1 rfl f_Pi_19 rfl d_Pi_drop_38 ?_
      refine lv_iload_n (pc := 41) hx hb d_Pi_drop_41 rfl (lv_at hl 2 rfl) ?_
      refine lv_isub (pc := 42) hx hb d_Pi_drop_42 ?_
      refine lv_iload_n (pc := 43) hx hb d_Pi_drop_43 rfl (lv_at hl 0 rfl) ?_
      refine lv_isub (pc := 44) hx hb d_Pi_drop_44 ?_
      refine u_copyb (pc := 45) X V cp_Pi_32 h_o.2.2.1 h_o.2.2.2 rfl rfl h.1 hl.1 (Nat.le_of_ble_eq_true rfl) (Nat.le_of_ble_eq_true rfl) d_Pi_drop_45 (fun I5 eI5 H locs V => ?_)
      have h := h.2 I5 eI5
      refine lv_aload_n (pc := 48) hx hb d_Pi_drop_48 rfl (lv_at hl 1 rfl) ?_
      refine lv_dup (pc := 49) hx hb d_Pi_drop_49 rfl ?_
      refine u_geti (pc := 50) X V h_o.1 h_o.2.1 rfl f_Pi_19 rfl d_Pi_drop_50 ?_
      refine lv_iload_n (pc := 53) hx hb d_Pi_drop_53 rfl (lv_at hl 0 rfl) ?_
      refine lv_isub (pc := 54) hx hb d_Pi_drop_54 ?_
      refine u_puti (pc := 55) X V h_o.1 h_o.2.1 rfl f_Pi_19 rfl d_Pi_drop_55 (fun I6 eI6 H locs V => ?_)
      have h := h I6 eI6
      refine lv_iload_n (pc := 58) hx hb d_Pi_drop_58 rfl (lv_at hl 0 rfl) ?_
      exact u_reti (pc := 59) X V hr hlk hsz h d_Pi_drop_59
    · have h := h.2 hc
      refine lv_iconst (pc := 12) (v := 0) hx hb d_Pi_drop_12 (by decide) ?_
      exact u_reti (pc := 13) X V hr hlk hsz h d_Pi_drop_13
-- FrameFerry$StoredFile.append (I)V
theorem d_Sf_append_0 : decode prog_7_method_2_code 0 = .ok (.aload_n 0, 1) := by decide +kernel
theorem d_Sf_append_1 : decode prog_7_method_2_code 1 = .ok (.getfield 15, 3) := by decide +kernel
theorem d_Sf_append_4 : decode prog_7_method_2_code 4 = .ok (.sipush 300, 3) := by decide +kernel
theorem d_Sf_append_7 : decode prog_7_method_2_code 7 = .ok (.if_icmp .ge 24, 3) := by decide +kernel
theorem d_Sf_append_10 : decode prog_7_method_2_code 10 = .ok (.aload_n 0, 1) := by decide +kernel
theorem d_Sf_append_11 : decode prog_7_method_2_code 11 = .ok (.getfield 9, 3) := by decide +kernel
theorem d_Sf_append_14 : decode prog_7_method_2_code 14 = .ok (.aload_n 0, 1) := by decide +kernel
theorem d_Sf_append_15 : decode prog_7_method_2_code 15 = .ok (.getfield 15, 3) := by decide +kernel
theorem d_Sf_append_18 : decode prog_7_method_2_code 18 = .ok (.iload_n 1, 1) := by decide +kernel
theorem d_Sf_append_19 : decode prog_7_method_2_code 19 = .ok (.i2b, 1) := by decide +kernel
theorem d_Sf_append_20 : decode prog_7_method_2_code 20 = .ok (.bastore, 1) := by decide +kernel
theorem d_Sf_append_21 : decode prog_7_method_2_code 21 = .ok (.aload_n 0, 1) := by decide +kernel
theorem d_Sf_append_22 : decode prog_7_method_2_code 22 = .ok (.dup, 1) := by decide +kernel
theorem d_Sf_append_23 : decode prog_7_method_2_code 23 = .ok (.getfield 15, 3) := by decide +kernel
theorem d_Sf_append_26 : decode prog_7_method_2_code 26 = .ok (.iconst 1, 1) := by decide +kernel
theorem d_Sf_append_27 : decode prog_7_method_2_code 27 = .ok (.iadd, 1) := by decide +kernel
theorem d_Sf_append_28 : decode prog_7_method_2_code 28 = .ok (.putfield 15, 3) := by decide +kernel
theorem d_Sf_append_31 : decode prog_7_method_2_code 31 = .ok (.return_, 1) := by decide +kernel
def rm_Sf_append : Room := { frames := 0, cells := 0, slots := 0, locals := 0 }
def wp_Sf_append (I : UI) (R : UR) (o : Nat) (x1 : Int32) (Q : UI → UR → Prop) : Prop :=
  ((300 ≤ I o 2 → Q I R) ∧ (¬ 300 ≤ I o 2 → vp_in (I o 2) 300 ∧ ∀ I1 : UI, I1 = u2 I (o + 1) ((I o 2).toNatClampNeg) (((x1).toInt8.toInt32).toInt8.toInt32) → ∀ I2 : UI, I2 = u2 I1 o 2 ((I1 o 2) + 1) → Q I2 R))
set_option maxHeartbeats 4000000 in
set_option maxRecDepth 100000 in
theorem c_Sf_append (l : Launch) (D : va_G) (cc : Nat → ClassId) (L : List Nat) (A : Nat → Nat) (J : Nat → Int64) (t16 t32 : Nat) (I : UI) (R : UR) (o : Nat) (h_o : isSf L o) (x1 : Int32) (Q : UI → UR → Prop) (h : wp_Sf_append I R o x1 Q) : uMv l y_Sf_append (.code y_Sf_append prog_7_method_2_code 2 none) rm_Sf_append [.ref (A o), .int x1] D cc L A J t16 t32 I R Q := by
  intro sz
  refine u_entry (by decide) (Nat.le_of_ble_eq_true rfl) (fun p e s m args below meth c hsz X V hr hlk ls hl => ?_)
  have X : uX p s m args c prog_7_method_2_code 2 "FrameFerry$StoredFile" D cc L A t16 t32 := X
  have hx := X.1
  have hb := X.2.1
  have hl : lv_has ls 2 [(0, .ref (A o)), (1, .int x1)] := hl
  unfold wp_Sf_append at h
  generalize hH : s.heap = H at V ⊢
  generalize hlo : ([] : List Loc) = locs at V ⊢
  refine lv_aload_n (pc := 0) hx hb d_Sf_append_0 rfl (lv_at hl 0 rfl) ?_
  refine u_geti (pc := 1) X V h_o.1 h_o.2.1 rfl f_Sf_15 rfl d_Sf_append_1 ?_
  refine lv_sipush (pc := 4) (v := 300) hx hb d_Sf_append_4 (by decide) ?_
  refine lv_icmp_ge (pc := 7) (tgt := 31) hx hb d_Sf_append_7 (by decide) (fun hc => ?_) (fun hc => ?_)
  · have h := h.1 hc
    exact u_retv (pc := 31) X V hr hlk hsz h d_Sf_append_31
  · have h := h.2 hc
    refine lv_aload_n (pc := 10) hx hb d_Sf_append_10 rfl (lv_at hl 0 rfl) ?_
    refine u_getr (pc := 11) (o' := (o + 1)) X V h_o.1 h_o.2.1 rfl f_Sf_9 rfl rfl d_Sf_append_11 ?_
    refine lv_aload_n (pc := 14) hx hb d_Sf_append_14 rfl (lv_at hl 0 rfl) ?_
    refine u_geti (pc := 15) X V h_o.1 h_o.2.1 rfl f_Sf_15 rfl d_Sf_append_15 ?_
    refine lv_iload_n (pc := 18) hx hb d_Sf_append_18 rfl (lv_at hl 1 rfl) ?_
    refine lv_i2b (pc := 19) (v := (x1).toInt8.toInt32) hx hb d_Sf_append_19 rfl ?_
    refine u_bast (pc := 20) X V h_o.2.2.1 h_o.2.2.2 rfl rfl h.1 d_Sf_append_20 (fun I1 eI1 H locs V => ?_)
    have h := h.2 I1 eI1
    refine lv_aload_n (pc := 21) hx hb d_Sf_append_21 rfl (lv_at hl 0 rfl) ?_
    refine lv_dup (pc := 22) hx hb d_Sf_append_22 rfl ?_
    refine u_geti (pc := 23) X V h_o.1 h_o.2.1 rfl f_Sf_15 rfl d_Sf_append_23 ?_
    refine lv_iconst (pc := 26) (v := 1) hx hb d_Sf_append_26 (by decide) ?_
    refine lv_iadd (pc := 27) hx hb d_Sf_append_27 ?_
    refine u_puti (pc := 28) X V h_o.1 h_o.2.1 rfl f_Sf_15 rfl d_Sf_append_28 (fun I2 eI2 H locs V => ?_)
    have h := h I2 eI2
    exact u_retv (pc := 31) X V hr hlk hsz h d_Sf_append_31
-- FrameFerry$StoredFile.byteAt (I)I
theorem d_Sf_byteAt_0 : decode prog_7_method_3_code 0 = .ok (.iload_n 1, 1) := by decide +kernel
theorem d_Sf_byteAt_1 : decode prog_7_method_3_code 1 = .ok (.ifCond .lt 24, 3) := by decide +kernel
theorem d_Sf_byteAt_4 : decode prog_7_method_3_code 4 = .ok (.iload_n 1, 1) := by decide +kernel
theorem d_Sf_byteAt_5 : decode prog_7_method_3_code 5 = .ok (.aload_n 0, 1) := by decide +kernel
theorem d_Sf_byteAt_6 : decode prog_7_method_3_code 6 = .ok (.getfield 15, 3) := by decide +kernel
theorem d_Sf_byteAt_9 : decode prog_7_method_3_code 9 = .ok (.if_icmp .ge 16, 3) := by decide +kernel
theorem d_Sf_byteAt_12 : decode prog_7_method_3_code 12 = .ok (.aload_n 0, 1) := by decide +kernel
theorem d_Sf_byteAt_13 : decode prog_7_method_3_code 13 = .ok (.getfield 9, 3) := by decide +kernel
theorem d_Sf_byteAt_16 : decode prog_7_method_3_code 16 = .ok (.iload_n 1, 1) := by decide +kernel
theorem d_Sf_byteAt_17 : decode prog_7_method_3_code 17 = .ok (.baload, 1) := by decide +kernel
theorem d_Sf_byteAt_18 : decode prog_7_method_3_code 18 = .ok (.sipush 255, 3) := by decide +kernel
theorem d_Sf_byteAt_21 : decode prog_7_method_3_code 21 = .ok (.iand, 1) := by decide +kernel
theorem d_Sf_byteAt_22 : decode prog_7_method_3_code 22 = .ok (.goto 4, 3) := by decide +kernel
theorem d_Sf_byteAt_25 : decode prog_7_method_3_code 25 = .ok (.iconst (-1), 1) := by decide +kernel
theorem d_Sf_byteAt_26 : decode prog_7_method_3_code 26 = .ok (.ireturn, 1) := by decide +kernel
def rm_Sf_byteAt : Room := { frames := 0, cells := 0, slots := 0, locals := 0 }
def wp_Sf_byteAt (I : UI) (R : UR) (o : Nat) (x1 : Int32) (Q : Int32 → UI → UR → Prop) : Prop :=
  ((x1 < 0 → Q (-1) I R) ∧ (¬ x1 < 0 → ((I o 2 ≤ x1 → Q (-1) I R) ∧ (¬ I o 2 ≤ x1 → vp_in x1 300 ∧ Q ((I (o + 1) x1.toNatClampNeg) &&& 255) I R))))
set_option maxHeartbeats 4000000 in
set_option maxRecDepth 100000 in
theorem c_Sf_byteAt (l : Launch) (D : va_G) (cc : Nat → ClassId) (L : List Nat) (A : Nat → Nat) (J : Nat → Int64) (t16 t32 : Nat) (I : UI) (R : UR) (o : Nat) (h_o : isSf L o) (x1 : Int32) (Q : Int32 → UI → UR → Prop) (h : wp_Sf_byteAt I R o x1 Q) : uMi l y_Sf_byteAt (.code y_Sf_byteAt prog_7_method_3_code 2 (some .int)) rm_Sf_byteAt [.ref (A o), .int x1] D cc L A J t16 t32 I R Q := by
  intro sz
  refine u_entry (by decide) (Nat.le_of_ble_eq_true rfl) (fun p e s m args below meth c hsz X V hr hlk ls hl => ?_)
  have X : uX p s m args c prog_7_method_3_code 2 "FrameFerry$StoredFile" D cc L A t16 t32 := X
  have hx := X.1
  have hb := X.2.1
  have hl : lv_has ls 2 [(0, .ref (A o)), (1, .int x1)] := hl
  unfold wp_Sf_byteAt at h
  generalize hH : s.heap = H at V ⊢
  generalize hlo : ([] : List Loc) = locs at V ⊢
  refine lv_iload_n (pc := 0) hx hb d_Sf_byteAt_0 rfl (lv_at hl 1 rfl) ?_
  refine lv_if_lt (pc := 1) (tgt := 25) hx hb d_Sf_byteAt_1 (by decide) (fun hc => ?_) (fun hc => ?_)
  · have h := h.1 hc
    refine lv_iconst (pc := 25) (v := (-1)) hx hb d_Sf_byteAt_25 (by decide) ?_
    exact u_reti (pc := 26) X V hr hlk hsz h d_Sf_byteAt_26
  · have h := h.2 hc
    refine lv_iload_n (pc := 4) hx hb d_Sf_byteAt_4 rfl (lv_at hl 1 rfl) ?_
    refine lv_aload_n (pc := 5) hx hb d_Sf_byteAt_5 rfl (lv_at hl 0 rfl) ?_
    refine u_geti (pc := 6) X V h_o.1 h_o.2.1 rfl f_Sf_15 rfl d_Sf_byteAt_6 ?_
    refine lv_icmp_ge (pc := 9) (tgt := 25) hx hb d_Sf_byteAt_9 (by decide) (fun hc => ?_) (fun hc => ?_)
    · have h := h.1 hc
      refine lv_iconst (pc := 25) (v := (-1)) hx hb d_Sf_byteAt_25 (by decide) ?_
      exact u_reti (pc := 26) X V hr hlk hsz h d_Sf_byteAt_26
    · have h := h.2 hc
      refine lv_aload_n (pc := 12) hx hb d_Sf_byteAt_12 rfl (lv_at hl 0 rfl) ?_
      refine u_getr (pc := 13) (o' := (o + 1)) X V h_o.1 h_o.2.1 rfl f_Sf_9 rfl rfl d_Sf_byteAt_13 ?_
      refine lv_iload_n (pc := 16) hx hb d_Sf_byteAt_16 rfl (lv_at hl 1 rfl) ?_
      refine u_bald (pc := 17) X V h_o.2.2.1 h_o.2.2.2 rfl rfl h.1 d_Sf_byteAt_17 ?_
      have h := h.2
      refine lv_sipush (pc := 18) (v := 255) hx hb d_Sf_byteAt_18 (by decide) ?_
      refine lv_iand (pc := 21) hx hb d_Sf_byteAt_21 ?_
      refine lv_goto (pc := 22) (tgt := 26) hx hb d_Sf_byteAt_22 (by decide) ?_
      exact u_reti (pc := 26) X V hr hlk hsz h d_Sf_byteAt_26
end G
