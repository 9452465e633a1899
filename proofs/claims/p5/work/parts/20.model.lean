/-! Written by wip/gen/gen.py. -/
theorem f_Mo_82 : uF "FrameFerryModel" 82 8 0 false .int := ⟨R_Mo, T_Mo, 32, ty_Mo, rfl, by decide, tb_of 700 (by decide +kernel) rfl, l_Mo, ty_Mo_ok, n_Mo, rfl, rfl⟩
theorem k_Mo_102 : Cond.constant "FrameFerryModel" 102 65535 ∈ tb := tb_of 860 (by decide +kernel) rfl
theorem k_Mo_103 : Cond.constant "FrameFerryModel" 103 (-306674912) ∈ tb := tb_of 856 (by decide +kernel) rfl
theorem s_Mo_108 : uCt "FrameFerryModel" 108 y_Mo_check16 3 (.code y_Mo_check16 prog_10_method_8_code 7 (some .int)) := ⟨⟨tb_of 857 (by decide +kernel) rfl, tb_of 8 (by decide +kernel) rfl, tb_of 859 (by decide +kernel) rfl, by decide +kernel⟩, tb_of 858 (by decide +kernel) rfl⟩
theorem s_Mo_104 : uCt "FrameFerryModel" 104 y_Mo_check32 3 (.code y_Mo_check32 prog_10_method_9_code 7 (some .int)) := ⟨⟨tb_of 853 (by decide +kernel) rfl, tb_of 8 (by decide +kernel) rfl, tb_of 855 (by decide +kernel) rfl, by decide +kernel⟩, tb_of 854 (by decide +kernel) rfl⟩
theorem f_Mo_111 : uF "FrameFerryModel" 111 8 29 false .int := ⟨R_Mo, T_Mo, 32, ty_Mo, rfl, by decide, tb_of 729 (by decide +kernel) rfl, l_Mo, ty_Mo_ok, n_Mo, rfl, rfl⟩
theorem s_Mo_114 : uCv "FrameFerryModel" 114 y_Mo_put 2 (.code y_Mo_put prog_10_method_11_code 3 none) := ⟨⟨tb_of 842 (by decide +kernel) rfl, tb_of 8 (by decide +kernel) rfl, tb_of 845 (by decide +kernel) rfl, by decide +kernel⟩, tb_of 844 (by decide +kernel) rfl, tb_sel 29 (by decide +kernel) rfl⟩
theorem s_Mo_118 : uCv "FrameFerryModel" 118 y_Mo_header 2 (.code y_Mo_header prog_10_method_14_code 4 none) := ⟨⟨tb_of 838 (by decide +kernel) rfl, tb_of 8 (by decide +kernel) rfl, tb_of 841 (by decide +kernel) rfl, by decide +kernel⟩, tb_of 840 (by decide +kernel) rfl, tb_sel 28 (by decide +kernel) rfl⟩
theorem s_Mo_124 : uCt "FrameFerryModel" 124 y_Mo_checkByte 5 (.code y_Mo_checkByte prog_10_method_10_code 5 (some .int)) := ⟨⟨tb_of 850 (by decide +kernel) rfl, tb_of 8 (by decide +kernel) rfl, tb_of 852 (by decide +kernel) rfl, by decide +kernel⟩, tb_of 851 (by decide +kernel) rfl⟩
theorem s_Mo_121 : uCv "FrameFerryModel" 121 y_Mo_putDigits 2 (.code y_Mo_putDigits prog_10_method_13_code 5 none) := ⟨⟨tb_of 846 (by decide +kernel) rfl, tb_of 8 (by decide +kernel) rfl, tb_of 849 (by decide +kernel) rfl, by decide +kernel⟩, tb_of 848 (by decide +kernel) rfl, tb_sel 30 (by decide +kernel) rfl⟩
theorem f_Mo_128 : uF "FrameFerryModel" 128 8 21 false .boolean := ⟨R_Mo, T_Mo, 32, ty_Mo, rfl, by decide, tb_of 721 (by decide +kernel) rfl, l_Mo, ty_Mo_ok, n_Mo, rfl, rfl⟩
theorem s_Mo_131 : uCv "FrameFerryModel" 131 y_Mo_putEscaped 2 (.code y_Mo_putEscaped prog_10_method_12_code 3 none) := ⟨⟨tb_of 869 (by decide +kernel) rfl, tb_of 8 (by decide +kernel) rfl, tb_of 872 (by decide +kernel) rfl, by decide +kernel⟩, tb_of 871 (by decide +kernel) rfl, tb_sel 33 (by decide +kernel) rfl⟩
section G
variable {p : Program} {l : Launch} {e : Env} {s : State} {m : MethodId} {args : Array Value} {below : List Frame} {meth : Method} {c : Code} {D : va_G} {cc : Nat → ClassId} {L L0 : List Nat} {A A0 : Nat → Nat} {J : Nat → Int64} {t16 t32 sz : Nat}
-- FrameFerryModel.thrown ()I
theorem d_Mo_thrown_0 : decode prog_10_method_2_code 0 = .ok (.aload_n 0, 1) := by decide +kernel
theorem d_Mo_thrown_1 : decode prog_10_method_2_code 1 = .ok (.getfield 82, 3) := by decide +kernel
theorem d_Mo_thrown_4 : decode prog_10_method_2_code 4 = .ok (.ireturn, 1) := by decide +kernel
def rm_Mo_thrown : Room := { frames := 0, cells := 0, slots := 0, locals := 0 }
def wp_Mo_thrown (I : UI) (R : UR) (Q : Int32 → UI → UR → Prop) : Prop :=
  Q (I 80 0) I R
set_option maxHeartbeats 4000000 in
set_option maxRecDepth 100000 in
theorem c_Mo_thrown (l : Launch) (D : va_G) (cc : Nat → ClassId) (L : List Nat) (A : Nat → Nat) (J : Nat → Int64) (t16 t32 : Nat) (I : UI) (R : UR) (Q : Int32 → UI → UR → Prop) (h : wp_Mo_thrown I R Q) : uMi l y_Mo_thrown (.code y_Mo_thrown prog_10_method_2_code 1 (some .int)) rm_Mo_thrown [.ref (A 80)] D cc L A J t16 t32 I R Q := by
  intro sz
  refine u_entry (by decide) (Nat.le_of_ble_eq_true rfl) (fun p e s m args below meth c hsz X V hr hlk ls hl => ?_)
  have X : uX p s m args c prog_10_method_2_code 1 "FrameFerryModel" D cc L A t16 t32 := X
  have hx := X.1
  have hb := X.2.1
  have hl : lv_has ls 1 [(0, .ref (A 80))] := hl
  unfold wp_Mo_thrown at h
  generalize hH : s.heap = H at V ⊢
  generalize hlo : ([] : List Loc) = locs at V ⊢
  refine lv_aload_n (pc := 0) hx hb d_Mo_thrown_0 rfl (lv_at hl 0 rfl) ?_
  refine u_geti (pc := 1) X V (X.fix rfl) rfl rfl f_Mo_82 rfl d_Mo_thrown_1 ?_
  exact u_reti (pc := 4) X V hr hlk hsz h d_Mo_thrown_4
-- FrameFerryModel.refused (I)Z
theorem d_Mo_refused_0 : decode prog_10_method_3_code 0 = .ok (.aload_n 0, 1) := by decide +kernel
theorem d_Mo_refused_1 : decode prog_10_method_3_code 1 = .ok (.iload_n 1, 1) := by decide +kernel
theorem d_Mo_refused_2 : decode prog_10_method_3_code 2 = .ok (.putfield 82, 3) := by decide +kernel
theorem d_Mo_refused_5 : decode prog_10_method_3_code 5 = .ok (.iload_n 1, 1) := by decide +kernel
theorem d_Mo_refused_6 : decode prog_10_method_3_code 6 = .ok (.ifCond .le 7, 3) := by decide +kernel
theorem d_Mo_refused_9 : decode prog_10_method_3_code 9 = .ok (.iconst 1, 1) := by decide +kernel
theorem d_Mo_refused_10 : decode prog_10_method_3_code 10 = .ok (.goto 4, 3) := by decide +kernel
theorem d_Mo_refused_13 : decode prog_10_method_3_code 13 = .ok (.iconst 0, 1) := by decide +kernel
theorem d_Mo_refused_14 : decode prog_10_method_3_code 14 = .ok (.ireturn, 1) := by decide +kernel
def rm_Mo_refused : Room := { frames := 0, cells := 0, slots := 0, locals := 0 }
def wp_Mo_refused (I : UI) (R : UR) (x1 : Int32) (Q : Int32 → UI → UR → Prop) : Prop :=
  ∀ I1 : UI, I1 = u2 I 80 0 x1 → ((x1 ≤ 0 → (zb 0 ∧ Q 0 I1 R)) ∧ (¬ x1 ≤ 0 → (zb 1 ∧ Q 1 I1 R)))
set_option maxHeartbeats 4000000 in
set_option maxRecDepth 100000 in
theorem c_Mo_refused (l : Launch) (D : va_G) (cc : Nat → ClassId) (L : List Nat) (A : Nat → Nat) (J : Nat → Int64) (t16 t32 : Nat) (I : UI) (R : UR) (x1 : Int32) (Q : Int32 → UI → UR → Prop) (h : wp_Mo_refused I R x1 Q) : uMi l y_Mo_refused (.code y_Mo_refused prog_10_method_3_code 2 (some .boolean)) rm_Mo_refused [.ref (A 80), .int x1] D cc L A J t16 t32 I R Q := by
  intro sz
  refine u_entry (by decide) (Nat.le_of_ble_eq_true rfl) (fun p e s m args below meth c hsz X V hr hlk ls hl => ?_)
  have X : uX p s m args c prog_10_method_3_code 2 "FrameFerryModel" D cc L A t16 t32 := X
  have hx := X.1
  have hb := X.2.1
  have hl : lv_has ls 2 [(0, .ref (A 80)), (1, .int x1)] := hl
  unfold wp_Mo_refused at h
  generalize hH : s.heap = H at V ⊢
  generalize hlo : ([] : List Loc) = locs at V ⊢
  refine lv_aload_n (pc := 0) hx hb d_Mo_refused_0 rfl (lv_at hl 0 rfl) ?_
  refine lv_iload_n (pc := 1) hx hb d_Mo_refused_1 rfl (lv_at hl 1 rfl) ?_
  refine u_puti (pc := 2) X V (X.fix rfl) rfl rfl f_Mo_82 rfl d_Mo_refused_2 (fun I1 eI1 H locs V => ?_)
  have h := h I1 eI1
  refine lv_iload_n (pc := 5) hx hb d_Mo_refused_5 rfl (lv_at hl 1 rfl) ?_
  refine lv_if_le (pc := 6) (tgt := 13) hx hb d_Mo_refused_6 (by decide) (fun hc => ?_) (fun hc => ?_)
  · have h := h.1 hc
    refine lv_iconst (pc := 13) (v := 0) hx hb d_Mo_refused_13 (by decide) ?_
    exact u_retz (pc := 14) X V hr hlk hsz h.1 h.2 d_Mo_refused_14
  · have h := h.2 hc
    refine lv_iconst (pc := 9) (v := 1) hx hb d_Mo_refused_9 (by decide) ?_
    refine lv_goto (pc := 10) (tgt := 14) hx hb d_Mo_refused_10 (by decide) ?_
    exact u_retz (pc := 14) X V hr hlk hsz h.1 h.2 d_Mo_refused_14
-- FrameFerryModel.isIn (III)Z
theorem d_Mo_isIn_0 : decode prog_10_method_4_code 0 = .ok (.iload_n 0, 1) := by decide +kernel
theorem d_Mo_isIn_1 : decode prog_10_method_4_code 1 = .ok (.iload_n 1, 1) := by decide +kernel
theorem d_Mo_isIn_2 : decode prog_10_method_4_code 2 = .ok (.if_icmp .lt 12, 3) := by decide +kernel
theorem d_Mo_isIn_5 : decode prog_10_method_4_code 5 = .ok (.iload_n 0, 1) := by decide +kernel
theorem d_Mo_isIn_6 : decode prog_10_method_4_code 6 = .ok (.iload_n 2, 1) := by decide +kernel
theorem d_Mo_isIn_7 : decode prog_10_method_4_code 7 = .ok (.if_icmp .gt 7, 3) := by decide +kernel
theorem d_Mo_isIn_10 : decode prog_10_method_4_code 10 = .ok (.iconst 1, 1) := by decide +kernel
theorem d_Mo_isIn_11 : decode prog_10_method_4_code 11 = .ok (.goto 4, 3) := by decide +kernel
theorem d_Mo_isIn_14 : decode prog_10_method_4_code 14 = .ok (.iconst 0, 1) := by decide +kernel
theorem d_Mo_isIn_15 : decode prog_10_method_4_code 15 = .ok (.ireturn, 1) := by decide +kernel
def rm_Mo_isIn : Room := { frames := 0, cells := 0, slots := 0, locals := 0 }
def wp_Mo_isIn (I : UI) (R : UR) (x0 : Int32) (x1 : Int32) (x2 : Int32) (Q : Int32 → UI → UR → Prop) : Prop :=
  ((x0 < x1 → (zb 0 ∧ Q 0 I R)) ∧ (¬ x0 < x1 → ((x2 < x0 → (zb 0 ∧ Q 0 I R)) ∧ (¬ x2 < x0 → (zb 1 ∧ Q 1 I R)))))
set_option maxHeartbeats 4000000 in
set_option maxRecDepth 100000 in
theorem c_Mo_isIn (l : Launch) (D : va_G) (cc : Nat → ClassId) (L : List Nat) (A : Nat → Nat) (J : Nat → Int64) (t16 t32 : Nat) (I : UI) (R : UR) (x0 : Int32) (x1 : Int32) (x2 : Int32) (Q : Int32 → UI → UR → Prop) (h : wp_Mo_isIn I R x0 x1 x2 Q) : uMi l y_Mo_isIn (.code y_Mo_isIn prog_10_method_4_code 3 (some .boolean)) rm_Mo_isIn [.int x0, .int x1, .int x2] D cc L A J t16 t32 I R Q := by
  intro sz
  refine u_entry (by decide) (Nat.le_of_ble_eq_true rfl) (fun p e s m args below meth c hsz X V hr hlk ls hl => ?_)
  have X : uX p s m args c prog_10_method_4_code 3 "FrameFerryModel" D cc L A t16 t32 := X
  have hx := X.1
  have hb := X.2.1
  have hl : lv_has ls 3 [(0, .int x0), (1, .int x1), (2, .int x2)] := hl
  unfold wp_Mo_isIn at h
  generalize hH : s.heap = H at V ⊢
  generalize hlo : ([] : List Loc) = locs at V ⊢
  refine lv_iload_n (pc := 0) hx hb d_Mo_isIn_0 rfl (lv_at hl 0 rfl) ?_
  refine lv_iload_n (pc := 1) hx hb d_Mo_isIn_1 rfl (lv_at hl 1 rfl) ?_
  refine lv_icmp_lt (pc := 2) (tgt := 14) hx hb d_Mo_isIn_2 (by decide) (fun hc => ?_) (fun hc => ?_)
  · have h := h.1 hc
    refine lv_iconst (pc := 14) (v := 0) hx hb d_Mo_isIn_14 (by decide) ?_
    exact u_retz (pc := 15) X V hr hlk hsz h.1 h.2 d_Mo_isIn_15
  · have h := h.2 hc
    refine lv_iload_n (pc := 5) hx hb d_Mo_isIn_5 rfl (lv_at hl 0 rfl) ?_
    refine lv_iload_n (pc := 6) hx hb d_Mo_isIn_6 rfl (lv_at hl 2 rfl) ?_
    refine lv_icmp_gt (pc := 7) (tgt := 14) hx hb d_Mo_isIn_7 (by decide) (fun hc => ?_) (fun hc => ?_)
    · have h := h.1 hc
      refine lv_iconst (pc := 14) (v := 0) hx hb d_Mo_isIn_14 (by decide) ?_
      exact u_retz (pc := 15) X V hr hlk hsz h.1 h.2 d_Mo_isIn_15
    · have h := h.2 hc
      refine lv_iconst (pc := 10) (v := 1) hx hb d_Mo_isIn_10 (by decide) ?_
      refine lv_goto (pc := 11) (tgt := 15) hx hb d_Mo_isIn_11 (by decide) ?_
      exact u_retz (pc := 15) X V hr hlk hsz h.1 h.2 d_Mo_isIn_15
-- FrameFerryModel.check16 ([III)I
theorem d_Mo_check16_0 : decode prog_10_method_8_code 0 = .ok (.iconst 0, 1) := by decide +kernel
theorem d_Mo_check16_1 : decode prog_10_method_8_code 1 = .ok (.istore_n 3, 1) := by decide +kernel
theorem d_Mo_check16_2 : decode prog_10_method_8_code 2 = .ok (.iload_n 1, 1) := by decide +kernel
theorem d_Mo_check16_3 : decode prog_10_method_8_code 3 = .ok (.istore 4, 2) := by decide +kernel
theorem d_Mo_check16_5 : decode prog_10_method_8_code 5 = .ok (.iload 4, 2) := by decide +kernel
theorem d_Mo_check16_7 : decode prog_10_method_8_code 7 = .ok (.iload_n 1, 1) := by decide +kernel
theorem d_Mo_check16_8 : decode prog_10_method_8_code 8 = .ok (.iload_n 2, 1) := by decide +kernel
theorem d_Mo_check16_9 : decode prog_10_method_8_code 9 = .ok (.iadd, 1) := by decide +kernel
theorem d_Mo_check16_10 : decode prog_10_method_8_code 10 = .ok (.if_icmp .ge 61, 3) := by decide +kernel
theorem d_Mo_check16_13 : decode prog_10_method_8_code 13 = .ok (.bipush 7, 2) := by decide +kernel
theorem d_Mo_check16_15 : decode prog_10_method_8_code 15 = .ok (.istore 5, 2) := by decide +kernel
theorem d_Mo_check16_17 : decode prog_10_method_8_code 17 = .ok (.iload 5, 2) := by decide +kernel
theorem d_Mo_check16_19 : decode prog_10_method_8_code 19 = .ok (.ifCond .lt 46, 3) := by decide +kernel
theorem d_Mo_check16_22 : decode prog_10_method_8_code 22 = .ok (.iload_n 3, 1) := by decide +kernel
theorem d_Mo_check16_23 : decode prog_10_method_8_code 23 = .ok (.bipush 15, 2) := by decide +kernel
theorem d_Mo_check16_25 : decode prog_10_method_8_code 25 = .ok (.ishr, 1) := by decide +kernel
theorem d_Mo_check16_26 : decode prog_10_method_8_code 26 = .ok (.iconst 1, 1) := by decide +kernel
theorem d_Mo_check16_27 : decode prog_10_method_8_code 27 = .ok (.iand, 1) := by decide +kernel
theorem d_Mo_check16_28 : decode prog_10_method_8_code 28 = .ok (.istore 6, 2) := by decide +kernel
theorem d_Mo_check16_30 : decode prog_10_method_8_code 30 = .ok (.iload_n 3, 1) := by decide +kernel
theorem d_Mo_check16_31 : decode prog_10_method_8_code 31 = .ok (.iconst 1, 1) := by decide +kernel
theorem d_Mo_check16_32 : decode prog_10_method_8_code 32 = .ok (.ishl, 1) := by decide +kernel
theorem d_Mo_check16_33 : decode prog_10_method_8_code 33 = .ok (.ldc 102, 2) := by decide +kernel
theorem d_Mo_check16_35 : decode prog_10_method_8_code 35 = .ok (.iand, 1) := by decide +kernel
theorem d_Mo_check16_36 : decode prog_10_method_8_code 36 = .ok (.aload_n 0, 1) := by decide +kernel
theorem d_Mo_check16_37 : decode prog_10_method_8_code 37 = .ok (.iload 4, 2) := by decide +kernel
theorem d_Mo_check16_39 : decode prog_10_method_8_code 39 = .ok (.iaload, 1) := by decide +kernel
theorem d_Mo_check16_40 : decode prog_10_method_8_code 40 = .ok (.iload 5, 2) := by decide +kernel
theorem d_Mo_check16_42 : decode prog_10_method_8_code 42 = .ok (.ishr, 1) := by decide +kernel
theorem d_Mo_check16_43 : decode prog_10_method_8_code 43 = .ok (.iconst 1, 1) := by decide +kernel
theorem d_Mo_check16_44 : decode prog_10_method_8_code 44 = .ok (.iand, 1) := by decide +kernel
theorem d_Mo_check16_45 : decode prog_10_method_8_code 45 = .ok (.iload 6, 2) := by decide +kernel
theorem d_Mo_check16_47 : decode prog_10_method_8_code 47 = .ok (.if_icmp .ne 7, 3) := by decide +kernel
theorem d_Mo_check16_50 : decode prog_10_method_8_code 50 = .ok (.iconst 0, 1) := by decide +kernel
theorem d_Mo_check16_51 : decode prog_10_method_8_code 51 = .ok (.goto 6, 3) := by decide +kernel
theorem d_Mo_check16_54 : decode prog_10_method_8_code 54 = .ok (.sipush 4129, 3) := by decide +kernel
theorem d_Mo_check16_57 : decode prog_10_method_8_code 57 = .ok (.ixor, 1) := by decide +kernel
theorem d_Mo_check16_58 : decode prog_10_method_8_code 58 = .ok (.istore_n 3, 1) := by decide +kernel
theorem d_Mo_check16_59 : decode prog_10_method_8_code 59 = .ok (.iinc 5 (-1), 3) := by decide +kernel
theorem d_Mo_check16_62 : decode prog_10_method_8_code 62 = .ok (.goto (-45), 3) := by decide +kernel
theorem d_Mo_check16_65 : decode prog_10_method_8_code 65 = .ok (.iinc 4 1, 3) := by decide +kernel
theorem d_Mo_check16_68 : decode prog_10_method_8_code 68 = .ok (.goto (-63), 3) := by decide +kernel
theorem d_Mo_check16_71 : decode prog_10_method_8_code 71 = .ok (.iload_n 3, 1) := by decide +kernel
theorem d_Mo_check16_72 : decode prog_10_method_8_code 72 = .ok (.ireturn, 1) := by decide +kernel
def rm_Mo_check16 : Room := { frames := 0, cells := 0, slots := 0, locals := 0 }
def wp_Mo_check16_L57 (w0 : Nat) (Q : Int32 → UI → UR → Prop) (K5 : UI → UR → Int32 → Int32 → Int32 → Int32 → Prop) (K17 : UI → UR → Int32 → Int32 → Int32 → Int32 → Int32 → Prop) (I : UI) (R : UR) (x1 : Int32) (x2 : Int32) (x4 : Int32) (x5 : Int32) (s0 : Int32) (s1 : Int32) : Prop :=
  ∀ v3 : Int32, v3 = s1 ^^^ s0 → ∀ v4 : Int32, v4 = x5 + (-1) → K17 I R x1 x2 v3 x4 v4
set_option maxHeartbeats 4000000 in
set_option maxRecDepth 100000 in
theorem j_Mo_check16_57 (X : uX p s m args c prog_10_method_8_code 7 "FrameFerryModel" D cc L A t16 t32) (hr : meth.sig.returnType = (some .int)) (hlk : meth.locks = false) (hsz : sz = s.heap.size) {w0 : Nat} (h_w0 : isIA L w0) {Q : Int32 → UI → UR → Prop} {K5 : UI → UR → Int32 → Int32 → Int32 → Int32 → Prop} (hK5 : ∀ (I : UI) (R : UR) (x1 : Int32) (x2 : Int32) (x3 : Int32) (x4 : Int32) (H : Heap) (locs : List Loc) (ls : Array Slot), uV s D cc L A J I R H locs → lv_has ls 7 [(0, .ref (A w0)), (1, .int x1), (2, .int x2), (3, .int x3), (4, .int x4)] → K5 I R x1 x2 x3 x4 → W p l e rm_Mo_check16 s m args below meth c H locs 0 0 (MQ below (va_Qi (fun (r : Int32) (u : UI × UR) => Q r u.1 u.2) (uBv D cc L A J) (uA L A sz)) args s 0 0 (uA L A sz)) (F0 m 5 ls [])) {K17 : UI → UR → Int32 → Int32 → Int32 → Int32 → Int32 → Prop} (hK17 : ∀ (I : UI) (R : UR) (x1 : Int32) (x2 : Int32) (x3 : Int32) (x4 : Int32) (x5 : Int32) (H : Heap) (locs : List Loc) (ls : Array Slot), uV s D cc L A J I R H locs → lv_has ls 7 [(0, .ref (A w0)), (1, .int x1), (2, .int x2), (3, .int x3), (4, .int x4), (5, .int x5)] → K17 I R x1 x2 x3 x4 x5 → W p l e rm_Mo_check16 s m args below meth c H locs 0 0 (MQ below (va_Qi (fun (r : Int32) (u : UI × UR) => Q r u.1 u.2) (uBv D cc L A J) (uA L A sz)) args s 0 0 (uA L A sz)) (F0 m 17 ls [])) {I : UI} {R : UR} {x1 : Int32} {x2 : Int32} {x4 : Int32} {x5 : Int32} {s0 : Int32} {s1 : Int32} {H : Heap} {locs : List Loc} {ls : Array Slot} (V : uV s D cc L A J I R H locs) (hl : lv_has ls 7 [(0, .ref (A w0)), (1, .int x1), (2, .int x2), (4, .int x4), (5, .int x5)]) (h : wp_Mo_check16_L57 w0 Q K5 K17 I R x1 x2 x4 x5 s0 s1) : W p l e rm_Mo_check16 s m args below meth c H locs 0 0 (MQ below (va_Qi (fun (r : Int32) (u : UI × UR) => Q r u.1 u.2) (uBv D cc L A J) (uA L A sz)) args s 0 0 (uA L A sz)) (F0 m 57 ls [.int s0, .int s1]) := by
  have hx := X.1
  have hb := X.2.1
  unfold wp_Mo_check16_L57 at h
  refine lv_ixor (pc := 57) hx hb d_Mo_check16_57 ?_
  refine lv_topi (fun v3 ev3 => ?_)
  have h := h v3 ev3
  refine lv_istore_n (pc := 58) (lv' := [(3, .int v3), (0, .ref (A w0)), (1, .int x1), (2, .int x2), (4, .int x4), (5, .int x5)]) hx hb d_Mo_check16_58 rfl hl (by decide) rfl (fun ls hl => ?_)
  obtain ⟨v4, ev4⟩ : ∃ z : Int32, z = x5 + (-1) := ⟨_, rfl⟩
  have h := h v4 ev4
  refine lv_iinc (pc := 59) (k := 5) (v := v4) (lv' := [(5, .int v4), (3, .int v3), (0, .ref (A w0)), (1, .int x1), (2, .int x2), (4, .int x4)]) hx hb d_Mo_check16_59 hl rfl (by rw [ev4]; rfl) (by decide) rfl (fun ls hl => ?_)
  refine lv_goto (pc := 62) (tgt := 17) hx hb d_Mo_check16_62 (by decide) ?_
  exact hK17 I R x1 x2 v3 x4 v4 H locs ls V (lv_sub hl [2, 3, 4, 1, 5, 0] rfl) h
def wp_Mo_check16_L17 (w0 : Nat) (Q : Int32 → UI → UR → Prop) (K5 : UI → UR → Int32 → Int32 → Int32 → Int32 → Prop) : Nat → UI → UR → Int32 → Int32 → Int32 → Int32 → Int32 → Prop
  | 0, _, _, _, _, _, _, _ => False
  | n + 1, I, R, x1, x2, x3, x4, x5 => ((x5 < 0 → ∀ v1 : Int32, v1 = x4 + 1 → K5 I R x1 x2 x3 v1) ∧ (¬ x5 < 0 → ∀ v2 : Int32, v2 = (x3 >>> (15 &&& 31)) &&& 1 → vp_in x4 (ln w0) ∧ ((¬ ((I w0 x4.toNatClampNeg) >>> (x5 &&& 31)) &&& 1 = v2 → wp_Mo_check16_L57 w0 Q K5 (fun I R x1 x2 x3 x4 x5 => wp_Mo_check16_L17 w0 Q K5 n I R x1 x2 x3 x4 x5) I R x1 x2 x4 x5 4129 ((x3 <<< (1 &&& 31)) &&& 65535)) ∧ (((I w0 x4.toNatClampNeg) >>> (x5 &&& 31)) &&& 1 = v2 → wp_Mo_check16_L57 w0 Q K5 (fun I R x1 x2 x3 x4 x5 => wp_Mo_check16_L17 w0 Q K5 n I R x1 x2 x3 x4 x5) I R x1 x2 x4 x5 0 ((x3 <<< (1 &&& 31)) &&& 65535)))))
set_option maxHeartbeats 4000000 in
set_option maxRecDepth 100000 in
theorem j_Mo_check16_17 (X : uX p s m args c prog_10_method_8_code 7 "FrameFerryModel" D cc L A t16 t32) (hr : meth.sig.returnType = (some .int)) (hlk : meth.locks = false) (hsz : sz = s.heap.size) {w0 : Nat} (h_w0 : isIA L w0) {Q : Int32 → UI → UR → Prop} {K5 : UI → UR → Int32 → Int32 → Int32 → Int32 → Prop} (hK5 : ∀ (I : UI) (R : UR) (x1 : Int32) (x2 : Int32) (x3 : Int32) (x4 : Int32) (H : Heap) (locs : List Loc) (ls : Array Slot), uV s D cc L A J I R H locs → lv_has ls 7 [(0, .ref (A w0)), (1, .int x1), (2, .int x2), (3, .int x3), (4, .int x4)] → K5 I R x1 x2 x3 x4 → W p l e rm_Mo_check16 s m args below meth c H locs 0 0 (MQ below (va_Qi (fun (r : Int32) (u : UI × UR) => Q r u.1 u.2) (uBv D cc L A J) (uA L A sz)) args s 0 0 (uA L A sz)) (F0 m 5 ls [])) : ∀ (n : Nat) (I : UI) (R : UR) (x1 : Int32) (x2 : Int32) (x3 : Int32) (x4 : Int32) (x5 : Int32) (H : Heap) (locs : List Loc) (ls : Array Slot), uV s D cc L A J I R H locs → lv_has ls 7 [(0, .ref (A w0)), (1, .int x1), (2, .int x2), (3, .int x3), (4, .int x4), (5, .int x5)] → wp_Mo_check16_L17 w0 Q K5 n I R x1 x2 x3 x4 x5 → W p l e rm_Mo_check16 s m args below meth c H locs 0 0 (MQ below (va_Qi (fun (r : Int32) (u : UI × UR) => Q r u.1 u.2) (uBv D cc L A J) (uA L A sz)) args s 0 0 (uA L A sz)) (F0 m 17 ls []) := by
  intro n
  induction n with
  | zero => exact fun I R x1 x2 x3 x4 x5 H locs ls V hl h => False.elim h
  | succ n ih =>
    intro I R x1 x2 x3 x4 x5 H locs ls V hl h
    have hx := X.1
    have hb := X.2.1
    rw [wp_Mo_check16_L17] at h
    refine lv_iload (pc := 17) hx hb d_Mo_check16_17 (lv_at hl 5 rfl) ?_
    refine lv_if_lt (pc := 19) (tgt := 65) hx hb d_Mo_check16_19 (by decide) (fun hc => ?_) (fun hc => ?_)
    · have h := h.1 hc
      obtain ⟨v1, ev1⟩ : ∃ z : Int32, z = x4 + 1 := ⟨_, rfl⟩
      have h := h v1 ev1
      refine lv_iinc (pc := 65) (k := 4) (v := v1) (lv' := [(4, .int v1), (0, .ref (A w0)), (1, .int x1), (2, .int x2), (3, .int x3), (5, .int x5)]) hx hb d_Mo_check16_65 hl rfl (by rw [ev1]; rfl) (by decide) rfl (fun ls hl => ?_)
      refine lv_goto (pc := 68) (tgt := 5) hx hb d_Mo_check16_68 (by decide) ?_
      exact hK5 I R x1 x2 x3 v1 H locs ls V (lv_sub hl [1, 2, 3, 4, 0] rfl) h
    · have h := h.2 hc
      refine lv_iload_n (pc := 22) hx hb d_Mo_check16_22 rfl (lv_at hl 3 rfl) ?_
      refine lv_bipush (pc := 23) (v := 15) hx hb d_Mo_check16_23 (by decide) ?_
      refine lv_ishr (pc := 25) hx hb d_Mo_check16_25 ?_
      refine lv_iconst (pc := 26) (v := 1) hx hb d_Mo_check16_26 (by decide) ?_
      refine lv_iand (pc := 27) hx hb d_Mo_check16_27 ?_
      refine lv_topi (fun v2 ev2 => ?_)
      have h := h v2 ev2
      refine lv_istore (pc := 28) (lv' := [(6, .int v2), (0, .ref (A w0)), (1, .int x1), (2, .int x2), (3, .int x3), (4, .int x4), (5, .int x5)]) hx hb d_Mo_check16_28 hl (by decide) rfl (fun ls hl => ?_)
      refine lv_iload_n (pc := 30) hx hb d_Mo_check16_30 rfl (lv_at hl 4 rfl) ?_
      refine lv_iconst (pc := 31) (v := 1) hx hb d_Mo_check16_31 (by decide) ?_
      refine lv_ishl (pc := 32) hx hb d_Mo_check16_32 ?_
      refine lv_ldc (pc := 33) hx hb X.2.2.2.1 (X.2.2.2.2.1 _ k_Mo_102) d_Mo_check16_33 ?_
      refine lv_iand (pc := 35) hx hb d_Mo_check16_35 ?_
      refine lv_aload_n (pc := 36) hx hb d_Mo_check16_36 rfl (lv_at hl 1 rfl) ?_
      refine lv_iload (pc := 37) hx hb d_Mo_check16_37 (lv_at hl 5 rfl) ?_
      refine u_iald (pc := 39) X V h_w0.1 h_w0.2 rfl h.1 d_Mo_check16_39 ?_
      have h := h.2
      refine lv_iload (pc := 40) hx hb d_Mo_check16_40 (lv_at hl 6 rfl) ?_
      refine lv_ishr (pc := 42) hx hb d_Mo_check16_42 ?_
      refine lv_iconst (pc := 43) (v := 1) hx hb d_Mo_check16_43 (by decide) ?_
      refine lv_iand (pc := 44) hx hb d_Mo_check16_44 ?_
      refine lv_iload (pc := 45) hx hb d_Mo_check16_45 (lv_at hl 0 rfl) ?_
      refine lv_icmp_ne (pc := 47) (tgt := 54) hx hb d_Mo_check16_47 (by decide) (fun hc => ?_) (fun hc => ?_)
      · have h := h.1 hc
        refine lv_sipush (pc := 54) (v := 4129) hx hb d_Mo_check16_54 (by decide) ?_
        exact j_Mo_check16_57 X hr hlk hsz h_w0 hK5 ih V (lv_sub hl [1, 2, 3, 5, 6] rfl) h
      · have h := h.2 hc
        refine lv_iconst (pc := 50) (v := 0) hx hb d_Mo_check16_50 (by decide) ?_
        refine lv_goto (pc := 51) (tgt := 57) hx hb d_Mo_check16_51 (by decide) ?_
        exact j_Mo_check16_57 X hr hlk hsz h_w0 hK5 ih V (lv_sub hl [1, 2, 3, 5, 6] rfl) h
def wp_Mo_check16_L5 (w0 : Nat) (Q : Int32 → UI → UR → Prop) : Nat → UI → UR → Int32 → Int32 → Int32 → Int32 → Prop
  | 0, _, _, _, _, _, _ => False
  | n + 1, I, R, x1, x2, x3, x4 => ((x1 + x2 ≤ x4 → Q x3 I R) ∧ (¬ x1 + x2 ≤ x4 → (∃ n17 : Nat, wp_Mo_check16_L17 w0 Q (fun I R x1 x2 x3 x4 => wp_Mo_check16_L5 w0 Q n I R x1 x2 x3 x4) n17 I R x1 x2 x3 x4 7)))
set_option maxHeartbeats 4000000 in
set_option maxRecDepth 100000 in
theorem j_Mo_check16_5 (X : uX p s m args c prog_10_method_8_code 7 "FrameFerryModel" D cc L A t16 t32) (hr : meth.sig.returnType = (some .int)) (hlk : meth.locks = false) (hsz : sz = s.heap.size) {w0 : Nat} (h_w0 : isIA L w0) {Q : Int32 → UI → UR → Prop} : ∀ (n : Nat) (I : UI) (R : UR) (x1 : Int32) (x2 : Int32) (x3 : Int32) (x4 : Int32) (H : Heap) (locs : List Loc) (ls : Array Slot), uV s D cc L A J I R H locs → lv_has ls 7 [(0, .ref (A w0)), (1, .int x1), (2, .int x2), (3, .int x3), (4, .int x4)] → wp_Mo_check16_L5 w0 Q n I R x1 x2 x3 x4 → W p l e rm_Mo_check16 s m args below meth c H locs 0 0 (MQ below (va_Qi (fun (r : Int32) (u : UI × UR) => Q r u.1 u.2) (uBv D cc L A J) (uA L A sz)) args s 0 0 (uA L A sz)) (F0 m 5 ls []) := by
  intro n
  induction n with
  | zero => exact fun I R x1 x2 x3 x4 H locs ls V hl h => False.elim h
  | succ n ih =>
    intro I R x1 x2 x3 x4 H locs ls V hl h
    have hx := X.1
    have hb := X.2.1
    rw [wp_Mo_check16_L5] at h
    refine lv_iload (pc := 5) hx hb d_Mo_check16_5 (lv_at hl 4 rfl) ?_
    refine lv_iload_n (pc := 7) hx hb d_Mo_check16_7 rfl (lv_at hl 1 rfl) ?_
    refine lv_iload_n (pc := 8) hx hb d_Mo_check16_8 rfl (lv_at hl 2 rfl) ?_
    refine lv_iadd (pc := 9) hx hb d_Mo_check16_9 ?_
    refine lv_icmp_ge (pc := 10) (tgt := 71) hx hb d_Mo_check16_10 (by decide) (fun hc => ?_) (fun hc => ?_)
    · have h := h.1 hc
      refine lv_iload_n (pc := 71) hx hb d_Mo_check16_71 rfl (lv_at hl 3 rfl) ?_
      exact u_reti (pc := 72) X V hr hlk hsz h d_Mo_check16_72
    · have h := h.2 hc
      refine lv_bipush (pc := 13) (v := 7) hx hb d_Mo_check16_13 (by decide) ?_
      refine lv_istore (pc := 15) (lv' := [(5, .int 7), (0, .ref (A w0)), (1, .int x1), (2, .int x2), (3, .int x3), (4, .int x4)]) hx hb d_Mo_check16_15 hl (by decide) rfl (fun ls hl => ?_)
      obtain ⟨n17, h⟩ := h
      exact j_Mo_check16_17 X hr hlk hsz h_w0 ih n17 I R x1 x2 x3 x4 7 H locs ls V (lv_sub hl [1, 2, 3, 4, 5, 0] rfl) h
def wp_Mo_check16 (I : UI) (R : UR) (w0 : Nat) (x1 : Int32) (x2 : Int32) (Q : Int32 → UI → UR → Prop) : Prop :=
  (∃ n5 : Nat, wp_Mo_check16_L5 w0 Q n5 I R x1 x2 0 x1)
set_option maxHeartbeats 4000000 in
set_option maxRecDepth 100000 in
theorem c_Mo_check16 (l : Launch) (D : va_G) (cc : Nat → ClassId) (L : List Nat) (A : Nat → Nat) (J : Nat → Int64) (t16 t32 : Nat) (I : UI) (R : UR) (w0 : Nat) (h_w0 : isIA L w0) (x1 : Int32) (x2 : Int32) (Q : Int32 → UI → UR → Prop) (h : wp_Mo_check16 I R w0 x1 x2 Q) : uMi l y_Mo_check16 (.code y_Mo_check16 prog_10_method_8_code 7 (some .int)) rm_Mo_check16 [.ref (A w0), .int x1, .int x2] D cc L A J t16 t32 I R Q := by
  intro sz
  refine u_entry (by decide) (Nat.le_of_ble_eq_true rfl) (fun p e s m args below meth c hsz X V hr hlk ls hl => ?_)
  have X : uX p s m args c prog_10_method_8_code 7 "FrameFerryModel" D cc L A t16 t32 := X
  have hx := X.1
  have hb := X.2.1
  have hl : lv_has ls 7 [(0, .ref (A w0)), (1, .int x1), (2, .int x2)] := hl
  unfold wp_Mo_check16 at h
  generalize hH : s.heap = H at V ⊢
  generalize hlo : ([] : List Loc) = locs at V ⊢
  refine lv_iconst (pc := 0) (v := 0) hx hb d_Mo_check16_0 (by decide) ?_
  refine lv_istore_n (pc := 1) (lv' := [(3, .int 0), (0, .ref (A w0)), (1, .int x1), (2, .int x2)]) hx hb d_Mo_check16_1 rfl hl (by decide) rfl (fun ls hl => ?_)
  refine lv_iload_n (pc := 2) hx hb d_Mo_check16_2 rfl (lv_at hl 2 rfl) ?_
  refine lv_istore (pc := 3) (lv' := [(4, .int x1), (3, .int 0), (0, .ref (A w0)), (1, .int x1), (2, .int x2)]) hx hb d_Mo_check16_3 hl (by decide) rfl (fun ls hl => ?_)
  obtain ⟨n5, h⟩ := h
  exact j_Mo_check16_5 X hr hlk hsz h_w0 n5 I R x1 x2 0 x1 H locs ls V (lv_sub hl [2, 3, 4, 1, 0] rfl) h
-- FrameFerryModel.check32 ([III)I
theorem d_Mo_check32_0 : decode prog_10_method_9_code 0 = .ok (.iconst (-1), 1) := by decide +kernel
theorem d_Mo_check32_1 : decode prog_10_method_9_code 1 = .ok (.istore_n 3, 1) := by decide +kernel
theorem d_Mo_check32_2 : decode prog_10_method_9_code 2 = .ok (.iload_n 1, 1) := by decide +kernel
theorem d_Mo_check32_3 : decode prog_10_method_9_code 3 = .ok (.istore 4, 2) := by decide +kernel
theorem d_Mo_check32_5 : decode prog_10_method_9_code 5 = .ok (.iload 4, 2) := by decide +kernel
theorem d_Mo_check32_7 : decode prog_10_method_9_code 7 = .ok (.iload_n 1, 1) := by decide +kernel
theorem d_Mo_check32_8 : decode prog_10_method_9_code 8 = .ok (.iload_n 2, 1) := by decide +kernel
theorem d_Mo_check32_9 : decode prog_10_method_9_code 9 = .ok (.iadd, 1) := by decide +kernel
theorem d_Mo_check32_10 : decode prog_10_method_9_code 10 = .ok (.if_icmp .ge 55, 3) := by decide +kernel
theorem d_Mo_check32_13 : decode prog_10_method_9_code 13 = .ok (.iconst 0, 1) := by decide +kernel
theorem d_Mo_check32_14 : decode prog_10_method_9_code 14 = .ok (.istore 5, 2) := by decide +kernel
theorem d_Mo_check32_16 : decode prog_10_method_9_code 16 = .ok (.iload 5, 2) := by decide +kernel
theorem d_Mo_check32_18 : decode prog_10_method_9_code 18 = .ok (.bipush 8, 2) := by decide +kernel
theorem d_Mo_check32_20 : decode prog_10_method_9_code 20 = .ok (.if_icmp .ge 39, 3) := by decide +kernel
theorem d_Mo_check32_23 : decode prog_10_method_9_code 23 = .ok (.iload_n 3, 1) := by decide +kernel
theorem d_Mo_check32_24 : decode prog_10_method_9_code 24 = .ok (.iconst 1, 1) := by decide +kernel
theorem d_Mo_check32_25 : decode prog_10_method_9_code 25 = .ok (.iand, 1) := by decide +kernel
theorem d_Mo_check32_26 : decode prog_10_method_9_code 26 = .ok (.istore 6, 2) := by decide +kernel
theorem d_Mo_check32_28 : decode prog_10_method_9_code 28 = .ok (.iload_n 3, 1) := by decide +kernel
theorem d_Mo_check32_29 : decode prog_10_method_9_code 29 = .ok (.iconst 1, 1) := by decide +kernel
theorem d_Mo_check32_30 : decode prog_10_method_9_code 30 = .ok (.iushr, 1) := by decide +kernel
theorem d_Mo_check32_31 : decode prog_10_method_9_code 31 = .ok (.aload_n 0, 1) := by decide +kernel
theorem d_Mo_check32_32 : decode prog_10_method_9_code 32 = .ok (.iload 4, 2) := by decide +kernel
theorem d_Mo_check32_34 : decode prog_10_method_9_code 34 = .ok (.iaload, 1) := by decide +kernel
theorem d_Mo_check32_35 : decode prog_10_method_9_code 35 = .ok (.iload 5, 2) := by decide +kernel
theorem d_Mo_check32_37 : decode prog_10_method_9_code 37 = .ok (.ishr, 1) := by decide +kernel
theorem d_Mo_check32_38 : decode prog_10_method_9_code 38 = .ok (.iconst 1, 1) := by decide +kernel
theorem d_Mo_check32_39 : decode prog_10_method_9_code 39 = .ok (.iand, 1) := by decide +kernel
theorem d_Mo_check32_40 : decode prog_10_method_9_code 40 = .ok (.iload 6, 2) := by decide +kernel
theorem d_Mo_check32_42 : decode prog_10_method_9_code 42 = .ok (.if_icmp .ne 7, 3) := by decide +kernel
theorem d_Mo_check32_45 : decode prog_10_method_9_code 45 = .ok (.iconst 0, 1) := by decide +kernel
theorem d_Mo_check32_46 : decode prog_10_method_9_code 46 = .ok (.goto 5, 3) := by decide +kernel
theorem d_Mo_check32_49 : decode prog_10_method_9_code 49 = .ok (.ldc 103, 2) := by decide +kernel
theorem d_Mo_check32_51 : decode prog_10_method_9_code 51 = .ok (.ixor, 1) := by decide +kernel
theorem d_Mo_check32_52 : decode prog_10_method_9_code 52 = .ok (.istore_n 3, 1) := by decide +kernel
theorem d_Mo_check32_53 : decode prog_10_method_9_code 53 = .ok (.iinc 5 1, 3) := by decide +kernel
theorem d_Mo_check32_56 : decode prog_10_method_9_code 56 = .ok (.goto (-40), 3) := by decide +kernel
theorem d_Mo_check32_59 : decode prog_10_method_9_code 59 = .ok (.iinc 4 1, 3) := by decide +kernel
theorem d_Mo_check32_62 : decode prog_10_method_9_code 62 = .ok (.goto (-57), 3) := by decide +kernel
theorem d_Mo_check32_65 : decode prog_10_method_9_code 65 = .ok (.iload_n 3, 1) := by decide +kernel
theorem d_Mo_check32_66 : decode prog_10_method_9_code 66 = .ok (.iconst (-1), 1) := by decide +kernel
theorem d_Mo_check32_67 : decode prog_10_method_9_code 67 = .ok (.ixor, 1) := by decide +kernel
theorem d_Mo_check32_68 : decode prog_10_method_9_code 68 = .ok (.ireturn, 1) := by decide +kernel
def rm_Mo_check32 : Room := { frames := 0, cells := 0, slots := 0, locals := 0 }
def wp_Mo_check32_L51 (w0 : Nat) (Q : Int32 → UI → UR → Prop) (K5 : UI → UR → Int32 → Int32 → Int32 → Int32 → Prop) (K16 : UI → UR → Int32 → Int32 → Int32 → Int32 → Int32 → Prop) (I : UI) (R : UR) (x1 : Int32) (x2 : Int32) (x4 : Int32) (x5 : Int32) (s0 : Int32) (s1 : Int32) : Prop :=
  ∀ v3 : Int32, v3 = s1 ^^^ s0 → ∀ v4 : Int32, v4 = x5 + 1 → K16 I R x1 x2 v3 x4 v4
set_option maxHeartbeats 4000000 in
set_option maxRecDepth 100000 in
theorem j_Mo_check32_51 (X : uX p s m args c prog_10_method_9_code 7 "FrameFerryModel" D cc L A t16 t32) (hr : meth.sig.returnType = (some .int)) (hlk : meth.locks = false) (hsz : sz = s.heap.size) {w0 : Nat} (h_w0 : isIA L w0) {Q : Int32 → UI → UR → Prop} {K5 : UI → UR → Int32 → Int32 → Int32 → Int32 → Prop} (hK5 : ∀ (I : UI) (R : UR) (x1 : Int32) (x2 : Int32) (x3 : Int32) (x4 : Int32) (H : Heap) (locs : List Loc) (ls : Array Slot), uV s D cc L A J I R H locs → lv_has ls 7 [(0, .ref (A w0)), (1, .int x1), (2, .int x2), (3, .int x3), (4, .int x4)] → K5 I R x1 x2 x3 x4 → W p l e rm_Mo_check32 s m args below meth c H locs 0 0 (MQ below (va_Qi (fun (r : Int32) (u : UI × UR) => Q r u.1 u.2) (uBv D cc L A J) (uA L A sz)) args s 0 0 (uA L A sz)) (F0 m 5 ls [])) {K16 : UI → UR → Int32 → Int32 → Int32 → Int32 → Int32 → Prop} (hK16 : ∀ (I : UI) (R : UR) (x1 : Int32) (x2 : Int32) (x3 : Int32) (x4 : Int32) (x5 : Int32) (H : Heap) (locs : List Loc) (ls : Array Slot), uV s D cc L A J I R H locs → lv_has ls 7 [(0, .ref (A w0)), (1, .int x1), (2, .int x2), (3, .int x3), (4, .int x4), (5, .int x5)] → K16 I R x1 x2 x3 x4 x5 → W p l e rm_Mo_check32 s m args below meth c H locs 0 0 (MQ below (va_Qi (fun (r : Int32) (u : UI × UR) => Q r u.1 u.2) (uBv D cc L A J) (uA L A sz)) args s 0 0 (uA L A sz)) (F0 m 16 ls [])) {I : UI} {R : UR} {x1 : Int32} {x2 : Int32} {x4 : Int32} {x5 : Int32} {s0 : Int32} {s1 : Int32} {H : Heap} {locs : List Loc} {ls : Array Slot} (V : uV s D cc L A J I R H locs) (hl : lv_has ls 7 [(0, .ref (A w0)), (1, .int x1), (2, .int x2), (4, .int x4), (5, .int x5)]) (h : wp_Mo_check32_L51 w0 Q K5 K16 I R x1 x2 x4 x5 s0 s1) : W p l e rm_Mo_check32 s m args below meth c H locs 0 0 (MQ below (va_Qi (fun (r : Int32) (u : UI × UR) => Q r u.1 u.2) (uBv D cc L A J) (uA L A sz)) args s 0 0 (uA L A sz)) (F0 m 51 ls [.int s0, .int s1]) := by
  have hx := X.1
  have hb := X.2.1
  unfold wp_Mo_check32_L51 at h
  refine lv_ixor (pc := 51) hx hb d_Mo_check32_51 ?_
  refine lv_topi (fun v3 ev3 => ?_)
  have h := h v3 ev3
  refine lv_istore_n (pc := 52) (lv' := [(3, .int v3), (0, .ref (A w0)), (1, .int x1), (2, .int x2), (4, .int x4), (5, .int x5)]) hx hb d_Mo_check32_52 rfl hl (by decide) rfl (fun ls hl => ?_)
  obtain ⟨v4, ev4⟩ : ∃ z : Int32, z = x5 + 1 := ⟨_, rfl⟩
  have h := h v4 ev4
  refine lv_iinc (pc := 53) (k := 5) (v := v4) (lv' := [(5, .int v4), (3, .int v3), (0, .ref (A w0)), (1, .int x1), (2, .int x2), (4, .int x4)]) hx hb d_Mo_check32_53 hl rfl (by rw [ev4]; rfl) (by decide) rfl (fun ls hl => ?_)
  refine lv_goto (pc := 56) (tgt := 16) hx hb d_Mo_check32_56 (by decide) ?_
  exact hK16 I R x1 x2 v3 x4 v4 H locs ls V (lv_sub hl [2, 3, 4, 1, 5, 0] rfl) h
def wp_Mo_check32_L16 (w0 : Nat) (Q : Int32 → UI → UR → Prop) (K5 : UI → UR → Int32 → Int32 → Int32 → Int32 → Prop) : Nat → UI → UR → Int32 → Int32 → Int32 → Int32 → Int32 → Prop
  | 0, _, _, _, _, _, _, _ => False
  | n + 1, I, R, x1, x2, x3, x4, x5 => ((8 ≤ x5 → ∀ v1 : Int32, v1 = x4 + 1 → K5 I R x1 x2 x3 v1) ∧ (¬ 8 ≤ x5 → ∀ v2 : Int32, v2 = x3 &&& 1 → vp_in x4 (ln w0) ∧ ((¬ ((I w0 x4.toNatClampNeg) >>> (x5 &&& 31)) &&& 1 = v2 → wp_Mo_check32_L51 w0 Q K5 (fun I R x1 x2 x3 x4 x5 => wp_Mo_check32_L16 w0 Q K5 n I R x1 x2 x3 x4 x5) I R x1 x2 x4 x5 (-306674912) (ush x3 1)) ∧ (((I w0 x4.toNatClampNeg) >>> (x5 &&& 31)) &&& 1 = v2 → wp_Mo_check32_L51 w0 Q K5 (fun I R x1 x2 x3 x4 x5 => wp_Mo_check32_L16 w0 Q K5 n I R x1 x2 x3 x4 x5) I R x1 x2 x4 x5 0 (ush x3 1)))))
set_option maxHeartbeats 4000000 in
set_option maxRecDepth 100000 in
theorem j_Mo_check32_16 (X : uX p s m args c prog_10_method_9_code 7 "FrameFerryModel" D cc L A t16 t32) (hr : meth.sig.returnType = (some .int)) (hlk : meth.locks = false) (hsz : sz = s.heap.size) {w0 : Nat} (h_w0 : isIA L w0) {Q : Int32 → UI → UR → Prop} {K5 : UI → UR → Int32 → Int32 → Int32 → Int32 → Prop} (hK5 : ∀ (I : UI) (R : UR) (x1 : Int32) (x2 : Int32) (x3 : Int32) (x4 : Int32) (H : Heap) (locs : List Loc) (ls : Array Slot), uV s D cc L A J I R H locs → lv_has ls 7 [(0, .ref (A w0)), (1, .int x1), (2, .int x2), (3, .int x3), (4, .int x4)] → K5 I R x1 x2 x3 x4 → W p l e rm_Mo_check32 s m args below meth c H locs 0 0 (MQ below (va_Qi (fun (r : Int32) (u : UI × UR) => Q r u.1 u.2) (uBv D cc L A J) (uA L A sz)) args s 0 0 (uA L A sz)) (F0 m 5 ls [])) : ∀ (n : Nat) (I : UI) (R : UR) (x1 : Int32) (x2 : Int32) (x3 : Int32) (x4 : Int32) (x5 : Int32) (H : Heap) (locs : List Loc) (ls : Array Slot), uV s D cc L A J I R H locs → lv_has ls 7 [(0, .ref (A w0)), (1, .int x1), (2, .int x2), (3, .int x3), (4, .int x4), (5, .int x5)] → wp_Mo_check32_L16 w0 Q K5 n I R x1 x2 x3 x4 x5 → W p l e rm_Mo_check32 s m args below meth c H locs 0 0 (MQ below (va_Qi (fun (r : Int32) (u : UI × UR) => Q r u.1 u.2) (uBv D cc L A J) (uA L A sz)) args s 0 0 (uA L A sz)) (F0 m 16 ls []) := by
  intro n
  induction n with
  | zero => exact fun I R x1 x2 x3 x4 x5 H locs ls V hl h => False.elim h
  | succ n ih =>
    intro I R x1 x2 x3 x4 x5 H locs ls V hl h
    have hx := X.1
    have hb := X.2.1
    rw [wp_Mo_check32_L16] at h
    refine lv_iload (pc := 16) hx hb d_Mo_check32_16 (lv_at hl 5 rfl) ?_
    refine lv_bipush (pc := 18) (v := 8) hx hb d_Mo_check32_18 (by decide) ?_
    refine lv_icmp_ge (pc := 20) (tgt := 59) hx hb d_Mo_check32_20 (by decide) (fun hc => ?_) (fun hc => ?_)
    · have h := h.1 hc
      obtain ⟨v1, ev1⟩ : ∃ z : Int32, z = x4 + 1 := ⟨_, rfl⟩
      have h := h v1 ev1
      refine lv_iinc (pc := 59) (k := 4) (v := v1) (lv' := [(4, .int v1), (0, .ref (A w0)), (1, .int x1), (2, .int x2), (3, .int x3), (5, .int x5)]) hx hb d_Mo_check32_59 hl rfl (by rw [ev1]; rfl) (by decide) rfl (fun ls hl => ?_)
      refine lv_goto (pc := 62) (tgt := 5) hx hb d_Mo_check32_62 (by decide) ?_
      exact hK5 I R x1 x2 x3 v1 H locs ls V (lv_sub hl [1, 2, 3, 4, 0] rfl) h
    · have h := h.2 hc
      refine lv_iload_n (pc := 23) hx hb d_Mo_check32_23 rfl (lv_at hl 3 rfl) ?_
      refine lv_iconst (pc := 24) (v := 1) hx hb d_Mo_check32_24 (by decide) ?_
      refine lv_iand (pc := 25) hx hb d_Mo_check32_25 ?_
      refine lv_topi (fun v2 ev2 => ?_)
      have h := h v2 ev2
      refine lv_istore (pc := 26) (lv' := [(6, .int v2), (0, .ref (A w0)), (1, .int x1), (2, .int x2), (3, .int x3), (4, .int x4), (5, .int x5)]) hx hb d_Mo_check32_26 hl (by decide) rfl (fun ls hl => ?_)
      refine lv_iload_n (pc := 28) hx hb d_Mo_check32_28 rfl (lv_at hl 4 rfl) ?_
      refine lv_iconst (pc := 29) (v := 1) hx hb d_Mo_check32_29 (by decide) ?_
      refine lv_iushr (pc := 30) (v := ush x3 1) hx hb d_Mo_check32_30 rfl ?_
      refine lv_aload_n (pc := 31) hx hb d_Mo_check32_31 rfl (lv_at hl 1 rfl) ?_
      refine lv_iload (pc := 32) hx hb d_Mo_check32_32 (lv_at hl 5 rfl) ?_
      refine u_iald (pc := 34) X V h_w0.1 h_w0.2 rfl h.1 d_Mo_check32_34 ?_
      have h := h.2
      refine lv_iload (pc := 35) hx hb d_Mo_check32_35 (lv_at hl 6 rfl) ?_
      refine lv_ishr (pc := 37) hx hb d_Mo_check32_37 ?_
      refine lv_iconst (pc := 38) (v := 1) hx hb d_Mo_check32_38 (by decide) ?_
      refine lv_iand (pc := 39) hx hb d_Mo_check32_39 ?_
      refine lv_iload (pc := 40) hx hb d_Mo_check32_40 (lv_at hl 0 rfl) ?_
      refine lv_icmp_ne (pc := 42) (tgt := 49) hx hb d_Mo_check32_42 (by decide) (fun hc => ?_) (fun hc => ?_)
      · have h := h.1 hc
        refine lv_ldc (pc := 49) hx hb X.2.2.2.1 (X.2.2.2.2.1 _ k_Mo_103) d_Mo_check32_49 ?_
        exact j_Mo_check32_51 X hr hlk hsz h_w0 hK5 ih V (lv_sub hl [1, 2, 3, 5, 6] rfl) h
      · have h := h.2 hc
        refine lv_iconst (pc := 45) (v := 0) hx hb d_Mo_check32_45 (by decide) ?_
        refine lv_goto (pc := 46) (tgt := 51) hx hb d_Mo_check32_46 (by decide) ?_
        exact j_Mo_check32_51 X hr hlk hsz h_w0 hK5 ih V (lv_sub hl [1, 2, 3, 5, 6] rfl) h
def wp_Mo_check32_L5 (w0 : Nat) (Q : Int32 → UI → UR → Prop) : Nat → UI → UR → Int32 → Int32 → Int32 → Int32 → Prop
  | 0, _, _, _, _, _, _ => False
  | n + 1, I, R, x1, x2, x3, x4 => ((x1 + x2 ≤ x4 → Q (x3 ^^^ (-1)) I R) ∧ (¬ x1 + x2 ≤ x4 → (∃ n16 : Nat, wp_Mo_check32_L16 w0 Q (fun I R x1 x2 x3 x4 => wp_Mo_check32_L5 w0 Q n I R x1 x2 x3 x4) n16 I R x1 x2 x3 x4 0)))
set_option maxHeartbeats 4000000 in
set_option maxRecDepth 100000 in
theorem j_Mo_check32_5 (X : uX p s m args c prog_10_method_9_code 7 "FrameFerryModel" D cc L A t16 t32) (hr : meth.sig.returnType = (some .int)) (hlk : meth.locks = false) (hsz : sz = s.heap.size) {w0 : Nat} (h_w0 : isIA L w0) {Q : Int32 → UI → UR → Prop} : ∀ (n : Nat) (I : UI) (R : UR) (x1 : Int32) (x2 : Int32) (x3 : Int32) (x4 : Int32) (H : Heap) (locs : List Loc) (ls : Array Slot), uV s D cc L A J I R H locs → lv_has ls 7 [(0, .ref (A w0)), (1, .int x1), (2, .int x2), (3, .int x3), (4, .int x4)] → wp_Mo_check32_L5 w0 Q n I R x1 x2 x3 x4 → W p l e rm_Mo_check32 s m args below meth c H locs 0 0 (MQ below (va_Qi (fun (r : Int32) (u : UI × UR) => Q r u.1 u.2) (uBv D cc L A J) (uA L A sz)) args s 0 0 (uA L A sz)) (F0 m 5 ls []) := by
  intro n
  induction n with
  | zero => exact fun I R x1 x2 x3 x4 H locs ls V hl h => False.elim h
  | succ n ih =>
    intro I R x1 x2 x3 x4 H locs ls V hl h
    have hx := X.1
    have hb := X.2.1
    rw [wp_Mo_check32_L5] at h
    refine lv_iload (pc := 5) hx hb d_Mo_check32_5 (lv_at hl 4 rfl) ?_
    refine lv_iload_n (pc := 7) hx hb d_Mo_check32_7 rfl (lv_at hl 1 rfl) ?_
    refine lv_iload_n (pc := 8) hx hb d_Mo_check32_8 rfl (lv_at hl 2 rfl) ?_
    refine lv_iadd (pc := 9) hx hb d_Mo_check32_9 ?_
    refine lv_icmp_ge (pc := 10) (tgt := 65) hx hb d_Mo_check32_10 (by decide) (fun hc => ?_) (fun hc => ?_)
    · have h := h.1 hc
      refine lv_iload_n (pc := 65) hx hb d_Mo_check32_65 rfl (lv_at hl 3 rfl) ?_
      refine lv_iconst (pc := 66) (v := (-1)) hx hb d_Mo_check32_66 (by decide) ?_
      refine lv_ixor (pc := 67) hx hb d_Mo_check32_67 ?_
      exact u_reti (pc := 68) X V hr hlk hsz h d_Mo_check32_68
    · have h := h.2 hc
      refine lv_iconst (pc := 13) (v := 0) hx hb d_Mo_check32_13 (by decide) ?_
      refine lv_istore (pc := 14) (lv' := [(5, .int 0), (0, .ref (A w0)), (1, .int x1), (2, .int x2), (3, .int x3), (4, .int x4)]) hx hb d_Mo_check32_14 hl (by decide) rfl (fun ls hl => ?_)
      obtain ⟨n16, h⟩ := h
      exact j_Mo_check32_16 X hr hlk hsz h_w0 ih n16 I R x1 x2 x3 x4 0 H locs ls V (lv_sub hl [1, 2, 3, 4, 5, 0] rfl) h
def wp_Mo_check32 (I : UI) (R : UR) (w0 : Nat) (x1 : Int32) (x2 : Int32) (Q : Int32 → UI → UR → Prop) : Prop :=
  (∃ n5 : Nat, wp_Mo_check32_L5 w0 Q n5 I R x1 x2 (-1) x1)
set_option maxHeartbeats 4000000 in
set_option maxRecDepth 100000 in
theorem c_Mo_check32 (l : Launch) (D : va_G) (cc : Nat → ClassId) (L : List Nat) (A : Nat → Nat) (J : Nat → Int64) (t16 t32 : Nat) (I : UI) (R : UR) (w0 : Nat) (h_w0 : isIA L w0) (x1 : Int32) (x2 : Int32) (Q : Int32 → UI → UR → Prop) (h : wp_Mo_check32 I R w0 x1 x2 Q) : uMi l y_Mo_check32 (.code y_Mo_check32 prog_10_method_9_code 7 (some .int)) rm_Mo_check32 [.ref (A w0), .int x1, .int x2] D cc L A J t16 t32 I R Q := by
  intro sz
  refine u_entry (by decide) (Nat.le_of_ble_eq_true rfl) (fun p e s m args below meth c hsz X V hr hlk ls hl => ?_)
  have X : uX p s m args c prog_10_method_9_code 7 "FrameFerryModel" D cc L A t16 t32 := X
  have hx := X.1
  have hb := X.2.1
  have hl : lv_has ls 7 [(0, .ref (A w0)), (1, .int x1), (2, .int x2)] := hl
  unfold wp_Mo_check32 at h
  generalize hH : s.heap = H at V ⊢
  generalize hlo : ([] : List Loc) = locs at V ⊢
  refine lv_iconst (pc := 0) (v := (-1)) hx hb d_Mo_check32_0 (by decide) ?_
  refine lv_istore_n (pc := 1) (lv' := [(3, .int (-1)), (0, .ref (A w0)), (1, .int x1), (2, .int x2)]) hx hb d_Mo_check32_1 rfl hl (by decide) rfl (fun ls hl => ?_)
  refine lv_iload_n (pc := 2) hx hb d_Mo_check32_2 rfl (lv_at hl 2 rfl) ?_
  refine lv_istore (pc := 3) (lv' := [(4, .int x1), (3, .int (-1)), (0, .ref (A w0)), (1, .int x1), (2, .int x2)]) hx hb d_Mo_check32_3 hl (by decide) rfl (fun ls hl => ?_)
  obtain ⟨n5, h⟩ := h
  exact j_Mo_check32_5 X hr hlk hsz h_w0 n5 I R x1 x2 (-1) x1 H locs ls V (lv_sub hl [2, 3, 4, 1, 0] rfl) h
-- FrameFerryModel.checkByte ([IIIZI)I
theorem d_Mo_checkByte_0 : decode prog_10_method_10_code 0 = .ok (.iload_n 3, 1) := by decide +kernel
theorem d_Mo_checkByte_1 : decode prog_10_method_10_code 1 = .ok (.ifCond .eq 22, 3) := by decide +kernel
theorem d_Mo_checkByte_4 : decode prog_10_method_10_code 4 = .ok (.aload_n 0, 1) := by decide +kernel
theorem d_Mo_checkByte_5 : decode prog_10_method_10_code 5 = .ok (.iload_n 1, 1) := by decide +kernel
theorem d_Mo_checkByte_6 : decode prog_10_method_10_code 6 = .ok (.iload_n 2, 1) := by decide +kernel
theorem d_Mo_checkByte_7 : decode prog_10_method_10_code 7 = .ok (.invokestatic 104, 3) := by decide +kernel
theorem d_Mo_checkByte_10 : decode prog_10_method_10_code 10 = .ok (.bipush 8, 2) := by decide +kernel
theorem d_Mo_checkByte_12 : decode prog_10_method_10_code 12 = .ok (.iload 4, 2) := by decide +kernel
theorem d_Mo_checkByte_14 : decode prog_10_method_10_code 14 = .ok (.imul, 1) := by decide +kernel
theorem d_Mo_checkByte_15 : decode prog_10_method_10_code 15 = .ok (.iushr, 1) := by decide +kernel
theorem d_Mo_checkByte_16 : decode prog_10_method_10_code 16 = .ok (.sipush 255, 3) := by decide +kernel
theorem d_Mo_checkByte_19 : decode prog_10_method_10_code 19 = .ok (.iand, 1) := by decide +kernel
theorem d_Mo_checkByte_20 : decode prog_10_method_10_code 20 = .ok (.goto 22, 3) := by decide +kernel
theorem d_Mo_checkByte_23 : decode prog_10_method_10_code 23 = .ok (.aload_n 0, 1) := by decide +kernel
theorem d_Mo_checkByte_24 : decode prog_10_method_10_code 24 = .ok (.iload_n 1, 1) := by decide +kernel
theorem d_Mo_checkByte_25 : decode prog_10_method_10_code 25 = .ok (.iload_n 2, 1) := by decide +kernel
theorem d_Mo_checkByte_26 : decode prog_10_method_10_code 26 = .ok (.invokestatic 108, 3) := by decide +kernel
theorem d_Mo_checkByte_29 : decode prog_10_method_10_code 29 = .ok (.bipush 8, 2) := by decide +kernel
theorem d_Mo_checkByte_31 : decode prog_10_method_10_code 31 = .ok (.bipush 8, 2) := by decide +kernel
theorem d_Mo_checkByte_33 : decode prog_10_method_10_code 33 = .ok (.iload 4, 2) := by decide +kernel
theorem d_Mo_checkByte_35 : decode prog_10_method_10_code 35 = .ok (.imul, 1) := by decide +kernel
theorem d_Mo_checkByte_36 : decode prog_10_method_10_code 36 = .ok (.isub, 1) := by decide +kernel
theorem d_Mo_checkByte_37 : decode prog_10_method_10_code 37 = .ok (.ishr, 1) := by decide +kernel
theorem d_Mo_checkByte_38 : decode prog_10_method_10_code 38 = .ok (.sipush 255, 3) := by decide +kernel
theorem d_Mo_checkByte_41 : decode prog_10_method_10_code 41 = .ok (.iand, 1) := by decide +kernel
theorem d_Mo_checkByte_42 : decode prog_10_method_10_code 42 = .ok (.ireturn, 1) := by decide +kernel
def rm_Mo_checkByte : Room := { frames := 1, cells := 0, slots := 0, locals := 26 }
def wp_Mo_checkByte (I : UI) (R : UR) (w0 : Nat) (x1 : Int32) (x2 : Int32) (x3 : Int32) (x4 : Int32) (Q : Int32 → UI → UR → Prop) : Prop :=
  ((x3 = 0 → wp_Mo_check16 I R w0 x1 x2 (fun r3 I1 R2 => Q ((r3 >>> (8 - (8 * x4) &&& 31)) &&& 255) I1 R2)) ∧ (¬ x3 = 0 → wp_Mo_check32 I R w0 x1 x2 (fun r6 I4 R5 => Q ((ush r6 (8 * x4)) &&& 255) I4 R5)))
set_option maxHeartbeats 4000000 in
set_option maxRecDepth 100000 in
theorem c_Mo_checkByte (l : Launch) (D : va_G) (cc : Nat → ClassId) (L : List Nat) (A : Nat → Nat) (J : Nat → Int64) (t16 t32 : Nat) (I : UI) (R : UR) (w0 : Nat) (h_w0 : isIA L w0) (x1 : Int32) (x2 : Int32) (x3 : Int32) (x4 : Int32) (Q : Int32 → UI → UR → Prop) (h : wp_Mo_checkByte I R w0 x1 x2 x3 x4 Q) : uMi l y_Mo_checkByte (.code y_Mo_checkByte prog_10_method_10_code 5 (some .int)) rm_Mo_checkByte [.ref (A w0), .int x1, .int x2, .int x3, .int x4] D cc L A J t16 t32 I R Q := by
  intro sz
  refine u_entry (by decide) (Nat.le_of_ble_eq_true rfl) (fun p e s m args below meth c hsz X V hr hlk ls hl => ?_)
  have X : uX p s m args c prog_10_method_10_code 5 "FrameFerryModel" D cc L A t16 t32 := X
  have hx := X.1
  have hb := X.2.1
  have hl : lv_has ls 5 [(0, .ref (A w0)), (1, .int x1), (2, .int x2), (3, .int x3), (4, .int x4)] := hl
  unfold wp_Mo_checkByte at h
  generalize hH : s.heap = H at V ⊢
  generalize hlo : ([] : List Loc) = locs at V ⊢
  refine lv_iload_n (pc := 0) hx hb d_Mo_checkByte_0 rfl (lv_at hl 3 rfl) ?_
  refine lv_if_eq (pc := 1) (tgt := 23) hx hb d_Mo_checkByte_1 (by decide) (fun hc => ?_) (fun hc => ?_)
  · have h := h.1 hc
    refine lv_aload_n (pc := 23) hx hb d_Mo_checkByte_23 rfl (lv_at hl 0 rfl) ?_
    refine lv_iload_n (pc := 24) hx hb d_Mo_checkByte_24 rfl (lv_at hl 1 rfl) ?_
    refine lv_iload_n (pc := 25) hx hb d_Mo_checkByte_25 rfl (lv_at hl 2 rfl) ?_
    refine u_cSi (pc := 26) (As := [.ref (A w0), .int x1, .int x2]) X V s_Mo_108 (c_Mo_check16 l D cc L A J t16 t32 _ _ w0 h_w0 x1 x2 _ h) ⟨rfl, rfl, Nat.le_of_ble_eq_true rfl, Nat.le_of_ble_eq_true rfl⟩ rfl hl.1 rfl (Nat.le_of_ble_eq_true rfl) d_Mo_checkByte_26 ⟨Nat.zero_le _, Nat.zero_le _⟩ (fun r3 I1 R2 h H locs V => ?_)
    refine lv_bipush (pc := 29) (v := 8) hx hb d_Mo_checkByte_29 (by decide) ?_
    refine lv_bipush (pc := 31) (v := 8) hx hb d_Mo_checkByte_31 (by decide) ?_
    refine lv_iload (pc := 33) hx hb d_Mo_checkByte_33 (lv_at hl 4 rfl) ?_
    refine lv_imul (pc := 35) hx hb d_Mo_checkByte_35 ?_
    refine lv_isub (pc := 36) hx hb d_Mo_checkByte_36 ?_
    refine lv_ishr (pc := 37) hx hb d_Mo_checkByte_37 ?_
    refine lv_sipush (pc := 38) (v := 255) hx hb d_Mo_checkByte_38 (by decide) ?_
    refine lv_iand (pc := 41) hx hb d_Mo_checkByte_41 ?_
    exact u_reti (pc := 42) X V hr hlk hsz h d_Mo_checkByte_42
  · have h := h.2 hc
    refine lv_aload_n (pc := 4) hx hb d_Mo_checkByte_4 rfl (lv_at hl 0 rfl) ?_
    refine lv_iload_n (pc := 5) hx hb d_Mo_checkByte_5 rfl (lv_at hl 1 rfl) ?_
    refine lv_iload_n (pc := 6) hx hb d_Mo_checkByte_6 rfl (lv_at hl 2 rfl) ?_
    refine u_cSi (pc := 7) (As := [.ref (A w0), .int x1, .int x2]) X V s_Mo_104 (c_Mo_check32 l D cc L A J t16 t32 _ _ w0 h_w0 x1 x2 _ h) ⟨rfl, rfl, Nat.le_of_ble_eq_true rfl, Nat.le_of_ble_eq_true rfl⟩ rfl hl.1 rfl (Nat.le_of_ble_eq_true rfl) d_Mo_checkByte_7 ⟨Nat.zero_le _, Nat.zero_le _⟩ (fun r6 I4 R5 h H locs V => ?_)
    refine lv_bipush (pc := 10) (v := 8) hx hb d_Mo_checkByte_10 (by decide) ?_
    refine lv_iload (pc := 12) hx hb d_Mo_checkByte_12 (lv_at hl 4 rfl) ?_
    refine lv_imul (pc := 14) hx hb d_Mo_checkByte_14 ?_
    refine lv_iushr (pc := 15) (v := ush r6 (8 * x4)) hx hb d_Mo_checkByte_15 rfl ?_
    refine lv_sipush (pc := 16) (v := 255) hx hb d_Mo_checkByte_16 (by decide) ?_
    refine lv_iand (pc := 19) hx hb d_Mo_checkByte_19 ?_
    refine lv_goto (pc := 20) (tgt := 42) hx hb d_Mo_checkByte_20 (by decide) ?_
    exact u_reti (pc := 42) X V hr hlk hsz h d_Mo_checkByte_42
-- FrameFerryModel.put (II)V
theorem d_Mo_put_0 : decode prog_10_method_11_code 0 = .ok (.aload_n 0, 1) := by decide +kernel
theorem d_Mo_put_1 : decode prog_10_method_11_code 1 = .ok (.getfield 13, 3) := by decide +kernel
theorem d_Mo_put_4 : decode prog_10_method_11_code 4 = .ok (.iload_n 1, 1) := by decide +kernel
theorem d_Mo_put_5 : decode prog_10_method_11_code 5 = .ok (.iaload, 1) := by decide +kernel
theorem d_Mo_put_6 : decode prog_10_method_11_code 6 = .ok (.sipush 3000, 3) := by decide +kernel
theorem d_Mo_put_9 : decode prog_10_method_11_code 9 = .ok (.if_icmp .ge 31, 3) := by decide +kernel
theorem d_Mo_put_12 : decode prog_10_method_11_code 12 = .ok (.aload_n 0, 1) := by decide +kernel
theorem d_Mo_put_13 : decode prog_10_method_11_code 13 = .ok (.getfield 7, 3) := by decide +kernel
theorem d_Mo_put_16 : decode prog_10_method_11_code 16 = .ok (.sipush 3000, 3) := by decide +kernel
theorem d_Mo_put_19 : decode prog_10_method_11_code 19 = .ok (.iload_n 1, 1) := by decide +kernel
theorem d_Mo_put_20 : decode prog_10_method_11_code 20 = .ok (.imul, 1) := by decide +kernel
theorem d_Mo_put_21 : decode prog_10_method_11_code 21 = .ok (.aload_n 0, 1) := by decide +kernel
theorem d_Mo_put_22 : decode prog_10_method_11_code 22 = .ok (.getfield 13, 3) := by decide +kernel
theorem d_Mo_put_25 : decode prog_10_method_11_code 25 = .ok (.iload_n 1, 1) := by decide +kernel
theorem d_Mo_put_26 : decode prog_10_method_11_code 26 = .ok (.iaload, 1) := by decide +kernel
theorem d_Mo_put_27 : decode prog_10_method_11_code 27 = .ok (.iadd, 1) := by decide +kernel
theorem d_Mo_put_28 : decode prog_10_method_11_code 28 = .ok (.iload_n 2, 1) := by decide +kernel
theorem d_Mo_put_29 : decode prog_10_method_11_code 29 = .ok (.iastore, 1) := by decide +kernel
theorem d_Mo_put_30 : decode prog_10_method_11_code 30 = .ok (.aload_n 0, 1) := by decide +kernel
theorem d_Mo_put_31 : decode prog_10_method_11_code 31 = .ok (.getfield 13, 3) := by decide +kernel
theorem d_Mo_put_34 : decode prog_10_method_11_code 34 = .ok (.iload_n 1, 1) := by decide +kernel
theorem d_Mo_put_35 : decode prog_10_method_11_code 35 = .ok (.dup2, 1) := by decide +kernel
theorem d_Mo_put_36 : decode prog_10_method_11_code 36 = .ok (.iaload, 1) := by decide +kernel
theorem d_Mo_put_37 : decode prog_10_method_11_code 37 = .ok (.iconst 1, 1) := by decide +kernel
theorem d_Mo_put_38 : decode prog_10_method_11_code 38 = .ok (.iadd, 1) := by decide +kernel
theorem d_Mo_put_39 : decode prog_10_method_11_code 39 = .ok (.iastore, 1) := by decide +kernel
theorem d_Mo_put_40 : decode prog_10_method_11_code 40 = .ok (.aload_n 0, 1) := by decide +kernel
theorem d_Mo_put_41 : decode prog_10_method_11_code 41 = .ok (.dup, 1) := by decide +kernel
theorem d_Mo_put_42 : decode prog_10_method_11_code 42 = .ok (.getfield 111, 3) := by decide +kernel
theorem d_Mo_put_45 : decode prog_10_method_11_code 45 = .ok (.iconst 1, 1) := by decide +kernel
theorem d_Mo_put_46 : decode prog_10_method_11_code 46 = .ok (.iadd, 1) := by decide +kernel
theorem d_Mo_put_47 : decode prog_10_method_11_code 47 = .ok (.putfield 111, 3) := by decide +kernel
theorem d_Mo_put_50 : decode prog_10_method_11_code 50 = .ok (.return_, 1) := by decide +kernel
def rm_Mo_put : Room := { frames := 0, cells := 0, slots := 0, locals := 0 }
def wp_Mo_put_L40 (Q : UI → UR → Prop) (I : UI) (R : UR) : Prop :=
  ∀ I1 : UI, I1 = u2 I 80 29 ((I 80 29) + 1) → Q I1 R
set_option maxHeartbeats 4000000 in
set_option maxRecDepth 100000 in
theorem j_Mo_put_40 (X : uX p s m args c prog_10_method_11_code 3 "FrameFerryModel" D cc L A t16 t32) (hr : meth.sig.returnType = none) (hlk : meth.locks = false) (hsz : sz = s.heap.size) {Q : UI → UR → Prop} {I : UI} {R : UR} {H : Heap} {locs : List Loc} {ls : Array Slot} (V : uV s D cc L A J I R H locs) (hl : lv_has ls 3 [(0, .ref (A 80))]) (h : wp_Mo_put_L40 Q I R) : W p l e rm_Mo_put s m args below meth c H locs 0 0 (MQ below (va_Qv (fun u : UI × UR => Q u.1 u.2) (uBv D cc L A J) (uA L A sz)) args s 0 0 (uA L A sz)) (F0 m 40 ls []) := by
  have hx := X.1
  have hb := X.2.1
  unfold wp_Mo_put_L40 at h
  refine lv_aload_n (pc := 40) hx hb d_Mo_put_40 rfl (lv_at hl 0 rfl) ?_
  refine lv_dup (pc := 41) hx hb d_Mo_put_41 rfl ?_
  refine u_geti (pc := 42) X V (X.fix rfl) rfl rfl f_Mo_111 rfl d_Mo_put_42 ?_
  refine lv_iconst (pc := 45) (v := 1) hx hb d_Mo_put_45 (by decide) ?_
  refine lv_iadd (pc := 46) hx hb d_Mo_put_46 ?_
  refine u_puti (pc := 47) X V (X.fix rfl) rfl rfl f_Mo_111 rfl d_Mo_put_47 (fun I1 eI1 H locs V => ?_)
  have h := h I1 eI1
  exact u_retv (pc := 50) X V hr hlk hsz h d_Mo_put_50
def wp_Mo_put (I : UI) (R : UR) (x1 : Int32) (x2 : Int32) (Q : UI → UR → Prop) : Prop :=
  vp_in x1 2 ∧ ((3000 ≤ I 82 x1.toNatClampNeg → wp_Mo_put_L40 Q I R) ∧ (¬ 3000 ≤ I 82 x1.toNatClampNeg → vp_in x1 2 ∧ vp_in ((3000 * x1) + (I 82 x1.toNatClampNeg)) 6000 ∧ ∀ I2 : UI, I2 = u2 I 81 (((3000 * x1) + (I 82 x1.toNatClampNeg)).toNatClampNeg) x2 → vp_in x1 2 ∧ vp_in x1 2 ∧ ∀ I3 : UI, I3 = u2 I2 82 x1.toNatClampNeg ((I2 82 x1.toNatClampNeg) + 1) → wp_Mo_put_L40 Q I3 R))
set_option maxHeartbeats 4000000 in
set_option maxRecDepth 100000 in
theorem c_Mo_put (l : Launch) (D : va_G) (cc : Nat → ClassId) (L : List Nat) (A : Nat → Nat) (J : Nat → Int64) (t16 t32 : Nat) (I : UI) (R : UR) (x1 : Int32) (x2 : Int32) (Q : UI → UR → Prop) (h : wp_Mo_put I R x1 x2 Q) : uMv l y_Mo_put (.code y_Mo_put prog_10_method_11_code 3 none) rm_Mo_put [.ref (A 80), .int x1, .int x2] D cc L A J t16 t32 I R Q := by
  intro sz
  refine u_entry (by decide) (Nat.le_of_ble_eq_true rfl) (fun p e s m args below meth c hsz X V hr hlk ls hl => ?_)
  have X : uX p s m args c prog_10_method_11_code 3 "FrameFerryModel" D cc L A t16 t32 := X
  have hx := X.1
  have hb := X.2.1
  have hl : lv_has ls 3 [(0, .ref (A 80)), (1, .int x1), (2, .int x2)] := hl
  unfold wp_Mo_put at h
  generalize hH : s.heap = H at V ⊢
  generalize hlo : ([] : List Loc) = locs at V ⊢
  refine lv_aload_n (pc := 0) hx hb d_Mo_put_0 rfl (lv_at hl 0 rfl) ?_
  refine u_getr (pc := 1) (o' := 82) X V (X.fix rfl) rfl rfl f_Mo_13 rfl rfl d_Mo_put_1 ?_
  refine lv_iload_n (pc := 4) hx hb d_Mo_put_4 rfl (lv_at hl 1 rfl) ?_
  refine u_iald (pc := 5) X V (X.fix rfl) rfl rfl h.1 d_Mo_put_5 ?_
  have h := h.2
  refine lv_sipush (pc := 6) (v := 3000) hx hb d_Mo_put_6 (by decide) ?_
  refine lv_icmp_ge (pc := 9) (tgt := 40) hx hb d_Mo_put_9 (by decide) (fun hc => ?_) (fun hc => ?_)
  · have h := h.1 hc
    exact j_Mo_put_40 X hr hlk hsz V (lv_sub hl [0] rfl) h
  · have h := h.2 hc
    refine lv_aload_n (pc := 12) hx hb d_Mo_put_12 rfl (lv_at hl 0 rfl) ?_
    refine u_getr (pc := 13) (o' := 81) X V (X.fix rfl) rfl rfl f_Mo_7 rfl rfl d_Mo_put_13 ?_
    refine lv_sipush (pc := 16) (v := 3000) hx hb d_Mo_put_16 (by decide) ?_
    refine lv_iload_n (pc := 19) hx hb d_Mo_put_19 rfl (lv_at hl 1 rfl) ?_
    refine lv_imul (pc := 20) hx hb d_Mo_put_20 ?_
    refine lv_aload_n (pc := 21) hx hb d_Mo_put_21 rfl (lv_at hl 0 rfl) ?_
    refine u_getr (pc := 22) (o' := 82) X V (X.fix rfl) rfl rfl f_Mo_13 rfl rfl d_Mo_put_22 ?_
    refine lv_iload_n (pc := 25) hx hb d_Mo_put_25 rfl (lv_at hl 1 rfl) ?_
    refine u_iald (pc := 26) X V (X.fix rfl) rfl rfl h.1 d_Mo_put_26 ?_
    have h := h.2
    refine lv_iadd (pc := 27) hx hb d_Mo_put_27 ?_
    refine lv_iload_n (pc := 28) hx hb d_Mo_put_28 rfl (lv_at hl 2 rfl) ?_
    refine u_iast (pc := 29) X V (X.fix rfl) rfl rfl h.1 d_Mo_put_29 (fun I2 eI2 H locs V => ?_)
    have h := h.2 I2 eI2
    refine lv_aload_n (pc := 30) hx hb d_Mo_put_30 rfl (lv_at hl 0 rfl) ?_
    refine u_getr (pc := 31) (o' := 82) X V (X.fix rfl) rfl rfl f_Mo_13 rfl rfl d_Mo_put_31 ?_
    refine lv_iload_n (pc := 34) hx hb d_Mo_put_34 rfl (lv_at hl 1 rfl) ?_
    refine lv_dup2_11 (pc := 35) hx hb d_Mo_put_35 rfl rfl ?_
    refine u_iald (pc := 36) X V (X.fix rfl) rfl rfl h.1 d_Mo_put_36 ?_
    have h := h.2
    refine lv_iconst (pc := 37) (v := 1) hx hb d_Mo_put_37 (by decide) ?_
    refine lv_iadd (pc := 38) hx hb d_Mo_put_38 ?_
    refine u_iast (pc := 39) X V (X.fix rfl) rfl rfl h.1 d_Mo_put_39 (fun I3 eI3 H locs V => ?_)
    have h := h.2 I3 eI3
    exact j_Mo_put_40 X hr hlk hsz V (lv_sub hl [0] rfl) h
-- FrameFerryModel.putEscaped (II)V
theorem d_Mo_putEscaped_0 : decode prog_10_method_12_code 0 = .ok (.iload_n 2, 1) := by decide +kernel
theorem d_Mo_putEscaped_1 : decode prog_10_method_12_code 1 = .ok (.bipush 16, 2) := by decide +kernel
theorem d_Mo_putEscaped_3 : decode prog_10_method_12_code 3 = .ok (.if_icmp .eq 42, 3) := by decide +kernel
theorem d_Mo_putEscaped_6 : decode prog_10_method_12_code 6 = .ok (.iload_n 2, 1) := by decide +kernel
theorem d_Mo_putEscaped_7 : decode prog_10_method_12_code 7 = .ok (.bipush 17, 2) := by decide +kernel
theorem d_Mo_putEscaped_9 : decode prog_10_method_12_code 9 = .ok (.if_icmp .eq 36, 3) := by decide +kernel
theorem d_Mo_putEscaped_12 : decode prog_10_method_12_code 12 = .ok (.iload_n 2, 1) := by decide +kernel
theorem d_Mo_putEscaped_13 : decode prog_10_method_12_code 13 = .ok (.bipush 19, 2) := by decide +kernel
theorem d_Mo_putEscaped_15 : decode prog_10_method_12_code 15 = .ok (.if_icmp .eq 30, 3) := by decide +kernel
theorem d_Mo_putEscaped_18 : decode prog_10_method_12_code 18 = .ok (.iload_n 2, 1) := by decide +kernel
theorem d_Mo_putEscaped_19 : decode prog_10_method_12_code 19 = .ok (.bipush 24, 2) := by decide +kernel
theorem d_Mo_putEscaped_21 : decode prog_10_method_12_code 21 = .ok (.if_icmp .eq 24, 3) := by decide +kernel
theorem d_Mo_putEscaped_24 : decode prog_10_method_12_code 24 = .ok (.iload_n 2, 1) := by decide +kernel
theorem d_Mo_putEscaped_25 : decode prog_10_method_12_code 25 = .ok (.sipush 144, 3) := by decide +kernel
theorem d_Mo_putEscaped_28 : decode prog_10_method_12_code 28 = .ok (.if_icmp .eq 17, 3) := by decide +kernel
theorem d_Mo_putEscaped_31 : decode prog_10_method_12_code 31 = .ok (.iload_n 2, 1) := by decide +kernel
theorem d_Mo_putEscaped_32 : decode prog_10_method_12_code 32 = .ok (.sipush 145, 3) := by decide +kernel
theorem d_Mo_putEscaped_35 : decode prog_10_method_12_code 35 = .ok (.if_icmp .eq 10, 3) := by decide +kernel
theorem d_Mo_putEscaped_38 : decode prog_10_method_12_code 38 = .ok (.iload_n 2, 1) := by decide +kernel
theorem d_Mo_putEscaped_39 : decode prog_10_method_12_code 39 = .ok (.sipush 147, 3) := by decide +kernel
theorem d_Mo_putEscaped_42 : decode prog_10_method_12_code 42 = .ok (.if_icmp .ne 22, 3) := by decide +kernel
theorem d_Mo_putEscaped_45 : decode prog_10_method_12_code 45 = .ok (.aload_n 0, 1) := by decide +kernel
theorem d_Mo_putEscaped_46 : decode prog_10_method_12_code 46 = .ok (.iload_n 1, 1) := by decide +kernel
theorem d_Mo_putEscaped_47 : decode prog_10_method_12_code 47 = .ok (.bipush 24, 2) := by decide +kernel
theorem d_Mo_putEscaped_49 : decode prog_10_method_12_code 49 = .ok (.invokevirtual 114, 3) := by decide +kernel
theorem d_Mo_putEscaped_52 : decode prog_10_method_12_code 52 = .ok (.aload_n 0, 1) := by decide +kernel
theorem d_Mo_putEscaped_53 : decode prog_10_method_12_code 53 = .ok (.iload_n 1, 1) := by decide +kernel
theorem d_Mo_putEscaped_54 : decode prog_10_method_12_code 54 = .ok (.iload_n 2, 1) := by decide +kernel
theorem d_Mo_putEscaped_55 : decode prog_10_method_12_code 55 = .ok (.bipush 64, 2) := by decide +kernel
theorem d_Mo_putEscaped_57 : decode prog_10_method_12_code 57 = .ok (.ixor, 1) := by decide +kernel
theorem d_Mo_putEscaped_58 : decode prog_10_method_12_code 58 = .ok (.invokevirtual 114, 3) := by decide +kernel
theorem d_Mo_putEscaped_61 : decode prog_10_method_12_code 61 = .ok (.goto 9, 3) := by decide +kernel
theorem d_Mo_putEscaped_64 : decode prog_10_method_12_code 64 = .ok (.aload_n 0, 1) := by decide +kernel
theorem d_Mo_putEscaped_65 : decode prog_10_method_12_code 65 = .ok (.iload_n 1, 1) := by decide +kernel
theorem d_Mo_putEscaped_66 : decode prog_10_method_12_code 66 = .ok (.iload_n 2, 1) := by decide +kernel
theorem d_Mo_putEscaped_67 : decode prog_10_method_12_code 67 = .ok (.invokevirtual 114, 3) := by decide +kernel
theorem d_Mo_putEscaped_70 : decode prog_10_method_12_code 70 = .ok (.return_, 1) := by decide +kernel
def rm_Mo_putEscaped : Room := { frames := 1, cells := 0, slots := 0, locals := 22 }
def wp_Mo_putEscaped_L45 (Q : UI → UR → Prop) (I : UI) (R : UR) (x1 : Int32) (x2 : Int32) : Prop :=
  wp_Mo_put I R x1 24 (fun I1 R2 => wp_Mo_put I1 R2 x1 (x2 ^^^ 64) (fun I3 R4 => Q I3 R4))
set_option maxHeartbeats 4000000 in
set_option maxRecDepth 100000 in
theorem j_Mo_putEscaped_45 (X : uX p s m args c prog_10_method_12_code 3 "FrameFerryModel" D cc L A t16 t32) (hr : meth.sig.returnType = none) (hlk : meth.locks = false) (hsz : sz = s.heap.size) {Q : UI → UR → Prop} {I : UI} {R : UR} {x1 : Int32} {x2 : Int32} {H : Heap} {locs : List Loc} {ls : Array Slot} (V : uV s D cc L A J I R H locs) (hl : lv_has ls 3 [(0, .ref (A 80)), (1, .int x1), (2, .int x2)]) (h : wp_Mo_putEscaped_L45 Q I R x1 x2) : W p l e rm_Mo_putEscaped s m args below meth c H locs 0 0 (MQ below (va_Qv (fun u : UI × UR => Q u.1 u.2) (uBv D cc L A J) (uA L A sz)) args s 0 0 (uA L A sz)) (F0 m 45 ls []) := by
  have hx := X.1
  have hb := X.2.1
  unfold wp_Mo_putEscaped_L45 at h
  refine lv_aload_n (pc := 45) hx hb d_Mo_putEscaped_45 rfl (lv_at hl 0 rfl) ?_
  refine lv_iload_n (pc := 46) hx hb d_Mo_putEscaped_46 rfl (lv_at hl 1 rfl) ?_
  refine lv_bipush (pc := 47) (v := 24) hx hb d_Mo_putEscaped_47 (by decide) ?_
  refine u_cVv (pc := 49) (As := [.int x1, .int 24]) X V s_Mo_114 (X.fix rfl) rfl rfl rfl (c_Mo_put l D cc L A J t16 t32 _ _ x1 24 _ h) ⟨rfl, rfl, Nat.le_of_ble_eq_true rfl, Nat.le_of_ble_eq_true rfl⟩ rfl hl.1 rfl (Nat.le_of_ble_eq_true rfl) d_Mo_putEscaped_49 ⟨Nat.zero_le _, Nat.zero_le _⟩ (fun I1 R2 h H locs V => ?_)
  refine lv_aload_n (pc := 52) hx hb d_Mo_putEscaped_52 rfl (lv_at hl 0 rfl) ?_
  refine lv_iload_n (pc := 53) hx hb d_Mo_putEscaped_53 rfl (lv_at hl 1 rfl) ?_
  refine lv_iload_n (pc := 54) hx hb d_Mo_putEscaped_54 rfl (lv_at hl 2 rfl) ?_
  refine lv_bipush (pc := 55) (v := 64) hx hb d_Mo_putEscaped_55 (by decide) ?_
  refine lv_ixor (pc := 57) hx hb d_Mo_putEscaped_57 ?_
  refine u_cVv (pc := 58) (As := [.int x1, .int (x2 ^^^ 64)]) X V s_Mo_114 (X.fix rfl) rfl rfl rfl (c_Mo_put l D cc L A J t16 t32 _ _ x1 (x2 ^^^ 64) _ h) ⟨rfl, rfl, Nat.le_of_ble_eq_true rfl, Nat.le_of_ble_eq_true rfl⟩ rfl hl.1 rfl (Nat.le_of_ble_eq_true rfl) d_Mo_putEscaped_58 ⟨Nat.zero_le _, Nat.zero_le _⟩ (fun I3 R4 h H locs V => ?_)
  refine lv_goto (pc := 61) (tgt := 70) hx hb d_Mo_putEscaped_61 (by decide) ?_
  exact u_retv (pc := 70) X V hr hlk hsz h d_Mo_putEscaped_70
def wp_Mo_putEscaped (I : UI) (R : UR) (x1 : Int32) (x2 : Int32) (Q : UI → UR → Prop) : Prop :=
  ((x2 = 16 → wp_Mo_putEscaped_L45 Q I R x1 x2) ∧ (¬ x2 = 16 → ((x2 = 17 → wp_Mo_putEscaped_L45 Q I R x1 x2) ∧ (¬ x2 = 17 → ((x2 = 19 → wp_Mo_putEscaped_L45 Q I R x1 x2) ∧ (¬ x2 = 19 → ((x2 = 24 → wp_Mo_putEscaped_L45 Q I R x1 x2) ∧ (¬ x2 = 24 → ((x2 = 144 → wp_Mo_putEscaped_L45 Q I R x1 x2) ∧ (¬ x2 = 144 → ((x2 = 145 → wp_Mo_putEscaped_L45 Q I R x1 x2) ∧ (¬ x2 = 145 → ((¬ x2 = 147 → wp_Mo_put I R x1 x2 (fun I5 R6 => Q I5 R6)) ∧ (x2 = 147 → wp_Mo_putEscaped_L45 Q I R x1 x2))))))))))))))
set_option maxHeartbeats 4000000 in
set_option maxRecDepth 100000 in
theorem c_Mo_putEscaped (l : Launch) (D : va_G) (cc : Nat → ClassId) (L : List Nat) (A : Nat → Nat) (J : Nat → Int64) (t16 t32 : Nat) (I : UI) (R : UR) (x1 : Int32) (x2 : Int32) (Q : UI → UR → Prop) (h : wp_Mo_putEscaped I R x1 x2 Q) : uMv l y_Mo_putEscaped (.code y_Mo_putEscaped prog_10_method_12_code 3 none) rm_Mo_putEscaped [.ref (A 80), .int x1, .int x2] D cc L A J t16 t32 I R Q := by
  intro sz
  refine u_entry (by decide) (Nat.le_of_ble_eq_true rfl) (fun p e s m args below meth c hsz X V hr hlk ls hl => ?_)
  have X : uX p s m args c prog_10_method_12_code 3 "FrameFerryModel" D cc L A t16 t32 := X
  have hx := X.1
  have hb := X.2.1
  have hl : lv_has ls 3 [(0, .ref (A 80)), (1, .int x1), (2, .int x2)] := hl
  unfold wp_Mo_putEscaped at h
  generalize hH : s.heap = H at V ⊢
  generalize hlo : ([] : List Loc) = locs at V ⊢
  refine lv_iload_n (pc := 0) hx hb d_Mo_putEscaped_0 rfl (lv_at hl 2 rfl) ?_
  refine lv_bipush (pc := 1) (v := 16) hx hb d_Mo_putEscaped_1 (by decide) ?_
  refine lv_icmp_eq (pc := 3) (tgt := 45) hx hb d_Mo_putEscaped_3 (by decide) (fun hc => ?_) (fun hc => ?_)
  · have h := h.1 hc
    exact j_Mo_putEscaped_45 X hr hlk hsz V (lv_sub hl [0, 1, 2] rfl) h
  · have h := h.2 hc
    refine lv_iload_n (pc := 6) hx hb d_Mo_putEscaped_6 rfl (lv_at hl 2 rfl) ?_
    refine lv_bipush (pc := 7) (v := 17) hx hb d_Mo_putEscaped_7 (by decide) ?_
    refine lv_icmp_eq (pc := 9) (tgt := 45) hx hb d_Mo_putEscaped_9 (by decide) (fun hc => ?_) (fun hc => ?_)
    · have h := h.1 hc
      exact j_Mo_putEscaped_45 X hr hlk hsz V (lv_sub hl [0, 1, 2] rfl) h
    · have h := h.2 hc
      refine lv_iload_n (pc := 12) hx hb d_Mo_putEscaped_12 rfl (lv_at hl 2 rfl) ?_
      refine lv_bipush (pc := 13) (v := 19) hx hb d_Mo_putEscaped_13 (by decide) ?_
      refine lv_icmp_eq (pc := 15) (tgt := 45) hx hb d_Mo_putEscaped_15 (by decide) (fun hc => ?_) (fun hc => ?_)
      · have h := h.1 hc
        exact j_Mo_putEscaped_45 X hr hlk hsz V (lv_sub hl [0, 1, 2] rfl) h
      · have h := h.2 hc
        refine lv_iload_n (pc := 18) hx hb d_Mo_putEscaped_18 rfl (lv_at hl 2 rfl) ?_
        refine lv_bipush (pc := 19) (v := 24) hx hb d_Mo_putEscaped_19 (by decide) ?_
        refine lv_icmp_eq (pc := 21) (tgt := 45) hx hb d_Mo_putEscaped_21 (by decide) (fun hc => ?_) (fun hc => ?_)
        · have h := h.1 hc
          exact j_Mo_putEscaped_45 X hr hlk hsz V (lv_sub hl [0, 1, 2] rfl) h
        · have h := h.2 hc
          refine lv_iload_n (pc := 24) hx hb d_Mo_putEscaped_24 rfl (lv_at hl 2 rfl) ?_
          refine lv_sipush (pc := 25) (v := 144) hx hb d_Mo_putEscaped_25 (by decide) ?_
          refine lv_icmp_eq (pc := 28) (tgt := 45) hx hb d_Mo_putEscaped_28 (by decide) (fun hc => ?_) (fun hc => ?_)
          · have h := h.1 hc
            exact j_Mo_putEscaped_45 X hr hlk hsz V (lv_sub hl [0, 1, 2] rfl) h
          · have h := h.2 hc
            refine lv_iload_n (pc := 31) hx hb d_Mo_putEscaped_31 rfl (lv_at hl 2 rfl) ?_
            refine lv_sipush (pc := 32) (v := 145) hx hb d_Mo_putEscaped_32 (by decide) ?_
            refine lv_icmp_eq (pc := 35) (tgt := 45) hx hb d_Mo_putEscaped_35 (by decide) (fun hc => ?_) (fun hc => ?_)
            · have h := h.1 hc
              exact j_Mo_putEscaped_45 X hr hlk hsz V (lv_sub hl [0, 1, 2] rfl) h
            · have h := h.2 hc
              refine lv_iload_n (pc := 38) hx hb d_Mo_putEscaped_38 rfl (lv_at hl 2 rfl) ?_
              refine lv_sipush (pc := 39) (v := 147) hx hb d_Mo_putEscaped_39 (by decide) ?_
              refine lv_icmp_ne (pc := 42) (tgt := 64) hx hb d_Mo_putEscaped_42 (by decide) (fun hc => ?_) (fun hc => ?_)
              · have h := h.1 hc
                refine lv_aload_n (pc := 64) hx hb d_Mo_putEscaped_64 rfl (lv_at hl 0 rfl) ?_
                refine lv_iload_n (pc := 65) hx hb d_Mo_putEscaped_65 rfl (lv_at hl 1 rfl) ?_
                refine lv_iload_n (pc := 66) hx hb d_Mo_putEscaped_66 rfl (lv_at hl 2 rfl) ?_
                refine u_cVv (pc := 67) (As := [.int x1, .int x2]) X V s_Mo_114 (X.fix rfl) rfl rfl rfl (c_Mo_put l D cc L A J t16 t32 _ _ x1 x2 _ h) ⟨rfl, rfl, Nat.le_of_ble_eq_true rfl, Nat.le_of_ble_eq_true rfl⟩ rfl hl.1 rfl (Nat.le_of_ble_eq_true rfl) d_Mo_putEscaped_67 ⟨Nat.zero_le _, Nat.zero_le _⟩ (fun I5 R6 h H locs V => ?_)
                exact u_retv (pc := 70) X V hr hlk hsz h d_Mo_putEscaped_70
              · have h := h.2 hc
                exact j_Mo_putEscaped_45 X hr hlk hsz V (lv_sub hl [0, 1, 2] rfl) h
-- FrameFerryModel.putDigits (II)V
theorem d_Mo_putDigits_0 : decode prog_10_method_13_code 0 = .ok (.iconst 4, 1) := by decide +kernel
theorem d_Mo_putDigits_1 : decode prog_10_method_13_code 1 = .ok (.istore_n 3, 1) := by decide +kernel
theorem d_Mo_putDigits_2 : decode prog_10_method_13_code 2 = .ok (.iload_n 3, 1) := by decide +kernel
theorem d_Mo_putDigits_3 : decode prog_10_method_13_code 3 = .ok (.ifCond .lt 46, 3) := by decide +kernel
theorem d_Mo_putDigits_6 : decode prog_10_method_13_code 6 = .ok (.iload_n 2, 1) := by decide +kernel
theorem d_Mo_putDigits_7 : decode prog_10_method_13_code 7 = .ok (.iload_n 3, 1) := by decide +kernel
theorem d_Mo_putDigits_8 : decode prog_10_method_13_code 8 = .ok (.ishr, 1) := by decide +kernel
theorem d_Mo_putDigits_9 : decode prog_10_method_13_code 9 = .ok (.bipush 15, 2) := by decide +kernel
theorem d_Mo_putDigits_11 : decode prog_10_method_13_code 11 = .ok (.iand, 1) := by decide +kernel
theorem d_Mo_putDigits_12 : decode prog_10_method_13_code 12 = .ok (.istore 4, 2) := by decide +kernel
theorem d_Mo_putDigits_14 : decode prog_10_method_13_code 14 = .ok (.aload_n 0, 1) := by decide +kernel
theorem d_Mo_putDigits_15 : decode prog_10_method_13_code 15 = .ok (.iload_n 1, 1) := by decide +kernel
theorem d_Mo_putDigits_16 : decode prog_10_method_13_code 16 = .ok (.iload 4, 2) := by decide +kernel
theorem d_Mo_putDigits_18 : decode prog_10_method_13_code 18 = .ok (.bipush 10, 2) := by decide +kernel
theorem d_Mo_putDigits_20 : decode prog_10_method_13_code 20 = .ok (.if_icmp .ge 11, 3) := by decide +kernel
theorem d_Mo_putDigits_23 : decode prog_10_method_13_code 23 = .ok (.bipush 48, 2) := by decide +kernel
theorem d_Mo_putDigits_25 : decode prog_10_method_13_code 25 = .ok (.iload 4, 2) := by decide +kernel
theorem d_Mo_putDigits_27 : decode prog_10_method_13_code 27 = .ok (.iadd, 1) := by decide +kernel
theorem d_Mo_putDigits_28 : decode prog_10_method_13_code 28 = .ok (.goto 11, 3) := by decide +kernel
theorem d_Mo_putDigits_31 : decode prog_10_method_13_code 31 = .ok (.bipush 97, 2) := by decide +kernel
theorem d_Mo_putDigits_33 : decode prog_10_method_13_code 33 = .ok (.iload 4, 2) := by decide +kernel
theorem d_Mo_putDigits_35 : decode prog_10_method_13_code 35 = .ok (.iadd, 1) := by decide +kernel
theorem d_Mo_putDigits_36 : decode prog_10_method_13_code 36 = .ok (.bipush 10, 2) := by decide +kernel
theorem d_Mo_putDigits_38 : decode prog_10_method_13_code 38 = .ok (.isub, 1) := by decide +kernel
theorem d_Mo_putDigits_39 : decode prog_10_method_13_code 39 = .ok (.invokevirtual 114, 3) := by decide +kernel
theorem d_Mo_putDigits_42 : decode prog_10_method_13_code 42 = .ok (.iload_n 3, 1) := by decide +kernel
theorem d_Mo_putDigits_43 : decode prog_10_method_13_code 43 = .ok (.iconst 4, 1) := by decide +kernel
theorem d_Mo_putDigits_44 : decode prog_10_method_13_code 44 = .ok (.isub, 1) := by decide +kernel
theorem d_Mo_putDigits_45 : decode prog_10_method_13_code 45 = .ok (.istore_n 3, 1) := by decide +kernel
theorem d_Mo_putDigits_46 : decode prog_10_method_13_code 46 = .ok (.goto (-44), 3) := by decide +kernel
theorem d_Mo_putDigits_49 : decode prog_10_method_13_code 49 = .ok (.return_, 1) := by decide +kernel
def rm_Mo_putDigits : Room := { frames := 1, cells := 0, slots := 0, locals := 22 }
def wp_Mo_putDigits_L39 (Q : UI → UR → Prop) (K2 : UI → UR → Int32 → Int32 → Int32 → Prop) (I : UI) (R : UR) (x1 : Int32) (x2 : Int32) (x3 : Int32) (s0 : Int32) (s1 : Int32) : Prop :=
  wp_Mo_put I R s1 s0 (fun I2 R3 => ∀ v4 : Int32, v4 = x3 - 4 → K2 I2 R3 x1 x2 v4)
set_option maxHeartbeats 4000000 in
set_option maxRecDepth 100000 in
theorem j_Mo_putDigits_39 (X : uX p s m args c prog_10_method_13_code 5 "FrameFerryModel" D cc L A t16 t32) (hr : meth.sig.returnType = none) (hlk : meth.locks = false) (hsz : sz = s.heap.size) {Q : UI → UR → Prop} {K2 : UI → UR → Int32 → Int32 → Int32 → Prop} (hK2 : ∀ (I : UI) (R : UR) (x1 : Int32) (x2 : Int32) (x3 : Int32) (H : Heap) (locs : List Loc) (ls : Array Slot), uV s D cc L A J I R H locs → lv_has ls 5 [(0, .ref (A 80)), (1, .int x1), (2, .int x2), (3, .int x3)] → K2 I R x1 x2 x3 → W p l e rm_Mo_putDigits s m args below meth c H locs 0 0 (MQ below (va_Qv (fun u : UI × UR => Q u.1 u.2) (uBv D cc L A J) (uA L A sz)) args s 0 0 (uA L A sz)) (F0 m 2 ls [])) {I : UI} {R : UR} {x1 : Int32} {x2 : Int32} {x3 : Int32} {s0 : Int32} {s1 : Int32} {H : Heap} {locs : List Loc} {ls : Array Slot} (V : uV s D cc L A J I R H locs) (hl : lv_has ls 5 [(0, .ref (A 80)), (1, .int x1), (2, .int x2), (3, .int x3)]) (h : wp_Mo_putDigits_L39 Q K2 I R x1 x2 x3 s0 s1) : W p l e rm_Mo_putDigits s m args below meth c H locs 0 0 (MQ below (va_Qv (fun u : UI × UR => Q u.1 u.2) (uBv D cc L A J) (uA L A sz)) args s 0 0 (uA L A sz)) (F0 m 39 ls [.int s0, .int s1, .ref (A 80)]) := by
  have hx := X.1
  have hb := X.2.1
  unfold wp_Mo_putDigits_L39 at h
  refine u_cVv (pc := 39) (As := [.int s1, .int s0]) X V s_Mo_114 (X.fix rfl) rfl rfl rfl (c_Mo_put l D cc L A J t16 t32 _ _ s1 s0 _ h) ⟨rfl, rfl, Nat.le_of_ble_eq_true rfl, Nat.le_of_ble_eq_true rfl⟩ rfl hl.1 rfl (Nat.le_of_ble_eq_true rfl) d_Mo_putDigits_39 ⟨Nat.zero_le _, Nat.zero_le _⟩ (fun I2 R3 h H locs V => ?_)
  refine lv_iload_n (pc := 42) hx hb d_Mo_putDigits_42 rfl (lv_at hl 3 rfl) ?_
  refine lv_iconst (pc := 43) (v := 4) hx hb d_Mo_putDigits_43 (by decide) ?_
  refine lv_isub (pc := 44) hx hb d_Mo_putDigits_44 ?_
  refine lv_topi (fun v4 ev4 => ?_)
  have h := h v4 ev4
  refine lv_istore_n (pc := 45) (lv' := [(3, .int v4), (0, .ref (A 80)), (1, .int x1), (2, .int x2)]) hx hb d_Mo_putDigits_45 rfl hl (by decide) rfl (fun ls hl => ?_)
  refine lv_goto (pc := 46) (tgt := 2) hx hb d_Mo_putDigits_46 (by decide) ?_
  exact hK2 I2 R3 x1 x2 v4 H locs ls V (lv_sub hl [1, 2, 3, 0] rfl) h
def wp_Mo_putDigits_L2 (Q : UI → UR → Prop) : Nat → UI → UR → Int32 → Int32 → Int32 → Prop
  | 0, _, _, _, _, _ => False
  | n + 1, I, R, x1, x2, x3 => ((x3 < 0 → Q I R) ∧ (¬ x3 < 0 → ∀ v1 : Int32, v1 = (x2 >>> (x3 &&& 31)) &&& 15 → ((10 ≤ v1 → wp_Mo_putDigits_L39 Q (fun I R x1 x2 x3 => wp_Mo_putDigits_L2 Q n I R x1 x2 x3) I R x1 x2 x3 ((97 + v1) - 10) x1) ∧ (¬ 10 ≤ v1 → wp_Mo_putDigits_L39 Q (fun I R x1 x2 x3 => wp_Mo_putDigits_L2 Q n I R x1 x2 x3) I R x1 x2 x3 (48 + v1) x1))))
set_option maxHeartbeats 4000000 in
set_option maxRecDepth 100000 in
theorem j_Mo_putDigits_2 (X : uX p s m args c prog_10_method_13_code 5 "FrameFerryModel" D cc L A t16 t32) (hr : meth.sig.returnType = none) (hlk : meth.locks = false) (hsz : sz = s.heap.size) {Q : UI → UR → Prop} : ∀ (n : Nat) (I : UI) (R : UR) (x1 : Int32) (x2 : Int32) (x3 : Int32) (H : Heap) (locs : List Loc) (ls : Array Slot), uV s D cc L A J I R H locs → lv_has ls 5 [(0, .ref (A 80)), (1, .int x1), (2, .int x2), (3, .int x3)] → wp_Mo_putDigits_L2 Q n I R x1 x2 x3 → W p l e rm_Mo_putDigits s m args below meth c H locs 0 0 (MQ below (va_Qv (fun u : UI × UR => Q u.1 u.2) (uBv D cc L A J) (uA L A sz)) args s 0 0 (uA L A sz)) (F0 m 2 ls []) := by
  intro n
  induction n with
  | zero => exact fun I R x1 x2 x3 H locs ls V hl h => False.elim h
  | succ n ih =>
    intro I R x1 x2 x3 H locs ls V hl h
    have hx := X.1
    have hb := X.2.1
    rw [wp_Mo_putDigits_L2] at h
    refine lv_iload_n (pc := 2) hx hb d_Mo_putDigits_2 rfl (lv_at hl 3 rfl) ?_
    refine lv_if_lt (pc := 3) (tgt := 49) hx hb d_Mo_putDigits_3 (by decide) (fun hc => ?_) (fun hc => ?_)
    · have h := h.1 hc
      exact u_retv (pc := 49) X V hr hlk hsz h d_Mo_putDigits_49
    · have h := h.2 hc
      refine lv_iload_n (pc := 6) hx hb d_Mo_putDigits_6 rfl (lv_at hl 2 rfl) ?_
      refine lv_iload_n (pc := 7) hx hb d_Mo_putDigits_7 rfl (lv_at hl 3 rfl) ?_
      refine lv_ishr (pc := 8) hx hb d_Mo_putDigits_8 ?_
      refine lv_bipush (pc := 9) (v := 15) hx hb d_Mo_putDigits_9 (by decide) ?_
      refine lv_iand (pc := 11) hx hb d_Mo_putDigits_11 ?_
      refine lv_topi (fun v1 ev1 => ?_)
      have h := h v1 ev1
      refine lv_istore (pc := 12) (lv' := [(4, .int v1), (0, .ref (A 80)), (1, .int x1), (2, .int x2), (3, .int x3)]) hx hb d_Mo_putDigits_12 hl (by decide) rfl (fun ls hl => ?_)
      refine lv_aload_n (pc := 14) hx hb d_Mo_putDigits_14 rfl (lv_at hl 1 rfl) ?_
      refine lv_iload_n (pc := 15) hx hb d_Mo_putDigits_15 rfl (lv_at hl 2 rfl) ?_
      refine lv_iload (pc := 16) hx hb d_Mo_putDigits_16 (lv_at hl 0 rfl) ?_
      refine lv_bipush (pc := 18) (v := 10) hx hb d_Mo_putDigits_18 (by decide) ?_
      refine lv_icmp_ge (pc := 20) (tgt := 31) hx hb d_Mo_putDigits_20 (by decide) (fun hc => ?_) (fun hc => ?_)
      · have h := h.1 hc
        refine lv_bipush (pc := 31) (v := 97) hx hb d_Mo_putDigits_31 (by decide) ?_
        refine lv_iload (pc := 33) hx hb d_Mo_putDigits_33 (lv_at hl 0 rfl) ?_
        refine lv_iadd (pc := 35) hx hb d_Mo_putDigits_35 ?_
        refine lv_bipush (pc := 36) (v := 10) hx hb d_Mo_putDigits_36 (by decide) ?_
        refine lv_isub (pc := 38) hx hb d_Mo_putDigits_38 ?_
        exact j_Mo_putDigits_39 X hr hlk hsz ih V (lv_sub hl [1, 2, 3, 4] rfl) h
      · have h := h.2 hc
        refine lv_bipush (pc := 23) (v := 48) hx hb d_Mo_putDigits_23 (by decide) ?_
        refine lv_iload (pc := 25) hx hb d_Mo_putDigits_25 (lv_at hl 0 rfl) ?_
        refine lv_iadd (pc := 27) hx hb d_Mo_putDigits_27 ?_
        refine lv_goto (pc := 28) (tgt := 39) hx hb d_Mo_putDigits_28 (by decide) ?_
        exact j_Mo_putDigits_39 X hr hlk hsz ih V (lv_sub hl [1, 2, 3, 4] rfl) h
def wp_Mo_putDigits (I : UI) (R : UR) (x1 : Int32) (x2 : Int32) (Q : UI → UR → Prop) : Prop :=
  (∃ n2 : Nat, wp_Mo_putDigits_L2 Q n2 I R x1 x2 4)
set_option maxHeartbeats 4000000 in
set_option maxRecDepth 100000 in
theorem c_Mo_putDigits (l : Launch) (D : va_G) (cc : Nat → ClassId) (L : List Nat) (A : Nat → Nat) (J : Nat → Int64) (t16 t32 : Nat) (I : UI) (R : UR) (x1 : Int32) (x2 : Int32) (Q : UI → UR → Prop) (h : wp_Mo_putDigits I R x1 x2 Q) : uMv l y_Mo_putDigits (.code y_Mo_putDigits prog_10_method_13_code 5 none) rm_Mo_putDigits [.ref (A 80), .int x1, .int x2] D cc L A J t16 t32 I R Q := by
  intro sz
  refine u_entry (by decide) (Nat.le_of_ble_eq_true rfl) (fun p e s m args below meth c hsz X V hr hlk ls hl => ?_)
  have X : uX p s m args c prog_10_method_13_code 5 "FrameFerryModel" D cc L A t16 t32 := X
  have hx := X.1
  have hb := X.2.1
  have hl : lv_has ls 5 [(0, .ref (A 80)), (1, .int x1), (2, .int x2)] := hl
  unfold wp_Mo_putDigits at h
  generalize hH : s.heap = H at V ⊢
  generalize hlo : ([] : List Loc) = locs at V ⊢
  refine lv_iconst (pc := 0) (v := 4) hx hb d_Mo_putDigits_0 (by decide) ?_
  refine lv_istore_n (pc := 1) (lv' := [(3, .int 4), (0, .ref (A 80)), (1, .int x1), (2, .int x2)]) hx hb d_Mo_putDigits_1 rfl hl (by decide) rfl (fun ls hl => ?_)
  obtain ⟨n2, h⟩ := h
  exact j_Mo_putDigits_2 X hr hlk hsz n2 I R x1 x2 4 H locs ls V (lv_sub hl [1, 2, 3, 0] rfl) h
-- FrameFerryModel.header (II)V
theorem d_Mo_header_0 : decode prog_10_method_14_code 0 = .ok (.aload_n 0, 1) := by decide +kernel
theorem d_Mo_header_1 : decode prog_10_method_14_code 1 = .ok (.getfield 79, 3) := by decide +kernel
theorem d_Mo_header_4 : decode prog_10_method_14_code 4 = .ok (.iconst 0, 1) := by decide +kernel
theorem d_Mo_header_5 : decode prog_10_method_14_code 5 = .ok (.iload_n 1, 1) := by decide +kernel
theorem d_Mo_header_6 : decode prog_10_method_14_code 6 = .ok (.iastore, 1) := by decide +kernel
theorem d_Mo_header_7 : decode prog_10_method_14_code 7 = .ok (.iconst 0, 1) := by decide +kernel
theorem d_Mo_header_8 : decode prog_10_method_14_code 8 = .ok (.istore_n 3, 1) := by decide +kernel
theorem d_Mo_header_9 : decode prog_10_method_14_code 9 = .ok (.iload_n 3, 1) := by decide +kernel
theorem d_Mo_header_10 : decode prog_10_method_14_code 10 = .ok (.iconst 4, 1) := by decide +kernel
theorem d_Mo_header_11 : decode prog_10_method_14_code 11 = .ok (.if_icmp .ge 27, 3) := by decide +kernel
theorem d_Mo_header_14 : decode prog_10_method_14_code 14 = .ok (.aload_n 0, 1) := by decide +kernel
theorem d_Mo_header_15 : decode prog_10_method_14_code 15 = .ok (.getfield 79, 3) := by decide +kernel
theorem d_Mo_header_18 : decode prog_10_method_14_code 18 = .ok (.iconst 1, 1) := by decide +kernel
theorem d_Mo_header_19 : decode prog_10_method_14_code 19 = .ok (.iload_n 3, 1) := by decide +kernel
theorem d_Mo_header_20 : decode prog_10_method_14_code 20 = .ok (.iadd, 1) := by decide +kernel
theorem d_Mo_header_21 : decode prog_10_method_14_code 21 = .ok (.iload_n 2, 1) := by decide +kernel
theorem d_Mo_header_22 : decode prog_10_method_14_code 22 = .ok (.bipush 8, 2) := by decide +kernel
theorem d_Mo_header_24 : decode prog_10_method_14_code 24 = .ok (.iload_n 3, 1) := by decide +kernel
theorem d_Mo_header_25 : decode prog_10_method_14_code 25 = .ok (.imul, 1) := by decide +kernel
theorem d_Mo_header_26 : decode prog_10_method_14_code 26 = .ok (.ishr, 1) := by decide +kernel
theorem d_Mo_header_27 : decode prog_10_method_14_code 27 = .ok (.sipush 255, 3) := by decide +kernel
theorem d_Mo_header_30 : decode prog_10_method_14_code 30 = .ok (.iand, 1) := by decide +kernel
theorem d_Mo_header_31 : decode prog_10_method_14_code 31 = .ok (.iastore, 1) := by decide +kernel
theorem d_Mo_header_32 : decode prog_10_method_14_code 32 = .ok (.iinc 3 1, 3) := by decide +kernel
theorem d_Mo_header_35 : decode prog_10_method_14_code 35 = .ok (.goto (-26), 3) := by decide +kernel
theorem d_Mo_header_38 : decode prog_10_method_14_code 38 = .ok (.return_, 1) := by decide +kernel
def rm_Mo_header : Room := { frames := 0, cells := 0, slots := 0, locals := 0 }
def wp_Mo_header_L9 (Q : UI → UR → Prop) : Nat → UI → UR → Int32 → Int32 → Prop
  | 0, _, _, _, _ => False
  | n + 1, I, R, x2, x3 => ((4 ≤ x3 → Q I R) ∧ (¬ 4 ≤ x3 → vp_in (1 + x3) 160 ∧ ∀ I2 : UI, I2 = u2 I 110 ((1 + x3).toNatClampNeg) ((x2 >>> (8 * x3 &&& 31)) &&& 255) → ∀ v3 : Int32, v3 = x3 + 1 → wp_Mo_header_L9 Q n I2 R x2 v3))
set_option maxHeartbeats 4000000 in
set_option maxRecDepth 100000 in
theorem j_Mo_header_9 (X : uX p s m args c prog_10_method_14_code 4 "FrameFerryModel" D cc L A t16 t32) (hr : meth.sig.returnType = none) (hlk : meth.locks = false) (hsz : sz = s.heap.size) {Q : UI → UR → Prop} : ∀ (n : Nat) (I : UI) (R : UR) (x2 : Int32) (x3 : Int32) (H : Heap) (locs : List Loc) (ls : Array Slot), uV s D cc L A J I R H locs → lv_has ls 4 [(0, .ref (A 80)), (2, .int x2), (3, .int x3)] → wp_Mo_header_L9 Q n I R x2 x3 → W p l e rm_Mo_header s m args below meth c H locs 0 0 (MQ below (va_Qv (fun u : UI × UR => Q u.1 u.2) (uBv D cc L A J) (uA L A sz)) args s 0 0 (uA L A sz)) (F0 m 9 ls []) := by
  intro n
  induction n with
  | zero => exact fun I R x2 x3 H locs ls V hl h => False.elim h
  | succ n ih =>
    intro I R x2 x3 H locs ls V hl h
    have hx := X.1
    have hb := X.2.1
    rw [wp_Mo_header_L9] at h
    refine lv_iload_n (pc := 9) hx hb d_Mo_header_9 rfl (lv_at hl 2 rfl) ?_
    refine lv_iconst (pc := 10) (v := 4) hx hb d_Mo_header_10 (by decide) ?_
    refine lv_icmp_ge (pc := 11) (tgt := 38) hx hb d_Mo_header_11 (by decide) (fun hc => ?_) (fun hc => ?_)
    · have h := h.1 hc
      exact u_retv (pc := 38) X V hr hlk hsz h d_Mo_header_38
    · have h := h.2 hc
      refine lv_aload_n (pc := 14) hx hb d_Mo_header_14 rfl (lv_at hl 0 rfl) ?_
      refine u_getr (pc := 15) (o' := 110) X V (X.fix rfl) rfl rfl f_Mo_79 rfl rfl d_Mo_header_15 ?_
      refine lv_iconst (pc := 18) (v := 1) hx hb d_Mo_header_18 (by decide) ?_
      refine lv_iload_n (pc := 19) hx hb d_Mo_header_19 rfl (lv_at hl 2 rfl) ?_
      refine lv_iadd (pc := 20) hx hb d_Mo_header_20 ?_
      refine lv_iload_n (pc := 21) hx hb d_Mo_header_21 rfl (lv_at hl 1 rfl) ?_
      refine lv_bipush (pc := 22) (v := 8) hx hb d_Mo_header_22 (by decide) ?_
      refine lv_iload_n (pc := 24) hx hb d_Mo_header_24 rfl (lv_at hl 2 rfl) ?_
      refine lv_imul (pc := 25) hx hb d_Mo_header_25 ?_
      refine lv_ishr (pc := 26) hx hb d_Mo_header_26 ?_
      refine lv_sipush (pc := 27) (v := 255) hx hb d_Mo_header_27 (by decide) ?_
      refine lv_iand (pc := 30) hx hb d_Mo_header_30 ?_
      refine u_iast (pc := 31) X V (X.fix rfl) rfl rfl h.1 d_Mo_header_31 (fun I2 eI2 H locs V => ?_)
      have h := h.2 I2 eI2
      obtain ⟨v3, ev3⟩ : ∃ z : Int32, z = x3 + 1 := ⟨_, rfl⟩
      have h := h v3 ev3
      refine lv_iinc (pc := 32) (k := 2) (v := v3) (lv' := [(3, .int v3), (0, .ref (A 80)), (2, .int x2)]) hx hb d_Mo_header_32 hl rfl (by rw [ev3]; rfl) (by decide) rfl (fun ls hl => ?_)
      refine lv_goto (pc := 35) (tgt := 9) hx hb d_Mo_header_35 (by decide) ?_
      exact ih I2 R x2 v3 H locs ls V (lv_sub hl [1, 2, 0] rfl) h
def wp_Mo_header (I : UI) (R : UR) (x1 : Int32) (x2 : Int32) (Q : UI → UR → Prop) : Prop :=
  vp_in 0 160 ∧ ∀ I1 : UI, I1 = u2 I 110 ((0 : Int32).toNatClampNeg) x1 → (∃ n9 : Nat, wp_Mo_header_L9 Q n9 I1 R x2 0)
set_option maxHeartbeats 4000000 in
set_option maxRecDepth 100000 in
theorem c_Mo_header (l : Launch) (D : va_G) (cc : Nat → ClassId) (L : List Nat) (A : Nat → Nat) (J : Nat → Int64) (t16 t32 : Nat) (I : UI) (R : UR) (x1 : Int32) (x2 : Int32) (Q : UI → UR → Prop) (h : wp_Mo_header I R x1 x2 Q) : uMv l y_Mo_header (.code y_Mo_header prog_10_method_14_code 4 none) rm_Mo_header [.ref (A 80), .int x1, .int x2] D cc L A J t16 t32 I R Q := by
  intro sz
  refine u_entry (by decide) (Nat.le_of_ble_eq_true rfl) (fun p e s m args below meth c hsz X V hr hlk ls hl => ?_)
  have X : uX p s m args c prog_10_method_14_code 4 "FrameFerryModel" D cc L A t16 t32 := X
  have hx := X.1
  have hb := X.2.1
  have hl : lv_has ls 4 [(0, .ref (A 80)), (1, .int x1), (2, .int x2)] := hl
  unfold wp_Mo_header at h
  generalize hH : s.heap = H at V ⊢
  generalize hlo : ([] : List Loc) = locs at V ⊢
  refine lv_aload_n (pc := 0) hx hb d_Mo_header_0 rfl (lv_at hl 0 rfl) ?_
  refine u_getr (pc := 1) (o' := 110) X V (X.fix rfl) rfl rfl f_Mo_79 rfl rfl d_Mo_header_1 ?_
  refine lv_iconst (pc := 4) (v := 0) hx hb d_Mo_header_4 (by decide) ?_
  refine lv_iload_n (pc := 5) hx hb d_Mo_header_5 rfl (lv_at hl 1 rfl) ?_
  refine u_iast (pc := 6) X V (X.fix rfl) rfl rfl h.1 d_Mo_header_6 (fun I1 eI1 H locs V => ?_)
  have h := h.2 I1 eI1
  refine lv_iconst (pc := 7) (v := 0) hx hb d_Mo_header_7 (by decide) ?_
  refine lv_istore_n (pc := 8) (lv' := [(3, .int 0), (0, .ref (A 80)), (1, .int x1), (2, .int x2)]) hx hb d_Mo_header_8 rfl hl (by decide) rfl (fun ls hl => ?_)
  obtain ⟨n9, h⟩ := h
  exact j_Mo_header_9 X hr hlk hsz n9 I1 R x2 0 H locs ls V (lv_sub hl [1, 3, 0] rfl) h
-- FrameFerryModel.sendHex (III)V
theorem d_Mo_sendHex_0 : decode prog_10_method_15_code 0 = .ok (.aload_n 0, 1) := by decide +kernel
theorem d_Mo_sendHex_1 : decode prog_10_method_15_code 1 = .ok (.iload_n 2, 1) := by decide +kernel
theorem d_Mo_sendHex_2 : decode prog_10_method_15_code 2 = .ok (.iload_n 3, 1) := by decide +kernel
theorem d_Mo_sendHex_3 : decode prog_10_method_15_code 3 = .ok (.invokevirtual 118, 3) := by decide +kernel
theorem d_Mo_sendHex_6 : decode prog_10_method_15_code 6 = .ok (.aload_n 0, 1) := by decide +kernel
theorem d_Mo_sendHex_7 : decode prog_10_method_15_code 7 = .ok (.iload_n 1, 1) := by decide +kernel
theorem d_Mo_sendHex_8 : decode prog_10_method_15_code 8 = .ok (.bipush 42, 2) := by decide +kernel
theorem d_Mo_sendHex_10 : decode prog_10_method_15_code 10 = .ok (.invokevirtual 114, 3) := by decide +kernel
theorem d_Mo_sendHex_13 : decode prog_10_method_15_code 13 = .ok (.aload_n 0, 1) := by decide +kernel
theorem d_Mo_sendHex_14 : decode prog_10_method_15_code 14 = .ok (.iload_n 1, 1) := by decide +kernel
theorem d_Mo_sendHex_15 : decode prog_10_method_15_code 15 = .ok (.bipush 42, 2) := by decide +kernel
theorem d_Mo_sendHex_17 : decode prog_10_method_15_code 17 = .ok (.invokevirtual 114, 3) := by decide +kernel
theorem d_Mo_sendHex_20 : decode prog_10_method_15_code 20 = .ok (.aload_n 0, 1) := by decide +kernel
theorem d_Mo_sendHex_21 : decode prog_10_method_15_code 21 = .ok (.iload_n 1, 1) := by decide +kernel
theorem d_Mo_sendHex_22 : decode prog_10_method_15_code 22 = .ok (.bipush 24, 2) := by decide +kernel
theorem d_Mo_sendHex_24 : decode prog_10_method_15_code 24 = .ok (.invokevirtual 114, 3) := by decide +kernel
theorem d_Mo_sendHex_27 : decode prog_10_method_15_code 27 = .ok (.aload_n 0, 1) := by decide +kernel
theorem d_Mo_sendHex_28 : decode prog_10_method_15_code 28 = .ok (.iload_n 1, 1) := by decide +kernel
theorem d_Mo_sendHex_29 : decode prog_10_method_15_code 29 = .ok (.bipush 66, 2) := by decide +kernel
theorem d_Mo_sendHex_31 : decode prog_10_method_15_code 31 = .ok (.invokevirtual 114, 3) := by decide +kernel
theorem d_Mo_sendHex_34 : decode prog_10_method_15_code 34 = .ok (.iconst 0, 1) := by decide +kernel
theorem d_Mo_sendHex_35 : decode prog_10_method_15_code 35 = .ok (.istore 4, 2) := by decide +kernel
theorem d_Mo_sendHex_37 : decode prog_10_method_15_code 37 = .ok (.iload 4, 2) := by decide +kernel
theorem d_Mo_sendHex_39 : decode prog_10_method_15_code 39 = .ok (.iconst 5, 1) := by decide +kernel
theorem d_Mo_sendHex_40 : decode prog_10_method_15_code 40 = .ok (.if_icmp .ge 21, 3) := by decide +kernel
theorem d_Mo_sendHex_43 : decode prog_10_method_15_code 43 = .ok (.aload_n 0, 1) := by decide +kernel
theorem d_Mo_sendHex_44 : decode prog_10_method_15_code 44 = .ok (.iload_n 1, 1) := by decide +kernel
theorem d_Mo_sendHex_45 : decode prog_10_method_15_code 45 = .ok (.aload_n 0, 1) := by decide +kernel
theorem d_Mo_sendHex_46 : decode prog_10_method_15_code 46 = .ok (.getfield 79, 3) := by decide +kernel
theorem d_Mo_sendHex_49 : decode prog_10_method_15_code 49 = .ok (.iload 4, 2) := by decide +kernel
theorem d_Mo_sendHex_51 : decode prog_10_method_15_code 51 = .ok (.iaload, 1) := by decide +kernel
theorem d_Mo_sendHex_52 : decode prog_10_method_15_code 52 = .ok (.invokevirtual 121, 3) := by decide +kernel
theorem d_Mo_sendHex_55 : decode prog_10_method_15_code 55 = .ok (.iinc 4 1, 3) := by decide +kernel
theorem d_Mo_sendHex_58 : decode prog_10_method_15_code 58 = .ok (.goto (-21), 3) := by decide +kernel
theorem d_Mo_sendHex_61 : decode prog_10_method_15_code 61 = .ok (.iconst 0, 1) := by decide +kernel
theorem d_Mo_sendHex_62 : decode prog_10_method_15_code 62 = .ok (.istore 4, 2) := by decide +kernel
theorem d_Mo_sendHex_64 : decode prog_10_method_15_code 64 = .ok (.iload 4, 2) := by decide +kernel
theorem d_Mo_sendHex_66 : decode prog_10_method_15_code 66 = .ok (.iconst 2, 1) := by decide +kernel
theorem d_Mo_sendHex_67 : decode prog_10_method_15_code 67 = .ok (.if_icmp .ge 26, 3) := by decide +kernel
theorem d_Mo_sendHex_70 : decode prog_10_method_15_code 70 = .ok (.aload_n 0, 1) := by decide +kernel
theorem d_Mo_sendHex_71 : decode prog_10_method_15_code 71 = .ok (.iload_n 1, 1) := by decide +kernel
theorem d_Mo_sendHex_72 : decode prog_10_method_15_code 72 = .ok (.aload_n 0, 1) := by decide +kernel
theorem d_Mo_sendHex_73 : decode prog_10_method_15_code 73 = .ok (.getfield 79, 3) := by decide +kernel
theorem d_Mo_sendHex_76 : decode prog_10_method_15_code 76 = .ok (.iconst 0, 1) := by decide +kernel
theorem d_Mo_sendHex_77 : decode prog_10_method_15_code 77 = .ok (.iconst 5, 1) := by decide +kernel
theorem d_Mo_sendHex_78 : decode prog_10_method_15_code 78 = .ok (.iconst 0, 1) := by decide +kernel
theorem d_Mo_sendHex_79 : decode prog_10_method_15_code 79 = .ok (.iload 4, 2) := by decide +kernel
theorem d_Mo_sendHex_81 : decode prog_10_method_15_code 81 = .ok (.invokestatic 124, 3) := by decide +kernel
theorem d_Mo_sendHex_84 : decode prog_10_method_15_code 84 = .ok (.invokevirtual 121, 3) := by decide +kernel
theorem d_Mo_sendHex_87 : decode prog_10_method_15_code 87 = .ok (.iinc 4 1, 3) := by decide +kernel
theorem d_Mo_sendHex_90 : decode prog_10_method_15_code 90 = .ok (.goto (-26), 3) := by decide +kernel
theorem d_Mo_sendHex_93 : decode prog_10_method_15_code 93 = .ok (.aload_n 0, 1) := by decide +kernel
theorem d_Mo_sendHex_94 : decode prog_10_method_15_code 94 = .ok (.iload_n 1, 1) := by decide +kernel
theorem d_Mo_sendHex_95 : decode prog_10_method_15_code 95 = .ok (.bipush 13, 2) := by decide +kernel
theorem d_Mo_sendHex_97 : decode prog_10_method_15_code 97 = .ok (.invokevirtual 114, 3) := by decide +kernel
theorem d_Mo_sendHex_100 : decode prog_10_method_15_code 100 = .ok (.aload_n 0, 1) := by decide +kernel
theorem d_Mo_sendHex_101 : decode prog_10_method_15_code 101 = .ok (.iload_n 1, 1) := by decide +kernel
theorem d_Mo_sendHex_102 : decode prog_10_method_15_code 102 = .ok (.bipush 10, 2) := by decide +kernel
theorem d_Mo_sendHex_104 : decode prog_10_method_15_code 104 = .ok (.invokevirtual 114, 3) := by decide +kernel
theorem d_Mo_sendHex_107 : decode prog_10_method_15_code 107 = .ok (.return_, 1) := by decide +kernel
def rm_Mo_sendHex : Room := { frames := 2, cells := 0, slots := 0, locals := 50 }
def wp_Mo_sendHex_L64 (Q : UI → UR → Prop) : Nat → UI → UR → Int32 → Int32 → Prop
  | 0, _, _, _, _ => False
  | n + 1, I, R, x1, x4 => ((2 ≤ x4 → wp_Mo_put I R x1 13 (fun I11 R12 => wp_Mo_put I11 R12 x1 10 (fun I13 R14 => Q I13 R14))) ∧ (¬ 2 ≤ x4 → wp_Mo_checkByte I R 110 0 5 0 x4 (fun r17 I15 R16 => wp_Mo_putDigits I15 R16 x1 r17 (fun I18 R19 => ∀ v20 : Int32, v20 = x4 + 1 → wp_Mo_sendHex_L64 Q n I18 R19 x1 v20))))
set_option maxHeartbeats 4000000 in
set_option maxRecDepth 100000 in
theorem j_Mo_sendHex_64 (X : uX p s m args c prog_10_method_15_code 5 "FrameFerryModel" D cc L A t16 t32) (hr : meth.sig.returnType = none) (hlk : meth.locks = false) (hsz : sz = s.heap.size) {Q : UI → UR → Prop} : ∀ (n : Nat) (I : UI) (R : UR) (x1 : Int32) (x4 : Int32) (H : Heap) (locs : List Loc) (ls : Array Slot), uV s D cc L A J I R H locs → lv_has ls 5 [(0, .ref (A 80)), (1, .int x1), (4, .int x4)] → wp_Mo_sendHex_L64 Q n I R x1 x4 → W p l e rm_Mo_sendHex s m args below meth c H locs 0 0 (MQ below (va_Qv (fun u : UI × UR => Q u.1 u.2) (uBv D cc L A J) (uA L A sz)) args s 0 0 (uA L A sz)) (F0 m 64 ls []) := by
  intro n
  induction n with
  | zero => exact fun I R x1 x4 H locs ls V hl h => False.elim h
  | succ n ih =>
    intro I R x1 x4 H locs ls V hl h
    have hx := X.1
    have hb := X.2.1
    rw [wp_Mo_sendHex_L64] at h
    refine lv_iload (pc := 64) hx hb d_Mo_sendHex_64 (lv_at hl 2 rfl) ?_
    refine lv_iconst (pc := 66) (v := 2) hx hb d_Mo_sendHex_66 (by decide) ?_
    refine lv_icmp_ge (pc := 67) (tgt := 93) hx hb d_Mo_sendHex_67 (by decide) (fun hc => ?_) (fun hc => ?_)
    · have h := h.1 hc
      refine lv_aload_n (pc := 93) hx hb d_Mo_sendHex_93 rfl (lv_at hl 0 rfl) ?_
      refine lv_iload_n (pc := 94) hx hb d_Mo_sendHex_94 rfl (lv_at hl 1 rfl) ?_
      refine lv_bipush (pc := 95) (v := 13) hx hb d_Mo_sendHex_95 (by decide) ?_
      refine u_cVv (pc := 97) (As := [.int x1, .int 13]) X V s_Mo_114 (X.fix rfl) rfl rfl rfl (c_Mo_put l D cc L A J t16 t32 _ _ x1 13 _ h) ⟨rfl, rfl, Nat.le_of_ble_eq_true rfl, Nat.le_of_ble_eq_true rfl⟩ rfl hl.1 rfl (Nat.le_of_ble_eq_true rfl) d_Mo_sendHex_97 ⟨Nat.zero_le _, Nat.zero_le _⟩ (fun I11 R12 h H locs V => ?_)
      refine lv_aload_n (pc := 100) hx hb d_Mo_sendHex_100 rfl (lv_at hl 0 rfl) ?_
      refine lv_iload_n (pc := 101) hx hb d_Mo_sendHex_101 rfl (lv_at hl 1 rfl) ?_
      refine lv_bipush (pc := 102) (v := 10) hx hb d_Mo_sendHex_102 (by decide) ?_
      refine u_cVv (pc := 104) (As := [.int x1, .int 10]) X V s_Mo_114 (X.fix rfl) rfl rfl rfl (c_Mo_put l D cc L A J t16 t32 _ _ x1 10 _ h) ⟨rfl, rfl, Nat.le_of_ble_eq_true rfl, Nat.le_of_ble_eq_true rfl⟩ rfl hl.1 rfl (Nat.le_of_ble_eq_true rfl) d_Mo_sendHex_104 ⟨Nat.zero_le _, Nat.zero_le _⟩ (fun I13 R14 h H locs V => ?_)
      exact u_retv (pc := 107) X V hr hlk hsz h d_Mo_sendHex_107
    · have h := h.2 hc
      refine lv_aload_n (pc := 70) hx hb d_Mo_sendHex_70 rfl (lv_at hl 0 rfl) ?_
      refine lv_iload_n (pc := 71) hx hb d_Mo_sendHex_71 rfl (lv_at hl 1 rfl) ?_
      refine lv_aload_n (pc := 72) hx hb d_Mo_sendHex_72 rfl (lv_at hl 0 rfl) ?_
      refine u_getr (pc := 73) (o' := 110) X V (X.fix rfl) rfl rfl f_Mo_79 rfl rfl d_Mo_sendHex_73 ?_
      refine lv_iconst (pc := 76) (v := 0) hx hb d_Mo_sendHex_76 (by decide) ?_
      refine lv_iconst (pc := 77) (v := 5) hx hb d_Mo_sendHex_77 (by decide) ?_
      refine lv_iconst (pc := 78) (v := 0) hx hb d_Mo_sendHex_78 (by decide) ?_
      refine lv_iload (pc := 79) hx hb d_Mo_sendHex_79 (lv_at hl 2 rfl) ?_
      refine u_cSi (pc := 81) (As := [.ref (A 110), .int 0, .int 5, .int 0, .int x4]) X V s_Mo_124 (c_Mo_checkByte l D cc L A J t16 t32 _ _ 110 ⟨(X.fix rfl), rfl⟩ 0 5 0 x4 _ h) ⟨rfl, rfl, Nat.le_of_ble_eq_true rfl, Nat.le_of_ble_eq_true rfl⟩ rfl hl.1 rfl (Nat.le_of_ble_eq_true rfl) d_Mo_sendHex_81 ⟨Nat.zero_le _, Nat.zero_le _⟩ (fun r17 I15 R16 h H locs V => ?_)
      refine u_cVv (pc := 84) (As := [.int x1, .int r17]) X V s_Mo_121 (X.fix rfl) rfl rfl rfl (c_Mo_putDigits l D cc L A J t16 t32 _ _ x1 r17 _ h) ⟨rfl, rfl, Nat.le_of_ble_eq_true rfl, Nat.le_of_ble_eq_true rfl⟩ rfl hl.1 rfl (Nat.le_of_ble_eq_true rfl) d_Mo_sendHex_84 ⟨Nat.zero_le _, Nat.zero_le _⟩ (fun I18 R19 h H locs V => ?_)
      obtain ⟨v20, ev20⟩ : ∃ z : Int32, z = x4 + 1 := ⟨_, rfl⟩
      have h := h v20 ev20
      refine lv_iinc (pc := 87) (k := 2) (v := v20) (lv' := [(4, .int v20), (0, .ref (A 80)), (1, .int x1)]) hx hb d_Mo_sendHex_87 hl rfl (by rw [ev20]; rfl) (by decide) rfl (fun ls hl => ?_)
      refine lv_goto (pc := 90) (tgt := 64) hx hb d_Mo_sendHex_90 (by decide) ?_
      exact ih I18 R19 x1 v20 H locs ls V (lv_sub hl [1, 2, 0] rfl) h
def wp_Mo_sendHex_L37 (Q : UI → UR → Prop) : Nat → UI → UR → Int32 → Int32 → Prop
  | 0, _, _, _, _ => False
  | n + 1, I, R, x1, x4 => ((5 ≤ x4 → (∃ n64 : Nat, wp_Mo_sendHex_L64 Q n64 I R x1 0)) ∧ (¬ 5 ≤ x4 → vp_in x4 160 ∧ wp_Mo_putDigits I R x1 (I 110 x4.toNatClampNeg) (fun I21 R22 => ∀ v23 : Int32, v23 = x4 + 1 → wp_Mo_sendHex_L37 Q n I21 R22 x1 v23)))
set_option maxHeartbeats 4000000 in
set_option maxRecDepth 100000 in
theorem j_Mo_sendHex_37 (X : uX p s m args c prog_10_method_15_code 5 "FrameFerryModel" D cc L A t16 t32) (hr : meth.sig.returnType = none) (hlk : meth.locks = false) (hsz : sz = s.heap.size) {Q : UI → UR → Prop} : ∀ (n : Nat) (I : UI) (R : UR) (x1 : Int32) (x4 : Int32) (H : Heap) (locs : List Loc) (ls : Array Slot), uV s D cc L A J I R H locs → lv_has ls 5 [(0, .ref (A 80)), (1, .int x1), (4, .int x4)] → wp_Mo_sendHex_L37 Q n I R x1 x4 → W p l e rm_Mo_sendHex s m args below meth c H locs 0 0 (MQ below (va_Qv (fun u : UI × UR => Q u.1 u.2) (uBv D cc L A J) (uA L A sz)) args s 0 0 (uA L A sz)) (F0 m 37 ls []) := by
  intro n
  induction n with
  | zero => exact fun I R x1 x4 H locs ls V hl h => False.elim h
  | succ n ih =>
    intro I R x1 x4 H locs ls V hl h
    have hx := X.1
    have hb := X.2.1
    rw [wp_Mo_sendHex_L37] at h
    refine lv_iload (pc := 37) hx hb d_Mo_sendHex_37 (lv_at hl 2 rfl) ?_
    refine lv_iconst (pc := 39) (v := 5) hx hb d_Mo_sendHex_39 (by decide) ?_
    refine lv_icmp_ge (pc := 40) (tgt := 61) hx hb d_Mo_sendHex_40 (by decide) (fun hc => ?_) (fun hc => ?_)
    · have h := h.1 hc
      refine lv_iconst (pc := 61) (v := 0) hx hb d_Mo_sendHex_61 (by decide) ?_
      refine lv_istore (pc := 62) (lv' := [(4, .int 0), (0, .ref (A 80)), (1, .int x1)]) hx hb d_Mo_sendHex_62 hl (by decide) rfl (fun ls hl => ?_)
      obtain ⟨n64, h⟩ := h
      exact j_Mo_sendHex_64 X hr hlk hsz n64 I R x1 0 H locs ls V (lv_sub hl [1, 2, 0] rfl) h
    · have h := h.2 hc
      refine lv_aload_n (pc := 43) hx hb d_Mo_sendHex_43 rfl (lv_at hl 0 rfl) ?_
      refine lv_iload_n (pc := 44) hx hb d_Mo_sendHex_44 rfl (lv_at hl 1 rfl) ?_
      refine lv_aload_n (pc := 45) hx hb d_Mo_sendHex_45 rfl (lv_at hl 0 rfl) ?_
      refine u_getr (pc := 46) (o' := 110) X V (X.fix rfl) rfl rfl f_Mo_79 rfl rfl d_Mo_sendHex_46 ?_
      refine lv_iload (pc := 49) hx hb d_Mo_sendHex_49 (lv_at hl 2 rfl) ?_
      refine u_iald (pc := 51) X V (X.fix rfl) rfl rfl h.1 d_Mo_sendHex_51 ?_
      have h := h.2
      refine u_cVv (pc := 52) (As := [.int x1, .int (I 110 x4.toNatClampNeg)]) X V s_Mo_121 (X.fix rfl) rfl rfl rfl (c_Mo_putDigits l D cc L A J t16 t32 _ _ x1 (I 110 x4.toNatClampNeg) _ h) ⟨rfl, rfl, Nat.le_of_ble_eq_true rfl, Nat.le_of_ble_eq_true rfl⟩ rfl hl.1 rfl (Nat.le_of_ble_eq_true rfl) d_Mo_sendHex_52 ⟨Nat.zero_le _, Nat.zero_le _⟩ (fun I21 R22 h H locs V => ?_)
      obtain ⟨v23, ev23⟩ : ∃ z : Int32, z = x4 + 1 := ⟨_, rfl⟩
      have h := h v23 ev23
      refine lv_iinc (pc := 55) (k := 2) (v := v23) (lv' := [(4, .int v23), (0, .ref (A 80)), (1, .int x1)]) hx hb d_Mo_sendHex_55 hl rfl (by rw [ev23]; rfl) (by decide) rfl (fun ls hl => ?_)
      refine lv_goto (pc := 58) (tgt := 37) hx hb d_Mo_sendHex_58 (by decide) ?_
      exact ih I21 R22 x1 v23 H locs ls V (lv_sub hl [1, 2, 0] rfl) h
def wp_Mo_sendHex (I : UI) (R : UR) (x1 : Int32) (x2 : Int32) (x3 : Int32) (Q : UI → UR → Prop) : Prop :=
  wp_Mo_header I R x2 x3 (fun I1 R2 => wp_Mo_put I1 R2 x1 42 (fun I3 R4 => wp_Mo_put I3 R4 x1 42 (fun I5 R6 => wp_Mo_put I5 R6 x1 24 (fun I7 R8 => wp_Mo_put I7 R8 x1 66 (fun I9 R10 => (∃ n37 : Nat, wp_Mo_sendHex_L37 Q n37 I9 R10 x1 0))))))
set_option maxHeartbeats 4000000 in
set_option maxRecDepth 100000 in
theorem c_Mo_sendHex (l : Launch) (D : va_G) (cc : Nat → ClassId) (L : List Nat) (A : Nat → Nat) (J : Nat → Int64) (t16 t32 : Nat) (I : UI) (R : UR) (x1 : Int32) (x2 : Int32) (x3 : Int32) (Q : UI → UR → Prop) (h : wp_Mo_sendHex I R x1 x2 x3 Q) : uMv l y_Mo_sendHex (.code y_Mo_sendHex prog_10_method_15_code 5 none) rm_Mo_sendHex [.ref (A 80), .int x1, .int x2, .int x3] D cc L A J t16 t32 I R Q := by
  intro sz
  refine u_entry (by decide) (Nat.le_of_ble_eq_true rfl) (fun p e s m args below meth c hsz X V hr hlk ls hl => ?_)
  have X : uX p s m args c prog_10_method_15_code 5 "FrameFerryModel" D cc L A t16 t32 := X
  have hx := X.1
  have hb := X.2.1
  have hl : lv_has ls 5 [(0, .ref (A 80)), (1, .int x1), (2, .int x2), (3, .int x3)] := hl
  unfold wp_Mo_sendHex at h
  generalize hH : s.heap = H at V ⊢
  generalize hlo : ([] : List Loc) = locs at V ⊢
  refine lv_aload_n (pc := 0) hx hb d_Mo_sendHex_0 rfl (lv_at hl 0 rfl) ?_
  refine lv_iload_n (pc := 1) hx hb d_Mo_sendHex_1 rfl (lv_at hl 2 rfl) ?_
  refine lv_iload_n (pc := 2) hx hb d_Mo_sendHex_2 rfl (lv_at hl 3 rfl) ?_
  refine u_cVv (pc := 3) (As := [.int x2, .int x3]) X V s_Mo_118 (X.fix rfl) rfl rfl rfl (c_Mo_header l D cc L A J t16 t32 _ _ x2 x3 _ h) ⟨rfl, rfl, Nat.le_of_ble_eq_true rfl, Nat.le_of_ble_eq_true rfl⟩ rfl hl.1 rfl (Nat.le_of_ble_eq_true rfl) d_Mo_sendHex_3 ⟨Nat.zero_le _, Nat.zero_le _⟩ (fun I1 R2 h H locs V => ?_)
  refine lv_aload_n (pc := 6) hx hb d_Mo_sendHex_6 rfl (lv_at hl 0 rfl) ?_
  refine lv_iload_n (pc := 7) hx hb d_Mo_sendHex_7 rfl (lv_at hl 1 rfl) ?_
  refine lv_bipush (pc := 8) (v := 42) hx hb d_Mo_sendHex_8 (by decide) ?_
  refine u_cVv (pc := 10) (As := [.int x1, .int 42]) X V s_Mo_114 (X.fix rfl) rfl rfl rfl (c_Mo_put l D cc L A J t16 t32 _ _ x1 42 _ h) ⟨rfl, rfl, Nat.le_of_ble_eq_true rfl, Nat.le_of_ble_eq_true rfl⟩ rfl hl.1 rfl (Nat.le_of_ble_eq_true rfl) d_Mo_sendHex_10 ⟨Nat.zero_le _, Nat.zero_le _⟩ (fun I3 R4 h H locs V => ?_)
  refine lv_aload_n (pc := 13) hx hb d_Mo_sendHex_13 rfl (lv_at hl 0 rfl) ?_
  refine lv_iload_n (pc := 14) hx hb d_Mo_sendHex_14 rfl (lv_at hl 1 rfl) ?_
  refine lv_bipush (pc := 15) (v := 42) hx hb d_Mo_sendHex_15 (by decide) ?_
  refine u_cVv (pc := 17) (As := [.int x1, .int 42]) X V s_Mo_114 (X.fix rfl) rfl rfl rfl (c_Mo_put l D cc L A J t16 t32 _ _ x1 42 _ h) ⟨rfl, rfl, Nat.le_of_ble_eq_true rfl, Nat.le_of_ble_eq_true rfl⟩ rfl hl.1 rfl (Nat.le_of_ble_eq_true rfl) d_Mo_sendHex_17 ⟨Nat.zero_le _, Nat.zero_le _⟩ (fun I5 R6 h H locs V => ?_)
  refine lv_aload_n (pc := 20) hx hb d_Mo_sendHex_20 rfl (lv_at hl 0 rfl) ?_
  refine lv_iload_n (pc := 21) hx hb d_Mo_sendHex_21 rfl (lv_at hl 1 rfl) ?_
  refine lv_bipush (pc := 22) (v := 24) hx hb d_Mo_sendHex_22 (by decide) ?_
  refine u_cVv (pc := 24) (As := [.int x1, .int 24]) X V s_Mo_114 (X.fix rfl) rfl rfl rfl (c_Mo_put l D cc L A J t16 t32 _ _ x1 24 _ h) ⟨rfl, rfl, Nat.le_of_ble_eq_true rfl, Nat.le_of_ble_eq_true rfl⟩ rfl hl.1 rfl (Nat.le_of_ble_eq_true rfl) d_Mo_sendHex_24 ⟨Nat.zero_le _, Nat.zero_le _⟩ (fun I7 R8 h H locs V => ?_)
  refine lv_aload_n (pc := 27) hx hb d_Mo_sendHex_27 rfl (lv_at hl 0 rfl) ?_
  refine lv_iload_n (pc := 28) hx hb d_Mo_sendHex_28 rfl (lv_at hl 1 rfl) ?_
  refine lv_bipush (pc := 29) (v := 66) hx hb d_Mo_sendHex_29 (by decide) ?_
  refine u_cVv (pc := 31) (As := [.int x1, .int 66]) X V s_Mo_114 (X.fix rfl) rfl rfl rfl (c_Mo_put l D cc L A J t16 t32 _ _ x1 66 _ h) ⟨rfl, rfl, Nat.le_of_ble_eq_true rfl, Nat.le_of_ble_eq_true rfl⟩ rfl hl.1 rfl (Nat.le_of_ble_eq_true rfl) d_Mo_sendHex_31 ⟨Nat.zero_le _, Nat.zero_le _⟩ (fun I9 R10 h H locs V => ?_)
  refine lv_iconst (pc := 34) (v := 0) hx hb d_Mo_sendHex_34 (by decide) ?_
  refine lv_istore (pc := 35) (lv' := [(4, .int 0), (0, .ref (A 80)), (1, .int x1), (2, .int x2), (3, .int x3)]) hx hb d_Mo_sendHex_35 hl (by decide) rfl (fun ls hl => ?_)
  obtain ⟨n37, h⟩ := h
  exact j_Mo_sendHex_37 X hr hlk hsz n37 I9 R10 x1 0 H locs ls V (lv_sub hl [1, 2, 0] rfl) h
-- FrameFerryModel.sendBytes (II)V
theorem d_Mo_sendBytes_0 : decode prog_10_method_16_code 0 = .ok (.aload_n 0, 1) := by decide +kernel
theorem d_Mo_sendBytes_1 : decode prog_10_method_16_code 1 = .ok (.iload_n 1, 1) := by decide +kernel
theorem d_Mo_sendBytes_2 : decode prog_10_method_16_code 2 = .ok (.iload_n 2, 1) := by decide +kernel
theorem d_Mo_sendBytes_3 : decode prog_10_method_16_code 3 = .ok (.invokevirtual 118, 3) := by decide +kernel
theorem d_Mo_sendBytes_6 : decode prog_10_method_16_code 6 = .ok (.aload_n 0, 1) := by decide +kernel
theorem d_Mo_sendBytes_7 : decode prog_10_method_16_code 7 = .ok (.iconst 1, 1) := by decide +kernel
theorem d_Mo_sendBytes_8 : decode prog_10_method_16_code 8 = .ok (.bipush 42, 2) := by decide +kernel
theorem d_Mo_sendBytes_10 : decode prog_10_method_16_code 10 = .ok (.invokevirtual 114, 3) := by decide +kernel
theorem d_Mo_sendBytes_13 : decode prog_10_method_16_code 13 = .ok (.aload_n 0, 1) := by decide +kernel
theorem d_Mo_sendBytes_14 : decode prog_10_method_16_code 14 = .ok (.iconst 1, 1) := by decide +kernel
theorem d_Mo_sendBytes_15 : decode prog_10_method_16_code 15 = .ok (.bipush 24, 2) := by decide +kernel
theorem d_Mo_sendBytes_17 : decode prog_10_method_16_code 17 = .ok (.invokevirtual 114, 3) := by decide +kernel
theorem d_Mo_sendBytes_20 : decode prog_10_method_16_code 20 = .ok (.aload_n 0, 1) := by decide +kernel
theorem d_Mo_sendBytes_21 : decode prog_10_method_16_code 21 = .ok (.iconst 1, 1) := by decide +kernel
theorem d_Mo_sendBytes_22 : decode prog_10_method_16_code 22 = .ok (.aload_n 0, 1) := by decide +kernel
theorem d_Mo_sendBytes_23 : decode prog_10_method_16_code 23 = .ok (.getfield 128, 3) := by decide +kernel
theorem d_Mo_sendBytes_26 : decode prog_10_method_16_code 26 = .ok (.ifCond .eq 8, 3) := by decide +kernel
theorem d_Mo_sendBytes_29 : decode prog_10_method_16_code 29 = .ok (.bipush 67, 2) := by decide +kernel
theorem d_Mo_sendBytes_31 : decode prog_10_method_16_code 31 = .ok (.goto 5, 3) := by decide +kernel
theorem d_Mo_sendBytes_34 : decode prog_10_method_16_code 34 = .ok (.bipush 65, 2) := by decide +kernel
theorem d_Mo_sendBytes_36 : decode prog_10_method_16_code 36 = .ok (.invokevirtual 114, 3) := by decide +kernel
theorem d_Mo_sendBytes_39 : decode prog_10_method_16_code 39 = .ok (.iconst 0, 1) := by decide +kernel
theorem d_Mo_sendBytes_40 : decode prog_10_method_16_code 40 = .ok (.istore_n 3, 1) := by decide +kernel
theorem d_Mo_sendBytes_41 : decode prog_10_method_16_code 41 = .ok (.iload_n 3, 1) := by decide +kernel
theorem d_Mo_sendBytes_42 : decode prog_10_method_16_code 42 = .ok (.iconst 5, 1) := by decide +kernel
theorem d_Mo_sendBytes_43 : decode prog_10_method_16_code 43 = .ok (.if_icmp .ge 20, 3) := by decide +kernel
theorem d_Mo_sendBytes_46 : decode prog_10_method_16_code 46 = .ok (.aload_n 0, 1) := by decide +kernel
theorem d_Mo_sendBytes_47 : decode prog_10_method_16_code 47 = .ok (.iconst 1, 1) := by decide +kernel
theorem d_Mo_sendBytes_48 : decode prog_10_method_16_code 48 = .ok (.aload_n 0, 1) := by decide +kernel
theorem d_Mo_sendBytes_49 : decode prog_10_method_16_code 49 = .ok (.getfield 79, 3) := by decide +kernel
theorem d_Mo_sendBytes_52 : decode prog_10_method_16_code 52 = .ok (.iload_n 3, 1) := by decide +kernel
theorem d_Mo_sendBytes_53 : decode prog_10_method_16_code 53 = .ok (.iaload, 1) := by decide +kernel
theorem d_Mo_sendBytes_54 : decode prog_10_method_16_code 54 = .ok (.invokevirtual 131, 3) := by decide +kernel
theorem d_Mo_sendBytes_57 : decode prog_10_method_16_code 57 = .ok (.iinc 3 1, 3) := by decide +kernel
theorem d_Mo_sendBytes_60 : decode prog_10_method_16_code 60 = .ok (.goto (-19), 3) := by decide +kernel
theorem d_Mo_sendBytes_63 : decode prog_10_method_16_code 63 = .ok (.iconst 0, 1) := by decide +kernel
theorem d_Mo_sendBytes_64 : decode prog_10_method_16_code 64 = .ok (.istore_n 3, 1) := by decide +kernel
theorem d_Mo_sendBytes_65 : decode prog_10_method_16_code 65 = .ok (.iload_n 3, 1) := by decide +kernel
theorem d_Mo_sendBytes_66 : decode prog_10_method_16_code 66 = .ok (.aload_n 0, 1) := by decide +kernel
theorem d_Mo_sendBytes_67 : decode prog_10_method_16_code 67 = .ok (.getfield 128, 3) := by decide +kernel
theorem d_Mo_sendBytes_70 : decode prog_10_method_16_code 70 = .ok (.ifCond .eq 7, 3) := by decide +kernel
theorem d_Mo_sendBytes_73 : decode prog_10_method_16_code 73 = .ok (.iconst 4, 1) := by decide +kernel
theorem d_Mo_sendBytes_74 : decode prog_10_method_16_code 74 = .ok (.goto 4, 3) := by decide +kernel
theorem d_Mo_sendBytes_77 : decode prog_10_method_16_code 77 = .ok (.iconst 2, 1) := by decide +kernel
theorem d_Mo_sendBytes_78 : decode prog_10_method_16_code 78 = .ok (.if_icmp .ge 28, 3) := by decide +kernel
theorem d_Mo_sendBytes_81 : decode prog_10_method_16_code 81 = .ok (.aload_n 0, 1) := by decide +kernel
theorem d_Mo_sendBytes_82 : decode prog_10_method_16_code 82 = .ok (.iconst 1, 1) := by decide +kernel
theorem d_Mo_sendBytes_83 : decode prog_10_method_16_code 83 = .ok (.aload_n 0, 1) := by decide +kernel
theorem d_Mo_sendBytes_84 : decode prog_10_method_16_code 84 = .ok (.getfield 79, 3) := by decide +kernel
theorem d_Mo_sendBytes_87 : decode prog_10_method_16_code 87 = .ok (.iconst 0, 1) := by decide +kernel
theorem d_Mo_sendBytes_88 : decode prog_10_method_16_code 88 = .ok (.iconst 5, 1) := by decide +kernel
theorem d_Mo_sendBytes_89 : decode prog_10_method_16_code 89 = .ok (.aload_n 0, 1) := by decide +kernel
theorem d_Mo_sendBytes_90 : decode prog_10_method_16_code 90 = .ok (.getfield 128, 3) := by decide +kernel
theorem d_Mo_sendBytes_93 : decode prog_10_method_16_code 93 = .ok (.iload_n 3, 1) := by decide +kernel
theorem d_Mo_sendBytes_94 : decode prog_10_method_16_code 94 = .ok (.invokestatic 124, 3) := by decide +kernel
theorem d_Mo_sendBytes_97 : decode prog_10_method_16_code 97 = .ok (.invokevirtual 131, 3) := by decide +kernel
theorem d_Mo_sendBytes_100 : decode prog_10_method_16_code 100 = .ok (.iinc 3 1, 3) := by decide +kernel
theorem d_Mo_sendBytes_103 : decode prog_10_method_16_code 103 = .ok (.goto (-38), 3) := by decide +kernel
theorem d_Mo_sendBytes_106 : decode prog_10_method_16_code 106 = .ok (.return_, 1) := by decide +kernel
def rm_Mo_sendBytes : Room := { frames := 2, cells := 0, slots := 0, locals := 50 }
def wp_Mo_sendBytes_L78 (Q : UI → UR → Prop) (K65 : UI → UR → Int32 → Prop) (I : UI) (R : UR) (x3 : Int32) (s0 : Int32) (s1 : Int32) : Prop :=
  ((s0 ≤ s1 → Q I R) ∧ (¬ s0 ≤ s1 → wp_Mo_checkByte I R 110 0 5 (I 80 21) x3 (fun r11 I9 R10 => wp_Mo_putEscaped I9 R10 1 r11 (fun I12 R13 => ∀ v14 : Int32, v14 = x3 + 1 → K65 I12 R13 v14))))
set_option maxHeartbeats 4000000 in
set_option maxRecDepth 100000 in
theorem j_Mo_sendBytes_78 (X : uX p s m args c prog_10_method_16_code 4 "FrameFerryModel" D cc L A t16 t32) (hr : meth.sig.returnType = none) (hlk : meth.locks = false) (hsz : sz = s.heap.size) {Q : UI → UR → Prop} {K65 : UI → UR → Int32 → Prop} (hK65 : ∀ (I : UI) (R : UR) (x3 : Int32) (H : Heap) (locs : List Loc) (ls : Array Slot), uV s D cc L A J I R H locs → lv_has ls 4 [(0, .ref (A 80)), (3, .int x3)] → K65 I R x3 → W p l e rm_Mo_sendBytes s m args below meth c H locs 0 0 (MQ below (va_Qv (fun u : UI × UR => Q u.1 u.2) (uBv D cc L A J) (uA L A sz)) args s 0 0 (uA L A sz)) (F0 m 65 ls [])) {I : UI} {R : UR} {x3 : Int32} {s0 : Int32} {s1 : Int32} {H : Heap} {locs : List Loc} {ls : Array Slot} (V : uV s D cc L A J I R H locs) (hl : lv_has ls 4 [(0, .ref (A 80)), (3, .int x3)]) (h : wp_Mo_sendBytes_L78 Q K65 I R x3 s0 s1) : W p l e rm_Mo_sendBytes s m args below meth c H locs 0 0 (MQ below (va_Qv (fun u : UI × UR => Q u.1 u.2) (uBv D cc L A J) (uA L A sz)) args s 0 0 (uA L A sz)) (F0 m 78 ls [.int s0, .int s1]) := by
  have hx := X.1
  have hb := X.2.1
  unfold wp_Mo_sendBytes_L78 at h
  refine lv_icmp_ge (pc := 78) (tgt := 106) hx hb d_Mo_sendBytes_78 (by decide) (fun hc => ?_) (fun hc => ?_)
  · have h := h.1 hc
    exact u_retv (pc := 106) X V hr hlk hsz h d_Mo_sendBytes_106
  · have h := h.2 hc
    refine lv_aload_n (pc := 81) hx hb d_Mo_sendBytes_81 rfl (lv_at hl 0 rfl) ?_
    refine lv_iconst (pc := 82) (v := 1) hx hb d_Mo_sendBytes_82 (by decide) ?_
    refine lv_aload_n (pc := 83) hx hb d_Mo_sendBytes_83 rfl (lv_at hl 0 rfl) ?_
    refine u_getr (pc := 84) (o' := 110) X V (X.fix rfl) rfl rfl f_Mo_79 rfl rfl d_Mo_sendBytes_84 ?_
    refine lv_iconst (pc := 87) (v := 0) hx hb d_Mo_sendBytes_87 (by decide) ?_
    refine lv_iconst (pc := 88) (v := 5) hx hb d_Mo_sendBytes_88 (by decide) ?_
    refine lv_aload_n (pc := 89) hx hb d_Mo_sendBytes_89 rfl (lv_at hl 0 rfl) ?_
    refine u_geti (pc := 90) X V (X.fix rfl) rfl rfl f_Mo_128 rfl d_Mo_sendBytes_90 ?_
    refine lv_iload_n (pc := 93) hx hb d_Mo_sendBytes_93 rfl (lv_at hl 1 rfl) ?_
    refine u_cSi (pc := 94) (As := [.ref (A 110), .int 0, .int 5, .int (I 80 21), .int x3]) X V s_Mo_124 (c_Mo_checkByte l D cc L A J t16 t32 _ _ 110 ⟨(X.fix rfl), rfl⟩ 0 5 (I 80 21) x3 _ h) ⟨rfl, rfl, Nat.le_of_ble_eq_true rfl, Nat.le_of_ble_eq_true rfl⟩ rfl hl.1 rfl (Nat.le_of_ble_eq_true rfl) d_Mo_sendBytes_94 ⟨Nat.zero_le _, Nat.zero_le _⟩ (fun r11 I9 R10 h H locs V => ?_)
    refine u_cVv (pc := 97) (As := [.int 1, .int r11]) X V s_Mo_131 (X.fix rfl) rfl rfl rfl (c_Mo_putEscaped l D cc L A J t16 t32 _ _ 1 r11 _ h) ⟨rfl, rfl, Nat.le_of_ble_eq_true rfl, Nat.le_of_ble_eq_true rfl⟩ rfl hl.1 rfl (Nat.le_of_ble_eq_true rfl) d_Mo_sendBytes_97 ⟨Nat.zero_le _, Nat.zero_le _⟩ (fun I12 R13 h H locs V => ?_)
    obtain ⟨v14, ev14⟩ : ∃ z : Int32, z = x3 + 1 := ⟨_, rfl⟩
    have h := h v14 ev14
    refine lv_iinc (pc := 100) (k := 1) (v := v14) (lv' := [(3, .int v14), (0, .ref (A 80))]) hx hb d_Mo_sendBytes_100 hl rfl (by rw [ev14]; rfl) (by decide) rfl (fun ls hl => ?_)
    refine lv_goto (pc := 103) (tgt := 65) hx hb d_Mo_sendBytes_103 (by decide) ?_
    exact hK65 I12 R13 v14 H locs ls V (lv_sub hl [1, 0] rfl) h
def wp_Mo_sendBytes_L65 (Q : UI → UR → Prop) : Nat → UI → UR → Int32 → Prop
  | 0, _, _, _ => False
  | n + 1, I, R, x3 => ((I 80 21 = 0 → wp_Mo_sendBytes_L78 Q (fun I R x3 => wp_Mo_sendBytes_L65 Q n I R x3) I R x3 2 x3) ∧ (¬ I 80 21 = 0 → wp_Mo_sendBytes_L78 Q (fun I R x3 => wp_Mo_sendBytes_L65 Q n I R x3) I R x3 4 x3))
set_option maxHeartbeats 4000000 in
set_option maxRecDepth 100000 in
theorem j_Mo_sendBytes_65 (X : uX p s m args c prog_10_method_16_code 4 "FrameFerryModel" D cc L A t16 t32) (hr : meth.sig.returnType = none) (hlk : meth.locks = false) (hsz : sz = s.heap.size) {Q : UI → UR → Prop} : ∀ (n : Nat) (I : UI) (R : UR) (x3 : Int32) (H : Heap) (locs : List Loc) (ls : Array Slot), uV s D cc L A J I R H locs → lv_has ls 4 [(0, .ref (A 80)), (3, .int x3)] → wp_Mo_sendBytes_L65 Q n I R x3 → W p l e rm_Mo_sendBytes s m args below meth c H locs 0 0 (MQ below (va_Qv (fun u : UI × UR => Q u.1 u.2) (uBv D cc L A J) (uA L A sz)) args s 0 0 (uA L A sz)) (F0 m 65 ls []) := by
  intro n
  induction n with
  | zero => exact fun I R x3 H locs ls V hl h => False.elim h
  | succ n ih =>
    intro I R x3 H locs ls V hl h
    have hx := X.1
    have hb := X.2.1
    rw [wp_Mo_sendBytes_L65] at h
    refine lv_iload_n (pc := 65) hx hb d_Mo_sendBytes_65 rfl (lv_at hl 1 rfl) ?_
    refine lv_aload_n (pc := 66) hx hb d_Mo_sendBytes_66 rfl (lv_at hl 0 rfl) ?_
    refine u_geti (pc := 67) X V (X.fix rfl) rfl rfl f_Mo_128 rfl d_Mo_sendBytes_67 ?_
    refine lv_if_eq (pc := 70) (tgt := 77) hx hb d_Mo_sendBytes_70 (by decide) (fun hc => ?_) (fun hc => ?_)
    · have h := h.1 hc
      refine lv_iconst (pc := 77) (v := 2) hx hb d_Mo_sendBytes_77 (by decide) ?_
      exact j_Mo_sendBytes_78 X hr hlk hsz ih V (lv_sub hl [0, 1] rfl) h
    · have h := h.2 hc
      refine lv_iconst (pc := 73) (v := 4) hx hb d_Mo_sendBytes_73 (by decide) ?_
      refine lv_goto (pc := 74) (tgt := 78) hx hb d_Mo_sendBytes_74 (by decide) ?_
      exact j_Mo_sendBytes_78 X hr hlk hsz ih V (lv_sub hl [0, 1] rfl) h
def wp_Mo_sendBytes_L41 (Q : UI → UR → Prop) : Nat → UI → UR → Int32 → Prop
  | 0, _, _, _ => False
  | n + 1, I, R, x3 => ((5 ≤ x3 → (∃ n65 : Nat, wp_Mo_sendBytes_L65 Q n65 I R 0)) ∧ (¬ 5 ≤ x3 → vp_in x3 160 ∧ wp_Mo_putEscaped I R 1 (I 110 x3.toNatClampNeg) (fun I15 R16 => ∀ v17 : Int32, v17 = x3 + 1 → wp_Mo_sendBytes_L41 Q n I15 R16 v17)))
set_option maxHeartbeats 4000000 in
set_option maxRecDepth 100000 in
theorem j_Mo_sendBytes_41 (X : uX p s m args c prog_10_method_16_code 4 "FrameFerryModel" D cc L A t16 t32) (hr : meth.sig.returnType = none) (hlk : meth.locks = false) (hsz : sz = s.heap.size) {Q : UI → UR → Prop} : ∀ (n : Nat) (I : UI) (R : UR) (x3 : Int32) (H : Heap) (locs : List Loc) (ls : Array Slot), uV s D cc L A J I R H locs → lv_has ls 4 [(0, .ref (A 80)), (3, .int x3)] → wp_Mo_sendBytes_L41 Q n I R x3 → W p l e rm_Mo_sendBytes s m args below meth c H locs 0 0 (MQ below (va_Qv (fun u : UI × UR => Q u.1 u.2) (uBv D cc L A J) (uA L A sz)) args s 0 0 (uA L A sz)) (F0 m 41 ls []) := by
  intro n
  induction n with
  | zero => exact fun I R x3 H locs ls V hl h => False.elim h
  | succ n ih =>
    intro I R x3 H locs ls V hl h
    have hx := X.1
    have hb := X.2.1
    rw [wp_Mo_sendBytes_L41] at h
    refine lv_iload_n (pc := 41) hx hb d_Mo_sendBytes_41 rfl (lv_at hl 1 rfl) ?_
    refine lv_iconst (pc := 42) (v := 5) hx hb d_Mo_sendBytes_42 (by decide) ?_
    refine lv_icmp_ge (pc := 43) (tgt := 63) hx hb d_Mo_sendBytes_43 (by decide) (fun hc => ?_) (fun hc => ?_)
    · have h := h.1 hc
      refine lv_iconst (pc := 63) (v := 0) hx hb d_Mo_sendBytes_63 (by decide) ?_
      refine lv_istore_n (pc := 64) (lv' := [(3, .int 0), (0, .ref (A 80))]) hx hb d_Mo_sendBytes_64 rfl hl (by decide) rfl (fun ls hl => ?_)
      obtain ⟨n65, h⟩ := h
      exact j_Mo_sendBytes_65 X hr hlk hsz n65 I R 0 H locs ls V (lv_sub hl [1, 0] rfl) h
    · have h := h.2 hc
      refine lv_aload_n (pc := 46) hx hb d_Mo_sendBytes_46 rfl (lv_at hl 0 rfl) ?_
      refine lv_iconst (pc := 47) (v := 1) hx hb d_Mo_sendBytes_47 (by decide) ?_
      refine lv_aload_n (pc := 48) hx hb d_Mo_sendBytes_48 rfl (lv_at hl 0 rfl) ?_
      refine u_getr (pc := 49) (o' := 110) X V (X.fix rfl) rfl rfl f_Mo_79 rfl rfl d_Mo_sendBytes_49 ?_
      refine lv_iload_n (pc := 52) hx hb d_Mo_sendBytes_52 rfl (lv_at hl 1 rfl) ?_
      refine u_iald (pc := 53) X V (X.fix rfl) rfl rfl h.1 d_Mo_sendBytes_53 ?_
      have h := h.2
      refine u_cVv (pc := 54) (As := [.int 1, .int (I 110 x3.toNatClampNeg)]) X V s_Mo_131 (X.fix rfl) rfl rfl rfl (c_Mo_putEscaped l D cc L A J t16 t32 _ _ 1 (I 110 x3.toNatClampNeg) _ h) ⟨rfl, rfl, Nat.le_of_ble_eq_true rfl, Nat.le_of_ble_eq_true rfl⟩ rfl hl.1 rfl (Nat.le_of_ble_eq_true rfl) d_Mo_sendBytes_54 ⟨Nat.zero_le _, Nat.zero_le _⟩ (fun I15 R16 h H locs V => ?_)
      obtain ⟨v17, ev17⟩ : ∃ z : Int32, z = x3 + 1 := ⟨_, rfl⟩
      have h := h v17 ev17
      refine lv_iinc (pc := 57) (k := 1) (v := v17) (lv' := [(3, .int v17), (0, .ref (A 80))]) hx hb d_Mo_sendBytes_57 hl rfl (by rw [ev17]; rfl) (by decide) rfl (fun ls hl => ?_)
      refine lv_goto (pc := 60) (tgt := 41) hx hb d_Mo_sendBytes_60 (by decide) ?_
      exact ih I15 R16 v17 H locs ls V (lv_sub hl [1, 0] rfl) h
def wp_Mo_sendBytes_L36 (Q : UI → UR → Prop) (I : UI) (R : UR) (s0 : Int32) (s1 : Int32) : Prop :=
  wp_Mo_put I R s1 s0 (fun I7 R8 => (∃ n41 : Nat, wp_Mo_sendBytes_L41 Q n41 I7 R8 0))
set_option maxHeartbeats 4000000 in
set_option maxRecDepth 100000 in
theorem j_Mo_sendBytes_36 (X : uX p s m args c prog_10_method_16_code 4 "FrameFerryModel" D cc L A t16 t32) (hr : meth.sig.returnType = none) (hlk : meth.locks = false) (hsz : sz = s.heap.size) {Q : UI → UR → Prop} {I : UI} {R : UR} {s0 : Int32} {s1 : Int32} {H : Heap} {locs : List Loc} {ls : Array Slot} (V : uV s D cc L A J I R H locs) (hl : lv_has ls 4 [(0, .ref (A 80))]) (h : wp_Mo_sendBytes_L36 Q I R s0 s1) : W p l e rm_Mo_sendBytes s m args below meth c H locs 0 0 (MQ below (va_Qv (fun u : UI × UR => Q u.1 u.2) (uBv D cc L A J) (uA L A sz)) args s 0 0 (uA L A sz)) (F0 m 36 ls [.int s0, .int s1, .ref (A 80)]) := by
  have hx := X.1
  have hb := X.2.1
  unfold wp_Mo_sendBytes_L36 at h
  refine u_cVv (pc := 36) (As := [.int s1, .int s0]) X V s_Mo_114 (X.fix rfl) rfl rfl rfl (c_Mo_put l D cc L A J t16 t32 _ _ s1 s0 _ h) ⟨rfl, rfl, Nat.le_of_ble_eq_true rfl, Nat.le_of_ble_eq_true rfl⟩ rfl hl.1 rfl (Nat.le_of_ble_eq_true rfl) d_Mo_sendBytes_36 ⟨Nat.zero_le _, Nat.zero_le _⟩ (fun I7 R8 h H locs V => ?_)
  refine lv_iconst (pc := 39) (v := 0) hx hb d_Mo_sendBytes_39 (by decide) ?_
  refine lv_istore_n (pc := 40) (lv' := [(3, .int 0), (0, .ref (A 80))]) hx hb d_Mo_sendBytes_40 rfl hl (by decide) rfl (fun ls hl => ?_)
  obtain ⟨n41, h⟩ := h
  exact j_Mo_sendBytes_41 X hr hlk hsz n41 I7 R8 0 H locs ls V (lv_sub hl [1, 0] rfl) h
def wp_Mo_sendBytes (I : UI) (R : UR) (x1 : Int32) (x2 : Int32) (Q : UI → UR → Prop) : Prop :=
  wp_Mo_header I R x1 x2 (fun I1 R2 => wp_Mo_put I1 R2 1 42 (fun I3 R4 => wp_Mo_put I3 R4 1 24 (fun I5 R6 => ((I5 80 21 = 0 → wp_Mo_sendBytes_L36 Q I5 R6 65 1) ∧ (¬ I5 80 21 = 0 → wp_Mo_sendBytes_L36 Q I5 R6 67 1)))))
set_option maxHeartbeats 4000000 in
set_option maxRecDepth 100000 in
theorem c_Mo_sendBytes (l : Launch) (D : va_G) (cc : Nat → ClassId) (L : List Nat) (A : Nat → Nat) (J : Nat → Int64) (t16 t32 : Nat) (I : UI) (R : UR) (x1 : Int32) (x2 : Int32) (Q : UI → UR → Prop) (h : wp_Mo_sendBytes I R x1 x2 Q) : uMv l y_Mo_sendBytes (.code y_Mo_sendBytes prog_10_method_16_code 4 none) rm_Mo_sendBytes [.ref (A 80), .int x1, .int x2] D cc L A J t16 t32 I R Q := by
  intro sz
  refine u_entry (by decide) (Nat.le_of_ble_eq_true rfl) (fun p e s m args below meth c hsz X V hr hlk ls hl => ?_)
  have X : uX p s m args c prog_10_method_16_code 4 "FrameFerryModel" D cc L A t16 t32 := X
  have hx := X.1
  have hb := X.2.1
  have hl : lv_has ls 4 [(0, .ref (A 80)), (1, .int x1), (2, .int x2)] := hl
  unfold wp_Mo_sendBytes at h
  generalize hH : s.heap = H at V ⊢
  generalize hlo : ([] : List Loc) = locs at V ⊢
  refine lv_aload_n (pc := 0) hx hb d_Mo_sendBytes_0 rfl (lv_at hl 0 rfl) ?_
  refine lv_iload_n (pc := 1) hx hb d_Mo_sendBytes_1 rfl (lv_at hl 1 rfl) ?_
  refine lv_iload_n (pc := 2) hx hb d_Mo_sendBytes_2 rfl (lv_at hl 2 rfl) ?_
  refine u_cVv (pc := 3) (As := [.int x1, .int x2]) X V s_Mo_118 (X.fix rfl) rfl rfl rfl (c_Mo_header l D cc L A J t16 t32 _ _ x1 x2 _ h) ⟨rfl, rfl, Nat.le_of_ble_eq_true rfl, Nat.le_of_ble_eq_true rfl⟩ rfl hl.1 rfl (Nat.le_of_ble_eq_true rfl) d_Mo_sendBytes_3 ⟨Nat.zero_le _, Nat.zero_le _⟩ (fun I1 R2 h H locs V => ?_)
  refine lv_aload_n (pc := 6) hx hb d_Mo_sendBytes_6 rfl (lv_at hl 0 rfl) ?_
  refine lv_iconst (pc := 7) (v := 1) hx hb d_Mo_sendBytes_7 (by decide) ?_
  refine lv_bipush (pc := 8) (v := 42) hx hb d_Mo_sendBytes_8 (by decide) ?_
  refine u_cVv (pc := 10) (As := [.int 1, .int 42]) X V s_Mo_114 (X.fix rfl) rfl rfl rfl (c_Mo_put l D cc L A J t16 t32 _ _ 1 42 _ h) ⟨rfl, rfl, Nat.le_of_ble_eq_true rfl, Nat.le_of_ble_eq_true rfl⟩ rfl hl.1 rfl (Nat.le_of_ble_eq_true rfl) d_Mo_sendBytes_10 ⟨Nat.zero_le _, Nat.zero_le _⟩ (fun I3 R4 h H locs V => ?_)
  refine lv_aload_n (pc := 13) hx hb d_Mo_sendBytes_13 rfl (lv_at hl 0 rfl) ?_
  refine lv_iconst (pc := 14) (v := 1) hx hb d_Mo_sendBytes_14 (by decide) ?_
  refine lv_bipush (pc := 15) (v := 24) hx hb d_Mo_sendBytes_15 (by decide) ?_
  refine u_cVv (pc := 17) (As := [.int 1, .int 24]) X V s_Mo_114 (X.fix rfl) rfl rfl rfl (c_Mo_put l D cc L A J t16 t32 _ _ 1 24 _ h) ⟨rfl, rfl, Nat.le_of_ble_eq_true rfl, Nat.le_of_ble_eq_true rfl⟩ rfl hl.1 rfl (Nat.le_of_ble_eq_true rfl) d_Mo_sendBytes_17 ⟨Nat.zero_le _, Nat.zero_le _⟩ (fun I5 R6 h H locs V => ?_)
  refine lv_aload_n (pc := 20) hx hb d_Mo_sendBytes_20 rfl (lv_at hl 0 rfl) ?_
  refine lv_iconst (pc := 21) (v := 1) hx hb d_Mo_sendBytes_21 (by decide) ?_
  refine lv_aload_n (pc := 22) hx hb d_Mo_sendBytes_22 rfl (lv_at hl 0 rfl) ?_
  refine u_geti (pc := 23) X V (X.fix rfl) rfl rfl f_Mo_128 rfl d_Mo_sendBytes_23 ?_
  refine lv_if_eq (pc := 26) (tgt := 34) hx hb d_Mo_sendBytes_26 (by decide) (fun hc => ?_) (fun hc => ?_)
  · have h := h.1 hc
    refine lv_bipush (pc := 34) (v := 65) hx hb d_Mo_sendBytes_34 (by decide) ?_
    exact j_Mo_sendBytes_36 X hr hlk hsz V (lv_sub hl [0] rfl) h
  · have h := h.2 hc
    refine lv_bipush (pc := 29) (v := 67) hx hb d_Mo_sendBytes_29 (by decide) ?_
    refine lv_goto (pc := 31) (tgt := 36) hx hb d_Mo_sendBytes_31 (by decide) ?_
    exact j_Mo_sendBytes_36 X hr hlk hsz V (lv_sub hl [0] rfl) h
-- FrameFerryModel.sendPacket (II)V
theorem d_Mo_sendPacket_0 : decode prog_10_method_17_code 0 = .ok (.iconst 0, 1) := by decide +kernel
theorem d_Mo_sendPacket_1 : decode prog_10_method_17_code 1 = .ok (.istore_n 3, 1) := by decide +kernel
theorem d_Mo_sendPacket_2 : decode prog_10_method_17_code 2 = .ok (.iload_n 3, 1) := by decide +kernel
theorem d_Mo_sendPacket_3 : decode prog_10_method_17_code 3 = .ok (.iload_n 1, 1) := by decide +kernel
theorem d_Mo_sendPacket_4 : decode prog_10_method_17_code 4 = .ok (.if_icmp .ge 20, 3) := by decide +kernel
theorem d_Mo_sendPacket_7 : decode prog_10_method_17_code 7 = .ok (.aload_n 0, 1) := by decide +kernel
theorem d_Mo_sendPacket_8 : decode prog_10_method_17_code 8 = .ok (.iconst 1, 1) := by decide +kernel
theorem d_Mo_sendPacket_9 : decode prog_10_method_17_code 9 = .ok (.aload_n 0, 1) := by decide +kernel
theorem d_Mo_sendPacket_10 : decode prog_10_method_17_code 10 = .ok (.getfield 79, 3) := by decide +kernel
theorem d_Mo_sendPacket_13 : decode prog_10_method_17_code 13 = .ok (.iload_n 3, 1) := by decide +kernel
theorem d_Mo_sendPacket_14 : decode prog_10_method_17_code 14 = .ok (.iaload, 1) := by decide +kernel
theorem d_Mo_sendPacket_15 : decode prog_10_method_17_code 15 = .ok (.invokevirtual 131, 3) := by decide +kernel
theorem d_Mo_sendPacket_18 : decode prog_10_method_17_code 18 = .ok (.iinc 3 1, 3) := by decide +kernel
theorem d_Mo_sendPacket_21 : decode prog_10_method_17_code 21 = .ok (.goto (-19), 3) := by decide +kernel
theorem d_Mo_sendPacket_24 : decode prog_10_method_17_code 24 = .ok (.aload_n 0, 1) := by decide +kernel
theorem d_Mo_sendPacket_25 : decode prog_10_method_17_code 25 = .ok (.iconst 1, 1) := by decide +kernel
theorem d_Mo_sendPacket_26 : decode prog_10_method_17_code 26 = .ok (.bipush 24, 2) := by decide +kernel
theorem d_Mo_sendPacket_28 : decode prog_10_method_17_code 28 = .ok (.invokevirtual 114, 3) := by decide +kernel
theorem d_Mo_sendPacket_31 : decode prog_10_method_17_code 31 = .ok (.aload_n 0, 1) := by decide +kernel
theorem d_Mo_sendPacket_32 : decode prog_10_method_17_code 32 = .ok (.iconst 1, 1) := by decide +kernel
theorem d_Mo_sendPacket_33 : decode prog_10_method_17_code 33 = .ok (.iload_n 2, 1) := by decide +kernel
theorem d_Mo_sendPacket_34 : decode prog_10_method_17_code 34 = .ok (.invokevirtual 114, 3) := by decide +kernel
theorem d_Mo_sendPacket_37 : decode prog_10_method_17_code 37 = .ok (.aload_n 0, 1) := by decide +kernel
theorem d_Mo_sendPacket_38 : decode prog_10_method_17_code 38 = .ok (.getfield 79, 3) := by decide +kernel
theorem d_Mo_sendPacket_41 : decode prog_10_method_17_code 41 = .ok (.iload_n 1, 1) := by decide +kernel
theorem d_Mo_sendPacket_42 : decode prog_10_method_17_code 42 = .ok (.iload_n 2, 1) := by decide +kernel
theorem d_Mo_sendPacket_43 : decode prog_10_method_17_code 43 = .ok (.iastore, 1) := by decide +kernel
theorem d_Mo_sendPacket_44 : decode prog_10_method_17_code 44 = .ok (.iconst 0, 1) := by decide +kernel
theorem d_Mo_sendPacket_45 : decode prog_10_method_17_code 45 = .ok (.istore_n 3, 1) := by decide +kernel
theorem d_Mo_sendPacket_46 : decode prog_10_method_17_code 46 = .ok (.iload_n 3, 1) := by decide +kernel
theorem d_Mo_sendPacket_47 : decode prog_10_method_17_code 47 = .ok (.aload_n 0, 1) := by decide +kernel
theorem d_Mo_sendPacket_48 : decode prog_10_method_17_code 48 = .ok (.getfield 128, 3) := by decide +kernel
theorem d_Mo_sendPacket_51 : decode prog_10_method_17_code 51 = .ok (.ifCond .eq 7, 3) := by decide +kernel
theorem d_Mo_sendPacket_54 : decode prog_10_method_17_code 54 = .ok (.iconst 4, 1) := by decide +kernel
theorem d_Mo_sendPacket_55 : decode prog_10_method_17_code 55 = .ok (.goto 4, 3) := by decide +kernel
theorem d_Mo_sendPacket_58 : decode prog_10_method_17_code 58 = .ok (.iconst 2, 1) := by decide +kernel
theorem d_Mo_sendPacket_59 : decode prog_10_method_17_code 59 = .ok (.if_icmp .ge 30, 3) := by decide +kernel
theorem d_Mo_sendPacket_62 : decode prog_10_method_17_code 62 = .ok (.aload_n 0, 1) := by decide +kernel
theorem d_Mo_sendPacket_63 : decode prog_10_method_17_code 63 = .ok (.iconst 1, 1) := by decide +kernel
theorem d_Mo_sendPacket_64 : decode prog_10_method_17_code 64 = .ok (.aload_n 0, 1) := by decide +kernel
theorem d_Mo_sendPacket_65 : decode prog_10_method_17_code 65 = .ok (.getfield 79, 3) := by decide +kernel
theorem d_Mo_sendPacket_68 : decode prog_10_method_17_code 68 = .ok (.iconst 0, 1) := by decide +kernel
theorem d_Mo_sendPacket_69 : decode prog_10_method_17_code 69 = .ok (.iload_n 1, 1) := by decide +kernel
theorem d_Mo_sendPacket_70 : decode prog_10_method_17_code 70 = .ok (.iconst 1, 1) := by decide +kernel
theorem d_Mo_sendPacket_71 : decode prog_10_method_17_code 71 = .ok (.iadd, 1) := by decide +kernel
theorem d_Mo_sendPacket_72 : decode prog_10_method_17_code 72 = .ok (.aload_n 0, 1) := by decide +kernel
theorem d_Mo_sendPacket_73 : decode prog_10_method_17_code 73 = .ok (.getfield 128, 3) := by decide +kernel
theorem d_Mo_sendPacket_76 : decode prog_10_method_17_code 76 = .ok (.iload_n 3, 1) := by decide +kernel
theorem d_Mo_sendPacket_77 : decode prog_10_method_17_code 77 = .ok (.invokestatic 124, 3) := by decide +kernel
theorem d_Mo_sendPacket_80 : decode prog_10_method_17_code 80 = .ok (.invokevirtual 131, 3) := by decide +kernel
theorem d_Mo_sendPacket_83 : decode prog_10_method_17_code 83 = .ok (.iinc 3 1, 3) := by decide +kernel
theorem d_Mo_sendPacket_86 : decode prog_10_method_17_code 86 = .ok (.goto (-40), 3) := by decide +kernel
theorem d_Mo_sendPacket_89 : decode prog_10_method_17_code 89 = .ok (.return_, 1) := by decide +kernel
def rm_Mo_sendPacket : Room := { frames := 2, cells := 0, slots := 0, locals := 50 }
def wp_Mo_sendPacket_L59 (Q : UI → UR → Prop) (K46 : UI → UR → Int32 → Int32 → Prop) (I : UI) (R : UR) (x1 : Int32) (x3 : Int32) (s0 : Int32) (s1 : Int32) : Prop :=
  ((s0 ≤ s1 → Q I R) ∧ (¬ s0 ≤ s1 → wp_Mo_checkByte I R 110 0 (x1 + 1) (I 80 21) x3 (fun r8 I6 R7 => wp_Mo_putEscaped I6 R7 1 r8 (fun I9 R10 => ∀ v11 : Int32, v11 = x3 + 1 → K46 I9 R10 x1 v11))))
set_option maxHeartbeats 4000000 in
set_option maxRecDepth 100000 in
theorem j_Mo_sendPacket_59 (X : uX p s m args c prog_10_method_17_code 4 "FrameFerryModel" D cc L A t16 t32) (hr : meth.sig.returnType = none) (hlk : meth.locks = false) (hsz : sz = s.heap.size) {Q : UI → UR → Prop} {K46 : UI → UR → Int32 → Int32 → Prop} (hK46 : ∀ (I : UI) (R : UR) (x1 : Int32) (x3 : Int32) (H : Heap) (locs : List Loc) (ls : Array Slot), uV s D cc L A J I R H locs → lv_has ls 4 [(0, .ref (A 80)), (1, .int x1), (3, .int x3)] → K46 I R x1 x3 → W p l e rm_Mo_sendPacket s m args below meth c H locs 0 0 (MQ below (va_Qv (fun u : UI × UR => Q u.1 u.2) (uBv D cc L A J) (uA L A sz)) args s 0 0 (uA L A sz)) (F0 m 46 ls [])) {I : UI} {R : UR} {x1 : Int32} {x3 : Int32} {s0 : Int32} {s1 : Int32} {H : Heap} {locs : List Loc} {ls : Array Slot} (V : uV s D cc L A J I R H locs) (hl : lv_has ls 4 [(0, .ref (A 80)), (1, .int x1), (3, .int x3)]) (h : wp_Mo_sendPacket_L59 Q K46 I R x1 x3 s0 s1) : W p l e rm_Mo_sendPacket s m args below meth c H locs 0 0 (MQ below (va_Qv (fun u : UI × UR => Q u.1 u.2) (uBv D cc L A J) (uA L A sz)) args s 0 0 (uA L A sz)) (F0 m 59 ls [.int s0, .int s1]) := by
  have hx := X.1
  have hb := X.2.1
  unfold wp_Mo_sendPacket_L59 at h
  refine lv_icmp_ge (pc := 59) (tgt := 89) hx hb d_Mo_sendPacket_59 (by decide) (fun hc => ?_) (fun hc => ?_)
  · have h := h.1 hc
    exact u_retv (pc := 89) X V hr hlk hsz h d_Mo_sendPacket_89
  · have h := h.2 hc
    refine lv_aload_n (pc := 62) hx hb d_Mo_sendPacket_62 rfl (lv_at hl 0 rfl) ?_
    refine lv_iconst (pc := 63) (v := 1) hx hb d_Mo_sendPacket_63 (by decide) ?_
    refine lv_aload_n (pc := 64) hx hb d_Mo_sendPacket_64 rfl (lv_at hl 0 rfl) ?_
    refine u_getr (pc := 65) (o' := 110) X V (X.fix rfl) rfl rfl f_Mo_79 rfl rfl d_Mo_sendPacket_65 ?_
    refine lv_iconst (pc := 68) (v := 0) hx hb d_Mo_sendPacket_68 (by decide) ?_
    refine lv_iload_n (pc := 69) hx hb d_Mo_sendPacket_69 rfl (lv_at hl 1 rfl) ?_
    refine lv_iconst (pc := 70) (v := 1) hx hb d_Mo_sendPacket_70 (by decide) ?_
    refine lv_iadd (pc := 71) hx hb d_Mo_sendPacket_71 ?_
    refine lv_aload_n (pc := 72) hx hb d_Mo_sendPacket_72 rfl (lv_at hl 0 rfl) ?_
    refine u_geti (pc := 73) X V (X.fix rfl) rfl rfl f_Mo_128 rfl d_Mo_sendPacket_73 ?_
    refine lv_iload_n (pc := 76) hx hb d_Mo_sendPacket_76 rfl (lv_at hl 2 rfl) ?_
    refine u_cSi (pc := 77) (As := [.ref (A 110), .int 0, .int (x1 + 1), .int (I 80 21), .int x3]) X V s_Mo_124 (c_Mo_checkByte l D cc L A J t16 t32 _ _ 110 ⟨(X.fix rfl), rfl⟩ 0 (x1 + 1) (I 80 21) x3 _ h) ⟨rfl, rfl, Nat.le_of_ble_eq_true rfl, Nat.le_of_ble_eq_true rfl⟩ rfl hl.1 rfl (Nat.le_of_ble_eq_true rfl) d_Mo_sendPacket_77 ⟨Nat.zero_le _, Nat.zero_le _⟩ (fun r8 I6 R7 h H locs V => ?_)
    refine u_cVv (pc := 80) (As := [.int 1, .int r8]) X V s_Mo_131 (X.fix rfl) rfl rfl rfl (c_Mo_putEscaped l D cc L A J t16 t32 _ _ 1 r8 _ h) ⟨rfl, rfl, Nat.le_of_ble_eq_true rfl, Nat.le_of_ble_eq_true rfl⟩ rfl hl.1 rfl (Nat.le_of_ble_eq_true rfl) d_Mo_sendPacket_80 ⟨Nat.zero_le _, Nat.zero_le _⟩ (fun I9 R10 h H locs V => ?_)
    obtain ⟨v11, ev11⟩ : ∃ z : Int32, z = x3 + 1 := ⟨_, rfl⟩
    have h := h v11 ev11
    refine lv_iinc (pc := 83) (k := 2) (v := v11) (lv' := [(3, .int v11), (0, .ref (A 80)), (1, .int x1)]) hx hb d_Mo_sendPacket_83 hl rfl (by rw [ev11]; rfl) (by decide) rfl (fun ls hl => ?_)
    refine lv_goto (pc := 86) (tgt := 46) hx hb d_Mo_sendPacket_86 (by decide) ?_
    exact hK46 I9 R10 x1 v11 H locs ls V (lv_sub hl [1, 2, 0] rfl) h
def wp_Mo_sendPacket_L46 (Q : UI → UR → Prop) : Nat → UI → UR → Int32 → Int32 → Prop
  | 0, _, _, _, _ => False
  | n + 1, I, R, x1, x3 => ((I 80 21 = 0 → wp_Mo_sendPacket_L59 Q (fun I R x1 x3 => wp_Mo_sendPacket_L46 Q n I R x1 x3) I R x1 x3 2 x3) ∧ (¬ I 80 21 = 0 → wp_Mo_sendPacket_L59 Q (fun I R x1 x3 => wp_Mo_sendPacket_L46 Q n I R x1 x3) I R x1 x3 4 x3))
set_option maxHeartbeats 4000000 in
set_option maxRecDepth 100000 in
theorem j_Mo_sendPacket_46 (X : uX p s m args c prog_10_method_17_code 4 "FrameFerryModel" D cc L A t16 t32) (hr : meth.sig.returnType = none) (hlk : meth.locks = false) (hsz : sz = s.heap.size) {Q : UI → UR → Prop} : ∀ (n : Nat) (I : UI) (R : UR) (x1 : Int32) (x3 : Int32) (H : Heap) (locs : List Loc) (ls : Array Slot), uV s D cc L A J I R H locs → lv_has ls 4 [(0, .ref (A 80)), (1, .int x1), (3, .int x3)] → wp_Mo_sendPacket_L46 Q n I R x1 x3 → W p l e rm_Mo_sendPacket s m args below meth c H locs 0 0 (MQ below (va_Qv (fun u : UI × UR => Q u.1 u.2) (uBv D cc L A J) (uA L A sz)) args s 0 0 (uA L A sz)) (F0 m 46 ls []) := by
  intro n
  induction n with
  | zero => exact fun I R x1 x3 H locs ls V hl h => False.elim h
  | succ n ih =>
    intro I R x1 x3 H locs ls V hl h
    have hx := X.1
    have hb := X.2.1
    rw [wp_Mo_sendPacket_L46] at h
    refine lv_iload_n (pc := 46) hx hb d_Mo_sendPacket_46 rfl (lv_at hl 2 rfl) ?_
    refine lv_aload_n (pc := 47) hx hb d_Mo_sendPacket_47 rfl (lv_at hl 0 rfl) ?_
    refine u_geti (pc := 48) X V (X.fix rfl) rfl rfl f_Mo_128 rfl d_Mo_sendPacket_48 ?_
    refine lv_if_eq (pc := 51) (tgt := 58) hx hb d_Mo_sendPacket_51 (by decide) (fun hc => ?_) (fun hc => ?_)
    · have h := h.1 hc
      refine lv_iconst (pc := 58) (v := 2) hx hb d_Mo_sendPacket_58 (by decide) ?_
      exact j_Mo_sendPacket_59 X hr hlk hsz ih V (lv_sub hl [0, 1, 2] rfl) h
    · have h := h.2 hc
      refine lv_iconst (pc := 54) (v := 4) hx hb d_Mo_sendPacket_54 (by decide) ?_
      refine lv_goto (pc := 55) (tgt := 59) hx hb d_Mo_sendPacket_55 (by decide) ?_
      exact j_Mo_sendPacket_59 X hr hlk hsz ih V (lv_sub hl [0, 1, 2] rfl) h
def wp_Mo_sendPacket_L2 (Q : UI → UR → Prop) : Nat → UI → UR → Int32 → Int32 → Int32 → Prop
  | 0, _, _, _, _, _ => False
  | n + 1, I, R, x1, x2, x3 => ((x1 ≤ x3 → wp_Mo_put I R 1 24 (fun I1 R2 => wp_Mo_put I1 R2 1 x2 (fun I3 R4 => vp_in x1 160 ∧ ∀ I5 : UI, I5 = u2 I3 110 x1.toNatClampNeg x2 → (∃ n46 : Nat, wp_Mo_sendPacket_L46 Q n46 I5 R4 x1 0)))) ∧ (¬ x1 ≤ x3 → vp_in x3 160 ∧ wp_Mo_putEscaped I R 1 (I 110 x3.toNatClampNeg) (fun I12 R13 => ∀ v14 : Int32, v14 = x3 + 1 → wp_Mo_sendPacket_L2 Q n I12 R13 x1 x2 v14)))
set_option maxHeartbeats 4000000 in
set_option maxRecDepth 100000 in
theorem j_Mo_sendPacket_2 (X : uX p s m args c prog_10_method_17_code 4 "FrameFerryModel" D cc L A t16 t32) (hr : meth.sig.returnType = none) (hlk : meth.locks = false) (hsz : sz = s.heap.size) {Q : UI → UR → Prop} : ∀ (n : Nat) (I : UI) (R : UR) (x1 : Int32) (x2 : Int32) (x3 : Int32) (H : Heap) (locs : List Loc) (ls : Array Slot), uV s D cc L A J I R H locs → lv_has ls 4 [(0, .ref (A 80)), (1, .int x1), (2, .int x2), (3, .int x3)] → wp_Mo_sendPacket_L2 Q n I R x1 x2 x3 → W p l e rm_Mo_sendPacket s m args below meth c H locs 0 0 (MQ below (va_Qv (fun u : UI × UR => Q u.1 u.2) (uBv D cc L A J) (uA L A sz)) args s 0 0 (uA L A sz)) (F0 m 2 ls []) := by
  intro n
  induction n with
  | zero => exact fun I R x1 x2 x3 H locs ls V hl h => False.elim h
  | succ n ih =>
    intro I R x1 x2 x3 H locs ls V hl h
    have hx := X.1
    have hb := X.2.1
    rw [wp_Mo_sendPacket_L2] at h
    refine lv_iload_n (pc := 2) hx hb d_Mo_sendPacket_2 rfl (lv_at hl 3 rfl) ?_
    refine lv_iload_n (pc := 3) hx hb d_Mo_sendPacket_3 rfl (lv_at hl 1 rfl) ?_
    refine lv_icmp_ge (pc := 4) (tgt := 24) hx hb d_Mo_sendPacket_4 (by decide) (fun hc => ?_) (fun hc => ?_)
    · have h := h.1 hc
      refine lv_aload_n (pc := 24) hx hb d_Mo_sendPacket_24 rfl (lv_at hl 0 rfl) ?_
      refine lv_iconst (pc := 25) (v := 1) hx hb d_Mo_sendPacket_25 (by decide) ?_
      refine lv_bipush (pc := 26) (v := 24) hx hb d_Mo_sendPacket_26 (by decide) ?_
      refine u_cVv (pc := 28) (As := [.int 1, .int 24]) X V s_Mo_114 (X.fix rfl) rfl rfl rfl (c_Mo_put l D cc L A J t16 t32 _ _ 1 24 _ h) ⟨rfl, rfl, Nat.le_of_ble_eq_true rfl, Nat.le_of_ble_eq_true rfl⟩ rfl hl.1 rfl (Nat.le_of_ble_eq_true rfl) d_Mo_sendPacket_28 ⟨Nat.zero_le _, Nat.zero_le _⟩ (fun I1 R2 h H locs V => ?_)
      refine lv_aload_n (pc := 31) hx hb d_Mo_sendPacket_31 rfl (lv_at hl 0 rfl) ?_
      refine lv_iconst (pc := 32) (v := 1) hx hb d_Mo_sendPacket_32 (by decide) ?_
      refine lv_iload_n (pc := 33) hx hb d_Mo_sendPacket_33 rfl (lv_at hl 2 rfl) ?_
      refine u_cVv (pc := 34) (As := [.int 1, .int x2]) X V s_Mo_114 (X.fix rfl) rfl rfl rfl (c_Mo_put l D cc L A J t16 t32 _ _ 1 x2 _ h) ⟨rfl, rfl, Nat.le_of_ble_eq_true rfl, Nat.le_of_ble_eq_true rfl⟩ rfl hl.1 rfl (Nat.le_of_ble_eq_true rfl) d_Mo_sendPacket_34 ⟨Nat.zero_le _, Nat.zero_le _⟩ (fun I3 R4 h H locs V => ?_)
      refine lv_aload_n (pc := 37) hx hb d_Mo_sendPacket_37 rfl (lv_at hl 0 rfl) ?_
      refine u_getr (pc := 38) (o' := 110) X V (X.fix rfl) rfl rfl f_Mo_79 rfl rfl d_Mo_sendPacket_38 ?_
      refine lv_iload_n (pc := 41) hx hb d_Mo_sendPacket_41 rfl (lv_at hl 1 rfl) ?_
      refine lv_iload_n (pc := 42) hx hb d_Mo_sendPacket_42 rfl (lv_at hl 2 rfl) ?_
      refine u_iast (pc := 43) X V (X.fix rfl) rfl rfl h.1 d_Mo_sendPacket_43 (fun I5 eI5 H locs V => ?_)
      have h := h.2 I5 eI5
      refine lv_iconst (pc := 44) (v := 0) hx hb d_Mo_sendPacket_44 (by decide) ?_
      refine lv_istore_n (pc := 45) (lv' := [(3, .int 0), (0, .ref (A 80)), (1, .int x1), (2, .int x2)]) hx hb d_Mo_sendPacket_45 rfl hl (by decide) rfl (fun ls hl => ?_)
      obtain ⟨n46, h⟩ := h
      exact j_Mo_sendPacket_46 X hr hlk hsz n46 I5 R4 x1 0 H locs ls V (lv_sub hl [1, 2, 0] rfl) h
    · have h := h.2 hc
      refine lv_aload_n (pc := 7) hx hb d_Mo_sendPacket_7 rfl (lv_at hl 0 rfl) ?_
      refine lv_iconst (pc := 8) (v := 1) hx hb d_Mo_sendPacket_8 (by decide) ?_
      refine lv_aload_n (pc := 9) hx hb d_Mo_sendPacket_9 rfl (lv_at hl 0 rfl) ?_
      refine u_getr (pc := 10) (o' := 110) X V (X.fix rfl) rfl rfl f_Mo_79 rfl rfl d_Mo_sendPacket_10 ?_
      refine lv_iload_n (pc := 13) hx hb d_Mo_sendPacket_13 rfl (lv_at hl 3 rfl) ?_
      refine u_iald (pc := 14) X V (X.fix rfl) rfl rfl h.1 d_Mo_sendPacket_14 ?_
      have h := h.2
      refine u_cVv (pc := 15) (As := [.int 1, .int (I 110 x3.toNatClampNeg)]) X V s_Mo_131 (X.fix rfl) rfl rfl rfl (c_Mo_putEscaped l D cc L A J t16 t32 _ _ 1 (I 110 x3.toNatClampNeg) _ h) ⟨rfl, rfl, Nat.le_of_ble_eq_true rfl, Nat.le_of_ble_eq_true rfl⟩ rfl hl.1 rfl (Nat.le_of_ble_eq_true rfl) d_Mo_sendPacket_15 ⟨Nat.zero_le _, Nat.zero_le _⟩ (fun I12 R13 h H locs V => ?_)
      obtain ⟨v14, ev14⟩ : ∃ z : Int32, z = x3 + 1 := ⟨_, rfl⟩
      have h := h v14 ev14
      refine lv_iinc (pc := 18) (k := 3) (v := v14) (lv' := [(3, .int v14), (0, .ref (A 80)), (1, .int x1), (2, .int x2)]) hx hb d_Mo_sendPacket_18 hl rfl (by rw [ev14]; rfl) (by decide) rfl (fun ls hl => ?_)
      refine lv_goto (pc := 21) (tgt := 2) hx hb d_Mo_sendPacket_21 (by decide) ?_
      exact ih I12 R13 x1 x2 v14 H locs ls V (lv_sub hl [1, 2, 3, 0] rfl) h
def wp_Mo_sendPacket (I : UI) (R : UR) (x1 : Int32) (x2 : Int32) (Q : UI → UR → Prop) : Prop :=
  (∃ n2 : Nat, wp_Mo_sendPacket_L2 Q n2 I R x1 x2 0)
set_option maxHeartbeats 4000000 in
set_option maxRecDepth 100000 in
theorem c_Mo_sendPacket (l : Launch) (D : va_G) (cc : Nat → ClassId) (L : List Nat) (A : Nat → Nat) (J : Nat → Int64) (t16 t32 : Nat) (I : UI) (R : UR) (x1 : Int32) (x2 : Int32) (Q : UI → UR → Prop) (h : wp_Mo_sendPacket I R x1 x2 Q) : uMv l y_Mo_sendPacket (.code y_Mo_sendPacket prog_10_method_17_code 4 none) rm_Mo_sendPacket [.ref (A 80), .int x1, .int x2] D cc L A J t16 t32 I R Q := by
  intro sz
  refine u_entry (by decide) (Nat.le_of_ble_eq_true rfl) (fun p e s m args below meth c hsz X V hr hlk ls hl => ?_)
  have X : uX p s m args c prog_10_method_17_code 4 "FrameFerryModel" D cc L A t16 t32 := X
  have hx := X.1
  have hb := X.2.1
  have hl : lv_has ls 4 [(0, .ref (A 80)), (1, .int x1), (2, .int x2)] := hl
  unfold wp_Mo_sendPacket at h
  generalize hH : s.heap = H at V ⊢
  generalize hlo : ([] : List Loc) = locs at V ⊢
  refine lv_iconst (pc := 0) (v := 0) hx hb d_Mo_sendPacket_0 (by decide) ?_
  refine lv_istore_n (pc := 1) (lv' := [(3, .int 0), (0, .ref (A 80)), (1, .int x1), (2, .int x2)]) hx hb d_Mo_sendPacket_1 rfl hl (by decide) rfl (fun ls hl => ?_)
  obtain ⟨n2, h⟩ := h
  exact j_Mo_sendPacket_2 X hr hlk hsz n2 I R x1 x2 0 H locs ls V (lv_sub hl [1, 2, 3, 0] rfl) h
end G
