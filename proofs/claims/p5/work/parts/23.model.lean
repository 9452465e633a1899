/-! Written by wip/gen/gen.py. -/
theorem s_Mo_92 : uCv "FrameFerryModel" 92 y_Mo_refused 1 (.code y_Mo_refused prog_10_method_3_code 2 (some .boolean)) := ⟨⟨tb_of 810 (by decide +kernel) rfl, tb_of 8 (by decide +kernel) rfl, tb_of 813 (by decide +kernel) rfl, by decide +kernel⟩, tb_of 812 (by decide +kernel) rfl, tb_sel 24 (by decide +kernel) rfl⟩
theorem s_Mo_214 : uCv "FrameFerryModel" 214 y_Mo_sendOn 0 (.code y_Mo_sendOn prog_10_method_21_code 6 none) := ⟨⟨tb_of 944 (by decide +kernel) rfl, tb_of 8 (by decide +kernel) rfl, tb_of 947 (by decide +kernel) rfl, by decide +kernel⟩, tb_of 946 (by decide +kernel) rfl, tb_sel 50 (by decide +kernel) rfl⟩
theorem s_Mo_211 : uCv "FrameFerryModel" 211 y_Mo_read 2 (.code y_Mo_read prog_10_method_26_code 3 none) := ⟨⟨tb_of 881 (by decide +kernel) rfl, tb_of 8 (by decide +kernel) rfl, tb_of 884 (by decide +kernel) rfl, by decide +kernel⟩, tb_of 883 (by decide +kernel) rfl, tb_sel 35 (by decide +kernel) rfl⟩
theorem s_Mo_217 : uCv "FrameFerryModel" 217 y_Mo_take 3 (.code y_Mo_take prog_10_method_41_code 5 none) := ⟨⟨tb_of 952 (by decide +kernel) rfl, tb_of 8 (by decide +kernel) rfl, tb_of 955 (by decide +kernel) rfl, by decide +kernel⟩, tb_of 954 (by decide +kernel) rfl, tb_sel 51 (by decide +kernel) rfl⟩
section G
variable {p : Program} {l : Launch} {e : Env} {s : State} {m : MethodId} {args : Array Value} {below : List Frame} {meth : Method} {c : Code} {D : va_G} {cc : Nat → ClassId} {L L0 : List Nat} {A A0 : Nat → Nat} {J : Nat → Int64} {t16 t32 sz : Nat}
-- FrameFerryModel.open (I)I
theorem d_Mo_open_0 : decode prog_10_method_5_code 0 = .ok (.iload_n 1, 1) := by decide +kernel
theorem d_Mo_open_1 : decode prog_10_method_5_code 1 = .ok (.iconst 0, 1) := by decide +kernel
theorem d_Mo_open_2 : decode prog_10_method_5_code 2 = .ok (.bipush 25, 2) := by decide +kernel
theorem d_Mo_open_4 : decode prog_10_method_5_code 4 = .ok (.invokestatic 85, 3) := by decide +kernel
theorem d_Mo_open_7 : decode prog_10_method_5_code 7 = .ok (.ifCond .ne 7, 3) := by decide +kernel
theorem d_Mo_open_10 : decode prog_10_method_5_code 10 = .ok (.iconst 1, 1) := by decide +kernel
theorem d_Mo_open_11 : decode prog_10_method_5_code 11 = .ok (.goto 4, 3) := by decide +kernel
theorem d_Mo_open_14 : decode prog_10_method_5_code 14 = .ok (.iconst 0, 1) := by decide +kernel
theorem d_Mo_open_15 : decode prog_10_method_5_code 15 = .ok (.istore_n 2, 1) := by decide +kernel
theorem d_Mo_open_16 : decode prog_10_method_5_code 16 = .ok (.iconst 0, 1) := by decide +kernel
theorem d_Mo_open_17 : decode prog_10_method_5_code 17 = .ok (.istore_n 3, 1) := by decide +kernel
theorem d_Mo_open_18 : decode prog_10_method_5_code 18 = .ok (.iload_n 3, 1) := by decide +kernel
theorem d_Mo_open_19 : decode prog_10_method_5_code 19 = .ok (.aload_n 0, 1) := by decide +kernel
theorem d_Mo_open_20 : decode prog_10_method_5_code 20 = .ok (.getfield 89, 3) := by decide +kernel
theorem d_Mo_open_23 : decode prog_10_method_5_code 23 = .ok (.if_icmp .ge 29, 3) := by decide +kernel
theorem d_Mo_open_26 : decode prog_10_method_5_code 26 = .ok (.iload_n 2, 1) := by decide +kernel
theorem d_Mo_open_27 : decode prog_10_method_5_code 27 = .ok (.ifCond .ne 13, 3) := by decide +kernel
theorem d_Mo_open_30 : decode prog_10_method_5_code 30 = .ok (.aload_n 0, 1) := by decide +kernel
theorem d_Mo_open_31 : decode prog_10_method_5_code 31 = .ok (.getfield 48, 3) := by decide +kernel
theorem d_Mo_open_34 : decode prog_10_method_5_code 34 = .ok (.iload_n 3, 1) := by decide +kernel
theorem d_Mo_open_35 : decode prog_10_method_5_code 35 = .ok (.iaload, 1) := by decide +kernel
theorem d_Mo_open_36 : decode prog_10_method_5_code 36 = .ok (.iload_n 1, 1) := by decide +kernel
theorem d_Mo_open_37 : decode prog_10_method_5_code 37 = .ok (.if_icmp .ne 7, 3) := by decide +kernel
theorem d_Mo_open_40 : decode prog_10_method_5_code 40 = .ok (.iconst 1, 1) := by decide +kernel
theorem d_Mo_open_41 : decode prog_10_method_5_code 41 = .ok (.goto 4, 3) := by decide +kernel
theorem d_Mo_open_44 : decode prog_10_method_5_code 44 = .ok (.iconst 0, 1) := by decide +kernel
theorem d_Mo_open_45 : decode prog_10_method_5_code 45 = .ok (.istore_n 2, 1) := by decide +kernel
theorem d_Mo_open_46 : decode prog_10_method_5_code 46 = .ok (.iinc 3 1, 3) := by decide +kernel
theorem d_Mo_open_49 : decode prog_10_method_5_code 49 = .ok (.goto (-31), 3) := by decide +kernel
theorem d_Mo_open_52 : decode prog_10_method_5_code 52 = .ok (.aload_n 0, 1) := by decide +kernel
theorem d_Mo_open_53 : decode prog_10_method_5_code 53 = .ok (.iload_n 2, 1) := by decide +kernel
theorem d_Mo_open_54 : decode prog_10_method_5_code 54 = .ok (.ifCond .eq 7, 3) := by decide +kernel
theorem d_Mo_open_57 : decode prog_10_method_5_code 57 = .ok (.iconst 1, 1) := by decide +kernel
theorem d_Mo_open_58 : decode prog_10_method_5_code 58 = .ok (.goto 24, 3) := by decide +kernel
theorem d_Mo_open_61 : decode prog_10_method_5_code 61 = .ok (.aload_n 0, 1) := by decide +kernel
theorem d_Mo_open_62 : decode prog_10_method_5_code 62 = .ok (.getfield 89, 3) := by decide +kernel
theorem d_Mo_open_65 : decode prog_10_method_5_code 65 = .ok (.iconst 4, 1) := by decide +kernel
theorem d_Mo_open_66 : decode prog_10_method_5_code 66 = .ok (.if_icmp .eq 11, 3) := by decide +kernel
theorem d_Mo_open_69 : decode prog_10_method_5_code 69 = .ok (.aload_n 0, 1) := by decide +kernel
theorem d_Mo_open_70 : decode prog_10_method_5_code 70 = .ok (.getfield 57, 3) := by decide +kernel
theorem d_Mo_open_73 : decode prog_10_method_5_code 73 = .ok (.iconst 5, 1) := by decide +kernel
theorem d_Mo_open_74 : decode prog_10_method_5_code 74 = .ok (.if_icmp .eq 7, 3) := by decide +kernel
theorem d_Mo_open_77 : decode prog_10_method_5_code 77 = .ok (.iconst 2, 1) := by decide +kernel
theorem d_Mo_open_78 : decode prog_10_method_5_code 78 = .ok (.goto 4, 3) := by decide +kernel
theorem d_Mo_open_81 : decode prog_10_method_5_code 81 = .ok (.iconst 0, 1) := by decide +kernel
theorem d_Mo_open_82 : decode prog_10_method_5_code 82 = .ok (.invokevirtual 92, 3) := by decide +kernel
theorem d_Mo_open_85 : decode prog_10_method_5_code 85 = .ok (.ifCond .eq 5, 3) := by decide +kernel
theorem d_Mo_open_88 : decode prog_10_method_5_code 88 = .ok (.iconst 0, 1) := by decide +kernel
theorem d_Mo_open_89 : decode prog_10_method_5_code 89 = .ok (.ireturn, 1) := by decide +kernel
theorem d_Mo_open_90 : decode prog_10_method_5_code 90 = .ok (.aload_n 0, 1) := by decide +kernel
theorem d_Mo_open_91 : decode prog_10_method_5_code 91 = .ok (.getfield 48, 3) := by decide +kernel
theorem d_Mo_open_94 : decode prog_10_method_5_code 94 = .ok (.aload_n 0, 1) := by decide +kernel
theorem d_Mo_open_95 : decode prog_10_method_5_code 95 = .ok (.getfield 89, 3) := by decide +kernel
theorem d_Mo_open_98 : decode prog_10_method_5_code 98 = .ok (.iload_n 1, 1) := by decide +kernel
theorem d_Mo_open_99 : decode prog_10_method_5_code 99 = .ok (.iastore, 1) := by decide +kernel
theorem d_Mo_open_100 : decode prog_10_method_5_code 100 = .ok (.aload_n 0, 1) := by decide +kernel
theorem d_Mo_open_101 : decode prog_10_method_5_code 101 = .ok (.getfield 51, 3) := by decide +kernel
theorem d_Mo_open_104 : decode prog_10_method_5_code 104 = .ok (.aload_n 0, 1) := by decide +kernel
theorem d_Mo_open_105 : decode prog_10_method_5_code 105 = .ok (.getfield 89, 3) := by decide +kernel
theorem d_Mo_open_108 : decode prog_10_method_5_code 108 = .ok (.iconst 0, 1) := by decide +kernel
theorem d_Mo_open_109 : decode prog_10_method_5_code 109 = .ok (.iastore, 1) := by decide +kernel
theorem d_Mo_open_110 : decode prog_10_method_5_code 110 = .ok (.aload_n 0, 1) := by decide +kernel
theorem d_Mo_open_111 : decode prog_10_method_5_code 111 = .ok (.dup, 1) := by decide +kernel
theorem d_Mo_open_112 : decode prog_10_method_5_code 112 = .ok (.getfield 89, 3) := by decide +kernel
theorem d_Mo_open_115 : decode prog_10_method_5_code 115 = .ok (.iconst 1, 1) := by decide +kernel
theorem d_Mo_open_116 : decode prog_10_method_5_code 116 = .ok (.iadd, 1) := by decide +kernel
theorem d_Mo_open_117 : decode prog_10_method_5_code 117 = .ok (.putfield 89, 3) := by decide +kernel
theorem d_Mo_open_120 : decode prog_10_method_5_code 120 = .ok (.aload_n 0, 1) := by decide +kernel
theorem d_Mo_open_121 : decode prog_10_method_5_code 121 = .ok (.aload_n 0, 1) := by decide +kernel
theorem d_Mo_open_122 : decode prog_10_method_5_code 122 = .ok (.getfield 89, 3) := by decide +kernel
theorem d_Mo_open_125 : decode prog_10_method_5_code 125 = .ok (.putfield 96, 3) := by decide +kernel
theorem d_Mo_open_128 : decode prog_10_method_5_code 128 = .ok (.aload_n 0, 1) := by decide +kernel
theorem d_Mo_open_129 : decode prog_10_method_5_code 129 = .ok (.getfield 89, 3) := by decide +kernel
theorem d_Mo_open_132 : decode prog_10_method_5_code 132 = .ok (.ireturn, 1) := by decide +kernel
def rm_Mo_open : Room := { frames := 1, cells := 0, slots := 0, locals := 22 }
def wp_Mo_open_L82 (Q : Int32 → UI → UR → Prop) (I : UI) (R : UR) (x1 : Int32) (s0 : Int32) : Prop :=
  wp_Mo_refused I R s0 (fun r6 I4 R5 => ((r6 = 0 → vp_in (I4 80 13) 4 ∧ ∀ I7 : UI, I7 = u2 I4 94 ((I4 80 13).toNatClampNeg) x1 → vp_in (I7 80 13) 4 ∧ ∀ I8 : UI, I8 = u2 I7 95 ((I7 80 13).toNatClampNeg) 0 → ∀ I9 : UI, I9 = u2 I8 80 13 ((I8 80 13) + 1) → ∀ I10 : UI, I10 = u2 I9 80 18 (I9 80 13) → Q (I10 80 13) I10 R5) ∧ (¬ r6 = 0 → Q 0 I4 R5)))
set_option maxHeartbeats 4000000 in
set_option maxRecDepth 100000 in
theorem j_Mo_open_82 (X : uX p s m args c prog_10_method_5_code 4 "FrameFerryModel" D cc L A t16 t32) (hr : meth.sig.returnType = (some .int)) (hlk : meth.locks = false) (hsz : sz = s.heap.size) {Q : Int32 → UI → UR → Prop} {I : UI} {R : UR} {x1 : Int32} {s0 : Int32} {H : Heap} {locs : List Loc} {ls : Array Slot} (V : uV s D cc L A J I R H locs) (hl : lv_has ls 4 [(0, .ref (A 80)), (1, .int x1)]) (h : wp_Mo_open_L82 Q I R x1 s0) : W p l e rm_Mo_open s m args below meth c H locs 0 0 (MQ below (va_Qi (fun (r : Int32) (u : UI × UR) => Q r u.1 u.2) (uBv D cc L A J) (uA L A sz)) args s 0 0 (uA L A sz)) (F0 m 82 ls [.int s0, .ref (A 80)]) := by
  have hx := X.1
  have hb := X.2.1
  unfold wp_Mo_open_L82 at h
  refine u_cVi (pc := 82) (As := [.int s0]) X V s_Mo_92 (X.fix rfl) rfl rfl rfl (c_Mo_refused l D cc L A J t16 t32 _ _ s0 _ h) ⟨rfl, rfl, Nat.le_of_ble_eq_true rfl, Nat.le_of_ble_eq_true rfl⟩ rfl hl.1 rfl (Nat.le_of_ble_eq_true rfl) d_Mo_open_82 ⟨Nat.zero_le _, Nat.zero_le _⟩ (fun r6 I4 R5 h H locs V => ?_)
  refine lv_if_eq (pc := 85) (tgt := 90) hx hb d_Mo_open_85 (by decide) (fun hc => ?_) (fun hc => ?_)
  · have h := h.1 hc
    refine lv_aload_n (pc := 90) hx hb d_Mo_open_90 rfl (lv_at hl 0 rfl) ?_
    refine u_getr (pc := 91) (o' := 94) X V (X.fix rfl) rfl rfl f_Mo_48 rfl rfl d_Mo_open_91 ?_
    refine lv_aload_n (pc := 94) hx hb d_Mo_open_94 rfl (lv_at hl 0 rfl) ?_
    refine u_geti (pc := 95) X V (X.fix rfl) rfl rfl f_Mo_89 rfl d_Mo_open_95 ?_
    refine lv_iload_n (pc := 98) hx hb d_Mo_open_98 rfl (lv_at hl 1 rfl) ?_
    refine u_iast (pc := 99) X V (X.fix rfl) rfl rfl h.1 d_Mo_open_99 (fun I7 eI7 H locs V => ?_)
    have h := h.2 I7 eI7
    refine lv_aload_n (pc := 100) hx hb d_Mo_open_100 rfl (lv_at hl 0 rfl) ?_
    refine u_getr (pc := 101) (o' := 95) X V (X.fix rfl) rfl rfl f_Mo_51 rfl rfl d_Mo_open_101 ?_
    refine lv_aload_n (pc := 104) hx hb d_Mo_open_104 rfl (lv_at hl 0 rfl) ?_
    refine u_geti (pc := 105) X V (X.fix rfl) rfl rfl f_Mo_89 rfl d_Mo_open_105 ?_
    refine lv_iconst (pc := 108) (v := 0) hx hb d_Mo_open_108 (by decide) ?_
    refine u_iast (pc := 109) X V (X.fix rfl) rfl rfl h.1 d_Mo_open_109 (fun I8 eI8 H locs V => ?_)
    have h := h.2 I8 eI8
    refine lv_aload_n (pc := 110) hx hb d_Mo_open_110 rfl (lv_at hl 0 rfl) ?_
    refine lv_dup (pc := 111) hx hb d_Mo_open_111 rfl ?_
    refine u_geti (pc := 112) X V (X.fix rfl) rfl rfl f_Mo_89 rfl d_Mo_open_112 ?_
    refine lv_iconst (pc := 115) (v := 1) hx hb d_Mo_open_115 (by decide) ?_
    refine lv_iadd (pc := 116) hx hb d_Mo_open_116 ?_
    refine u_puti (pc := 117) X V (X.fix rfl) rfl rfl f_Mo_89 rfl d_Mo_open_117 (fun I9 eI9 H locs V => ?_)
    have h := h I9 eI9
    refine lv_aload_n (pc := 120) hx hb d_Mo_open_120 rfl (lv_at hl 0 rfl) ?_
    refine lv_aload_n (pc := 121) hx hb d_Mo_open_121 rfl (lv_at hl 0 rfl) ?_
    refine u_geti (pc := 122) X V (X.fix rfl) rfl rfl f_Mo_89 rfl d_Mo_open_122 ?_
    refine u_puti (pc := 125) X V (X.fix rfl) rfl rfl f_Mo_96 rfl d_Mo_open_125 (fun I10 eI10 H locs V => ?_)
    have h := h I10 eI10
    refine lv_aload_n (pc := 128) hx hb d_Mo_open_128 rfl (lv_at hl 0 rfl) ?_
    refine u_geti (pc := 129) X V (X.fix rfl) rfl rfl f_Mo_89 rfl d_Mo_open_129 ?_
    exact u_reti (pc := 132) X V hr hlk hsz h d_Mo_open_132
  · have h := h.2 hc
    refine lv_iconst (pc := 88) (v := 0) hx hb d_Mo_open_88 (by decide) ?_
    exact u_reti (pc := 89) X V hr hlk hsz h d_Mo_open_89
def wp_Mo_open_L77 (Q : Int32 → UI → UR → Prop) (I : UI) (R : UR) (x1 : Int32) : Prop :=
  wp_Mo_open_L82 Q I R x1 2
set_option maxHeartbeats 4000000 in
set_option maxRecDepth 100000 in
theorem j_Mo_open_77 (X : uX p s m args c prog_10_method_5_code 4 "FrameFerryModel" D cc L A t16 t32) (hr : meth.sig.returnType = (some .int)) (hlk : meth.locks = false) (hsz : sz = s.heap.size) {Q : Int32 → UI → UR → Prop} {I : UI} {R : UR} {x1 : Int32} {H : Heap} {locs : List Loc} {ls : Array Slot} (V : uV s D cc L A J I R H locs) (hl : lv_has ls 4 [(0, .ref (A 80)), (1, .int x1)]) (h : wp_Mo_open_L77 Q I R x1) : W p l e rm_Mo_open s m args below meth c H locs 0 0 (MQ below (va_Qi (fun (r : Int32) (u : UI × UR) => Q r u.1 u.2) (uBv D cc L A J) (uA L A sz)) args s 0 0 (uA L A sz)) (F0 m 77 ls [.ref (A 80)]) := by
  have hx := X.1
  have hb := X.2.1
  unfold wp_Mo_open_L77 at h
  refine lv_iconst (pc := 77) (v := 2) hx hb d_Mo_open_77 (by decide) ?_
  refine lv_goto (pc := 78) (tgt := 82) hx hb d_Mo_open_78 (by decide) ?_
  exact j_Mo_open_82 X hr hlk hsz V (lv_sub hl [0, 1] rfl) h
def wp_Mo_open_L45 (Q : Int32 → UI → UR → Prop) (K18 : UI → UR → Int32 → Int32 → Int32 → Prop) (I : UI) (R : UR) (x1 : Int32) (x3 : Int32) (s0 : Int32) : Prop :=
  ∀ v11 : Int32, v11 = x3 + 1 → K18 I R x1 s0 v11
set_option maxHeartbeats 4000000 in
set_option maxRecDepth 100000 in
theorem j_Mo_open_45 (X : uX p s m args c prog_10_method_5_code 4 "FrameFerryModel" D cc L A t16 t32) (hr : meth.sig.returnType = (some .int)) (hlk : meth.locks = false) (hsz : sz = s.heap.size) {Q : Int32 → UI → UR → Prop} {K18 : UI → UR → Int32 → Int32 → Int32 → Prop} (hK18 : ∀ (I : UI) (R : UR) (x1 : Int32) (x2 : Int32) (x3 : Int32) (H : Heap) (locs : List Loc) (ls : Array Slot), uV s D cc L A J I R H locs → lv_has ls 4 [(0, .ref (A 80)), (1, .int x1), (2, .int x2), (3, .int x3)] → K18 I R x1 x2 x3 → W p l e rm_Mo_open s m args below meth c H locs 0 0 (MQ below (va_Qi (fun (r : Int32) (u : UI × UR) => Q r u.1 u.2) (uBv D cc L A J) (uA L A sz)) args s 0 0 (uA L A sz)) (F0 m 18 ls [])) {I : UI} {R : UR} {x1 : Int32} {x3 : Int32} {s0 : Int32} {H : Heap} {locs : List Loc} {ls : Array Slot} (V : uV s D cc L A J I R H locs) (hl : lv_has ls 4 [(0, .ref (A 80)), (1, .int x1), (3, .int x3)]) (h : wp_Mo_open_L45 Q K18 I R x1 x3 s0) : W p l e rm_Mo_open s m args below meth c H locs 0 0 (MQ below (va_Qi (fun (r : Int32) (u : UI × UR) => Q r u.1 u.2) (uBv D cc L A J) (uA L A sz)) args s 0 0 (uA L A sz)) (F0 m 45 ls [.int s0]) := by
  have hx := X.1
  have hb := X.2.1
  unfold wp_Mo_open_L45 at h
  refine lv_istore_n (pc := 45) (lv' := [(2, .int s0), (0, .ref (A 80)), (1, .int x1), (3, .int x3)]) hx hb d_Mo_open_45 rfl hl (by decide) rfl (fun ls hl => ?_)
  obtain ⟨v11, ev11⟩ : ∃ z : Int32, z = x3 + 1 := ⟨_, rfl⟩
  have h := h v11 ev11
  refine lv_iinc (pc := 46) (k := 3) (v := v11) (lv' := [(3, .int v11), (2, .int s0), (0, .ref (A 80)), (1, .int x1)]) hx hb d_Mo_open_46 hl rfl (by rw [ev11]; rfl) (by decide) rfl (fun ls hl => ?_)
  refine lv_goto (pc := 49) (tgt := 18) hx hb d_Mo_open_49 (by decide) ?_
  exact hK18 I R x1 s0 v11 H locs ls V (lv_sub hl [2, 3, 1, 0] rfl) h
def wp_Mo_open_L40 (Q : Int32 → UI → UR → Prop) (K18 : UI → UR → Int32 → Int32 → Int32 → Prop) (I : UI) (R : UR) (x1 : Int32) (x3 : Int32) : Prop :=
  wp_Mo_open_L45 Q K18 I R x1 x3 1
set_option maxHeartbeats 4000000 in
set_option maxRecDepth 100000 in
theorem j_Mo_open_40 (X : uX p s m args c prog_10_method_5_code 4 "FrameFerryModel" D cc L A t16 t32) (hr : meth.sig.returnType = (some .int)) (hlk : meth.locks = false) (hsz : sz = s.heap.size) {Q : Int32 → UI → UR → Prop} {K18 : UI → UR → Int32 → Int32 → Int32 → Prop} (hK18 : ∀ (I : UI) (R : UR) (x1 : Int32) (x2 : Int32) (x3 : Int32) (H : Heap) (locs : List Loc) (ls : Array Slot), uV s D cc L A J I R H locs → lv_has ls 4 [(0, .ref (A 80)), (1, .int x1), (2, .int x2), (3, .int x3)] → K18 I R x1 x2 x3 → W p l e rm_Mo_open s m args below meth c H locs 0 0 (MQ below (va_Qi (fun (r : Int32) (u : UI × UR) => Q r u.1 u.2) (uBv D cc L A J) (uA L A sz)) args s 0 0 (uA L A sz)) (F0 m 18 ls [])) {I : UI} {R : UR} {x1 : Int32} {x3 : Int32} {H : Heap} {locs : List Loc} {ls : Array Slot} (V : uV s D cc L A J I R H locs) (hl : lv_has ls 4 [(0, .ref (A 80)), (1, .int x1), (3, .int x3)]) (h : wp_Mo_open_L40 Q K18 I R x1 x3) : W p l e rm_Mo_open s m args below meth c H locs 0 0 (MQ below (va_Qi (fun (r : Int32) (u : UI × UR) => Q r u.1 u.2) (uBv D cc L A J) (uA L A sz)) args s 0 0 (uA L A sz)) (F0 m 40 ls []) := by
  have hx := X.1
  have hb := X.2.1
  unfold wp_Mo_open_L40 at h
  refine lv_iconst (pc := 40) (v := 1) hx hb d_Mo_open_40 (by decide) ?_
  refine lv_goto (pc := 41) (tgt := 45) hx hb d_Mo_open_41 (by decide) ?_
  exact j_Mo_open_45 X hr hlk hsz hK18 V (lv_sub hl [0, 1, 2] rfl) h
def wp_Mo_open_L18 (Q : Int32 → UI → UR → Prop) : Nat → UI → UR → Int32 → Int32 → Int32 → Prop
  | 0, _, _, _, _, _ => False
  | n + 1, I, R, x1, x2, x3 => ((I 80 13 ≤ x3 → ((x2 = 0 → ((I 80 13 = 4 → wp_Mo_open_L77 Q I R x1) ∧ (¬ I 80 13 = 4 → ((I 80 17 = 5 → wp_Mo_open_L82 Q I R x1 0) ∧ (¬ I 80 17 = 5 → wp_Mo_open_L77 Q I R x1))))) ∧ (¬ x2 = 0 → wp_Mo_open_L82 Q I R x1 1))) ∧ (¬ I 80 13 ≤ x3 → ((¬ x2 = 0 → wp_Mo_open_L40 Q (fun I R x1 x2 x3 => wp_Mo_open_L18 Q n I R x1 x2 x3) I R x1 x3) ∧ (x2 = 0 → vp_in x3 4 ∧ ((¬ I 94 x3.toNatClampNeg = x1 → wp_Mo_open_L45 Q (fun I R x1 x2 x3 => wp_Mo_open_L18 Q n I R x1 x2 x3) I R x1 x3 0) ∧ (I 94 x3.toNatClampNeg = x1 → wp_Mo_open_L40 Q (fun I R x1 x2 x3 => wp_Mo_open_L18 Q n I R x1 x2 x3) I R x1 x3))))))
set_option maxHeartbeats 4000000 in
set_option maxRecDepth 100000 in
theorem j_Mo_open_18 (X : uX p s m args c prog_10_method_5_code 4 "FrameFerryModel" D cc L A t16 t32) (hr : meth.sig.returnType = (some .int)) (hlk : meth.locks = false) (hsz : sz = s.heap.size) {Q : Int32 → UI → UR → Prop} : ∀ (n : Nat) (I : UI) (R : UR) (x1 : Int32) (x2 : Int32) (x3 : Int32) (H : Heap) (locs : List Loc) (ls : Array Slot), uV s D cc L A J I R H locs → lv_has ls 4 [(0, .ref (A 80)), (1, .int x1), (2, .int x2), (3, .int x3)] → wp_Mo_open_L18 Q n I R x1 x2 x3 → W p l e rm_Mo_open s m args below meth c H locs 0 0 (MQ below (va_Qi (fun (r : Int32) (u : UI × UR) => Q r u.1 u.2) (uBv D cc L A J) (uA L A sz)) args s 0 0 (uA L A sz)) (F0 m 18 ls []) := by
  intro n
  induction n with
  | zero => exact fun I R x1 x2 x3 H locs ls V hl h => False.elim h
  | succ n ih =>
    intro I R x1 x2 x3 H locs ls V hl h
    have hx := X.1
    have hb := X.2.1
    rw [wp_Mo_open_L18] at h
    refine lv_iload_n (pc := 18) hx hb d_Mo_open_18 rfl (lv_at hl 3 rfl) ?_
    refine lv_aload_n (pc := 19) hx hb d_Mo_open_19 rfl (lv_at hl 0 rfl) ?_
    refine u_geti (pc := 20) X V (X.fix rfl) rfl rfl f_Mo_89 rfl d_Mo_open_20 ?_
    refine lv_icmp_ge (pc := 23) (tgt := 52) hx hb d_Mo_open_23 (by decide) (fun hc => ?_) (fun hc => ?_)
    · have h := h.1 hc
      refine lv_aload_n (pc := 52) hx hb d_Mo_open_52 rfl (lv_at hl 0 rfl) ?_
      refine lv_iload_n (pc := 53) hx hb d_Mo_open_53 rfl (lv_at hl 2 rfl) ?_
      refine lv_if_eq (pc := 54) (tgt := 61) hx hb d_Mo_open_54 (by decide) (fun hc => ?_) (fun hc => ?_)
      · have h := h.1 hc
        refine lv_aload_n (pc := 61) hx hb d_Mo_open_61 rfl (lv_at hl 0 rfl) ?_
        refine u_geti (pc := 62) X V (X.fix rfl) rfl rfl f_Mo_89 rfl d_Mo_open_62 ?_
        refine lv_iconst (pc := 65) (v := 4) hx hb d_Mo_open_65 (by decide) ?_
        refine lv_icmp_eq (pc := 66) (tgt := 77) hx hb d_Mo_open_66 (by decide) (fun hc => ?_) (fun hc => ?_)
        · have h := h.1 hc
          exact j_Mo_open_77 X hr hlk hsz V (lv_sub hl [0, 1] rfl) h
        · have h := h.2 hc
          refine lv_aload_n (pc := 69) hx hb d_Mo_open_69 rfl (lv_at hl 0 rfl) ?_
          refine u_geti (pc := 70) X V (X.fix rfl) rfl rfl f_Mo_57 rfl d_Mo_open_70 ?_
          refine lv_iconst (pc := 73) (v := 5) hx hb d_Mo_open_73 (by decide) ?_
          refine lv_icmp_eq (pc := 74) (tgt := 81) hx hb d_Mo_open_74 (by decide) (fun hc => ?_) (fun hc => ?_)
          · have h := h.1 hc
            refine lv_iconst (pc := 81) (v := 0) hx hb d_Mo_open_81 (by decide) ?_
            exact j_Mo_open_82 X hr hlk hsz V (lv_sub hl [0, 1] rfl) h
          · have h := h.2 hc
            exact j_Mo_open_77 X hr hlk hsz V (lv_sub hl [0, 1] rfl) h
      · have h := h.2 hc
        refine lv_iconst (pc := 57) (v := 1) hx hb d_Mo_open_57 (by decide) ?_
        refine lv_goto (pc := 58) (tgt := 82) hx hb d_Mo_open_58 (by decide) ?_
        exact j_Mo_open_82 X hr hlk hsz V (lv_sub hl [0, 1] rfl) h
    · have h := h.2 hc
      refine lv_iload_n (pc := 26) hx hb d_Mo_open_26 rfl (lv_at hl 2 rfl) ?_
      refine lv_if_ne (pc := 27) (tgt := 40) hx hb d_Mo_open_27 (by decide) (fun hc => ?_) (fun hc => ?_)
      · have h := h.1 hc
        exact j_Mo_open_40 X hr hlk hsz ih V (lv_sub hl [0, 1, 3] rfl) h
      · have h := h.2 hc
        refine lv_aload_n (pc := 30) hx hb d_Mo_open_30 rfl (lv_at hl 0 rfl) ?_
        refine u_getr (pc := 31) (o' := 94) X V (X.fix rfl) rfl rfl f_Mo_48 rfl rfl d_Mo_open_31 ?_
        refine lv_iload_n (pc := 34) hx hb d_Mo_open_34 rfl (lv_at hl 3 rfl) ?_
        refine u_iald (pc := 35) X V (X.fix rfl) rfl rfl h.1 d_Mo_open_35 ?_
        have h := h.2
        refine lv_iload_n (pc := 36) hx hb d_Mo_open_36 rfl (lv_at hl 1 rfl) ?_
        refine lv_icmp_ne (pc := 37) (tgt := 44) hx hb d_Mo_open_37 (by decide) (fun hc => ?_) (fun hc => ?_)
        · have h := h.1 hc
          refine lv_iconst (pc := 44) (v := 0) hx hb d_Mo_open_44 (by decide) ?_
          exact j_Mo_open_45 X hr hlk hsz ih V (lv_sub hl [0, 1, 3] rfl) h
        · have h := h.2 hc
          exact j_Mo_open_40 X hr hlk hsz ih V (lv_sub hl [0, 1, 3] rfl) h
def wp_Mo_open_L15 (Q : Int32 → UI → UR → Prop) (I : UI) (R : UR) (x1 : Int32) (s0 : Int32) : Prop :=
  (∃ n18 : Nat, wp_Mo_open_L18 Q n18 I R x1 s0 0)
set_option maxHeartbeats 4000000 in
set_option maxRecDepth 100000 in
theorem j_Mo_open_15 (X : uX p s m args c prog_10_method_5_code 4 "FrameFerryModel" D cc L A t16 t32) (hr : meth.sig.returnType = (some .int)) (hlk : meth.locks = false) (hsz : sz = s.heap.size) {Q : Int32 → UI → UR → Prop} {I : UI} {R : UR} {x1 : Int32} {s0 : Int32} {H : Heap} {locs : List Loc} {ls : Array Slot} (V : uV s D cc L A J I R H locs) (hl : lv_has ls 4 [(0, .ref (A 80)), (1, .int x1)]) (h : wp_Mo_open_L15 Q I R x1 s0) : W p l e rm_Mo_open s m args below meth c H locs 0 0 (MQ below (va_Qi (fun (r : Int32) (u : UI × UR) => Q r u.1 u.2) (uBv D cc L A J) (uA L A sz)) args s 0 0 (uA L A sz)) (F0 m 15 ls [.int s0]) := by
  have hx := X.1
  have hb := X.2.1
  unfold wp_Mo_open_L15 at h
  refine lv_istore_n (pc := 15) (lv' := [(2, .int s0), (0, .ref (A 80)), (1, .int x1)]) hx hb d_Mo_open_15 rfl hl (by decide) rfl (fun ls hl => ?_)
  refine lv_iconst (pc := 16) (v := 0) hx hb d_Mo_open_16 (by decide) ?_
  refine lv_istore_n (pc := 17) (lv' := [(3, .int 0), (2, .int s0), (0, .ref (A 80)), (1, .int x1)]) hx hb d_Mo_open_17 rfl hl (by decide) rfl (fun ls hl => ?_)
  obtain ⟨n18, h⟩ := h
  exact j_Mo_open_18 X hr hlk hsz n18 I R x1 s0 0 H locs ls V (lv_sub hl [2, 3, 1, 0] rfl) h
def wp_Mo_open (I : UI) (R : UR) (x1 : Int32) (Q : Int32 → UI → UR → Prop) : Prop :=
  wp_Mo_isIn I R x1 0 25 (fun r3 I1 R2 => ((¬ r3 = 0 → wp_Mo_open_L15 Q I1 R2 x1 0) ∧ (r3 = 0 → wp_Mo_open_L15 Q I1 R2 x1 1)))
set_option maxHeartbeats 4000000 in
set_option maxRecDepth 100000 in
theorem c_Mo_open (l : Launch) (D : va_G) (cc : Nat → ClassId) (L : List Nat) (A : Nat → Nat) (J : Nat → Int64) (t16 t32 : Nat) (I : UI) (R : UR) (x1 : Int32) (Q : Int32 → UI → UR → Prop) (h : wp_Mo_open I R x1 Q) : uMi l y_Mo_open (.code y_Mo_open prog_10_method_5_code 4 (some .int)) rm_Mo_open [.ref (A 80), .int x1] D cc L A J t16 t32 I R Q := by
  intro sz
  refine u_entry (by decide) (Nat.le_of_ble_eq_true rfl) (fun p e s m args below meth c hsz X V hr hlk ls hl => ?_)
  have X : uX p s m args c prog_10_method_5_code 4 "FrameFerryModel" D cc L A t16 t32 := X
  have hx := X.1
  have hb := X.2.1
  have hl : lv_has ls 4 [(0, .ref (A 80)), (1, .int x1)] := hl
  unfold wp_Mo_open at h
  generalize hH : s.heap = H at V ⊢
  generalize hlo : ([] : List Loc) = locs at V ⊢
  refine lv_iload_n (pc := 0) hx hb d_Mo_open_0 rfl (lv_at hl 1 rfl) ?_
  refine lv_iconst (pc := 1) (v := 0) hx hb d_Mo_open_1 (by decide) ?_
  refine lv_bipush (pc := 2) (v := 25) hx hb d_Mo_open_2 (by decide) ?_
  refine u_cSi (pc := 4) (As := [.int x1, .int 0, .int 25]) X V s_Mo_85 (c_Mo_isIn l D cc L A J t16 t32 _ _ x1 0 25 _ h) ⟨rfl, rfl, Nat.le_of_ble_eq_true rfl, Nat.le_of_ble_eq_true rfl⟩ rfl hl.1 rfl (Nat.le_of_ble_eq_true rfl) d_Mo_open_4 ⟨Nat.zero_le _, Nat.zero_le _⟩ (fun r3 I1 R2 h H locs V => ?_)
  refine lv_if_ne (pc := 7) (tgt := 14) hx hb d_Mo_open_7 (by decide) (fun hc => ?_) (fun hc => ?_)
  · have h := h.1 hc
    refine lv_iconst (pc := 14) (v := 0) hx hb d_Mo_open_14 (by decide) ?_
    exact j_Mo_open_15 X hr hlk hsz V (lv_sub hl [0, 1] rfl) h
  · have h := h.2 hc
    refine lv_iconst (pc := 10) (v := 1) hx hb d_Mo_open_10 (by decide) ?_
    refine lv_goto (pc := 11) (tgt := 15) hx hb d_Mo_open_11 (by decide) ?_
    exact j_Mo_open_15 X hr hlk hsz V (lv_sub hl [0, 1] rfl) h
-- FrameFerryModel.feed (IIIII)I
theorem d_Mo_feed_0 : decode prog_10_method_6_code 0 = .ok (.aload_n 0, 1) := by decide +kernel
theorem d_Mo_feed_1 : decode prog_10_method_6_code 1 = .ok (.getfield 89, 3) := by decide +kernel
theorem d_Mo_feed_4 : decode prog_10_method_6_code 4 = .ok (.iconst 1, 1) := by decide +kernel
theorem d_Mo_feed_5 : decode prog_10_method_6_code 5 = .ok (.isub, 1) := by decide +kernel
theorem d_Mo_feed_6 : decode prog_10_method_6_code 6 = .ok (.istore 6, 2) := by decide +kernel
theorem d_Mo_feed_8 : decode prog_10_method_6_code 8 = .ok (.aload_n 0, 1) := by decide +kernel
theorem d_Mo_feed_9 : decode prog_10_method_6_code 9 = .ok (.iload_n 1, 1) := by decide +kernel
theorem d_Mo_feed_10 : decode prog_10_method_6_code 10 = .ok (.iconst 0, 1) := by decide +kernel
theorem d_Mo_feed_11 : decode prog_10_method_6_code 11 = .ok (.bipush 16, 2) := by decide +kernel
theorem d_Mo_feed_13 : decode prog_10_method_6_code 13 = .ok (.invokestatic 85, 3) := by decide +kernel
theorem d_Mo_feed_16 : decode prog_10_method_6_code 16 = .ok (.ifCond .ne 7, 3) := by decide +kernel
theorem d_Mo_feed_19 : decode prog_10_method_6_code 19 = .ok (.iconst 1, 1) := by decide +kernel
theorem d_Mo_feed_20 : decode prog_10_method_6_code 20 = .ok (.goto 36, 3) := by decide +kernel
theorem d_Mo_feed_23 : decode prog_10_method_6_code 23 = .ok (.iload 6, 2) := by decide +kernel
theorem d_Mo_feed_25 : decode prog_10_method_6_code 25 = .ok (.ifCond .lt 26, 3) := by decide +kernel
theorem d_Mo_feed_28 : decode prog_10_method_6_code 28 = .ok (.aload_n 0, 1) := by decide +kernel
theorem d_Mo_feed_29 : decode prog_10_method_6_code 29 = .ok (.getfield 57, 3) := by decide +kernel
theorem d_Mo_feed_32 : decode prog_10_method_6_code 32 = .ok (.iconst 5, 1) := by decide +kernel
theorem d_Mo_feed_33 : decode prog_10_method_6_code 33 = .ok (.if_icmp .ne 18, 3) := by decide +kernel
theorem d_Mo_feed_36 : decode prog_10_method_6_code 36 = .ok (.aload_n 0, 1) := by decide +kernel
theorem d_Mo_feed_37 : decode prog_10_method_6_code 37 = .ok (.getfield 51, 3) := by decide +kernel
theorem d_Mo_feed_40 : decode prog_10_method_6_code 40 = .ok (.iload 6, 2) := by decide +kernel
theorem d_Mo_feed_42 : decode prog_10_method_6_code 42 = .ok (.iaload, 1) := by decide +kernel
theorem d_Mo_feed_43 : decode prog_10_method_6_code 43 = .ok (.iload_n 1, 1) := by decide +kernel
theorem d_Mo_feed_44 : decode prog_10_method_6_code 44 = .ok (.iadd, 1) := by decide +kernel
theorem d_Mo_feed_45 : decode prog_10_method_6_code 45 = .ok (.sipush 300, 3) := by decide +kernel
theorem d_Mo_feed_48 : decode prog_10_method_6_code 48 = .ok (.if_icmp .le 7, 3) := by decide +kernel
theorem d_Mo_feed_51 : decode prog_10_method_6_code 51 = .ok (.iconst 2, 1) := by decide +kernel
theorem d_Mo_feed_52 : decode prog_10_method_6_code 52 = .ok (.goto 4, 3) := by decide +kernel
theorem d_Mo_feed_55 : decode prog_10_method_6_code 55 = .ok (.iconst 0, 1) := by decide +kernel
theorem d_Mo_feed_56 : decode prog_10_method_6_code 56 = .ok (.invokevirtual 92, 3) := by decide +kernel
theorem d_Mo_feed_59 : decode prog_10_method_6_code 59 = .ok (.ifCond .eq 5, 3) := by decide +kernel
theorem d_Mo_feed_62 : decode prog_10_method_6_code 62 = .ok (.iconst 0, 1) := by decide +kernel
theorem d_Mo_feed_63 : decode prog_10_method_6_code 63 = .ok (.ireturn, 1) := by decide +kernel
theorem d_Mo_feed_64 : decode prog_10_method_6_code 64 = .ok (.iconst 0, 1) := by decide +kernel
theorem d_Mo_feed_65 : decode prog_10_method_6_code 65 = .ok (.istore 7, 2) := by decide +kernel
theorem d_Mo_feed_67 : decode prog_10_method_6_code 67 = .ok (.iload 7, 2) := by decide +kernel
theorem d_Mo_feed_69 : decode prog_10_method_6_code 69 = .ok (.iload_n 1, 1) := by decide +kernel
theorem d_Mo_feed_70 : decode prog_10_method_6_code 70 = .ok (.if_icmp .ge 93, 3) := by decide +kernel
theorem d_Mo_feed_73 : decode prog_10_method_6_code 73 = .ok (.iload 7, 2) := by decide +kernel
theorem d_Mo_feed_75 : decode prog_10_method_6_code 75 = .ok (.iconst 4, 1) := by decide +kernel
theorem d_Mo_feed_76 : decode prog_10_method_6_code 76 = .ok (.if_icmp .ge 7, 3) := by decide +kernel
theorem d_Mo_feed_79 : decode prog_10_method_6_code 79 = .ok (.iload_n 2, 1) := by decide +kernel
theorem d_Mo_feed_80 : decode prog_10_method_6_code 80 = .ok (.goto 28, 3) := by decide +kernel
theorem d_Mo_feed_83 : decode prog_10_method_6_code 83 = .ok (.iload 7, 2) := by decide +kernel
theorem d_Mo_feed_85 : decode prog_10_method_6_code 85 = .ok (.bipush 8, 2) := by decide +kernel
theorem d_Mo_feed_87 : decode prog_10_method_6_code 87 = .ok (.if_icmp .ge 7, 3) := by decide +kernel
theorem d_Mo_feed_90 : decode prog_10_method_6_code 90 = .ok (.iload_n 3, 1) := by decide +kernel
theorem d_Mo_feed_91 : decode prog_10_method_6_code 91 = .ok (.goto 17, 3) := by decide +kernel
theorem d_Mo_feed_94 : decode prog_10_method_6_code 94 = .ok (.iload 7, 2) := by decide +kernel
theorem d_Mo_feed_96 : decode prog_10_method_6_code 96 = .ok (.bipush 12, 2) := by decide +kernel
theorem d_Mo_feed_98 : decode prog_10_method_6_code 98 = .ok (.if_icmp .ge 8, 3) := by decide +kernel
theorem d_Mo_feed_101 : decode prog_10_method_6_code 101 = .ok (.iload 4, 2) := by decide +kernel
theorem d_Mo_feed_103 : decode prog_10_method_6_code 103 = .ok (.goto 5, 3) := by decide +kernel
theorem d_Mo_feed_106 : decode prog_10_method_6_code 106 = .ok (.iload 5, 2) := by decide +kernel
theorem d_Mo_feed_108 : decode prog_10_method_6_code 108 = .ok (.istore 8, 2) := by decide +kernel
theorem d_Mo_feed_110 : decode prog_10_method_6_code 110 = .ok (.aload_n 0, 1) := by decide +kernel
theorem d_Mo_feed_111 : decode prog_10_method_6_code 111 = .ok (.getfield 54, 3) := by decide +kernel
theorem d_Mo_feed_114 : decode prog_10_method_6_code 114 = .ok (.sipush 300, 3) := by decide +kernel
theorem d_Mo_feed_117 : decode prog_10_method_6_code 117 = .ok (.iload 6, 2) := by decide +kernel
theorem d_Mo_feed_119 : decode prog_10_method_6_code 119 = .ok (.imul, 1) := by decide +kernel
theorem d_Mo_feed_120 : decode prog_10_method_6_code 120 = .ok (.aload_n 0, 1) := by decide +kernel
theorem d_Mo_feed_121 : decode prog_10_method_6_code 121 = .ok (.getfield 51, 3) := by decide +kernel
theorem d_Mo_feed_124 : decode prog_10_method_6_code 124 = .ok (.iload 6, 2) := by decide +kernel
theorem d_Mo_feed_126 : decode prog_10_method_6_code 126 = .ok (.iaload, 1) := by decide +kernel
theorem d_Mo_feed_127 : decode prog_10_method_6_code 127 = .ok (.iadd, 1) := by decide +kernel
theorem d_Mo_feed_128 : decode prog_10_method_6_code 128 = .ok (.iload 8, 2) := by decide +kernel
theorem d_Mo_feed_130 : decode prog_10_method_6_code 130 = .ok (.bipush 24, 2) := by decide +kernel
theorem d_Mo_feed_132 : decode prog_10_method_6_code 132 = .ok (.bipush 8, 2) := by decide +kernel
theorem d_Mo_feed_134 : decode prog_10_method_6_code 134 = .ok (.iload 7, 2) := by decide +kernel
theorem d_Mo_feed_136 : decode prog_10_method_6_code 136 = .ok (.iconst 4, 1) := by decide +kernel
theorem d_Mo_feed_137 : decode prog_10_method_6_code 137 = .ok (.irem, 1) := by decide +kernel
theorem d_Mo_feed_138 : decode prog_10_method_6_code 138 = .ok (.imul, 1) := by decide +kernel
theorem d_Mo_feed_139 : decode prog_10_method_6_code 139 = .ok (.isub, 1) := by decide +kernel
theorem d_Mo_feed_140 : decode prog_10_method_6_code 140 = .ok (.ishr, 1) := by decide +kernel
theorem d_Mo_feed_141 : decode prog_10_method_6_code 141 = .ok (.sipush 255, 3) := by decide +kernel
theorem d_Mo_feed_144 : decode prog_10_method_6_code 144 = .ok (.iand, 1) := by decide +kernel
theorem d_Mo_feed_145 : decode prog_10_method_6_code 145 = .ok (.iastore, 1) := by decide +kernel
theorem d_Mo_feed_146 : decode prog_10_method_6_code 146 = .ok (.aload_n 0, 1) := by decide +kernel
theorem d_Mo_feed_147 : decode prog_10_method_6_code 147 = .ok (.getfield 51, 3) := by decide +kernel
theorem d_Mo_feed_150 : decode prog_10_method_6_code 150 = .ok (.iload 6, 2) := by decide +kernel
theorem d_Mo_feed_152 : decode prog_10_method_6_code 152 = .ok (.dup2, 1) := by decide +kernel
theorem d_Mo_feed_153 : decode prog_10_method_6_code 153 = .ok (.iaload, 1) := by decide +kernel
theorem d_Mo_feed_154 : decode prog_10_method_6_code 154 = .ok (.iconst 1, 1) := by decide +kernel
theorem d_Mo_feed_155 : decode prog_10_method_6_code 155 = .ok (.iadd, 1) := by decide +kernel
theorem d_Mo_feed_156 : decode prog_10_method_6_code 156 = .ok (.iastore, 1) := by decide +kernel
theorem d_Mo_feed_157 : decode prog_10_method_6_code 157 = .ok (.iinc 7 1, 3) := by decide +kernel
theorem d_Mo_feed_160 : decode prog_10_method_6_code 160 = .ok (.goto (-93), 3) := by decide +kernel
theorem d_Mo_feed_163 : decode prog_10_method_6_code 163 = .ok (.aload_n 0, 1) := by decide +kernel
theorem d_Mo_feed_164 : decode prog_10_method_6_code 164 = .ok (.getfield 51, 3) := by decide +kernel
theorem d_Mo_feed_167 : decode prog_10_method_6_code 167 = .ok (.iload 6, 2) := by decide +kernel
theorem d_Mo_feed_169 : decode prog_10_method_6_code 169 = .ok (.iaload, 1) := by decide +kernel
theorem d_Mo_feed_170 : decode prog_10_method_6_code 170 = .ok (.ireturn, 1) := by decide +kernel
def rm_Mo_feed : Room := { frames := 1, cells := 0, slots := 0, locals := 22 }
def wp_Mo_feed_L108 (Q : Int32 → UI → UR → Prop) (K67 : UI → UR → Int32 → Int32 → Int32 → Int32 → Int32 → Int32 → Int32 → Prop) (I : UI) (R : UR) (x1 : Int32) (x2 : Int32) (x3 : Int32) (x4 : Int32) (x5 : Int32) (x6 : Int32) (x7 : Int32) (s0 : Int32) : Prop :=
  vp_in x6 4 ∧ vp_in ((300 * x6) + (I 95 x6.toNatClampNeg)) 1200 ∧ ∀ I8 : UI, I8 = u2 I 96 (((300 * x6) + (I 95 x6.toNatClampNeg)).toNatClampNeg) ((s0 >>> (24 - (8 * (x7 - x7 / 4 * 4)) &&& 31)) &&& 255) → vp_in x6 4 ∧ vp_in x6 4 ∧ ∀ I9 : UI, I9 = u2 I8 95 x6.toNatClampNeg ((I8 95 x6.toNatClampNeg) + 1) → ∀ v10 : Int32, v10 = x7 + 1 → K67 I9 R x1 x2 x3 x4 x5 x6 v10
set_option maxHeartbeats 4000000 in
set_option maxRecDepth 100000 in
theorem j_Mo_feed_108 (X : uX p s m args c prog_10_method_6_code 9 "FrameFerryModel" D cc L A t16 t32) (hr : meth.sig.returnType = (some .int)) (hlk : meth.locks = false) (hsz : sz = s.heap.size) {Q : Int32 → UI → UR → Prop} {K67 : UI → UR → Int32 → Int32 → Int32 → Int32 → Int32 → Int32 → Int32 → Prop} (hK67 : ∀ (I : UI) (R : UR) (x1 : Int32) (x2 : Int32) (x3 : Int32) (x4 : Int32) (x5 : Int32) (x6 : Int32) (x7 : Int32) (H : Heap) (locs : List Loc) (ls : Array Slot), uV s D cc L A J I R H locs → lv_has ls 9 [(0, .ref (A 80)), (1, .int x1), (2, .int x2), (3, .int x3), (4, .int x4), (5, .int x5), (6, .int x6), (7, .int x7)] → K67 I R x1 x2 x3 x4 x5 x6 x7 → W p l e rm_Mo_feed s m args below meth c H locs 0 0 (MQ below (va_Qi (fun (r : Int32) (u : UI × UR) => Q r u.1 u.2) (uBv D cc L A J) (uA L A sz)) args s 0 0 (uA L A sz)) (F0 m 67 ls [])) {I : UI} {R : UR} {x1 : Int32} {x2 : Int32} {x3 : Int32} {x4 : Int32} {x5 : Int32} {x6 : Int32} {x7 : Int32} {s0 : Int32} {H : Heap} {locs : List Loc} {ls : Array Slot} (V : uV s D cc L A J I R H locs) (hl : lv_has ls 9 [(0, .ref (A 80)), (1, .int x1), (2, .int x2), (3, .int x3), (4, .int x4), (5, .int x5), (6, .int x6), (7, .int x7)]) (h : wp_Mo_feed_L108 Q K67 I R x1 x2 x3 x4 x5 x6 x7 s0) : W p l e rm_Mo_feed s m args below meth c H locs 0 0 (MQ below (va_Qi (fun (r : Int32) (u : UI × UR) => Q r u.1 u.2) (uBv D cc L A J) (uA L A sz)) args s 0 0 (uA L A sz)) (F0 m 108 ls [.int s0]) := by
  have hx := X.1
  have hb := X.2.1
  unfold wp_Mo_feed_L108 at h
  refine lv_istore (pc := 108) (lv' := [(8, .int s0), (0, .ref (A 80)), (1, .int x1), (2, .int x2), (3, .int x3), (4, .int x4), (5, .int x5), (6, .int x6), (7, .int x7)]) hx hb d_Mo_feed_108 hl (by decide) rfl (fun ls hl => ?_)
  refine lv_aload_n (pc := 110) hx hb d_Mo_feed_110 rfl (lv_at hl 1 rfl) ?_
  refine u_getr (pc := 111) (o' := 96) X V (X.fix rfl) rfl rfl f_Mo_54 rfl rfl d_Mo_feed_111 ?_
  refine lv_sipush (pc := 114) (v := 300) hx hb d_Mo_feed_114 (by decide) ?_
  refine lv_iload (pc := 117) hx hb d_Mo_feed_117 (lv_at hl 7 rfl) ?_
  refine lv_imul (pc := 119) hx hb d_Mo_feed_119 ?_
  refine lv_aload_n (pc := 120) hx hb d_Mo_feed_120 rfl (lv_at hl 1 rfl) ?_
  refine u_getr (pc := 121) (o' := 95) X V (X.fix rfl) rfl rfl f_Mo_51 rfl rfl d_Mo_feed_121 ?_
  refine lv_iload (pc := 124) hx hb d_Mo_feed_124 (lv_at hl 7 rfl) ?_
  refine u_iald (pc := 126) X V (X.fix rfl) rfl rfl h.1 d_Mo_feed_126 ?_
  have h := h.2
  refine lv_iadd (pc := 127) hx hb d_Mo_feed_127 ?_
  refine lv_iload (pc := 128) hx hb d_Mo_feed_128 (lv_at hl 0 rfl) ?_
  refine lv_bipush (pc := 130) (v := 24) hx hb d_Mo_feed_130 (by decide) ?_
  refine lv_bipush (pc := 132) (v := 8) hx hb d_Mo_feed_132 (by decide) ?_
  refine lv_iload (pc := 134) hx hb d_Mo_feed_134 (lv_at hl 8 rfl) ?_
  refine lv_iconst (pc := 136) (v := 4) hx hb d_Mo_feed_136 (by decide) ?_
  refine lv_irem (pc := 137) hx hb d_Mo_feed_137 (by decide) ?_
  refine lv_imul (pc := 138) hx hb d_Mo_feed_138 ?_
  refine lv_isub (pc := 139) hx hb d_Mo_feed_139 ?_
  refine lv_ishr (pc := 140) hx hb d_Mo_feed_140 ?_
  refine lv_sipush (pc := 141) (v := 255) hx hb d_Mo_feed_141 (by decide) ?_
  refine lv_iand (pc := 144) hx hb d_Mo_feed_144 ?_
  refine u_iast (pc := 145) X V (X.fix rfl) rfl rfl h.1 d_Mo_feed_145 (fun I8 eI8 H locs V => ?_)
  have h := h.2 I8 eI8
  refine lv_aload_n (pc := 146) hx hb d_Mo_feed_146 rfl (lv_at hl 1 rfl) ?_
  refine u_getr (pc := 147) (o' := 95) X V (X.fix rfl) rfl rfl f_Mo_51 rfl rfl d_Mo_feed_147 ?_
  refine lv_iload (pc := 150) hx hb d_Mo_feed_150 (lv_at hl 7 rfl) ?_
  refine lv_dup2_11 (pc := 152) hx hb d_Mo_feed_152 rfl rfl ?_
  refine u_iald (pc := 153) X V (X.fix rfl) rfl rfl h.1 d_Mo_feed_153 ?_
  have h := h.2
  refine lv_iconst (pc := 154) (v := 1) hx hb d_Mo_feed_154 (by decide) ?_
  refine lv_iadd (pc := 155) hx hb d_Mo_feed_155 ?_
  refine u_iast (pc := 156) X V (X.fix rfl) rfl rfl h.1 d_Mo_feed_156 (fun I9 eI9 H locs V => ?_)
  have h := h.2 I9 eI9
  obtain ⟨v10, ev10⟩ : ∃ z : Int32, z = x7 + 1 := ⟨_, rfl⟩
  have h := h v10 ev10
  refine lv_iinc (pc := 157) (k := 8) (v := v10) (lv' := [(7, .int v10), (8, .int s0), (0, .ref (A 80)), (1, .int x1), (2, .int x2), (3, .int x3), (4, .int x4), (5, .int x5), (6, .int x6)]) hx hb d_Mo_feed_157 hl rfl (by rw [ev10]; rfl) (by decide) rfl (fun ls hl => ?_)
  refine lv_goto (pc := 160) (tgt := 67) hx hb d_Mo_feed_160 (by decide) ?_
  exact hK67 I9 R x1 x2 x3 x4 x5 x6 v10 H locs ls V (lv_sub hl [2, 3, 4, 5, 6, 7, 8, 0] rfl) h
def wp_Mo_feed_L67 (Q : Int32 → UI → UR → Prop) : Nat → UI → UR → Int32 → Int32 → Int32 → Int32 → Int32 → Int32 → Int32 → Prop
  | 0, _, _, _, _, _, _, _, _, _ => False
  | n + 1, I, R, x1, x2, x3, x4, x5, x6, x7 => ((x1 ≤ x7 → vp_in x6 4 ∧ Q (I 95 x6.toNatClampNeg) I R) ∧ (¬ x1 ≤ x7 → ((4 ≤ x7 → ((8 ≤ x7 → ((12 ≤ x7 → wp_Mo_feed_L108 Q (fun I R x1 x2 x3 x4 x5 x6 x7 => wp_Mo_feed_L67 Q n I R x1 x2 x3 x4 x5 x6 x7) I R x1 x2 x3 x4 x5 x6 x7 x5) ∧ (¬ 12 ≤ x7 → wp_Mo_feed_L108 Q (fun I R x1 x2 x3 x4 x5 x6 x7 => wp_Mo_feed_L67 Q n I R x1 x2 x3 x4 x5 x6 x7) I R x1 x2 x3 x4 x5 x6 x7 x4))) ∧ (¬ 8 ≤ x7 → wp_Mo_feed_L108 Q (fun I R x1 x2 x3 x4 x5 x6 x7 => wp_Mo_feed_L67 Q n I R x1 x2 x3 x4 x5 x6 x7) I R x1 x2 x3 x4 x5 x6 x7 x3))) ∧ (¬ 4 ≤ x7 → wp_Mo_feed_L108 Q (fun I R x1 x2 x3 x4 x5 x6 x7 => wp_Mo_feed_L67 Q n I R x1 x2 x3 x4 x5 x6 x7) I R x1 x2 x3 x4 x5 x6 x7 x2))))
set_option maxHeartbeats 4000000 in
set_option maxRecDepth 100000 in
theorem j_Mo_feed_67 (X : uX p s m args c prog_10_method_6_code 9 "FrameFerryModel" D cc L A t16 t32) (hr : meth.sig.returnType = (some .int)) (hlk : meth.locks = false) (hsz : sz = s.heap.size) {Q : Int32 → UI → UR → Prop} : ∀ (n : Nat) (I : UI) (R : UR) (x1 : Int32) (x2 : Int32) (x3 : Int32) (x4 : Int32) (x5 : Int32) (x6 : Int32) (x7 : Int32) (H : Heap) (locs : List Loc) (ls : Array Slot), uV s D cc L A J I R H locs → lv_has ls 9 [(0, .ref (A 80)), (1, .int x1), (2, .int x2), (3, .int x3), (4, .int x4), (5, .int x5), (6, .int x6), (7, .int x7)] → wp_Mo_feed_L67 Q n I R x1 x2 x3 x4 x5 x6 x7 → W p l e rm_Mo_feed s m args below meth c H locs 0 0 (MQ below (va_Qi (fun (r : Int32) (u : UI × UR) => Q r u.1 u.2) (uBv D cc L A J) (uA L A sz)) args s 0 0 (uA L A sz)) (F0 m 67 ls []) := by
  intro n
  induction n with
  | zero => exact fun I R x1 x2 x3 x4 x5 x6 x7 H locs ls V hl h => False.elim h
  | succ n ih =>
    intro I R x1 x2 x3 x4 x5 x6 x7 H locs ls V hl h
    have hx := X.1
    have hb := X.2.1
    rw [wp_Mo_feed_L67] at h
    refine lv_iload (pc := 67) hx hb d_Mo_feed_67 (lv_at hl 7 rfl) ?_
    refine lv_iload_n (pc := 69) hx hb d_Mo_feed_69 rfl (lv_at hl 1 rfl) ?_
    refine lv_icmp_ge (pc := 70) (tgt := 163) hx hb d_Mo_feed_70 (by decide) (fun hc => ?_) (fun hc => ?_)
    · have h := h.1 hc
      refine lv_aload_n (pc := 163) hx hb d_Mo_feed_163 rfl (lv_at hl 0 rfl) ?_
      refine u_getr (pc := 164) (o' := 95) X V (X.fix rfl) rfl rfl f_Mo_51 rfl rfl d_Mo_feed_164 ?_
      refine lv_iload (pc := 167) hx hb d_Mo_feed_167 (lv_at hl 6 rfl) ?_
      refine u_iald (pc := 169) X V (X.fix rfl) rfl rfl h.1 d_Mo_feed_169 ?_
      have h := h.2
      exact u_reti (pc := 170) X V hr hlk hsz h d_Mo_feed_170
    · have h := h.2 hc
      refine lv_iload (pc := 73) hx hb d_Mo_feed_73 (lv_at hl 7 rfl) ?_
      refine lv_iconst (pc := 75) (v := 4) hx hb d_Mo_feed_75 (by decide) ?_
      refine lv_icmp_ge (pc := 76) (tgt := 83) hx hb d_Mo_feed_76 (by decide) (fun hc => ?_) (fun hc => ?_)
      · have h := h.1 hc
        refine lv_iload (pc := 83) hx hb d_Mo_feed_83 (lv_at hl 7 rfl) ?_
        refine lv_bipush (pc := 85) (v := 8) hx hb d_Mo_feed_85 (by decide) ?_
        refine lv_icmp_ge (pc := 87) (tgt := 94) hx hb d_Mo_feed_87 (by decide) (fun hc => ?_) (fun hc => ?_)
        · have h := h.1 hc
          refine lv_iload (pc := 94) hx hb d_Mo_feed_94 (lv_at hl 7 rfl) ?_
          refine lv_bipush (pc := 96) (v := 12) hx hb d_Mo_feed_96 (by decide) ?_
          refine lv_icmp_ge (pc := 98) (tgt := 106) hx hb d_Mo_feed_98 (by decide) (fun hc => ?_) (fun hc => ?_)
          · have h := h.1 hc
            refine lv_iload (pc := 106) hx hb d_Mo_feed_106 (lv_at hl 5 rfl) ?_
            exact j_Mo_feed_108 X hr hlk hsz ih V (lv_sub hl [0, 1, 2, 3, 4, 5, 6, 7] rfl) h
          · have h := h.2 hc
            refine lv_iload (pc := 101) hx hb d_Mo_feed_101 (lv_at hl 4 rfl) ?_
            refine lv_goto (pc := 103) (tgt := 108) hx hb d_Mo_feed_103 (by decide) ?_
            exact j_Mo_feed_108 X hr hlk hsz ih V (lv_sub hl [0, 1, 2, 3, 4, 5, 6, 7] rfl) h
        · have h := h.2 hc
          refine lv_iload_n (pc := 90) hx hb d_Mo_feed_90 rfl (lv_at hl 3 rfl) ?_
          refine lv_goto (pc := 91) (tgt := 108) hx hb d_Mo_feed_91 (by decide) ?_
          exact j_Mo_feed_108 X hr hlk hsz ih V (lv_sub hl [0, 1, 2, 3, 4, 5, 6, 7] rfl) h
      · have h := h.2 hc
        refine lv_iload_n (pc := 79) hx hb d_Mo_feed_79 rfl (lv_at hl 2 rfl) ?_
        refine lv_goto (pc := 80) (tgt := 108) hx hb d_Mo_feed_80 (by decide) ?_
        exact j_Mo_feed_108 X hr hlk hsz ih V (lv_sub hl [0, 1, 2, 3, 4, 5, 6, 7] rfl) h
def wp_Mo_feed_L56 (Q : Int32 → UI → UR → Prop) (I : UI) (R : UR) (x1 : Int32) (x2 : Int32) (x3 : Int32) (x4 : Int32) (x5 : Int32) (x6 : Int32) (s0 : Int32) : Prop :=
  wp_Mo_refused I R s0 (fun r7 I5 R6 => ((r7 = 0 → (∃ n67 : Nat, wp_Mo_feed_L67 Q n67 I5 R6 x1 x2 x3 x4 x5 x6 0)) ∧ (¬ r7 = 0 → Q 0 I5 R6)))
set_option maxHeartbeats 4000000 in
set_option maxRecDepth 100000 in
theorem j_Mo_feed_56 (X : uX p s m args c prog_10_method_6_code 9 "FrameFerryModel" D cc L A t16 t32) (hr : meth.sig.returnType = (some .int)) (hlk : meth.locks = false) (hsz : sz = s.heap.size) {Q : Int32 → UI → UR → Prop} {I : UI} {R : UR} {x1 : Int32} {x2 : Int32} {x3 : Int32} {x4 : Int32} {x5 : Int32} {x6 : Int32} {s0 : Int32} {H : Heap} {locs : List Loc} {ls : Array Slot} (V : uV s D cc L A J I R H locs) (hl : lv_has ls 9 [(0, .ref (A 80)), (1, .int x1), (2, .int x2), (3, .int x3), (4, .int x4), (5, .int x5), (6, .int x6)]) (h : wp_Mo_feed_L56 Q I R x1 x2 x3 x4 x5 x6 s0) : W p l e rm_Mo_feed s m args below meth c H locs 0 0 (MQ below (va_Qi (fun (r : Int32) (u : UI × UR) => Q r u.1 u.2) (uBv D cc L A J) (uA L A sz)) args s 0 0 (uA L A sz)) (F0 m 56 ls [.int s0, .ref (A 80)]) := by
  have hx := X.1
  have hb := X.2.1
  unfold wp_Mo_feed_L56 at h
  refine u_cVi (pc := 56) (As := [.int s0]) X V s_Mo_92 (X.fix rfl) rfl rfl rfl (c_Mo_refused l D cc L A J t16 t32 _ _ s0 _ h) ⟨rfl, rfl, Nat.le_of_ble_eq_true rfl, Nat.le_of_ble_eq_true rfl⟩ rfl hl.1 rfl (Nat.le_of_ble_eq_true rfl) d_Mo_feed_56 ⟨Nat.zero_le _, Nat.zero_le _⟩ (fun r7 I5 R6 h H locs V => ?_)
  refine lv_if_eq (pc := 59) (tgt := 64) hx hb d_Mo_feed_59 (by decide) (fun hc => ?_) (fun hc => ?_)
  · have h := h.1 hc
    refine lv_iconst (pc := 64) (v := 0) hx hb d_Mo_feed_64 (by decide) ?_
    refine lv_istore (pc := 65) (lv' := [(7, .int 0), (0, .ref (A 80)), (1, .int x1), (2, .int x2), (3, .int x3), (4, .int x4), (5, .int x5), (6, .int x6)]) hx hb d_Mo_feed_65 hl (by decide) rfl (fun ls hl => ?_)
    obtain ⟨n67, h⟩ := h
    exact j_Mo_feed_67 X hr hlk hsz n67 I5 R6 x1 x2 x3 x4 x5 x6 0 H locs ls V (lv_sub hl [1, 2, 3, 4, 5, 6, 7, 0] rfl) h
  · have h := h.2 hc
    refine lv_iconst (pc := 62) (v := 0) hx hb d_Mo_feed_62 (by decide) ?_
    exact u_reti (pc := 63) X V hr hlk hsz h d_Mo_feed_63
def wp_Mo_feed_L51 (Q : Int32 → UI → UR → Prop) (I : UI) (R : UR) (x1 : Int32) (x2 : Int32) (x3 : Int32) (x4 : Int32) (x5 : Int32) (x6 : Int32) : Prop :=
  wp_Mo_feed_L56 Q I R x1 x2 x3 x4 x5 x6 2
set_option maxHeartbeats 4000000 in
set_option maxRecDepth 100000 in
theorem j_Mo_feed_51 (X : uX p s m args c prog_10_method_6_code 9 "FrameFerryModel" D cc L A t16 t32) (hr : meth.sig.returnType = (some .int)) (hlk : meth.locks = false) (hsz : sz = s.heap.size) {Q : Int32 → UI → UR → Prop} {I : UI} {R : UR} {x1 : Int32} {x2 : Int32} {x3 : Int32} {x4 : Int32} {x5 : Int32} {x6 : Int32} {H : Heap} {locs : List Loc} {ls : Array Slot} (V : uV s D cc L A J I R H locs) (hl : lv_has ls 9 [(0, .ref (A 80)), (1, .int x1), (2, .int x2), (3, .int x3), (4, .int x4), (5, .int x5), (6, .int x6)]) (h : wp_Mo_feed_L51 Q I R x1 x2 x3 x4 x5 x6) : W p l e rm_Mo_feed s m args below meth c H locs 0 0 (MQ below (va_Qi (fun (r : Int32) (u : UI × UR) => Q r u.1 u.2) (uBv D cc L A J) (uA L A sz)) args s 0 0 (uA L A sz)) (F0 m 51 ls [.ref (A 80)]) := by
  have hx := X.1
  have hb := X.2.1
  unfold wp_Mo_feed_L51 at h
  refine lv_iconst (pc := 51) (v := 2) hx hb d_Mo_feed_51 (by decide) ?_
  refine lv_goto (pc := 52) (tgt := 56) hx hb d_Mo_feed_52 (by decide) ?_
  exact j_Mo_feed_56 X hr hlk hsz V (lv_sub hl [0, 1, 2, 3, 4, 5, 6] rfl) h
def wp_Mo_feed (I : UI) (R : UR) (x1 : Int32) (x2 : Int32) (x3 : Int32) (x4 : Int32) (x5 : Int32) (Q : Int32 → UI → UR → Prop) : Prop :=
  ∀ v1 : Int32, v1 = (I 80 13) - 1 → wp_Mo_isIn I R x1 0 16 (fun r4 I2 R3 => ((¬ r4 = 0 → ((v1 < 0 → wp_Mo_feed_L51 Q I2 R3 x1 x2 x3 x4 x5 v1) ∧ (¬ v1 < 0 → ((¬ I2 80 17 = 5 → wp_Mo_feed_L51 Q I2 R3 x1 x2 x3 x4 x5 v1) ∧ (I2 80 17 = 5 → vp_in v1 4 ∧ (((I2 95 v1.toNatClampNeg) + x1 ≤ 300 → wp_Mo_feed_L56 Q I2 R3 x1 x2 x3 x4 x5 v1 0) ∧ (¬ (I2 95 v1.toNatClampNeg) + x1 ≤ 300 → wp_Mo_feed_L51 Q I2 R3 x1 x2 x3 x4 x5 v1))))))) ∧ (r4 = 0 → wp_Mo_feed_L56 Q I2 R3 x1 x2 x3 x4 x5 v1 1)))
set_option maxHeartbeats 4000000 in
set_option maxRecDepth 100000 in
theorem c_Mo_feed (l : Launch) (D : va_G) (cc : Nat → ClassId) (L : List Nat) (A : Nat → Nat) (J : Nat → Int64) (t16 t32 : Nat) (I : UI) (R : UR) (x1 : Int32) (x2 : Int32) (x3 : Int32) (x4 : Int32) (x5 : Int32) (Q : Int32 → UI → UR → Prop) (h : wp_Mo_feed I R x1 x2 x3 x4 x5 Q) : uMi l y_Mo_feed (.code y_Mo_feed prog_10_method_6_code 9 (some .int)) rm_Mo_feed [.ref (A 80), .int x1, .int x2, .int x3, .int x4, .int x5] D cc L A J t16 t32 I R Q := by
  intro sz
  refine u_entry (by decide) (Nat.le_of_ble_eq_true rfl) (fun p e s m args below meth c hsz X V hr hlk ls hl => ?_)
  have X : uX p s m args c prog_10_method_6_code 9 "FrameFerryModel" D cc L A t16 t32 := X
  have hx := X.1
  have hb := X.2.1
  have hl : lv_has ls 9 [(0, .ref (A 80)), (1, .int x1), (2, .int x2), (3, .int x3), (4, .int x4), (5, .int x5)] := hl
  unfold wp_Mo_feed at h
  generalize hH : s.heap = H at V ⊢
  generalize hlo : ([] : List Loc) = locs at V ⊢
  refine lv_aload_n (pc := 0) hx hb d_Mo_feed_0 rfl (lv_at hl 0 rfl) ?_
  refine u_geti (pc := 1) X V (X.fix rfl) rfl rfl f_Mo_89 rfl d_Mo_feed_1 ?_
  refine lv_iconst (pc := 4) (v := 1) hx hb d_Mo_feed_4 (by decide) ?_
  refine lv_isub (pc := 5) hx hb d_Mo_feed_5 ?_
  refine lv_topi (fun v1 ev1 => ?_)
  have h := h v1 ev1
  refine lv_istore (pc := 6) (lv' := [(6, .int v1), (0, .ref (A 80)), (1, .int x1), (2, .int x2), (3, .int x3), (4, .int x4), (5, .int x5)]) hx hb d_Mo_feed_6 hl (by decide) rfl (fun ls hl => ?_)
  refine lv_aload_n (pc := 8) hx hb d_Mo_feed_8 rfl (lv_at hl 1 rfl) ?_
  refine lv_iload_n (pc := 9) hx hb d_Mo_feed_9 rfl (lv_at hl 2 rfl) ?_
  refine lv_iconst (pc := 10) (v := 0) hx hb d_Mo_feed_10 (by decide) ?_
  refine lv_bipush (pc := 11) (v := 16) hx hb d_Mo_feed_11 (by decide) ?_
  refine u_cSi (pc := 13) (As := [.int x1, .int 0, .int 16]) X V s_Mo_85 (c_Mo_isIn l D cc L A J t16 t32 _ _ x1 0 16 _ h) ⟨rfl, rfl, Nat.le_of_ble_eq_true rfl, Nat.le_of_ble_eq_true rfl⟩ rfl hl.1 rfl (Nat.le_of_ble_eq_true rfl) d_Mo_feed_13 ⟨Nat.zero_le _, Nat.zero_le _⟩ (fun r4 I2 R3 h H locs V => ?_)
  refine lv_if_ne (pc := 16) (tgt := 23) hx hb d_Mo_feed_16 (by decide) (fun hc => ?_) (fun hc => ?_)
  · have h := h.1 hc
    refine lv_iload (pc := 23) hx hb d_Mo_feed_23 (lv_at hl 0 rfl) ?_
    refine lv_if_lt (pc := 25) (tgt := 51) hx hb d_Mo_feed_25 (by decide) (fun hc => ?_) (fun hc => ?_)
    · have h := h.1 hc
      exact j_Mo_feed_51 X hr hlk hsz V (lv_sub hl [1, 2, 3, 4, 5, 6, 0] rfl) h
    · have h := h.2 hc
      refine lv_aload_n (pc := 28) hx hb d_Mo_feed_28 rfl (lv_at hl 1 rfl) ?_
      refine u_geti (pc := 29) X V (X.fix rfl) rfl rfl f_Mo_57 rfl d_Mo_feed_29 ?_
      refine lv_iconst (pc := 32) (v := 5) hx hb d_Mo_feed_32 (by decide) ?_
      refine lv_icmp_ne (pc := 33) (tgt := 51) hx hb d_Mo_feed_33 (by decide) (fun hc => ?_) (fun hc => ?_)
      · have h := h.1 hc
        exact j_Mo_feed_51 X hr hlk hsz V (lv_sub hl [1, 2, 3, 4, 5, 6, 0] rfl) h
      · have h := h.2 hc
        refine lv_aload_n (pc := 36) hx hb d_Mo_feed_36 rfl (lv_at hl 1 rfl) ?_
        refine u_getr (pc := 37) (o' := 95) X V (X.fix rfl) rfl rfl f_Mo_51 rfl rfl d_Mo_feed_37 ?_
        refine lv_iload (pc := 40) hx hb d_Mo_feed_40 (lv_at hl 0 rfl) ?_
        refine u_iald (pc := 42) X V (X.fix rfl) rfl rfl h.1 d_Mo_feed_42 ?_
        have h := h.2
        refine lv_iload_n (pc := 43) hx hb d_Mo_feed_43 rfl (lv_at hl 2 rfl) ?_
        refine lv_iadd (pc := 44) hx hb d_Mo_feed_44 ?_
        refine lv_sipush (pc := 45) (v := 300) hx hb d_Mo_feed_45 (by decide) ?_
        refine lv_icmp_le (pc := 48) (tgt := 55) hx hb d_Mo_feed_48 (by decide) (fun hc => ?_) (fun hc => ?_)
        · have h := h.1 hc
          refine lv_iconst (pc := 55) (v := 0) hx hb d_Mo_feed_55 (by decide) ?_
          exact j_Mo_feed_56 X hr hlk hsz V (lv_sub hl [1, 2, 3, 4, 5, 6, 0] rfl) h
        · have h := h.2 hc
          exact j_Mo_feed_51 X hr hlk hsz V (lv_sub hl [1, 2, 3, 4, 5, 6, 0] rfl) h
  · have h := h.2 hc
    refine lv_iconst (pc := 19) (v := 1) hx hb d_Mo_feed_19 (by decide) ?_
    refine lv_goto (pc := 20) (tgt := 56) hx hb d_Mo_feed_20 (by decide) ?_
    exact j_Mo_feed_56 X hr hlk hsz V (lv_sub hl [1, 2, 3, 4, 5, 6, 0] rfl) h
-- FrameFerryModel.clear ()I
theorem d_Mo_clear_0 : decode prog_10_method_7_code 0 = .ok (.aload_n 0, 1) := by decide +kernel
theorem d_Mo_clear_1 : decode prog_10_method_7_code 1 = .ok (.aload_n 0, 1) := by decide +kernel
theorem d_Mo_clear_2 : decode prog_10_method_7_code 2 = .ok (.getfield 57, 3) := by decide +kernel
theorem d_Mo_clear_5 : decode prog_10_method_7_code 5 = .ok (.iconst 5, 1) := by decide +kernel
theorem d_Mo_clear_6 : decode prog_10_method_7_code 6 = .ok (.if_icmp .ne 7, 3) := by decide +kernel
theorem d_Mo_clear_9 : decode prog_10_method_7_code 9 = .ok (.iconst 0, 1) := by decide +kernel
theorem d_Mo_clear_10 : decode prog_10_method_7_code 10 = .ok (.goto 4, 3) := by decide +kernel
theorem d_Mo_clear_13 : decode prog_10_method_7_code 13 = .ok (.iconst 1, 1) := by decide +kernel
theorem d_Mo_clear_14 : decode prog_10_method_7_code 14 = .ok (.invokevirtual 92, 3) := by decide +kernel
theorem d_Mo_clear_17 : decode prog_10_method_7_code 17 = .ok (.ifCond .eq 5, 3) := by decide +kernel
theorem d_Mo_clear_20 : decode prog_10_method_7_code 20 = .ok (.iconst 0, 1) := by decide +kernel
theorem d_Mo_clear_21 : decode prog_10_method_7_code 21 = .ok (.ireturn, 1) := by decide +kernel
theorem d_Mo_clear_22 : decode prog_10_method_7_code 22 = .ok (.aload_n 0, 1) := by decide +kernel
theorem d_Mo_clear_23 : decode prog_10_method_7_code 23 = .ok (.getfield 89, 3) := by decide +kernel
theorem d_Mo_clear_26 : decode prog_10_method_7_code 26 = .ok (.istore_n 1, 1) := by decide +kernel
theorem d_Mo_clear_27 : decode prog_10_method_7_code 27 = .ok (.aload_n 0, 1) := by decide +kernel
theorem d_Mo_clear_28 : decode prog_10_method_7_code 28 = .ok (.iconst 0, 1) := by decide +kernel
theorem d_Mo_clear_29 : decode prog_10_method_7_code 29 = .ok (.putfield 89, 3) := by decide +kernel
theorem d_Mo_clear_32 : decode prog_10_method_7_code 32 = .ok (.aload_n 0, 1) := by decide +kernel
theorem d_Mo_clear_33 : decode prog_10_method_7_code 33 = .ok (.iconst 0, 1) := by decide +kernel
theorem d_Mo_clear_34 : decode prog_10_method_7_code 34 = .ok (.putfield 96, 3) := by decide +kernel
theorem d_Mo_clear_37 : decode prog_10_method_7_code 37 = .ok (.aload_n 0, 1) := by decide +kernel
theorem d_Mo_clear_38 : decode prog_10_method_7_code 38 = .ok (.iconst 0, 1) := by decide +kernel
theorem d_Mo_clear_39 : decode prog_10_method_7_code 39 = .ok (.putfield 99, 3) := by decide +kernel
theorem d_Mo_clear_42 : decode prog_10_method_7_code 42 = .ok (.iload_n 1, 1) := by decide +kernel
theorem d_Mo_clear_43 : decode prog_10_method_7_code 43 = .ok (.ireturn, 1) := by decide +kernel
def rm_Mo_clear : Room := { frames := 1, cells := 0, slots := 0, locals := 21 }
def wp_Mo_clear_L14 (Q : Int32 → UI → UR → Prop) (I : UI) (R : UR) (s0 : Int32) : Prop :=
  wp_Mo_refused I R s0 (fun r3 I1 R2 => ((r3 = 0 → ∀ v4 : Int32, v4 = I1 80 13 → ∀ I5 : UI, I5 = u2 I1 80 13 0 → ∀ I6 : UI, I6 = u2 I5 80 18 0 → ∀ I7 : UI, I7 = u2 I6 80 19 0 → Q v4 I7 R2) ∧ (¬ r3 = 0 → Q 0 I1 R2)))
set_option maxHeartbeats 4000000 in
set_option maxRecDepth 100000 in
theorem j_Mo_clear_14 (X : uX p s m args c prog_10_method_7_code 2 "FrameFerryModel" D cc L A t16 t32) (hr : meth.sig.returnType = (some .int)) (hlk : meth.locks = false) (hsz : sz = s.heap.size) {Q : Int32 → UI → UR → Prop} {I : UI} {R : UR} {s0 : Int32} {H : Heap} {locs : List Loc} {ls : Array Slot} (V : uV s D cc L A J I R H locs) (hl : lv_has ls 2 [(0, .ref (A 80))]) (h : wp_Mo_clear_L14 Q I R s0) : W p l e rm_Mo_clear s m args below meth c H locs 0 0 (MQ below (va_Qi (fun (r : Int32) (u : UI × UR) => Q r u.1 u.2) (uBv D cc L A J) (uA L A sz)) args s 0 0 (uA L A sz)) (F0 m 14 ls [.int s0, .ref (A 80)]) := by
  have hx := X.1
  have hb := X.2.1
  unfold wp_Mo_clear_L14 at h
  refine u_cVi (pc := 14) (As := [.int s0]) X V s_Mo_92 (X.fix rfl) rfl rfl rfl (c_Mo_refused l D cc L A J t16 t32 _ _ s0 _ h) ⟨rfl, rfl, Nat.le_of_ble_eq_true rfl, Nat.le_of_ble_eq_true rfl⟩ rfl hl.1 rfl (Nat.le_of_ble_eq_true rfl) d_Mo_clear_14 ⟨Nat.zero_le _, Nat.zero_le _⟩ (fun r3 I1 R2 h H locs V => ?_)
  refine lv_if_eq (pc := 17) (tgt := 22) hx hb d_Mo_clear_17 (by decide) (fun hc => ?_) (fun hc => ?_)
  · have h := h.1 hc
    refine lv_aload_n (pc := 22) hx hb d_Mo_clear_22 rfl (lv_at hl 0 rfl) ?_
    refine u_geti (pc := 23) X V (X.fix rfl) rfl rfl f_Mo_89 rfl d_Mo_clear_23 ?_
    refine lv_topi (fun v4 ev4 => ?_)
    have h := h v4 ev4
    refine lv_istore_n (pc := 26) (lv' := [(1, .int v4), (0, .ref (A 80))]) hx hb d_Mo_clear_26 rfl hl (by decide) rfl (fun ls hl => ?_)
    refine lv_aload_n (pc := 27) hx hb d_Mo_clear_27 rfl (lv_at hl 1 rfl) ?_
    refine lv_iconst (pc := 28) (v := 0) hx hb d_Mo_clear_28 (by decide) ?_
    refine u_puti (pc := 29) X V (X.fix rfl) rfl rfl f_Mo_89 rfl d_Mo_clear_29 (fun I5 eI5 H locs V => ?_)
    have h := h I5 eI5
    refine lv_aload_n (pc := 32) hx hb d_Mo_clear_32 rfl (lv_at hl 1 rfl) ?_
    refine lv_iconst (pc := 33) (v := 0) hx hb d_Mo_clear_33 (by decide) ?_
    refine u_puti (pc := 34) X V (X.fix rfl) rfl rfl f_Mo_96 rfl d_Mo_clear_34 (fun I6 eI6 H locs V => ?_)
    have h := h I6 eI6
    refine lv_aload_n (pc := 37) hx hb d_Mo_clear_37 rfl (lv_at hl 1 rfl) ?_
    refine lv_iconst (pc := 38) (v := 0) hx hb d_Mo_clear_38 (by decide) ?_
    refine u_puti (pc := 39) X V (X.fix rfl) rfl rfl f_Mo_99 rfl d_Mo_clear_39 (fun I7 eI7 H locs V => ?_)
    have h := h I7 eI7
    refine lv_iload_n (pc := 42) hx hb d_Mo_clear_42 rfl (lv_at hl 0 rfl) ?_
    exact u_reti (pc := 43) X V hr hlk hsz h d_Mo_clear_43
  · have h := h.2 hc
    refine lv_iconst (pc := 20) (v := 0) hx hb d_Mo_clear_20 (by decide) ?_
    exact u_reti (pc := 21) X V hr hlk hsz h d_Mo_clear_21
def wp_Mo_clear (I : UI) (R : UR) (Q : Int32 → UI → UR → Prop) : Prop :=
  ((¬ I 80 17 = 5 → wp_Mo_clear_L14 Q I R 1) ∧ (I 80 17 = 5 → wp_Mo_clear_L14 Q I R 0))
set_option maxHeartbeats 4000000 in
set_option maxRecDepth 100000 in
theorem c_Mo_clear (l : Launch) (D : va_G) (cc : Nat → ClassId) (L : List Nat) (A : Nat → Nat) (J : Nat → Int64) (t16 t32 : Nat) (I : UI) (R : UR) (Q : Int32 → UI → UR → Prop) (h : wp_Mo_clear I R Q) : uMi l y_Mo_clear (.code y_Mo_clear prog_10_method_7_code 2 (some .int)) rm_Mo_clear [.ref (A 80)] D cc L A J t16 t32 I R Q := by
  intro sz
  refine u_entry (by decide) (Nat.le_of_ble_eq_true rfl) (fun p e s m args below meth c hsz X V hr hlk ls hl => ?_)
  have X : uX p s m args c prog_10_method_7_code 2 "FrameFerryModel" D cc L A t16 t32 := X
  have hx := X.1
  have hb := X.2.1
  have hl : lv_has ls 2 [(0, .ref (A 80))] := hl
  unfold wp_Mo_clear at h
  generalize hH : s.heap = H at V ⊢
  generalize hlo : ([] : List Loc) = locs at V ⊢
  refine lv_aload_n (pc := 0) hx hb d_Mo_clear_0 rfl (lv_at hl 0 rfl) ?_
  refine lv_aload_n (pc := 1) hx hb d_Mo_clear_1 rfl (lv_at hl 0 rfl) ?_
  refine u_geti (pc := 2) X V (X.fix rfl) rfl rfl f_Mo_57 rfl d_Mo_clear_2 ?_
  refine lv_iconst (pc := 5) (v := 5) hx hb d_Mo_clear_5 (by decide) ?_
  refine lv_icmp_ne (pc := 6) (tgt := 13) hx hb d_Mo_clear_6 (by decide) (fun hc => ?_) (fun hc => ?_)
  · have h := h.1 hc
    refine lv_iconst (pc := 13) (v := 1) hx hb d_Mo_clear_13 (by decide) ?_
    exact j_Mo_clear_14 X hr hlk hsz V (lv_sub hl [0] rfl) h
  · have h := h.2 hc
    refine lv_iconst (pc := 9) (v := 0) hx hb d_Mo_clear_9 (by decide) ?_
    refine lv_goto (pc := 10) (tgt := 14) hx hb d_Mo_clear_10 (by decide) ?_
    exact j_Mo_clear_14 X hr hlk hsz V (lv_sub hl [0] rfl) h
-- FrameFerryModel.start (ZI)V
theorem d_Mo_start_0 : decode prog_10_method_38_code 0 = .ok (.aload_n 0, 1) := by decide +kernel
theorem d_Mo_start_1 : decode prog_10_method_38_code 1 = .ok (.iload_n 2, 1) := by decide +kernel
theorem d_Mo_start_2 : decode prog_10_method_38_code 2 = .ok (.iconst 1, 1) := by decide +kernel
theorem d_Mo_start_3 : decode prog_10_method_38_code 3 = .ok (.bipush 64, 2) := by decide +kernel
theorem d_Mo_start_5 : decode prog_10_method_38_code 5 = .ok (.invokestatic 85, 3) := by decide +kernel
theorem d_Mo_start_8 : decode prog_10_method_38_code 8 = .ok (.ifCond .eq 7, 3) := by decide +kernel
theorem d_Mo_start_11 : decode prog_10_method_38_code 11 = .ok (.iconst 0, 1) := by decide +kernel
theorem d_Mo_start_12 : decode prog_10_method_38_code 12 = .ok (.goto 4, 3) := by decide +kernel
theorem d_Mo_start_15 : decode prog_10_method_38_code 15 = .ok (.iconst 1, 1) := by decide +kernel
theorem d_Mo_start_16 : decode prog_10_method_38_code 16 = .ok (.invokevirtual 92, 3) := by decide +kernel
theorem d_Mo_start_19 : decode prog_10_method_38_code 19 = .ok (.ifCond .eq 4, 3) := by decide +kernel
theorem d_Mo_start_22 : decode prog_10_method_38_code 22 = .ok (.return_, 1) := by decide +kernel
theorem d_Mo_start_23 : decode prog_10_method_38_code 23 = .ok (.aload_n 0, 1) := by decide +kernel
theorem d_Mo_start_24 : decode prog_10_method_38_code 24 = .ok (.iload_n 2, 1) := by decide +kernel
theorem d_Mo_start_25 : decode prog_10_method_38_code 25 = .ok (.putfield 44, 3) := by decide +kernel
theorem d_Mo_start_28 : decode prog_10_method_38_code 28 = .ok (.iconst 0, 1) := by decide +kernel
theorem d_Mo_start_29 : decode prog_10_method_38_code 29 = .ok (.istore_n 3, 1) := by decide +kernel
theorem d_Mo_start_30 : decode prog_10_method_38_code 30 = .ok (.iload_n 3, 1) := by decide +kernel
theorem d_Mo_start_31 : decode prog_10_method_38_code 31 = .ok (.iconst 2, 1) := by decide +kernel
theorem d_Mo_start_32 : decode prog_10_method_38_code 32 = .ok (.if_icmp .ge 22, 3) := by decide +kernel
theorem d_Mo_start_35 : decode prog_10_method_38_code 35 = .ok (.aload_n 0, 1) := by decide +kernel
theorem d_Mo_start_36 : decode prog_10_method_38_code 36 = .ok (.getfield 13, 3) := by decide +kernel
theorem d_Mo_start_39 : decode prog_10_method_38_code 39 = .ok (.iload_n 3, 1) := by decide +kernel
theorem d_Mo_start_40 : decode prog_10_method_38_code 40 = .ok (.iconst 0, 1) := by decide +kernel
theorem d_Mo_start_41 : decode prog_10_method_38_code 41 = .ok (.iastore, 1) := by decide +kernel
theorem d_Mo_start_42 : decode prog_10_method_38_code 42 = .ok (.aload_n 0, 1) := by decide +kernel
theorem d_Mo_start_43 : decode prog_10_method_38_code 43 = .ok (.iload_n 3, 1) := by decide +kernel
theorem d_Mo_start_44 : decode prog_10_method_38_code 44 = .ok (.iconst 0, 1) := by decide +kernel
theorem d_Mo_start_45 : decode prog_10_method_38_code 45 = .ok (.invokevirtual 153, 3) := by decide +kernel
theorem d_Mo_start_48 : decode prog_10_method_38_code 48 = .ok (.iinc 3 1, 3) := by decide +kernel
theorem d_Mo_start_51 : decode prog_10_method_38_code 51 = .ok (.goto (-21), 3) := by decide +kernel
theorem d_Mo_start_54 : decode prog_10_method_38_code 54 = .ok (.aload_n 0, 1) := by decide +kernel
theorem d_Mo_start_55 : decode prog_10_method_38_code 55 = .ok (.iconst 0, 1) := by decide +kernel
theorem d_Mo_start_56 : decode prog_10_method_38_code 56 = .ok (.putfield 189, 3) := by decide +kernel
theorem d_Mo_start_59 : decode prog_10_method_38_code 59 = .ok (.aload_n 0, 1) := by decide +kernel
theorem d_Mo_start_60 : decode prog_10_method_38_code 60 = .ok (.iconst 0, 1) := by decide +kernel
theorem d_Mo_start_61 : decode prog_10_method_38_code 61 = .ok (.putfield 57, 3) := by decide +kernel
theorem d_Mo_start_64 : decode prog_10_method_38_code 64 = .ok (.aload_n 0, 1) := by decide +kernel
theorem d_Mo_start_65 : decode prog_10_method_38_code 65 = .ok (.iconst 0, 1) := by decide +kernel
theorem d_Mo_start_66 : decode prog_10_method_38_code 66 = .ok (.putfield 96, 3) := by decide +kernel
theorem d_Mo_start_69 : decode prog_10_method_38_code 69 = .ok (.aload_n 0, 1) := by decide +kernel
theorem d_Mo_start_70 : decode prog_10_method_38_code 70 = .ok (.iconst 0, 1) := by decide +kernel
theorem d_Mo_start_71 : decode prog_10_method_38_code 71 = .ok (.putfield 99, 3) := by decide +kernel
theorem d_Mo_start_74 : decode prog_10_method_38_code 74 = .ok (.aload_n 0, 1) := by decide +kernel
theorem d_Mo_start_75 : decode prog_10_method_38_code 75 = .ok (.iconst 0, 1) := by decide +kernel
theorem d_Mo_start_76 : decode prog_10_method_38_code 76 = .ok (.putfield 128, 3) := by decide +kernel
theorem d_Mo_start_79 : decode prog_10_method_38_code 79 = .ok (.aload_n 0, 1) := by decide +kernel
theorem d_Mo_start_80 : decode prog_10_method_38_code 80 = .ok (.iconst (-1), 1) := by decide +kernel
theorem d_Mo_start_81 : decode prog_10_method_38_code 81 = .ok (.putfield 69, 3) := by decide +kernel
theorem d_Mo_start_84 : decode prog_10_method_38_code 84 = .ok (.aload_n 0, 1) := by decide +kernel
theorem d_Mo_start_85 : decode prog_10_method_38_code 85 = .ok (.iload_n 1, 1) := by decide +kernel
theorem d_Mo_start_86 : decode prog_10_method_38_code 86 = .ok (.putfield 195, 3) := by decide +kernel
theorem d_Mo_start_89 : decode prog_10_method_38_code 89 = .ok (.aload_n 0, 1) := by decide +kernel
theorem d_Mo_start_90 : decode prog_10_method_38_code 90 = .ok (.iconst 0, 1) := by decide +kernel
theorem d_Mo_start_91 : decode prog_10_method_38_code 91 = .ok (.putfield 72, 3) := by decide +kernel
theorem d_Mo_start_94 : decode prog_10_method_38_code 94 = .ok (.iconst 0, 1) := by decide +kernel
theorem d_Mo_start_95 : decode prog_10_method_38_code 95 = .ok (.istore_n 3, 1) := by decide +kernel
theorem d_Mo_start_96 : decode prog_10_method_38_code 96 = .ok (.iload_n 3, 1) := by decide +kernel
theorem d_Mo_start_97 : decode prog_10_method_38_code 97 = .ok (.iconst 4, 1) := by decide +kernel
theorem d_Mo_start_98 : decode prog_10_method_38_code 98 = .ok (.if_icmp .ge 16, 3) := by decide +kernel
theorem d_Mo_start_101 : decode prog_10_method_38_code 101 = .ok (.aload_n 0, 1) := by decide +kernel
theorem d_Mo_start_102 : decode prog_10_method_38_code 102 = .ok (.getfield 76, 3) := by decide +kernel
theorem d_Mo_start_105 : decode prog_10_method_38_code 105 = .ok (.iload_n 3, 1) := by decide +kernel
theorem d_Mo_start_106 : decode prog_10_method_38_code 106 = .ok (.iconst 0, 1) := by decide +kernel
theorem d_Mo_start_107 : decode prog_10_method_38_code 107 = .ok (.iastore, 1) := by decide +kernel
theorem d_Mo_start_108 : decode prog_10_method_38_code 108 = .ok (.iinc 3 1, 3) := by decide +kernel
theorem d_Mo_start_111 : decode prog_10_method_38_code 111 = .ok (.goto (-15), 3) := by decide +kernel
theorem d_Mo_start_114 : decode prog_10_method_38_code 114 = .ok (.aload_n 0, 1) := by decide +kernel
theorem d_Mo_start_115 : decode prog_10_method_38_code 115 = .ok (.invokevirtual 147, 3) := by decide +kernel
theorem d_Mo_start_118 : decode prog_10_method_38_code 118 = .ok (.return_, 1) := by decide +kernel
def rm_Mo_start : Room := { frames := 5, cells := 0, slots := 0, locals := 113 }
def wp_Mo_start_L96 (Q : UI → UR → Prop) : Nat → UI → UR → Int32 → Prop
  | 0, _, _, _ => False
  | n + 1, I, R, x3 => ((4 ≤ x3 → wp_Mo_again I R (fun I16 R17 => Q I16 R17)) ∧ (¬ 4 ≤ x3 → vp_in x3 4 ∧ ∀ I18 : UI, I18 = u2 I 108 x3.toNatClampNeg 0 → ∀ v19 : Int32, v19 = x3 + 1 → wp_Mo_start_L96 Q n I18 R v19))
set_option maxHeartbeats 4000000 in
set_option maxRecDepth 100000 in
theorem j_Mo_start_96 (X : uX p s m args c prog_10_method_38_code 4 "FrameFerryModel" D cc L A t16 t32) (hr : meth.sig.returnType = none) (hlk : meth.locks = false) (hsz : sz = s.heap.size) {Q : UI → UR → Prop} : ∀ (n : Nat) (I : UI) (R : UR) (x3 : Int32) (H : Heap) (locs : List Loc) (ls : Array Slot), uV s D cc L A J I R H locs → lv_has ls 4 [(0, .ref (A 80)), (3, .int x3)] → wp_Mo_start_L96 Q n I R x3 → W p l e rm_Mo_start s m args below meth c H locs 0 0 (MQ below (va_Qv (fun u : UI × UR => Q u.1 u.2) (uBv D cc L A J) (uA L A sz)) args s 0 0 (uA L A sz)) (F0 m 96 ls []) := by
  intro n
  induction n with
  | zero => exact fun I R x3 H locs ls V hl h => False.elim h
  | succ n ih =>
    intro I R x3 H locs ls V hl h
    have hx := X.1
    have hb := X.2.1
    rw [wp_Mo_start_L96] at h
    refine lv_iload_n (pc := 96) hx hb d_Mo_start_96 rfl (lv_at hl 1 rfl) ?_
    refine lv_iconst (pc := 97) (v := 4) hx hb d_Mo_start_97 (by decide) ?_
    refine lv_icmp_ge (pc := 98) (tgt := 114) hx hb d_Mo_start_98 (by decide) (fun hc => ?_) (fun hc => ?_)
    · have h := h.1 hc
      refine lv_aload_n (pc := 114) hx hb d_Mo_start_114 rfl (lv_at hl 0 rfl) ?_
      refine u_cVv (pc := 115) (As := []) X V s_Mo_147 (X.fix rfl) rfl rfl rfl (c_Mo_again l D cc L A J t16 t32 _ _  _ h) ⟨rfl, rfl, Nat.le_of_ble_eq_true rfl, Nat.le_of_ble_eq_true rfl⟩ rfl hl.1 rfl (Nat.le_of_ble_eq_true rfl) d_Mo_start_115 ⟨Nat.zero_le _, Nat.zero_le _⟩ (fun I16 R17 h H locs V => ?_)
      exact u_retv (pc := 118) X V hr hlk hsz h d_Mo_start_118
    · have h := h.2 hc
      refine lv_aload_n (pc := 101) hx hb d_Mo_start_101 rfl (lv_at hl 0 rfl) ?_
      refine u_getr (pc := 102) (o' := 108) X V (X.fix rfl) rfl rfl f_Mo_76 rfl rfl d_Mo_start_102 ?_
      refine lv_iload_n (pc := 105) hx hb d_Mo_start_105 rfl (lv_at hl 1 rfl) ?_
      refine lv_iconst (pc := 106) (v := 0) hx hb d_Mo_start_106 (by decide) ?_
      refine u_iast (pc := 107) X V (X.fix rfl) rfl rfl h.1 d_Mo_start_107 (fun I18 eI18 H locs V => ?_)
      have h := h.2 I18 eI18
      obtain ⟨v19, ev19⟩ : ∃ z : Int32, z = x3 + 1 := ⟨_, rfl⟩
      have h := h v19 ev19
      refine lv_iinc (pc := 108) (k := 1) (v := v19) (lv' := [(3, .int v19), (0, .ref (A 80))]) hx hb d_Mo_start_108 hl rfl (by rw [ev19]; rfl) (by decide) rfl (fun ls hl => ?_)
      refine lv_goto (pc := 111) (tgt := 96) hx hb d_Mo_start_111 (by decide) ?_
      exact ih I18 R v19 H locs ls V (lv_sub hl [1, 0] rfl) h
def wp_Mo_start_L30 (Q : UI → UR → Prop) : Nat → UI → UR → Int32 → Int32 → Prop
  | 0, _, _, _, _ => False
  | n + 1, I, R, x1, x3 => ((2 ≤ x3 → zb 0 ∧ ∀ I8 : UI, I8 = u2 I 80 31 0 → ∀ I9 : UI, I9 = u2 I8 80 17 0 → ∀ I10 : UI, I10 = u2 I9 80 18 0 → ∀ I11 : UI, I11 = u2 I10 80 19 0 → zb 0 ∧ ∀ I12 : UI, I12 = u2 I11 80 21 0 → ∀ I13 : UI, I13 = u2 I12 80 25 (-1) → zb x1 ∧ ∀ I14 : UI, I14 = u2 I13 80 26 x1 → zb 0 ∧ ∀ I15 : UI, I15 = u2 I14 80 27 0 → (∃ n96 : Nat, wp_Mo_start_L96 Q n96 I15 R 0)) ∧ (¬ 2 ≤ x3 → vp_in x3 2 ∧ ∀ I20 : UI, I20 = u2 I 82 x3.toNatClampNeg 0 → wp_Mo_begin I20 R x3 0 (fun I21 R22 => ∀ v23 : Int32, v23 = x3 + 1 → wp_Mo_start_L30 Q n I21 R22 x1 v23)))
set_option maxHeartbeats 4000000 in
set_option maxRecDepth 100000 in
theorem j_Mo_start_30 (X : uX p s m args c prog_10_method_38_code 4 "FrameFerryModel" D cc L A t16 t32) (hr : meth.sig.returnType = none) (hlk : meth.locks = false) (hsz : sz = s.heap.size) {Q : UI → UR → Prop} : ∀ (n : Nat) (I : UI) (R : UR) (x1 : Int32) (x3 : Int32) (H : Heap) (locs : List Loc) (ls : Array Slot), uV s D cc L A J I R H locs → lv_has ls 4 [(0, .ref (A 80)), (1, .int x1), (3, .int x3)] → wp_Mo_start_L30 Q n I R x1 x3 → W p l e rm_Mo_start s m args below meth c H locs 0 0 (MQ below (va_Qv (fun u : UI × UR => Q u.1 u.2) (uBv D cc L A J) (uA L A sz)) args s 0 0 (uA L A sz)) (F0 m 30 ls []) := by
  intro n
  induction n with
  | zero => exact fun I R x1 x3 H locs ls V hl h => False.elim h
  | succ n ih =>
    intro I R x1 x3 H locs ls V hl h
    have hx := X.1
    have hb := X.2.1
    rw [wp_Mo_start_L30] at h
    refine lv_iload_n (pc := 30) hx hb d_Mo_start_30 rfl (lv_at hl 2 rfl) ?_
    refine lv_iconst (pc := 31) (v := 2) hx hb d_Mo_start_31 (by decide) ?_
    refine lv_icmp_ge (pc := 32) (tgt := 54) hx hb d_Mo_start_32 (by decide) (fun hc => ?_) (fun hc => ?_)
    · have h := h.1 hc
      refine lv_aload_n (pc := 54) hx hb d_Mo_start_54 rfl (lv_at hl 0 rfl) ?_
      refine lv_iconst (pc := 55) (v := 0) hx hb d_Mo_start_55 (by decide) ?_
      refine u_putz (pc := 56) X V (X.fix rfl) rfl rfl f_Mo_189 rfl h.1 d_Mo_start_56 (fun I8 eI8 H locs V => ?_)
      have h := h.2 I8 eI8
      refine lv_aload_n (pc := 59) hx hb d_Mo_start_59 rfl (lv_at hl 0 rfl) ?_
      refine lv_iconst (pc := 60) (v := 0) hx hb d_Mo_start_60 (by decide) ?_
      refine u_puti (pc := 61) X V (X.fix rfl) rfl rfl f_Mo_57 rfl d_Mo_start_61 (fun I9 eI9 H locs V => ?_)
      have h := h I9 eI9
      refine lv_aload_n (pc := 64) hx hb d_Mo_start_64 rfl (lv_at hl 0 rfl) ?_
      refine lv_iconst (pc := 65) (v := 0) hx hb d_Mo_start_65 (by decide) ?_
      refine u_puti (pc := 66) X V (X.fix rfl) rfl rfl f_Mo_96 rfl d_Mo_start_66 (fun I10 eI10 H locs V => ?_)
      have h := h I10 eI10
      refine lv_aload_n (pc := 69) hx hb d_Mo_start_69 rfl (lv_at hl 0 rfl) ?_
      refine lv_iconst (pc := 70) (v := 0) hx hb d_Mo_start_70 (by decide) ?_
      refine u_puti (pc := 71) X V (X.fix rfl) rfl rfl f_Mo_99 rfl d_Mo_start_71 (fun I11 eI11 H locs V => ?_)
      have h := h I11 eI11
      refine lv_aload_n (pc := 74) hx hb d_Mo_start_74 rfl (lv_at hl 0 rfl) ?_
      refine lv_iconst (pc := 75) (v := 0) hx hb d_Mo_start_75 (by decide) ?_
      refine u_putz (pc := 76) X V (X.fix rfl) rfl rfl f_Mo_128 rfl h.1 d_Mo_start_76 (fun I12 eI12 H locs V => ?_)
      have h := h.2 I12 eI12
      refine lv_aload_n (pc := 79) hx hb d_Mo_start_79 rfl (lv_at hl 0 rfl) ?_
      refine lv_iconst (pc := 80) (v := (-1)) hx hb d_Mo_start_80 (by decide) ?_
      refine u_puti (pc := 81) X V (X.fix rfl) rfl rfl f_Mo_69 rfl d_Mo_start_81 (fun I13 eI13 H locs V => ?_)
      have h := h I13 eI13
      refine lv_aload_n (pc := 84) hx hb d_Mo_start_84 rfl (lv_at hl 0 rfl) ?_
      refine lv_iload_n (pc := 85) hx hb d_Mo_start_85 rfl (lv_at hl 1 rfl) ?_
      refine u_putz (pc := 86) X V (X.fix rfl) rfl rfl f_Mo_195 rfl h.1 d_Mo_start_86 (fun I14 eI14 H locs V => ?_)
      have h := h.2 I14 eI14
      refine lv_aload_n (pc := 89) hx hb d_Mo_start_89 rfl (lv_at hl 0 rfl) ?_
      refine lv_iconst (pc := 90) (v := 0) hx hb d_Mo_start_90 (by decide) ?_
      refine u_putz (pc := 91) X V (X.fix rfl) rfl rfl f_Mo_72 rfl h.1 d_Mo_start_91 (fun I15 eI15 H locs V => ?_)
      have h := h.2 I15 eI15
      refine lv_iconst (pc := 94) (v := 0) hx hb d_Mo_start_94 (by decide) ?_
      refine lv_istore_n (pc := 95) (lv' := [(3, .int 0), (0, .ref (A 80)), (1, .int x1)]) hx hb d_Mo_start_95 rfl hl (by decide) rfl (fun ls hl => ?_)
      obtain ⟨n96, h⟩ := h
      exact j_Mo_start_96 X hr hlk hsz n96 I15 R 0 H locs ls V (lv_sub hl [1, 0] rfl) h
    · have h := h.2 hc
      refine lv_aload_n (pc := 35) hx hb d_Mo_start_35 rfl (lv_at hl 0 rfl) ?_
      refine u_getr (pc := 36) (o' := 82) X V (X.fix rfl) rfl rfl f_Mo_13 rfl rfl d_Mo_start_36 ?_
      refine lv_iload_n (pc := 39) hx hb d_Mo_start_39 rfl (lv_at hl 2 rfl) ?_
      refine lv_iconst (pc := 40) (v := 0) hx hb d_Mo_start_40 (by decide) ?_
      refine u_iast (pc := 41) X V (X.fix rfl) rfl rfl h.1 d_Mo_start_41 (fun I20 eI20 H locs V => ?_)
      have h := h.2 I20 eI20
      refine lv_aload_n (pc := 42) hx hb d_Mo_start_42 rfl (lv_at hl 0 rfl) ?_
      refine lv_iload_n (pc := 43) hx hb d_Mo_start_43 rfl (lv_at hl 2 rfl) ?_
      refine lv_iconst (pc := 44) (v := 0) hx hb d_Mo_start_44 (by decide) ?_
      refine u_cVv (pc := 45) (As := [.int x3, .int 0]) X V s_Mo_153 (X.fix rfl) rfl rfl rfl (c_Mo_begin l D cc L A J t16 t32 _ _ x3 0 _ h) ⟨rfl, rfl, Nat.le_of_ble_eq_true rfl, Nat.le_of_ble_eq_true rfl⟩ rfl hl.1 rfl (Nat.le_of_ble_eq_true rfl) d_Mo_start_45 ⟨Nat.zero_le _, Nat.zero_le _⟩ (fun I21 R22 h H locs V => ?_)
      obtain ⟨v23, ev23⟩ : ∃ z : Int32, z = x3 + 1 := ⟨_, rfl⟩
      have h := h v23 ev23
      refine lv_iinc (pc := 48) (k := 2) (v := v23) (lv' := [(3, .int v23), (0, .ref (A 80)), (1, .int x1)]) hx hb d_Mo_start_48 hl rfl (by rw [ev23]; rfl) (by decide) rfl (fun ls hl => ?_)
      refine lv_goto (pc := 51) (tgt := 30) hx hb d_Mo_start_51 (by decide) ?_
      exact ih I21 R22 x1 v23 H locs ls V (lv_sub hl [1, 2, 0] rfl) h
def wp_Mo_start_L16 (Q : UI → UR → Prop) (I : UI) (R : UR) (x1 : Int32) (x2 : Int32) (s0 : Int32) : Prop :=
  wp_Mo_refused I R s0 (fun r6 I4 R5 => ((r6 = 0 → ∀ I7 : UI, I7 = u2 I4 80 12 x2 → (∃ n30 : Nat, wp_Mo_start_L30 Q n30 I7 R5 x1 0)) ∧ (¬ r6 = 0 → Q I4 R5)))
set_option maxHeartbeats 4000000 in
set_option maxRecDepth 100000 in
theorem j_Mo_start_16 (X : uX p s m args c prog_10_method_38_code 4 "FrameFerryModel" D cc L A t16 t32) (hr : meth.sig.returnType = none) (hlk : meth.locks = false) (hsz : sz = s.heap.size) {Q : UI → UR → Prop} {I : UI} {R : UR} {x1 : Int32} {x2 : Int32} {s0 : Int32} {H : Heap} {locs : List Loc} {ls : Array Slot} (V : uV s D cc L A J I R H locs) (hl : lv_has ls 4 [(0, .ref (A 80)), (1, .int x1), (2, .int x2)]) (h : wp_Mo_start_L16 Q I R x1 x2 s0) : W p l e rm_Mo_start s m args below meth c H locs 0 0 (MQ below (va_Qv (fun u : UI × UR => Q u.1 u.2) (uBv D cc L A J) (uA L A sz)) args s 0 0 (uA L A sz)) (F0 m 16 ls [.int s0, .ref (A 80)]) := by
  have hx := X.1
  have hb := X.2.1
  unfold wp_Mo_start_L16 at h
  refine u_cVi (pc := 16) (As := [.int s0]) X V s_Mo_92 (X.fix rfl) rfl rfl rfl (c_Mo_refused l D cc L A J t16 t32 _ _ s0 _ h) ⟨rfl, rfl, Nat.le_of_ble_eq_true rfl, Nat.le_of_ble_eq_true rfl⟩ rfl hl.1 rfl (Nat.le_of_ble_eq_true rfl) d_Mo_start_16 ⟨Nat.zero_le _, Nat.zero_le _⟩ (fun r6 I4 R5 h H locs V => ?_)
  refine lv_if_eq (pc := 19) (tgt := 23) hx hb d_Mo_start_19 (by decide) (fun hc => ?_) (fun hc => ?_)
  · have h := h.1 hc
    refine lv_aload_n (pc := 23) hx hb d_Mo_start_23 rfl (lv_at hl 0 rfl) ?_
    refine lv_iload_n (pc := 24) hx hb d_Mo_start_24 rfl (lv_at hl 2 rfl) ?_
    refine u_puti (pc := 25) X V (X.fix rfl) rfl rfl f_Mo_44 rfl d_Mo_start_25 (fun I7 eI7 H locs V => ?_)
    have h := h I7 eI7
    refine lv_iconst (pc := 28) (v := 0) hx hb d_Mo_start_28 (by decide) ?_
    refine lv_istore_n (pc := 29) (lv' := [(3, .int 0), (0, .ref (A 80)), (1, .int x1), (2, .int x2)]) hx hb d_Mo_start_29 rfl hl (by decide) rfl (fun ls hl => ?_)
    obtain ⟨n30, h⟩ := h
    exact j_Mo_start_30 X hr hlk hsz n30 I7 R5 x1 0 H locs ls V (lv_sub hl [1, 2, 0] rfl) h
  · have h := h.2 hc
    exact u_retv (pc := 22) X V hr hlk hsz h d_Mo_start_22
def wp_Mo_start (I : UI) (R : UR) (x1 : Int32) (x2 : Int32) (Q : UI → UR → Prop) : Prop :=
  wp_Mo_isIn I R x2 1 64 (fun r3 I1 R2 => ((r3 = 0 → wp_Mo_start_L16 Q I1 R2 x1 x2 1) ∧ (¬ r3 = 0 → wp_Mo_start_L16 Q I1 R2 x1 x2 0)))
set_option maxHeartbeats 4000000 in
set_option maxRecDepth 100000 in
theorem c_Mo_start (l : Launch) (D : va_G) (cc : Nat → ClassId) (L : List Nat) (A : Nat → Nat) (J : Nat → Int64) (t16 t32 : Nat) (I : UI) (R : UR) (x1 : Int32) (x2 : Int32) (Q : UI → UR → Prop) (h : wp_Mo_start I R x1 x2 Q) : uMv l y_Mo_start (.code y_Mo_start prog_10_method_38_code 4 none) rm_Mo_start [.ref (A 80), .int x1, .int x2] D cc L A J t16 t32 I R Q := by
  intro sz
  refine u_entry (by decide) (Nat.le_of_ble_eq_true rfl) (fun p e s m args below meth c hsz X V hr hlk ls hl => ?_)
  have X : uX p s m args c prog_10_method_38_code 4 "FrameFerryModel" D cc L A t16 t32 := X
  have hx := X.1
  have hb := X.2.1
  have hl : lv_has ls 4 [(0, .ref (A 80)), (1, .int x1), (2, .int x2)] := hl
  unfold wp_Mo_start at h
  generalize hH : s.heap = H at V ⊢
  generalize hlo : ([] : List Loc) = locs at V ⊢
  refine lv_aload_n (pc := 0) hx hb d_Mo_start_0 rfl (lv_at hl 0 rfl) ?_
  refine lv_iload_n (pc := 1) hx hb d_Mo_start_1 rfl (lv_at hl 2 rfl) ?_
  refine lv_iconst (pc := 2) (v := 1) hx hb d_Mo_start_2 (by decide) ?_
  refine lv_bipush (pc := 3) (v := 64) hx hb d_Mo_start_3 (by decide) ?_
  refine u_cSi (pc := 5) (As := [.int x2, .int 1, .int 64]) X V s_Mo_85 (c_Mo_isIn l D cc L A J t16 t32 _ _ x2 1 64 _ h) ⟨rfl, rfl, Nat.le_of_ble_eq_true rfl, Nat.le_of_ble_eq_true rfl⟩ rfl hl.1 rfl (Nat.le_of_ble_eq_true rfl) d_Mo_start_5 ⟨Nat.zero_le _, Nat.zero_le _⟩ (fun r3 I1 R2 h H locs V => ?_)
  refine lv_if_eq (pc := 8) (tgt := 15) hx hb d_Mo_start_8 (by decide) (fun hc => ?_) (fun hc => ?_)
  · have h := h.1 hc
    refine lv_iconst (pc := 15) (v := 1) hx hb d_Mo_start_15 (by decide) ?_
    exact j_Mo_start_16 X hr hlk hsz V (lv_sub hl [0, 1, 2] rfl) h
  · have h := h.2 hc
    refine lv_iconst (pc := 11) (v := 0) hx hb d_Mo_start_11 (by decide) ?_
    refine lv_goto (pc := 12) (tgt := 16) hx hb d_Mo_start_12 (by decide) ?_
    exact j_Mo_start_16 X hr hlk hsz V (lv_sub hl [0, 1, 2] rfl) h
-- FrameFerryModel.sender ()I
theorem d_Mo_sender_0 : decode prog_10_method_39_code 0 = .ok (.aload_n 0, 1) := by decide +kernel
theorem d_Mo_sender_1 : decode prog_10_method_39_code 1 = .ok (.iconst 0, 1) := by decide +kernel
theorem d_Mo_sender_2 : decode prog_10_method_39_code 2 = .ok (.putfield 82, 3) := by decide +kernel
theorem d_Mo_sender_5 : decode prog_10_method_39_code 5 = .ok (.aload_n 0, 1) := by decide +kernel
theorem d_Mo_sender_6 : decode prog_10_method_39_code 6 = .ok (.iconst 0, 1) := by decide +kernel
theorem d_Mo_sender_7 : decode prog_10_method_39_code 7 = .ok (.putfield 111, 3) := by decide +kernel
theorem d_Mo_sender_10 : decode prog_10_method_39_code 10 = .ok (.aload_n 0, 1) := by decide +kernel
theorem d_Mo_sender_11 : decode prog_10_method_39_code 11 = .ok (.getfield 13, 3) := by decide +kernel
theorem d_Mo_sender_14 : decode prog_10_method_39_code 14 = .ok (.iconst 0, 1) := by decide +kernel
theorem d_Mo_sender_15 : decode prog_10_method_39_code 15 = .ok (.iaload, 1) := by decide +kernel
theorem d_Mo_sender_16 : decode prog_10_method_39_code 16 = .ok (.istore_n 1, 1) := by decide +kernel
theorem d_Mo_sender_17 : decode prog_10_method_39_code 17 = .ok (.aload_n 0, 1) := by decide +kernel
theorem d_Mo_sender_18 : decode prog_10_method_39_code 18 = .ok (.getfield 13, 3) := by decide +kernel
theorem d_Mo_sender_21 : decode prog_10_method_39_code 21 = .ok (.iconst 0, 1) := by decide +kernel
theorem d_Mo_sender_22 : decode prog_10_method_39_code 22 = .ok (.iconst 0, 1) := by decide +kernel
theorem d_Mo_sender_23 : decode prog_10_method_39_code 23 = .ok (.iastore, 1) := by decide +kernel
theorem d_Mo_sender_24 : decode prog_10_method_39_code 24 = .ok (.iconst 0, 1) := by decide +kernel
theorem d_Mo_sender_25 : decode prog_10_method_39_code 25 = .ok (.istore_n 2, 1) := by decide +kernel
theorem d_Mo_sender_26 : decode prog_10_method_39_code 26 = .ok (.iload_n 2, 1) := by decide +kernel
theorem d_Mo_sender_27 : decode prog_10_method_39_code 27 = .ok (.iload_n 1, 1) := by decide +kernel
theorem d_Mo_sender_28 : decode prog_10_method_39_code 28 = .ok (.if_icmp .ge 20, 3) := by decide +kernel
theorem d_Mo_sender_31 : decode prog_10_method_39_code 31 = .ok (.aload_n 0, 1) := by decide +kernel
theorem d_Mo_sender_32 : decode prog_10_method_39_code 32 = .ok (.iconst 0, 1) := by decide +kernel
theorem d_Mo_sender_33 : decode prog_10_method_39_code 33 = .ok (.aload_n 0, 1) := by decide +kernel
theorem d_Mo_sender_34 : decode prog_10_method_39_code 34 = .ok (.getfield 7, 3) := by decide +kernel
theorem d_Mo_sender_37 : decode prog_10_method_39_code 37 = .ok (.iload_n 2, 1) := by decide +kernel
theorem d_Mo_sender_38 : decode prog_10_method_39_code 38 = .ok (.iaload, 1) := by decide +kernel
theorem d_Mo_sender_39 : decode prog_10_method_39_code 39 = .ok (.invokevirtual 211, 3) := by decide +kernel
theorem d_Mo_sender_42 : decode prog_10_method_39_code 42 = .ok (.iinc 2 1, 3) := by decide +kernel
theorem d_Mo_sender_45 : decode prog_10_method_39_code 45 = .ok (.goto (-19), 3) := by decide +kernel
theorem d_Mo_sender_48 : decode prog_10_method_39_code 48 = .ok (.aload_n 0, 1) := by decide +kernel
theorem d_Mo_sender_49 : decode prog_10_method_39_code 49 = .ok (.invokevirtual 214, 3) := by decide +kernel
theorem d_Mo_sender_52 : decode prog_10_method_39_code 52 = .ok (.aload_n 0, 1) := by decide +kernel
theorem d_Mo_sender_53 : decode prog_10_method_39_code 53 = .ok (.getfield 111, 3) := by decide +kernel
theorem d_Mo_sender_56 : decode prog_10_method_39_code 56 = .ok (.ireturn, 1) := by decide +kernel
def rm_Mo_sender : Room := { frames := 11, cells := 0, slots := 0, locals := 248 }
def wp_Mo_sender_L26 (Q : Int32 → UI → UR → Prop) : Nat → UI → UR → Int32 → Int32 → Prop
  | 0, _, _, _, _ => False
  | n + 1, I, R, x1, x2 => ((x1 ≤ x2 → wp_Mo_sendOn I R (fun I5 R6 => Q (I5 80 29) I5 R6)) ∧ (¬ x1 ≤ x2 → vp_in x2 6000 ∧ wp_Mo_read I R 0 (I 81 x2.toNatClampNeg) (fun I7 R8 => ∀ v9 : Int32, v9 = x2 + 1 → wp_Mo_sender_L26 Q n I7 R8 x1 v9)))
set_option maxHeartbeats 4000000 in
set_option maxRecDepth 100000 in
theorem j_Mo_sender_26 (X : uX p s m args c prog_10_method_39_code 3 "FrameFerryModel" D cc L A t16 t32) (hr : meth.sig.returnType = (some .int)) (hlk : meth.locks = false) (hsz : sz = s.heap.size) {Q : Int32 → UI → UR → Prop} : ∀ (n : Nat) (I : UI) (R : UR) (x1 : Int32) (x2 : Int32) (H : Heap) (locs : List Loc) (ls : Array Slot), uV s D cc L A J I R H locs → lv_has ls 3 [(0, .ref (A 80)), (1, .int x1), (2, .int x2)] → wp_Mo_sender_L26 Q n I R x1 x2 → W p l e rm_Mo_sender s m args below meth c H locs 0 0 (MQ below (va_Qi (fun (r : Int32) (u : UI × UR) => Q r u.1 u.2) (uBv D cc L A J) (uA L A sz)) args s 0 0 (uA L A sz)) (F0 m 26 ls []) := by
  intro n
  induction n with
  | zero => exact fun I R x1 x2 H locs ls V hl h => False.elim h
  | succ n ih =>
    intro I R x1 x2 H locs ls V hl h
    have hx := X.1
    have hb := X.2.1
    rw [wp_Mo_sender_L26] at h
    refine lv_iload_n (pc := 26) hx hb d_Mo_sender_26 rfl (lv_at hl 2 rfl) ?_
    refine lv_iload_n (pc := 27) hx hb d_Mo_sender_27 rfl (lv_at hl 1 rfl) ?_
    refine lv_icmp_ge (pc := 28) (tgt := 48) hx hb d_Mo_sender_28 (by decide) (fun hc => ?_) (fun hc => ?_)
    · have h := h.1 hc
      refine lv_aload_n (pc := 48) hx hb d_Mo_sender_48 rfl (lv_at hl 0 rfl) ?_
      refine u_cVv (pc := 49) (As := []) X V s_Mo_214 (X.fix rfl) rfl rfl rfl (c_Mo_sendOn l D cc L A J t16 t32 _ _  _ h) ⟨rfl, rfl, Nat.le_of_ble_eq_true rfl, Nat.le_of_ble_eq_true rfl⟩ rfl hl.1 rfl (Nat.le_of_ble_eq_true rfl) d_Mo_sender_49 ⟨Nat.zero_le _, Nat.zero_le _⟩ (fun I5 R6 h H locs V => ?_)
      refine lv_aload_n (pc := 52) hx hb d_Mo_sender_52 rfl (lv_at hl 0 rfl) ?_
      refine u_geti (pc := 53) X V (X.fix rfl) rfl rfl f_Mo_111 rfl d_Mo_sender_53 ?_
      exact u_reti (pc := 56) X V hr hlk hsz h d_Mo_sender_56
    · have h := h.2 hc
      refine lv_aload_n (pc := 31) hx hb d_Mo_sender_31 rfl (lv_at hl 0 rfl) ?_
      refine lv_iconst (pc := 32) (v := 0) hx hb d_Mo_sender_32 (by decide) ?_
      refine lv_aload_n (pc := 33) hx hb d_Mo_sender_33 rfl (lv_at hl 0 rfl) ?_
      refine u_getr (pc := 34) (o' := 81) X V (X.fix rfl) rfl rfl f_Mo_7 rfl rfl d_Mo_sender_34 ?_
      refine lv_iload_n (pc := 37) hx hb d_Mo_sender_37 rfl (lv_at hl 2 rfl) ?_
      refine u_iald (pc := 38) X V (X.fix rfl) rfl rfl h.1 d_Mo_sender_38 ?_
      have h := h.2
      refine u_cVv (pc := 39) (As := [.int 0, .int (I 81 x2.toNatClampNeg)]) X V s_Mo_211 (X.fix rfl) rfl rfl rfl (c_Mo_read l D cc L A J t16 t32 _ _ 0 (I 81 x2.toNatClampNeg) _ h) ⟨rfl, rfl, Nat.le_of_ble_eq_true rfl, Nat.le_of_ble_eq_true rfl⟩ rfl hl.1 rfl (Nat.le_of_ble_eq_true rfl) d_Mo_sender_39 ⟨Nat.zero_le _, Nat.zero_le _⟩ (fun I7 R8 h H locs V => ?_)
      obtain ⟨v9, ev9⟩ : ∃ z : Int32, z = x2 + 1 := ⟨_, rfl⟩
      have h := h v9 ev9
      refine lv_iinc (pc := 42) (k := 2) (v := v9) (lv' := [(2, .int v9), (0, .ref (A 80)), (1, .int x1)]) hx hb d_Mo_sender_42 hl rfl (by rw [ev9]; rfl) (by decide) rfl (fun ls hl => ?_)
      refine lv_goto (pc := 45) (tgt := 26) hx hb d_Mo_sender_45 (by decide) ?_
      exact ih I7 R8 x1 v9 H locs ls V (lv_sub hl [1, 2, 0] rfl) h
def wp_Mo_sender (I : UI) (R : UR) (Q : Int32 → UI → UR → Prop) : Prop :=
  ∀ I1 : UI, I1 = u2 I 80 0 0 → ∀ I2 : UI, I2 = u2 I1 80 29 0 → vp_in 0 2 ∧ ∀ v3 : Int32, v3 = I2 82 (0 : Int32).toNatClampNeg → vp_in 0 2 ∧ ∀ I4 : UI, I4 = u2 I2 82 ((0 : Int32).toNatClampNeg) 0 → (∃ n26 : Nat, wp_Mo_sender_L26 Q n26 I4 R v3 0)
set_option maxHeartbeats 4000000 in
set_option maxRecDepth 100000 in
theorem c_Mo_sender (l : Launch) (D : va_G) (cc : Nat → ClassId) (L : List Nat) (A : Nat → Nat) (J : Nat → Int64) (t16 t32 : Nat) (I : UI) (R : UR) (Q : Int32 → UI → UR → Prop) (h : wp_Mo_sender I R Q) : uMi l y_Mo_sender (.code y_Mo_sender prog_10_method_39_code 3 (some .int)) rm_Mo_sender [.ref (A 80)] D cc L A J t16 t32 I R Q := by
  intro sz
  refine u_entry (by decide) (Nat.le_of_ble_eq_true rfl) (fun p e s m args below meth c hsz X V hr hlk ls hl => ?_)
  have X : uX p s m args c prog_10_method_39_code 3 "FrameFerryModel" D cc L A t16 t32 := X
  have hx := X.1
  have hb := X.2.1
  have hl : lv_has ls 3 [(0, .ref (A 80))] := hl
  unfold wp_Mo_sender at h
  generalize hH : s.heap = H at V ⊢
  generalize hlo : ([] : List Loc) = locs at V ⊢
  refine lv_aload_n (pc := 0) hx hb d_Mo_sender_0 rfl (lv_at hl 0 rfl) ?_
  refine lv_iconst (pc := 1) (v := 0) hx hb d_Mo_sender_1 (by decide) ?_
  refine u_puti (pc := 2) X V (X.fix rfl) rfl rfl f_Mo_82 rfl d_Mo_sender_2 (fun I1 eI1 H locs V => ?_)
  have h := h I1 eI1
  refine lv_aload_n (pc := 5) hx hb d_Mo_sender_5 rfl (lv_at hl 0 rfl) ?_
  refine lv_iconst (pc := 6) (v := 0) hx hb d_Mo_sender_6 (by decide) ?_
  refine u_puti (pc := 7) X V (X.fix rfl) rfl rfl f_Mo_111 rfl d_Mo_sender_7 (fun I2 eI2 H locs V => ?_)
  have h := h I2 eI2
  refine lv_aload_n (pc := 10) hx hb d_Mo_sender_10 rfl (lv_at hl 0 rfl) ?_
  refine u_getr (pc := 11) (o' := 82) X V (X.fix rfl) rfl rfl f_Mo_13 rfl rfl d_Mo_sender_11 ?_
  refine lv_iconst (pc := 14) (v := 0) hx hb d_Mo_sender_14 (by decide) ?_
  refine u_iald (pc := 15) X V (X.fix rfl) rfl rfl h.1 d_Mo_sender_15 ?_
  have h := h.2
  refine lv_topi (fun v3 ev3 => ?_)
  have h := h v3 ev3
  refine lv_istore_n (pc := 16) (lv' := [(1, .int v3), (0, .ref (A 80))]) hx hb d_Mo_sender_16 rfl hl (by decide) rfl (fun ls hl => ?_)
  refine lv_aload_n (pc := 17) hx hb d_Mo_sender_17 rfl (lv_at hl 1 rfl) ?_
  refine u_getr (pc := 18) (o' := 82) X V (X.fix rfl) rfl rfl f_Mo_13 rfl rfl d_Mo_sender_18 ?_
  refine lv_iconst (pc := 21) (v := 0) hx hb d_Mo_sender_21 (by decide) ?_
  refine lv_iconst (pc := 22) (v := 0) hx hb d_Mo_sender_22 (by decide) ?_
  refine u_iast (pc := 23) X V (X.fix rfl) rfl rfl h.1 d_Mo_sender_23 (fun I4 eI4 H locs V => ?_)
  have h := h.2 I4 eI4
  refine lv_iconst (pc := 24) (v := 0) hx hb d_Mo_sender_24 (by decide) ?_
  refine lv_istore_n (pc := 25) (lv' := [(2, .int 0), (1, .int v3), (0, .ref (A 80))]) hx hb d_Mo_sender_25 rfl hl (by decide) rfl (fun ls hl => ?_)
  obtain ⟨n26, h⟩ := h
  exact j_Mo_sender_26 X hr hlk hsz n26 I4 R v3 0 H locs ls V (lv_sub hl [2, 1, 0] rfl) h
-- FrameFerryModel.receiver ()I
theorem d_Mo_receiver_0 : decode prog_10_method_40_code 0 = .ok (.aload_n 0, 1) := by decide +kernel
theorem d_Mo_receiver_1 : decode prog_10_method_40_code 1 = .ok (.iconst 0, 1) := by decide +kernel
theorem d_Mo_receiver_2 : decode prog_10_method_40_code 2 = .ok (.putfield 82, 3) := by decide +kernel
theorem d_Mo_receiver_5 : decode prog_10_method_40_code 5 = .ok (.aload_n 0, 1) := by decide +kernel
theorem d_Mo_receiver_6 : decode prog_10_method_40_code 6 = .ok (.iconst 0, 1) := by decide +kernel
theorem d_Mo_receiver_7 : decode prog_10_method_40_code 7 = .ok (.putfield 111, 3) := by decide +kernel
theorem d_Mo_receiver_10 : decode prog_10_method_40_code 10 = .ok (.iconst 0, 1) := by decide +kernel
theorem d_Mo_receiver_11 : decode prog_10_method_40_code 11 = .ok (.istore_n 1, 1) := by decide +kernel
theorem d_Mo_receiver_12 : decode prog_10_method_40_code 12 = .ok (.iload_n 1, 1) := by decide +kernel
theorem d_Mo_receiver_13 : decode prog_10_method_40_code 13 = .ok (.aload_n 0, 1) := by decide +kernel
theorem d_Mo_receiver_14 : decode prog_10_method_40_code 14 = .ok (.getfield 13, 3) := by decide +kernel
theorem d_Mo_receiver_17 : decode prog_10_method_40_code 17 = .ok (.iconst 1, 1) := by decide +kernel
theorem d_Mo_receiver_18 : decode prog_10_method_40_code 18 = .ok (.iaload, 1) := by decide +kernel
theorem d_Mo_receiver_19 : decode prog_10_method_40_code 19 = .ok (.if_icmp .ge 31, 3) := by decide +kernel
theorem d_Mo_receiver_22 : decode prog_10_method_40_code 22 = .ok (.aload_n 0, 1) := by decide +kernel
theorem d_Mo_receiver_23 : decode prog_10_method_40_code 23 = .ok (.getfield 72, 3) := by decide +kernel
theorem d_Mo_receiver_26 : decode prog_10_method_40_code 26 = .ok (.ifCond .ne 24, 3) := by decide +kernel
theorem d_Mo_receiver_29 : decode prog_10_method_40_code 29 = .ok (.aload_n 0, 1) := by decide +kernel
theorem d_Mo_receiver_30 : decode prog_10_method_40_code 30 = .ok (.iconst 1, 1) := by decide +kernel
theorem d_Mo_receiver_31 : decode prog_10_method_40_code 31 = .ok (.aload_n 0, 1) := by decide +kernel
theorem d_Mo_receiver_32 : decode prog_10_method_40_code 32 = .ok (.getfield 7, 3) := by decide +kernel
theorem d_Mo_receiver_35 : decode prog_10_method_40_code 35 = .ok (.sipush 3000, 3) := by decide +kernel
theorem d_Mo_receiver_38 : decode prog_10_method_40_code 38 = .ok (.iload_n 1, 1) := by decide +kernel
theorem d_Mo_receiver_39 : decode prog_10_method_40_code 39 = .ok (.iadd, 1) := by decide +kernel
theorem d_Mo_receiver_40 : decode prog_10_method_40_code 40 = .ok (.iaload, 1) := by decide +kernel
theorem d_Mo_receiver_41 : decode prog_10_method_40_code 41 = .ok (.invokevirtual 211, 3) := by decide +kernel
theorem d_Mo_receiver_44 : decode prog_10_method_40_code 44 = .ok (.iinc 1 1, 3) := by decide +kernel
theorem d_Mo_receiver_47 : decode prog_10_method_40_code 47 = .ok (.goto (-35), 3) := by decide +kernel
theorem d_Mo_receiver_50 : decode prog_10_method_40_code 50 = .ok (.aload_n 0, 1) := by decide +kernel
theorem d_Mo_receiver_51 : decode prog_10_method_40_code 51 = .ok (.iconst 1, 1) := by decide +kernel
theorem d_Mo_receiver_52 : decode prog_10_method_40_code 52 = .ok (.iconst 0, 1) := by decide +kernel
theorem d_Mo_receiver_53 : decode prog_10_method_40_code 53 = .ok (.iload_n 1, 1) := by decide +kernel
theorem d_Mo_receiver_54 : decode prog_10_method_40_code 54 = .ok (.invokevirtual 217, 3) := by decide +kernel
theorem d_Mo_receiver_57 : decode prog_10_method_40_code 57 = .ok (.aload_n 0, 1) := by decide +kernel
theorem d_Mo_receiver_58 : decode prog_10_method_40_code 58 = .ok (.getfield 111, 3) := by decide +kernel
theorem d_Mo_receiver_61 : decode prog_10_method_40_code 61 = .ok (.ireturn, 1) := by decide +kernel
def rm_Mo_receiver : Room := { frames := 11, cells := 0, slots := 0, locals := 248 }
def wp_Mo_receiver_L50 (Q : Int32 → UI → UR → Prop) (I : UI) (R : UR) (x1 : Int32) : Prop :=
  wp_Mo_take I R 1 0 x1 (fun I3 R4 => Q (I3 80 29) I3 R4)
set_option maxHeartbeats 4000000 in
set_option maxRecDepth 100000 in
theorem j_Mo_receiver_50 (X : uX p s m args c prog_10_method_40_code 2 "FrameFerryModel" D cc L A t16 t32) (hr : meth.sig.returnType = (some .int)) (hlk : meth.locks = false) (hsz : sz = s.heap.size) {Q : Int32 → UI → UR → Prop} {I : UI} {R : UR} {x1 : Int32} {H : Heap} {locs : List Loc} {ls : Array Slot} (V : uV s D cc L A J I R H locs) (hl : lv_has ls 2 [(0, .ref (A 80)), (1, .int x1)]) (h : wp_Mo_receiver_L50 Q I R x1) : W p l e rm_Mo_receiver s m args below meth c H locs 0 0 (MQ below (va_Qi (fun (r : Int32) (u : UI × UR) => Q r u.1 u.2) (uBv D cc L A J) (uA L A sz)) args s 0 0 (uA L A sz)) (F0 m 50 ls []) := by
  have hx := X.1
  have hb := X.2.1
  unfold wp_Mo_receiver_L50 at h
  refine lv_aload_n (pc := 50) hx hb d_Mo_receiver_50 rfl (lv_at hl 0 rfl) ?_
  refine lv_iconst (pc := 51) (v := 1) hx hb d_Mo_receiver_51 (by decide) ?_
  refine lv_iconst (pc := 52) (v := 0) hx hb d_Mo_receiver_52 (by decide) ?_
  refine lv_iload_n (pc := 53) hx hb d_Mo_receiver_53 rfl (lv_at hl 1 rfl) ?_
  refine u_cVv (pc := 54) (As := [.int 1, .int 0, .int x1]) X V s_Mo_217 (X.fix rfl) rfl rfl rfl (c_Mo_take l D cc L A J t16 t32 _ _ 1 0 x1 _ h) ⟨rfl, rfl, Nat.le_of_ble_eq_true rfl, Nat.le_of_ble_eq_true rfl⟩ rfl hl.1 rfl (Nat.le_of_ble_eq_true rfl) d_Mo_receiver_54 ⟨Nat.zero_le _, Nat.zero_le _⟩ (fun I3 R4 h H locs V => ?_)
  refine lv_aload_n (pc := 57) hx hb d_Mo_receiver_57 rfl (lv_at hl 0 rfl) ?_
  refine u_geti (pc := 58) X V (X.fix rfl) rfl rfl f_Mo_111 rfl d_Mo_receiver_58 ?_
  exact u_reti (pc := 61) X V hr hlk hsz h d_Mo_receiver_61
def wp_Mo_receiver_L12 (Q : Int32 → UI → UR → Prop) : Nat → UI → UR → Int32 → Prop
  | 0, _, _, _ => False
  | n + 1, I, R, x1 => vp_in 1 2 ∧ ((I 82 (1 : Int32).toNatClampNeg ≤ x1 → wp_Mo_receiver_L50 Q I R x1) ∧ (¬ I 82 (1 : Int32).toNatClampNeg ≤ x1 → ((¬ I 80 27 = 0 → wp_Mo_receiver_L50 Q I R x1) ∧ (I 80 27 = 0 → vp_in (3000 + x1) 6000 ∧ wp_Mo_read I R 1 (I 81 (3000 + x1).toNatClampNeg) (fun I5 R6 => ∀ v7 : Int32, v7 = x1 + 1 → wp_Mo_receiver_L12 Q n I5 R6 v7)))))
set_option maxHeartbeats 4000000 in
set_option maxRecDepth 100000 in
theorem j_Mo_receiver_12 (X : uX p s m args c prog_10_method_40_code 2 "FrameFerryModel" D cc L A t16 t32) (hr : meth.sig.returnType = (some .int)) (hlk : meth.locks = false) (hsz : sz = s.heap.size) {Q : Int32 → UI → UR → Prop} : ∀ (n : Nat) (I : UI) (R : UR) (x1 : Int32) (H : Heap) (locs : List Loc) (ls : Array Slot), uV s D cc L A J I R H locs → lv_has ls 2 [(0, .ref (A 80)), (1, .int x1)] → wp_Mo_receiver_L12 Q n I R x1 → W p l e rm_Mo_receiver s m args below meth c H locs 0 0 (MQ below (va_Qi (fun (r : Int32) (u : UI × UR) => Q r u.1 u.2) (uBv D cc L A J) (uA L A sz)) args s 0 0 (uA L A sz)) (F0 m 12 ls []) := by
  intro n
  induction n with
  | zero => exact fun I R x1 H locs ls V hl h => False.elim h
  | succ n ih =>
    intro I R x1 H locs ls V hl h
    have hx := X.1
    have hb := X.2.1
    rw [wp_Mo_receiver_L12] at h
    refine lv_iload_n (pc := 12) hx hb d_Mo_receiver_12 rfl (lv_at hl 1 rfl) ?_
    refine lv_aload_n (pc := 13) hx hb d_Mo_receiver_13 rfl (lv_at hl 0 rfl) ?_
    refine u_getr (pc := 14) (o' := 82) X V (X.fix rfl) rfl rfl f_Mo_13 rfl rfl d_Mo_receiver_14 ?_
    refine lv_iconst (pc := 17) (v := 1) hx hb d_Mo_receiver_17 (by decide) ?_
    refine u_iald (pc := 18) X V (X.fix rfl) rfl rfl h.1 d_Mo_receiver_18 ?_
    have h := h.2
    refine lv_icmp_ge (pc := 19) (tgt := 50) hx hb d_Mo_receiver_19 (by decide) (fun hc => ?_) (fun hc => ?_)
    · have h := h.1 hc
      exact j_Mo_receiver_50 X hr hlk hsz V (lv_sub hl [0, 1] rfl) h
    · have h := h.2 hc
      refine lv_aload_n (pc := 22) hx hb d_Mo_receiver_22 rfl (lv_at hl 0 rfl) ?_
      refine u_geti (pc := 23) X V (X.fix rfl) rfl rfl f_Mo_72 rfl d_Mo_receiver_23 ?_
      refine lv_if_ne (pc := 26) (tgt := 50) hx hb d_Mo_receiver_26 (by decide) (fun hc => ?_) (fun hc => ?_)
      · have h := h.1 hc
        exact j_Mo_receiver_50 X hr hlk hsz V (lv_sub hl [0, 1] rfl) h
      · have h := h.2 hc
        refine lv_aload_n (pc := 29) hx hb d_Mo_receiver_29 rfl (lv_at hl 0 rfl) ?_
        refine lv_iconst (pc := 30) (v := 1) hx hb d_Mo_receiver_30 (by decide) ?_
        refine lv_aload_n (pc := 31) hx hb d_Mo_receiver_31 rfl (lv_at hl 0 rfl) ?_
        refine u_getr (pc := 32) (o' := 81) X V (X.fix rfl) rfl rfl f_Mo_7 rfl rfl d_Mo_receiver_32 ?_
        refine lv_sipush (pc := 35) (v := 3000) hx hb d_Mo_receiver_35 (by decide) ?_
        refine lv_iload_n (pc := 38) hx hb d_Mo_receiver_38 rfl (lv_at hl 1 rfl) ?_
        refine lv_iadd (pc := 39) hx hb d_Mo_receiver_39 ?_
        refine u_iald (pc := 40) X V (X.fix rfl) rfl rfl h.1 d_Mo_receiver_40 ?_
        have h := h.2
        refine u_cVv (pc := 41) (As := [.int 1, .int (I 81 (3000 + x1).toNatClampNeg)]) X V s_Mo_211 (X.fix rfl) rfl rfl rfl (c_Mo_read l D cc L A J t16 t32 _ _ 1 (I 81 (3000 + x1).toNatClampNeg) _ h) ⟨rfl, rfl, Nat.le_of_ble_eq_true rfl, Nat.le_of_ble_eq_true rfl⟩ rfl hl.1 rfl (Nat.le_of_ble_eq_true rfl) d_Mo_receiver_41 ⟨Nat.zero_le _, Nat.zero_le _⟩ (fun I5 R6 h H locs V => ?_)
        obtain ⟨v7, ev7⟩ : ∃ z : Int32, z = x1 + 1 := ⟨_, rfl⟩
        have h := h v7 ev7
        refine lv_iinc (pc := 44) (k := 1) (v := v7) (lv' := [(1, .int v7), (0, .ref (A 80))]) hx hb d_Mo_receiver_44 hl rfl (by rw [ev7]; rfl) (by decide) rfl (fun ls hl => ?_)
        refine lv_goto (pc := 47) (tgt := 12) hx hb d_Mo_receiver_47 (by decide) ?_
        exact ih I5 R6 v7 H locs ls V (lv_sub hl [1, 0] rfl) h
def wp_Mo_receiver (I : UI) (R : UR) (Q : Int32 → UI → UR → Prop) : Prop :=
  ∀ I1 : UI, I1 = u2 I 80 0 0 → ∀ I2 : UI, I2 = u2 I1 80 29 0 → (∃ n12 : Nat, wp_Mo_receiver_L12 Q n12 I2 R 0)
set_option maxHeartbeats 4000000 in
set_option maxRecDepth 100000 in
theorem c_Mo_receiver (l : Launch) (D : va_G) (cc : Nat → ClassId) (L : List Nat) (A : Nat → Nat) (J : Nat → Int64) (t16 t32 : Nat) (I : UI) (R : UR) (Q : Int32 → UI → UR → Prop) (h : wp_Mo_receiver I R Q) : uMi l y_Mo_receiver (.code y_Mo_receiver prog_10_method_40_code 2 (some .int)) rm_Mo_receiver [.ref (A 80)] D cc L A J t16 t32 I R Q := by
  intro sz
  refine u_entry (by decide) (Nat.le_of_ble_eq_true rfl) (fun p e s m args below meth c hsz X V hr hlk ls hl => ?_)
  have X : uX p s m args c prog_10_method_40_code 2 "FrameFerryModel" D cc L A t16 t32 := X
  have hx := X.1
  have hb := X.2.1
  have hl : lv_has ls 2 [(0, .ref (A 80))] := hl
  unfold wp_Mo_receiver at h
  generalize hH : s.heap = H at V ⊢
  generalize hlo : ([] : List Loc) = locs at V ⊢
  refine lv_aload_n (pc := 0) hx hb d_Mo_receiver_0 rfl (lv_at hl 0 rfl) ?_
  refine lv_iconst (pc := 1) (v := 0) hx hb d_Mo_receiver_1 (by decide) ?_
  refine u_puti (pc := 2) X V (X.fix rfl) rfl rfl f_Mo_82 rfl d_Mo_receiver_2 (fun I1 eI1 H locs V => ?_)
  have h := h I1 eI1
  refine lv_aload_n (pc := 5) hx hb d_Mo_receiver_5 rfl (lv_at hl 0 rfl) ?_
  refine lv_iconst (pc := 6) (v := 0) hx hb d_Mo_receiver_6 (by decide) ?_
  refine u_puti (pc := 7) X V (X.fix rfl) rfl rfl f_Mo_111 rfl d_Mo_receiver_7 (fun I2 eI2 H locs V => ?_)
  have h := h I2 eI2
  refine lv_iconst (pc := 10) (v := 0) hx hb d_Mo_receiver_10 (by decide) ?_
  refine lv_istore_n (pc := 11) (lv' := [(1, .int 0), (0, .ref (A 80))]) hx hb d_Mo_receiver_11 rfl hl (by decide) rfl (fun ls hl => ?_)
  obtain ⟨n12, h⟩ := h
  exact j_Mo_receiver_12 X hr hlk hsz n12 I2 R 0 H locs ls V (lv_sub hl [1, 0] rfl) h
-- FrameFerryModel.late (Z)I
theorem d_Mo_late_0 : decode prog_10_method_42_code 0 = .ok (.aload_n 0, 1) := by decide +kernel
theorem d_Mo_late_1 : decode prog_10_method_42_code 1 = .ok (.iconst 0, 1) := by decide +kernel
theorem d_Mo_late_2 : decode prog_10_method_42_code 2 = .ok (.putfield 82, 3) := by decide +kernel
theorem d_Mo_late_5 : decode prog_10_method_42_code 5 = .ok (.aload_n 0, 1) := by decide +kernel
theorem d_Mo_late_6 : decode prog_10_method_42_code 6 = .ok (.iconst 0, 1) := by decide +kernel
theorem d_Mo_late_7 : decode prog_10_method_42_code 7 = .ok (.putfield 111, 3) := by decide +kernel
theorem d_Mo_late_10 : decode prog_10_method_42_code 10 = .ok (.iload_n 1, 1) := by decide +kernel
theorem d_Mo_late_11 : decode prog_10_method_42_code 11 = .ok (.ifCond .eq 30, 3) := by decide +kernel
theorem d_Mo_late_14 : decode prog_10_method_42_code 14 = .ok (.aload_n 0, 1) := by decide +kernel
theorem d_Mo_late_15 : decode prog_10_method_42_code 15 = .ok (.getfield 57, 3) := by decide +kernel
theorem d_Mo_late_18 : decode prog_10_method_42_code 18 = .ok (.iconst 2, 1) := by decide +kernel
theorem d_Mo_late_19 : decode prog_10_method_42_code 19 = .ok (.if_icmp .ne 15, 3) := by decide +kernel
theorem d_Mo_late_22 : decode prog_10_method_42_code 22 = .ok (.aload_n 0, 1) := by decide +kernel
theorem d_Mo_late_23 : decode prog_10_method_42_code 23 = .ok (.iconst 1, 1) := by decide +kernel
theorem d_Mo_late_24 : decode prog_10_method_42_code 24 = .ok (.putfield 150, 3) := by decide +kernel
theorem d_Mo_late_27 : decode prog_10_method_42_code 27 = .ok (.aload_n 0, 1) := by decide +kernel
theorem d_Mo_late_28 : decode prog_10_method_42_code 28 = .ok (.invokevirtual 214, 3) := by decide +kernel
theorem d_Mo_late_31 : decode prog_10_method_42_code 31 = .ok (.goto 45, 3) := by decide +kernel
theorem d_Mo_late_34 : decode prog_10_method_42_code 34 = .ok (.aload_n 0, 1) := by decide +kernel
theorem d_Mo_late_35 : decode prog_10_method_42_code 35 = .ok (.invokevirtual 147, 3) := by decide +kernel
theorem d_Mo_late_38 : decode prog_10_method_42_code 38 = .ok (.goto 38, 3) := by decide +kernel
theorem d_Mo_late_41 : decode prog_10_method_42_code 41 = .ok (.aload_n 0, 1) := by decide +kernel
theorem d_Mo_late_42 : decode prog_10_method_42_code 42 = .ok (.getfield 72, 3) := by decide +kernel
theorem d_Mo_late_45 : decode prog_10_method_42_code 45 = .ok (.ifCond .ne 31, 3) := by decide +kernel
theorem d_Mo_late_48 : decode prog_10_method_42_code 48 = .ok (.aload_n 0, 1) := by decide +kernel
theorem d_Mo_late_49 : decode prog_10_method_42_code 49 = .ok (.iconst 1, 1) := by decide +kernel
theorem d_Mo_late_50 : decode prog_10_method_42_code 50 = .ok (.iconst 0, 1) := by decide +kernel
theorem d_Mo_late_51 : decode prog_10_method_42_code 51 = .ok (.invokevirtual 153, 3) := by decide +kernel
theorem d_Mo_late_54 : decode prog_10_method_42_code 54 = .ok (.aload_n 0, 1) := by decide +kernel
theorem d_Mo_late_55 : decode prog_10_method_42_code 55 = .ok (.iconst 0, 1) := by decide +kernel
theorem d_Mo_late_56 : decode prog_10_method_42_code 56 = .ok (.putfield 189, 3) := by decide +kernel
theorem d_Mo_late_59 : decode prog_10_method_42_code 59 = .ok (.aload_n 0, 1) := by decide +kernel
theorem d_Mo_late_60 : decode prog_10_method_42_code 60 = .ok (.aload_n 0, 1) := by decide +kernel
theorem d_Mo_late_61 : decode prog_10_method_42_code 61 = .ok (.getfield 69, 3) := by decide +kernel
theorem d_Mo_late_64 : decode prog_10_method_42_code 64 = .ok (.ifCond .lt 8, 3) := by decide +kernel
theorem d_Mo_late_67 : decode prog_10_method_42_code 67 = .ok (.bipush 9, 2) := by decide +kernel
theorem d_Mo_late_69 : decode prog_10_method_42_code 69 = .ok (.goto 4, 3) := by decide +kernel
theorem d_Mo_late_72 : decode prog_10_method_42_code 72 = .ok (.iconst 1, 1) := by decide +kernel
theorem d_Mo_late_73 : decode prog_10_method_42_code 73 = .ok (.invokevirtual 202, 3) := by decide +kernel
theorem d_Mo_late_76 : decode prog_10_method_42_code 76 = .ok (.aload_n 0, 1) := by decide +kernel
theorem d_Mo_late_77 : decode prog_10_method_42_code 77 = .ok (.getfield 111, 3) := by decide +kernel
theorem d_Mo_late_80 : decode prog_10_method_42_code 80 = .ok (.ireturn, 1) := by decide +kernel
def rm_Mo_late : Room := { frames := 5, cells := 0, slots := 0, locals := 113 }
def wp_Mo_late_L73 (Q : Int32 → UI → UR → Prop) (I : UI) (R : UR) (s0 : Int32) : Prop :=
  wp_Mo_answer I R s0 (fun I6 R7 => Q (I6 80 29) I6 R7)
set_option maxHeartbeats 4000000 in
set_option maxRecDepth 100000 in
theorem j_Mo_late_73 (X : uX p s m args c prog_10_method_42_code 2 "FrameFerryModel" D cc L A t16 t32) (hr : meth.sig.returnType = (some .int)) (hlk : meth.locks = false) (hsz : sz = s.heap.size) {Q : Int32 → UI → UR → Prop} {I : UI} {R : UR} {s0 : Int32} {H : Heap} {locs : List Loc} {ls : Array Slot} (V : uV s D cc L A J I R H locs) (hl : lv_has ls 2 [(0, .ref (A 80))]) (h : wp_Mo_late_L73 Q I R s0) : W p l e rm_Mo_late s m args below meth c H locs 0 0 (MQ below (va_Qi (fun (r : Int32) (u : UI × UR) => Q r u.1 u.2) (uBv D cc L A J) (uA L A sz)) args s 0 0 (uA L A sz)) (F0 m 73 ls [.int s0, .ref (A 80)]) := by
  have hx := X.1
  have hb := X.2.1
  unfold wp_Mo_late_L73 at h
  refine u_cVv (pc := 73) (As := [.int s0]) X V s_Mo_202 (X.fix rfl) rfl rfl rfl (c_Mo_answer l D cc L A J t16 t32 _ _ s0 _ h) ⟨rfl, rfl, Nat.le_of_ble_eq_true rfl, Nat.le_of_ble_eq_true rfl⟩ rfl hl.1 rfl (Nat.le_of_ble_eq_true rfl) d_Mo_late_73 ⟨Nat.zero_le _, Nat.zero_le _⟩ (fun I6 R7 h H locs V => ?_)
  refine lv_aload_n (pc := 76) hx hb d_Mo_late_76 rfl (lv_at hl 0 rfl) ?_
  refine u_geti (pc := 77) X V (X.fix rfl) rfl rfl f_Mo_111 rfl d_Mo_late_77 ?_
  exact u_reti (pc := 80) X V hr hlk hsz h d_Mo_late_80
def wp_Mo_late (I : UI) (R : UR) (x1 : Int32) (Q : Int32 → UI → UR → Prop) : Prop :=
  ∀ I1 : UI, I1 = u2 I 80 0 0 → ∀ I2 : UI, I2 = u2 I1 80 29 0 → ((x1 = 0 → ((¬ I2 80 27 = 0 → Q (I2 80 29) I2 R) ∧ (I2 80 27 = 0 → wp_Mo_begin I2 R 1 0 (fun I3 R4 => zb 0 ∧ ∀ I5 : UI, I5 = u2 I3 80 31 0 → ((I5 80 25 < 0 → wp_Mo_late_L73 Q I5 R4 1) ∧ (¬ I5 80 25 < 0 → wp_Mo_late_L73 Q I5 R4 9)))))) ∧ (¬ x1 = 0 → ((¬ I2 80 17 = 2 → wp_Mo_again I2 R (fun I8 R9 => Q (I8 80 29) I8 R9)) ∧ (I2 80 17 = 2 → zb 1 ∧ ∀ I10 : UI, I10 = u2 I2 80 20 1 → wp_Mo_sendOn I10 R (fun I11 R12 => Q (I11 80 29) I11 R12)))))
set_option maxHeartbeats 4000000 in
set_option maxRecDepth 100000 in
theorem c_Mo_late (l : Launch) (D : va_G) (cc : Nat → ClassId) (L : List Nat) (A : Nat → Nat) (J : Nat → Int64) (t16 t32 : Nat) (I : UI) (R : UR) (x1 : Int32) (Q : Int32 → UI → UR → Prop) (h : wp_Mo_late I R x1 Q) : uMi l y_Mo_late (.code y_Mo_late prog_10_method_42_code 2 (some .int)) rm_Mo_late [.ref (A 80), .int x1] D cc L A J t16 t32 I R Q := by
  intro sz
  refine u_entry (by decide) (Nat.le_of_ble_eq_true rfl) (fun p e s m args below meth c hsz X V hr hlk ls hl => ?_)
  have X : uX p s m args c prog_10_method_42_code 2 "FrameFerryModel" D cc L A t16 t32 := X
  have hx := X.1
  have hb := X.2.1
  have hl : lv_has ls 2 [(0, .ref (A 80)), (1, .int x1)] := hl
  unfold wp_Mo_late at h
  generalize hH : s.heap = H at V ⊢
  generalize hlo : ([] : List Loc) = locs at V ⊢
  refine lv_aload_n (pc := 0) hx hb d_Mo_late_0 rfl (lv_at hl 0 rfl) ?_
  refine lv_iconst (pc := 1) (v := 0) hx hb d_Mo_late_1 (by decide) ?_
  refine u_puti (pc := 2) X V (X.fix rfl) rfl rfl f_Mo_82 rfl d_Mo_late_2 (fun I1 eI1 H locs V => ?_)
  have h := h I1 eI1
  refine lv_aload_n (pc := 5) hx hb d_Mo_late_5 rfl (lv_at hl 0 rfl) ?_
  refine lv_iconst (pc := 6) (v := 0) hx hb d_Mo_late_6 (by decide) ?_
  refine u_puti (pc := 7) X V (X.fix rfl) rfl rfl f_Mo_111 rfl d_Mo_late_7 (fun I2 eI2 H locs V => ?_)
  have h := h I2 eI2
  refine lv_iload_n (pc := 10) hx hb d_Mo_late_10 rfl (lv_at hl 1 rfl) ?_
  refine lv_if_eq (pc := 11) (tgt := 41) hx hb d_Mo_late_11 (by decide) (fun hc => ?_) (fun hc => ?_)
  · have h := h.1 hc
    refine lv_aload_n (pc := 41) hx hb d_Mo_late_41 rfl (lv_at hl 0 rfl) ?_
    refine u_geti (pc := 42) X V (X.fix rfl) rfl rfl f_Mo_72 rfl d_Mo_late_42 ?_
    refine lv_if_ne (pc := 45) (tgt := 76) hx hb d_Mo_late_45 (by decide) (fun hc => ?_) (fun hc => ?_)
    · have h := h.1 hc
      refine lv_aload_n (pc := 76) hx hb d_Mo_late_76 rfl (lv_at hl 0 rfl) ?_
      refine u_geti (pc := 77) X V (X.fix rfl) rfl rfl f_Mo_111 rfl d_Mo_late_77 ?_
      exact u_reti (pc := 80) X V hr hlk hsz h d_Mo_late_80
    · have h := h.2 hc
      refine lv_aload_n (pc := 48) hx hb d_Mo_late_48 rfl (lv_at hl 0 rfl) ?_
      refine lv_iconst (pc := 49) (v := 1) hx hb d_Mo_late_49 (by decide) ?_
      refine lv_iconst (pc := 50) (v := 0) hx hb d_Mo_late_50 (by decide) ?_
      refine u_cVv (pc := 51) (As := [.int 1, .int 0]) X V s_Mo_153 (X.fix rfl) rfl rfl rfl (c_Mo_begin l D cc L A J t16 t32 _ _ 1 0 _ h) ⟨rfl, rfl, Nat.le_of_ble_eq_true rfl, Nat.le_of_ble_eq_true rfl⟩ rfl hl.1 rfl (Nat.le_of_ble_eq_true rfl) d_Mo_late_51 ⟨Nat.zero_le _, Nat.zero_le _⟩ (fun I3 R4 h H locs V => ?_)
      refine lv_aload_n (pc := 54) hx hb d_Mo_late_54 rfl (lv_at hl 0 rfl) ?_
      refine lv_iconst (pc := 55) (v := 0) hx hb d_Mo_late_55 (by decide) ?_
      refine u_putz (pc := 56) X V (X.fix rfl) rfl rfl f_Mo_189 rfl h.1 d_Mo_late_56 (fun I5 eI5 H locs V => ?_)
      have h := h.2 I5 eI5
      refine lv_aload_n (pc := 59) hx hb d_Mo_late_59 rfl (lv_at hl 0 rfl) ?_
      refine lv_aload_n (pc := 60) hx hb d_Mo_late_60 rfl (lv_at hl 0 rfl) ?_
      refine u_geti (pc := 61) X V (X.fix rfl) rfl rfl f_Mo_69 rfl d_Mo_late_61 ?_
      refine lv_if_lt (pc := 64) (tgt := 72) hx hb d_Mo_late_64 (by decide) (fun hc => ?_) (fun hc => ?_)
      · have h := h.1 hc
        refine lv_iconst (pc := 72) (v := 1) hx hb d_Mo_late_72 (by decide) ?_
        exact j_Mo_late_73 X hr hlk hsz V (lv_sub hl [0] rfl) h
      · have h := h.2 hc
        refine lv_bipush (pc := 67) (v := 9) hx hb d_Mo_late_67 (by decide) ?_
        refine lv_goto (pc := 69) (tgt := 73) hx hb d_Mo_late_69 (by decide) ?_
        exact j_Mo_late_73 X hr hlk hsz V (lv_sub hl [0] rfl) h
  · have h := h.2 hc
    refine lv_aload_n (pc := 14) hx hb d_Mo_late_14 rfl (lv_at hl 0 rfl) ?_
    refine u_geti (pc := 15) X V (X.fix rfl) rfl rfl f_Mo_57 rfl d_Mo_late_15 ?_
    refine lv_iconst (pc := 18) (v := 2) hx hb d_Mo_late_18 (by decide) ?_
    refine lv_icmp_ne (pc := 19) (tgt := 34) hx hb d_Mo_late_19 (by decide) (fun hc => ?_) (fun hc => ?_)
    · have h := h.1 hc
      refine lv_aload_n (pc := 34) hx hb d_Mo_late_34 rfl (lv_at hl 0 rfl) ?_
      refine u_cVv (pc := 35) (As := []) X V s_Mo_147 (X.fix rfl) rfl rfl rfl (c_Mo_again l D cc L A J t16 t32 _ _  _ h) ⟨rfl, rfl, Nat.le_of_ble_eq_true rfl, Nat.le_of_ble_eq_true rfl⟩ rfl hl.1 rfl (Nat.le_of_ble_eq_true rfl) d_Mo_late_35 ⟨Nat.zero_le _, Nat.zero_le _⟩ (fun I8 R9 h H locs V => ?_)
      refine lv_goto (pc := 38) (tgt := 76) hx hb d_Mo_late_38 (by decide) ?_
      refine lv_aload_n (pc := 76) hx hb d_Mo_late_76 rfl (lv_at hl 0 rfl) ?_
      refine u_geti (pc := 77) X V (X.fix rfl) rfl rfl f_Mo_111 rfl d_Mo_late_77 ?_
      exact u_reti (pc := 80) X V hr hlk hsz h d_Mo_late_80
    · have h := h.2 hc
      refine lv_aload_n (pc := 22) hx hb d_Mo_late_22 rfl (lv_at hl 0 rfl) ?_
      refine lv_iconst (pc := 23) (v := 1) hx hb d_Mo_late_23 (by decide) ?_
      refine u_putz (pc := 24) X V (X.fix rfl) rfl rfl f_Mo_150 rfl h.1 d_Mo_late_24 (fun I10 eI10 H locs V => ?_)
      have h := h.2 I10 eI10
      refine lv_aload_n (pc := 27) hx hb d_Mo_late_27 rfl (lv_at hl 0 rfl) ?_
      refine u_cVv (pc := 28) (As := []) X V s_Mo_214 (X.fix rfl) rfl rfl rfl (c_Mo_sendOn l D cc L A J t16 t32 _ _  _ h) ⟨rfl, rfl, Nat.le_of_ble_eq_true rfl, Nat.le_of_ble_eq_true rfl⟩ rfl hl.1 rfl (Nat.le_of_ble_eq_true rfl) d_Mo_late_28 ⟨Nat.zero_le _, Nat.zero_le _⟩ (fun I11 R12 h H locs V => ?_)
      refine lv_goto (pc := 31) (tgt := 76) hx hb d_Mo_late_31 (by decide) ?_
      refine lv_aload_n (pc := 76) hx hb d_Mo_late_76 rfl (lv_at hl 0 rfl) ?_
      refine u_geti (pc := 77) X V (X.fix rfl) rfl rfl f_Mo_111 rfl d_Mo_late_77 ?_
      exact u_reti (pc := 80) X V hr hlk hsz h d_Mo_late_80
-- FrameFerryModel.crash ()V
theorem d_Mo_crash_0 : decode prog_10_method_43_code 0 = .ok (.aload_n 0, 1) := by decide +kernel
theorem d_Mo_crash_1 : decode prog_10_method_43_code 1 = .ok (.iconst 0, 1) := by decide +kernel
theorem d_Mo_crash_2 : decode prog_10_method_43_code 2 = .ok (.putfield 82, 3) := by decide +kernel
theorem d_Mo_crash_5 : decode prog_10_method_43_code 5 = .ok (.aload_n 0, 1) := by decide +kernel
theorem d_Mo_crash_6 : decode prog_10_method_43_code 6 = .ok (.iconst (-1), 1) := by decide +kernel
theorem d_Mo_crash_7 : decode prog_10_method_43_code 7 = .ok (.putfield 69, 3) := by decide +kernel
theorem d_Mo_crash_10 : decode prog_10_method_43_code 10 = .ok (.aload_n 0, 1) := by decide +kernel
theorem d_Mo_crash_11 : decode prog_10_method_43_code 11 = .ok (.iconst 1, 1) := by decide +kernel
theorem d_Mo_crash_12 : decode prog_10_method_43_code 12 = .ok (.iconst 0, 1) := by decide +kernel
theorem d_Mo_crash_13 : decode prog_10_method_43_code 13 = .ok (.invokevirtual 153, 3) := by decide +kernel
theorem d_Mo_crash_16 : decode prog_10_method_43_code 16 = .ok (.aload_n 0, 1) := by decide +kernel
theorem d_Mo_crash_17 : decode prog_10_method_43_code 17 = .ok (.iconst 0, 1) := by decide +kernel
theorem d_Mo_crash_18 : decode prog_10_method_43_code 18 = .ok (.putfield 189, 3) := by decide +kernel
theorem d_Mo_crash_21 : decode prog_10_method_43_code 21 = .ok (.aload_n 0, 1) := by decide +kernel
theorem d_Mo_crash_22 : decode prog_10_method_43_code 22 = .ok (.iconst 0, 1) := by decide +kernel
theorem d_Mo_crash_23 : decode prog_10_method_43_code 23 = .ok (.putfield 72, 3) := by decide +kernel
theorem d_Mo_crash_26 : decode prog_10_method_43_code 26 = .ok (.return_, 1) := by decide +kernel
def rm_Mo_crash : Room := { frames := 1, cells := 0, slots := 0, locals := 22 }
def wp_Mo_crash (I : UI) (R : UR) (Q : UI → UR → Prop) : Prop :=
  ∀ I1 : UI, I1 = u2 I 80 0 0 → ∀ I2 : UI, I2 = u2 I1 80 25 (-1) → wp_Mo_begin I2 R 1 0 (fun I3 R4 => zb 0 ∧ ∀ I5 : UI, I5 = u2 I3 80 31 0 → zb 0 ∧ ∀ I6 : UI, I6 = u2 I5 80 27 0 → Q I6 R4)
set_option maxHeartbeats 4000000 in
set_option maxRecDepth 100000 in
theorem c_Mo_crash (l : Launch) (D : va_G) (cc : Nat → ClassId) (L : List Nat) (A : Nat → Nat) (J : Nat → Int64) (t16 t32 : Nat) (I : UI) (R : UR) (Q : UI → UR → Prop) (h : wp_Mo_crash I R Q) : uMv l y_Mo_crash (.code y_Mo_crash prog_10_method_43_code 1 none) rm_Mo_crash [.ref (A 80)] D cc L A J t16 t32 I R Q := by
  intro sz
  refine u_entry (by decide) (Nat.le_of_ble_eq_true rfl) (fun p e s m args below meth c hsz X V hr hlk ls hl => ?_)
  have X : uX p s m args c prog_10_method_43_code 1 "FrameFerryModel" D cc L A t16 t32 := X
  have hx := X.1
  have hb := X.2.1
  have hl : lv_has ls 1 [(0, .ref (A 80))] := hl
  unfold wp_Mo_crash at h
  generalize hH : s.heap = H at V ⊢
  generalize hlo : ([] : List Loc) = locs at V ⊢
  refine lv_aload_n (pc := 0) hx hb d_Mo_crash_0 rfl (lv_at hl 0 rfl) ?_
  refine lv_iconst (pc := 1) (v := 0) hx hb d_Mo_crash_1 (by decide) ?_
  refine u_puti (pc := 2) X V (X.fix rfl) rfl rfl f_Mo_82 rfl d_Mo_crash_2 (fun I1 eI1 H locs V => ?_)
  have h := h I1 eI1
  refine lv_aload_n (pc := 5) hx hb d_Mo_crash_5 rfl (lv_at hl 0 rfl) ?_
  refine lv_iconst (pc := 6) (v := (-1)) hx hb d_Mo_crash_6 (by decide) ?_
  refine u_puti (pc := 7) X V (X.fix rfl) rfl rfl f_Mo_69 rfl d_Mo_crash_7 (fun I2 eI2 H locs V => ?_)
  have h := h I2 eI2
  refine lv_aload_n (pc := 10) hx hb d_Mo_crash_10 rfl (lv_at hl 0 rfl) ?_
  refine lv_iconst (pc := 11) (v := 1) hx hb d_Mo_crash_11 (by decide) ?_
  refine lv_iconst (pc := 12) (v := 0) hx hb d_Mo_crash_12 (by decide) ?_
  refine u_cVv (pc := 13) (As := [.int 1, .int 0]) X V s_Mo_153 (X.fix rfl) rfl rfl rfl (c_Mo_begin l D cc L A J t16 t32 _ _ 1 0 _ h) ⟨rfl, rfl, Nat.le_of_ble_eq_true rfl, Nat.le_of_ble_eq_true rfl⟩ rfl hl.1 rfl (Nat.le_of_ble_eq_true rfl) d_Mo_crash_13 ⟨Nat.zero_le _, Nat.zero_le _⟩ (fun I3 R4 h H locs V => ?_)
  refine lv_aload_n (pc := 16) hx hb d_Mo_crash_16 rfl (lv_at hl 0 rfl) ?_
  refine lv_iconst (pc := 17) (v := 0) hx hb d_Mo_crash_17 (by decide) ?_
  refine u_putz (pc := 18) X V (X.fix rfl) rfl rfl f_Mo_189 rfl h.1 d_Mo_crash_18 (fun I5 eI5 H locs V => ?_)
  have h := h.2 I5 eI5
  refine lv_aload_n (pc := 21) hx hb d_Mo_crash_21 rfl (lv_at hl 0 rfl) ?_
  refine lv_iconst (pc := 22) (v := 0) hx hb d_Mo_crash_22 (by decide) ?_
  refine u_putz (pc := 23) X V (X.fix rfl) rfl rfl f_Mo_72 rfl h.1 d_Mo_crash_23 (fun I6 eI6 H locs V => ?_)
  have h := h.2 I6 eI6
  exact u_retv (pc := 26) X V hr hlk hsz h d_Mo_crash_26
-- FrameFerryModel.flip (ZII)Z
theorem d_Mo_flip_0 : decode prog_10_method_44_code 0 = .ok (.aload_n 0, 1) := by decide +kernel
theorem d_Mo_flip_1 : decode prog_10_method_44_code 1 = .ok (.iload_n 3, 1) := by decide +kernel
theorem d_Mo_flip_2 : decode prog_10_method_44_code 2 = .ok (.iconst 0, 1) := by decide +kernel
theorem d_Mo_flip_3 : decode prog_10_method_44_code 3 = .ok (.bipush 7, 2) := by decide +kernel
theorem d_Mo_flip_5 : decode prog_10_method_44_code 5 = .ok (.invokestatic 85, 3) := by decide +kernel
theorem d_Mo_flip_8 : decode prog_10_method_44_code 8 = .ok (.ifCond .eq 7, 3) := by decide +kernel
theorem d_Mo_flip_11 : decode prog_10_method_44_code 11 = .ok (.iconst 0, 1) := by decide +kernel
theorem d_Mo_flip_12 : decode prog_10_method_44_code 12 = .ok (.goto 4, 3) := by decide +kernel
theorem d_Mo_flip_15 : decode prog_10_method_44_code 15 = .ok (.iconst 1, 1) := by decide +kernel
theorem d_Mo_flip_16 : decode prog_10_method_44_code 16 = .ok (.invokevirtual 92, 3) := by decide +kernel
theorem d_Mo_flip_19 : decode prog_10_method_44_code 19 = .ok (.ifCond .eq 5, 3) := by decide +kernel
theorem d_Mo_flip_22 : decode prog_10_method_44_code 22 = .ok (.iconst 0, 1) := by decide +kernel
theorem d_Mo_flip_23 : decode prog_10_method_44_code 23 = .ok (.ireturn, 1) := by decide +kernel
theorem d_Mo_flip_24 : decode prog_10_method_44_code 24 = .ok (.iload_n 1, 1) := by decide +kernel
theorem d_Mo_flip_25 : decode prog_10_method_44_code 25 = .ok (.ifCond .eq 7, 3) := by decide +kernel
theorem d_Mo_flip_28 : decode prog_10_method_44_code 28 = .ok (.iconst 1, 1) := by decide +kernel
theorem d_Mo_flip_29 : decode prog_10_method_44_code 29 = .ok (.goto 4, 3) := by decide +kernel
theorem d_Mo_flip_32 : decode prog_10_method_44_code 32 = .ok (.iconst 0, 1) := by decide +kernel
theorem d_Mo_flip_33 : decode prog_10_method_44_code 33 = .ok (.istore 4, 2) := by decide +kernel
theorem d_Mo_flip_35 : decode prog_10_method_44_code 35 = .ok (.iload_n 2, 1) := by decide +kernel
theorem d_Mo_flip_36 : decode prog_10_method_44_code 36 = .ok (.iconst 0, 1) := by decide +kernel
theorem d_Mo_flip_37 : decode prog_10_method_44_code 37 = .ok (.aload_n 0, 1) := by decide +kernel
theorem d_Mo_flip_38 : decode prog_10_method_44_code 38 = .ok (.getfield 13, 3) := by decide +kernel
theorem d_Mo_flip_41 : decode prog_10_method_44_code 41 = .ok (.iload 4, 2) := by decide +kernel
theorem d_Mo_flip_43 : decode prog_10_method_44_code 43 = .ok (.iaload, 1) := by decide +kernel
theorem d_Mo_flip_44 : decode prog_10_method_44_code 44 = .ok (.iconst 1, 1) := by decide +kernel
theorem d_Mo_flip_45 : decode prog_10_method_44_code 45 = .ok (.isub, 1) := by decide +kernel
theorem d_Mo_flip_46 : decode prog_10_method_44_code 46 = .ok (.invokestatic 85, 3) := by decide +kernel
theorem d_Mo_flip_49 : decode prog_10_method_44_code 49 = .ok (.ifCond .ne 5, 3) := by decide +kernel
theorem d_Mo_flip_52 : decode prog_10_method_44_code 52 = .ok (.iconst 0, 1) := by decide +kernel
theorem d_Mo_flip_53 : decode prog_10_method_44_code 53 = .ok (.ireturn, 1) := by decide +kernel
theorem d_Mo_flip_54 : decode prog_10_method_44_code 54 = .ok (.aload_n 0, 1) := by decide +kernel
theorem d_Mo_flip_55 : decode prog_10_method_44_code 55 = .ok (.getfield 7, 3) := by decide +kernel
theorem d_Mo_flip_58 : decode prog_10_method_44_code 58 = .ok (.sipush 3000, 3) := by decide +kernel
theorem d_Mo_flip_61 : decode prog_10_method_44_code 61 = .ok (.iload 4, 2) := by decide +kernel
theorem d_Mo_flip_63 : decode prog_10_method_44_code 63 = .ok (.imul, 1) := by decide +kernel
theorem d_Mo_flip_64 : decode prog_10_method_44_code 64 = .ok (.iload_n 2, 1) := by decide +kernel
theorem d_Mo_flip_65 : decode prog_10_method_44_code 65 = .ok (.iadd, 1) := by decide +kernel
theorem d_Mo_flip_66 : decode prog_10_method_44_code 66 = .ok (.aload_n 0, 1) := by decide +kernel
theorem d_Mo_flip_67 : decode prog_10_method_44_code 67 = .ok (.getfield 7, 3) := by decide +kernel
theorem d_Mo_flip_70 : decode prog_10_method_44_code 70 = .ok (.sipush 3000, 3) := by decide +kernel
theorem d_Mo_flip_73 : decode prog_10_method_44_code 73 = .ok (.iload 4, 2) := by decide +kernel
theorem d_Mo_flip_75 : decode prog_10_method_44_code 75 = .ok (.imul, 1) := by decide +kernel
theorem d_Mo_flip_76 : decode prog_10_method_44_code 76 = .ok (.iload_n 2, 1) := by decide +kernel
theorem d_Mo_flip_77 : decode prog_10_method_44_code 77 = .ok (.iadd, 1) := by decide +kernel
theorem d_Mo_flip_78 : decode prog_10_method_44_code 78 = .ok (.iaload, 1) := by decide +kernel
theorem d_Mo_flip_79 : decode prog_10_method_44_code 79 = .ok (.iconst 1, 1) := by decide +kernel
theorem d_Mo_flip_80 : decode prog_10_method_44_code 80 = .ok (.iload_n 3, 1) := by decide +kernel
theorem d_Mo_flip_81 : decode prog_10_method_44_code 81 = .ok (.ishl, 1) := by decide +kernel
theorem d_Mo_flip_82 : decode prog_10_method_44_code 82 = .ok (.ixor, 1) := by decide +kernel
theorem d_Mo_flip_83 : decode prog_10_method_44_code 83 = .ok (.iastore, 1) := by decide +kernel
theorem d_Mo_flip_84 : decode prog_10_method_44_code 84 = .ok (.iconst 1, 1) := by decide +kernel
theorem d_Mo_flip_85 : decode prog_10_method_44_code 85 = .ok (.ireturn, 1) := by decide +kernel
def rm_Mo_flip : Room := { frames := 1, cells := 0, slots := 0, locals := 22 }
def wp_Mo_flip_L33 (Q : Int32 → UI → UR → Prop) (I : UI) (R : UR) (x2 : Int32) (x3 : Int32) (s0 : Int32) : Prop :=
  vp_in s0 2 ∧ wp_Mo_isIn I R x2 0 ((I 82 s0.toNatClampNeg) - 1) (fun r9 I7 R8 => ((¬ r9 = 0 → vp_in ((3000 * s0) + x2) 6000 ∧ vp_in ((3000 * s0) + x2) 6000 ∧ ∀ I10 : UI, I10 = u2 I7 81 (((3000 * s0) + x2).toNatClampNeg) ((I7 81 ((3000 * s0) + x2).toNatClampNeg) ^^^ (1 <<< (x3 &&& 31))) → (zb 1 ∧ Q 1 I10 R8)) ∧ (r9 = 0 → (zb 0 ∧ Q 0 I7 R8))))
set_option maxHeartbeats 4000000 in
set_option maxRecDepth 100000 in
theorem j_Mo_flip_33 (X : uX p s m args c prog_10_method_44_code 5 "FrameFerryModel" D cc L A t16 t32) (hr : meth.sig.returnType = (some .boolean)) (hlk : meth.locks = false) (hsz : sz = s.heap.size) {Q : Int32 → UI → UR → Prop} {I : UI} {R : UR} {x2 : Int32} {x3 : Int32} {s0 : Int32} {H : Heap} {locs : List Loc} {ls : Array Slot} (V : uV s D cc L A J I R H locs) (hl : lv_has ls 5 [(0, .ref (A 80)), (2, .int x2), (3, .int x3)]) (h : wp_Mo_flip_L33 Q I R x2 x3 s0) : W p l e rm_Mo_flip s m args below meth c H locs 0 0 (MQ below (va_Qi (fun (r : Int32) (u : UI × UR) => Q r u.1 u.2) (uBv D cc L A J) (uA L A sz)) args s 0 0 (uA L A sz)) (F0 m 33 ls [.int s0]) := by
  have hx := X.1
  have hb := X.2.1
  unfold wp_Mo_flip_L33 at h
  refine lv_istore (pc := 33) (lv' := [(4, .int s0), (0, .ref (A 80)), (2, .int x2), (3, .int x3)]) hx hb d_Mo_flip_33 hl (by decide) rfl (fun ls hl => ?_)
  refine lv_iload_n (pc := 35) hx hb d_Mo_flip_35 rfl (lv_at hl 2 rfl) ?_
  refine lv_iconst (pc := 36) (v := 0) hx hb d_Mo_flip_36 (by decide) ?_
  refine lv_aload_n (pc := 37) hx hb d_Mo_flip_37 rfl (lv_at hl 1 rfl) ?_
  refine u_getr (pc := 38) (o' := 82) X V (X.fix rfl) rfl rfl f_Mo_13 rfl rfl d_Mo_flip_38 ?_
  refine lv_iload (pc := 41) hx hb d_Mo_flip_41 (lv_at hl 0 rfl) ?_
  refine u_iald (pc := 43) X V (X.fix rfl) rfl rfl h.1 d_Mo_flip_43 ?_
  have h := h.2
  refine lv_iconst (pc := 44) (v := 1) hx hb d_Mo_flip_44 (by decide) ?_
  refine lv_isub (pc := 45) hx hb d_Mo_flip_45 ?_
  refine u_cSi (pc := 46) (As := [.int x2, .int 0, .int ((I 82 s0.toNatClampNeg) - 1)]) X V s_Mo_85 (c_Mo_isIn l D cc L A J t16 t32 _ _ x2 0 ((I 82 s0.toNatClampNeg) - 1) _ h) ⟨rfl, rfl, Nat.le_of_ble_eq_true rfl, Nat.le_of_ble_eq_true rfl⟩ rfl hl.1 rfl (Nat.le_of_ble_eq_true rfl) d_Mo_flip_46 ⟨Nat.zero_le _, Nat.zero_le _⟩ (fun r9 I7 R8 h H locs V => ?_)
  refine lv_if_ne (pc := 49) (tgt := 54) hx hb d_Mo_flip_49 (by decide) (fun hc => ?_) (fun hc => ?_)
  · have h := h.1 hc
    refine lv_aload_n (pc := 54) hx hb d_Mo_flip_54 rfl (lv_at hl 1 rfl) ?_
    refine u_getr (pc := 55) (o' := 81) X V (X.fix rfl) rfl rfl f_Mo_7 rfl rfl d_Mo_flip_55 ?_
    refine lv_sipush (pc := 58) (v := 3000) hx hb d_Mo_flip_58 (by decide) ?_
    refine lv_iload (pc := 61) hx hb d_Mo_flip_61 (lv_at hl 0 rfl) ?_
    refine lv_imul (pc := 63) hx hb d_Mo_flip_63 ?_
    refine lv_iload_n (pc := 64) hx hb d_Mo_flip_64 rfl (lv_at hl 2 rfl) ?_
    refine lv_iadd (pc := 65) hx hb d_Mo_flip_65 ?_
    refine lv_aload_n (pc := 66) hx hb d_Mo_flip_66 rfl (lv_at hl 1 rfl) ?_
    refine u_getr (pc := 67) (o' := 81) X V (X.fix rfl) rfl rfl f_Mo_7 rfl rfl d_Mo_flip_67 ?_
    refine lv_sipush (pc := 70) (v := 3000) hx hb d_Mo_flip_70 (by decide) ?_
    refine lv_iload (pc := 73) hx hb d_Mo_flip_73 (lv_at hl 0 rfl) ?_
    refine lv_imul (pc := 75) hx hb d_Mo_flip_75 ?_
    refine lv_iload_n (pc := 76) hx hb d_Mo_flip_76 rfl (lv_at hl 2 rfl) ?_
    refine lv_iadd (pc := 77) hx hb d_Mo_flip_77 ?_
    refine u_iald (pc := 78) X V (X.fix rfl) rfl rfl h.1 d_Mo_flip_78 ?_
    have h := h.2
    refine lv_iconst (pc := 79) (v := 1) hx hb d_Mo_flip_79 (by decide) ?_
    refine lv_iload_n (pc := 80) hx hb d_Mo_flip_80 rfl (lv_at hl 3 rfl) ?_
    refine lv_ishl (pc := 81) hx hb d_Mo_flip_81 ?_
    refine lv_ixor (pc := 82) hx hb d_Mo_flip_82 ?_
    refine u_iast (pc := 83) X V (X.fix rfl) rfl rfl h.1 d_Mo_flip_83 (fun I10 eI10 H locs V => ?_)
    have h := h.2 I10 eI10
    refine lv_iconst (pc := 84) (v := 1) hx hb d_Mo_flip_84 (by decide) ?_
    exact u_retz (pc := 85) X V hr hlk hsz h.1 h.2 d_Mo_flip_85
  · have h := h.2 hc
    refine lv_iconst (pc := 52) (v := 0) hx hb d_Mo_flip_52 (by decide) ?_
    exact u_retz (pc := 53) X V hr hlk hsz h.1 h.2 d_Mo_flip_53
def wp_Mo_flip_L16 (Q : Int32 → UI → UR → Prop) (I : UI) (R : UR) (x1 : Int32) (x2 : Int32) (x3 : Int32) (s0 : Int32) : Prop :=
  wp_Mo_refused I R s0 (fun r6 I4 R5 => ((r6 = 0 → ((x1 = 0 → wp_Mo_flip_L33 Q I4 R5 x2 x3 0) ∧ (¬ x1 = 0 → wp_Mo_flip_L33 Q I4 R5 x2 x3 1))) ∧ (¬ r6 = 0 → (zb 0 ∧ Q 0 I4 R5))))
set_option maxHeartbeats 4000000 in
set_option maxRecDepth 100000 in
theorem j_Mo_flip_16 (X : uX p s m args c prog_10_method_44_code 5 "FrameFerryModel" D cc L A t16 t32) (hr : meth.sig.returnType = (some .boolean)) (hlk : meth.locks = false) (hsz : sz = s.heap.size) {Q : Int32 → UI → UR → Prop} {I : UI} {R : UR} {x1 : Int32} {x2 : Int32} {x3 : Int32} {s0 : Int32} {H : Heap} {locs : List Loc} {ls : Array Slot} (V : uV s D cc L A J I R H locs) (hl : lv_has ls 5 [(0, .ref (A 80)), (1, .int x1), (2, .int x2), (3, .int x3)]) (h : wp_Mo_flip_L16 Q I R x1 x2 x3 s0) : W p l e rm_Mo_flip s m args below meth c H locs 0 0 (MQ below (va_Qi (fun (r : Int32) (u : UI × UR) => Q r u.1 u.2) (uBv D cc L A J) (uA L A sz)) args s 0 0 (uA L A sz)) (F0 m 16 ls [.int s0, .ref (A 80)]) := by
  have hx := X.1
  have hb := X.2.1
  unfold wp_Mo_flip_L16 at h
  refine u_cVi (pc := 16) (As := [.int s0]) X V s_Mo_92 (X.fix rfl) rfl rfl rfl (c_Mo_refused l D cc L A J t16 t32 _ _ s0 _ h) ⟨rfl, rfl, Nat.le_of_ble_eq_true rfl, Nat.le_of_ble_eq_true rfl⟩ rfl hl.1 rfl (Nat.le_of_ble_eq_true rfl) d_Mo_flip_16 ⟨Nat.zero_le _, Nat.zero_le _⟩ (fun r6 I4 R5 h H locs V => ?_)
  refine lv_if_eq (pc := 19) (tgt := 24) hx hb d_Mo_flip_19 (by decide) (fun hc => ?_) (fun hc => ?_)
  · have h := h.1 hc
    refine lv_iload_n (pc := 24) hx hb d_Mo_flip_24 rfl (lv_at hl 1 rfl) ?_
    refine lv_if_eq (pc := 25) (tgt := 32) hx hb d_Mo_flip_25 (by decide) (fun hc => ?_) (fun hc => ?_)
    · have h := h.1 hc
      refine lv_iconst (pc := 32) (v := 0) hx hb d_Mo_flip_32 (by decide) ?_
      exact j_Mo_flip_33 X hr hlk hsz V (lv_sub hl [0, 2, 3] rfl) h
    · have h := h.2 hc
      refine lv_iconst (pc := 28) (v := 1) hx hb d_Mo_flip_28 (by decide) ?_
      refine lv_goto (pc := 29) (tgt := 33) hx hb d_Mo_flip_29 (by decide) ?_
      exact j_Mo_flip_33 X hr hlk hsz V (lv_sub hl [0, 2, 3] rfl) h
  · have h := h.2 hc
    refine lv_iconst (pc := 22) (v := 0) hx hb d_Mo_flip_22 (by decide) ?_
    exact u_retz (pc := 23) X V hr hlk hsz h.1 h.2 d_Mo_flip_23
def wp_Mo_flip (I : UI) (R : UR) (x1 : Int32) (x2 : Int32) (x3 : Int32) (Q : Int32 → UI → UR → Prop) : Prop :=
  wp_Mo_isIn I R x3 0 7 (fun r3 I1 R2 => ((r3 = 0 → wp_Mo_flip_L16 Q I1 R2 x1 x2 x3 1) ∧ (¬ r3 = 0 → wp_Mo_flip_L16 Q I1 R2 x1 x2 x3 0)))
set_option maxHeartbeats 4000000 in
set_option maxRecDepth 100000 in
theorem c_Mo_flip (l : Launch) (D : va_G) (cc : Nat → ClassId) (L : List Nat) (A : Nat → Nat) (J : Nat → Int64) (t16 t32 : Nat) (I : UI) (R : UR) (x1 : Int32) (x2 : Int32) (x3 : Int32) (Q : Int32 → UI → UR → Prop) (h : wp_Mo_flip I R x1 x2 x3 Q) : uMi l y_Mo_flip (.code y_Mo_flip prog_10_method_44_code 5 (some .boolean)) rm_Mo_flip [.ref (A 80), .int x1, .int x2, .int x3] D cc L A J t16 t32 I R Q := by
  intro sz
  refine u_entry (by decide) (Nat.le_of_ble_eq_true rfl) (fun p e s m args below meth c hsz X V hr hlk ls hl => ?_)
  have X : uX p s m args c prog_10_method_44_code 5 "FrameFerryModel" D cc L A t16 t32 := X
  have hx := X.1
  have hb := X.2.1
  have hl : lv_has ls 5 [(0, .ref (A 80)), (1, .int x1), (2, .int x2), (3, .int x3)] := hl
  unfold wp_Mo_flip at h
  generalize hH : s.heap = H at V ⊢
  generalize hlo : ([] : List Loc) = locs at V ⊢
  refine lv_aload_n (pc := 0) hx hb d_Mo_flip_0 rfl (lv_at hl 0 rfl) ?_
  refine lv_iload_n (pc := 1) hx hb d_Mo_flip_1 rfl (lv_at hl 3 rfl) ?_
  refine lv_iconst (pc := 2) (v := 0) hx hb d_Mo_flip_2 (by decide) ?_
  refine lv_bipush (pc := 3) (v := 7) hx hb d_Mo_flip_3 (by decide) ?_
  refine u_cSi (pc := 5) (As := [.int x3, .int 0, .int 7]) X V s_Mo_85 (c_Mo_isIn l D cc L A J t16 t32 _ _ x3 0 7 _ h) ⟨rfl, rfl, Nat.le_of_ble_eq_true rfl, Nat.le_of_ble_eq_true rfl⟩ rfl hl.1 rfl (Nat.le_of_ble_eq_true rfl) d_Mo_flip_5 ⟨Nat.zero_le _, Nat.zero_le _⟩ (fun r3 I1 R2 h H locs V => ?_)
  refine lv_if_eq (pc := 8) (tgt := 15) hx hb d_Mo_flip_8 (by decide) (fun hc => ?_) (fun hc => ?_)
  · have h := h.1 hc
    refine lv_iconst (pc := 15) (v := 1) hx hb d_Mo_flip_15 (by decide) ?_
    exact j_Mo_flip_16 X hr hlk hsz V (lv_sub hl [0, 1, 2, 3] rfl) h
  · have h := h.2 hc
    refine lv_iconst (pc := 11) (v := 0) hx hb d_Mo_flip_11 (by decide) ?_
    refine lv_goto (pc := 12) (tgt := 16) hx hb d_Mo_flip_12 (by decide) ?_
    exact j_Mo_flip_16 X hr hlk hsz V (lv_sub hl [0, 1, 2, 3] rfl) h
-- FrameFerryModel.lose (ZII)I
theorem d_Mo_lose_0 : decode prog_10_method_45_code 0 = .ok (.aload_n 0, 1) := by decide +kernel
theorem d_Mo_lose_1 : decode prog_10_method_45_code 1 = .ok (.iload_n 2, 1) := by decide +kernel
theorem d_Mo_lose_2 : decode prog_10_method_45_code 2 = .ok (.ifCond .lt 11, 3) := by decide +kernel
theorem d_Mo_lose_5 : decode prog_10_method_45_code 5 = .ok (.iload_n 3, 1) := by decide +kernel
theorem d_Mo_lose_6 : decode prog_10_method_45_code 6 = .ok (.ifCond .lt 7, 3) := by decide +kernel
theorem d_Mo_lose_9 : decode prog_10_method_45_code 9 = .ok (.iconst 0, 1) := by decide +kernel
theorem d_Mo_lose_10 : decode prog_10_method_45_code 10 = .ok (.goto 4, 3) := by decide +kernel
theorem d_Mo_lose_13 : decode prog_10_method_45_code 13 = .ok (.iconst 1, 1) := by decide +kernel
theorem d_Mo_lose_14 : decode prog_10_method_45_code 14 = .ok (.invokevirtual 92, 3) := by decide +kernel
theorem d_Mo_lose_17 : decode prog_10_method_45_code 17 = .ok (.ifCond .eq 5, 3) := by decide +kernel
theorem d_Mo_lose_20 : decode prog_10_method_45_code 20 = .ok (.iconst 0, 1) := by decide +kernel
theorem d_Mo_lose_21 : decode prog_10_method_45_code 21 = .ok (.ireturn, 1) := by decide +kernel
theorem d_Mo_lose_22 : decode prog_10_method_45_code 22 = .ok (.iload_n 1, 1) := by decide +kernel
theorem d_Mo_lose_23 : decode prog_10_method_45_code 23 = .ok (.ifCond .eq 7, 3) := by decide +kernel
theorem d_Mo_lose_26 : decode prog_10_method_45_code 26 = .ok (.iconst 1, 1) := by decide +kernel
theorem d_Mo_lose_27 : decode prog_10_method_45_code 27 = .ok (.goto 4, 3) := by decide +kernel
theorem d_Mo_lose_30 : decode prog_10_method_45_code 30 = .ok (.iconst 0, 1) := by decide +kernel
theorem d_Mo_lose_31 : decode prog_10_method_45_code 31 = .ok (.istore 4, 2) := by decide +kernel
theorem d_Mo_lose_33 : decode prog_10_method_45_code 33 = .ok (.aload_n 0, 1) := by decide +kernel
theorem d_Mo_lose_34 : decode prog_10_method_45_code 34 = .ok (.getfield 13, 3) := by decide +kernel
theorem d_Mo_lose_37 : decode prog_10_method_45_code 37 = .ok (.iload 4, 2) := by decide +kernel
theorem d_Mo_lose_39 : decode prog_10_method_45_code 39 = .ok (.iaload, 1) := by decide +kernel
theorem d_Mo_lose_40 : decode prog_10_method_45_code 40 = .ok (.iload_n 2, 1) := by decide +kernel
theorem d_Mo_lose_41 : decode prog_10_method_45_code 41 = .ok (.isub, 1) := by decide +kernel
theorem d_Mo_lose_42 : decode prog_10_method_45_code 42 = .ok (.istore 5, 2) := by decide +kernel
theorem d_Mo_lose_44 : decode prog_10_method_45_code 44 = .ok (.iload 5, 2) := by decide +kernel
theorem d_Mo_lose_46 : decode prog_10_method_45_code 46 = .ok (.ifCond .ge 7, 3) := by decide +kernel
theorem d_Mo_lose_49 : decode prog_10_method_45_code 49 = .ok (.iconst 0, 1) := by decide +kernel
theorem d_Mo_lose_50 : decode prog_10_method_45_code 50 = .ok (.goto 15, 3) := by decide +kernel
theorem d_Mo_lose_53 : decode prog_10_method_45_code 53 = .ok (.iload 5, 2) := by decide +kernel
theorem d_Mo_lose_55 : decode prog_10_method_45_code 55 = .ok (.iload_n 3, 1) := by decide +kernel
theorem d_Mo_lose_56 : decode prog_10_method_45_code 56 = .ok (.if_icmp .ge 8, 3) := by decide +kernel
theorem d_Mo_lose_59 : decode prog_10_method_45_code 59 = .ok (.iload 5, 2) := by decide +kernel
theorem d_Mo_lose_61 : decode prog_10_method_45_code 61 = .ok (.goto 4, 3) := by decide +kernel
theorem d_Mo_lose_64 : decode prog_10_method_45_code 64 = .ok (.iload_n 3, 1) := by decide +kernel
theorem d_Mo_lose_65 : decode prog_10_method_45_code 65 = .ok (.istore 6, 2) := by decide +kernel
theorem d_Mo_lose_67 : decode prog_10_method_45_code 67 = .ok (.iload 6, 2) := by decide +kernel
theorem d_Mo_lose_69 : decode prog_10_method_45_code 69 = .ok (.ifCond .le 12, 3) := by decide +kernel
theorem d_Mo_lose_72 : decode prog_10_method_45_code 72 = .ok (.aload_n 0, 1) := by decide +kernel
theorem d_Mo_lose_73 : decode prog_10_method_45_code 73 = .ok (.iload 4, 2) := by decide +kernel
theorem d_Mo_lose_75 : decode prog_10_method_45_code 75 = .ok (.iload_n 2, 1) := by decide +kernel
theorem d_Mo_lose_76 : decode prog_10_method_45_code 76 = .ok (.iload 6, 2) := by decide +kernel
theorem d_Mo_lose_78 : decode prog_10_method_45_code 78 = .ok (.invokevirtual 217, 3) := by decide +kernel
theorem d_Mo_lose_81 : decode prog_10_method_45_code 81 = .ok (.iload 6, 2) := by decide +kernel
theorem d_Mo_lose_83 : decode prog_10_method_45_code 83 = .ok (.ireturn, 1) := by decide +kernel
def rm_Mo_lose : Room := { frames := 1, cells := 0, slots := 0, locals := 24 }
def wp_Mo_lose_L65 (Q : Int32 → UI → UR → Prop) (I : UI) (R : UR) (x2 : Int32) (x4 : Int32) (s0 : Int32) : Prop :=
  ((s0 ≤ 0 → Q s0 I R) ∧ (¬ s0 ≤ 0 → wp_Mo_take I R x4 x2 s0 (fun I5 R6 => Q s0 I5 R6)))
set_option maxHeartbeats 4000000 in
set_option maxRecDepth 100000 in
theorem j_Mo_lose_65 (X : uX p s m args c prog_10_method_45_code 7 "FrameFerryModel" D cc L A t16 t32) (hr : meth.sig.returnType = (some .int)) (hlk : meth.locks = false) (hsz : sz = s.heap.size) {Q : Int32 → UI → UR → Prop} {I : UI} {R : UR} {x2 : Int32} {x4 : Int32} {s0 : Int32} {H : Heap} {locs : List Loc} {ls : Array Slot} (V : uV s D cc L A J I R H locs) (hl : lv_has ls 7 [(0, .ref (A 80)), (2, .int x2), (4, .int x4)]) (h : wp_Mo_lose_L65 Q I R x2 x4 s0) : W p l e rm_Mo_lose s m args below meth c H locs 0 0 (MQ below (va_Qi (fun (r : Int32) (u : UI × UR) => Q r u.1 u.2) (uBv D cc L A J) (uA L A sz)) args s 0 0 (uA L A sz)) (F0 m 65 ls [.int s0]) := by
  have hx := X.1
  have hb := X.2.1
  unfold wp_Mo_lose_L65 at h
  refine lv_istore (pc := 65) (lv' := [(6, .int s0), (0, .ref (A 80)), (2, .int x2), (4, .int x4)]) hx hb d_Mo_lose_65 hl (by decide) rfl (fun ls hl => ?_)
  refine lv_iload (pc := 67) hx hb d_Mo_lose_67 (lv_at hl 0 rfl) ?_
  refine lv_if_le (pc := 69) (tgt := 81) hx hb d_Mo_lose_69 (by decide) (fun hc => ?_) (fun hc => ?_)
  · have h := h.1 hc
    refine lv_iload (pc := 81) hx hb d_Mo_lose_81 (lv_at hl 0 rfl) ?_
    exact u_reti (pc := 83) X V hr hlk hsz h d_Mo_lose_83
  · have h := h.2 hc
    refine lv_aload_n (pc := 72) hx hb d_Mo_lose_72 rfl (lv_at hl 1 rfl) ?_
    refine lv_iload (pc := 73) hx hb d_Mo_lose_73 (lv_at hl 3 rfl) ?_
    refine lv_iload_n (pc := 75) hx hb d_Mo_lose_75 rfl (lv_at hl 2 rfl) ?_
    refine lv_iload (pc := 76) hx hb d_Mo_lose_76 (lv_at hl 0 rfl) ?_
    refine u_cVv (pc := 78) (As := [.int x4, .int x2, .int s0]) X V s_Mo_217 (X.fix rfl) rfl rfl rfl (c_Mo_take l D cc L A J t16 t32 _ _ x4 x2 s0 _ h) ⟨rfl, rfl, Nat.le_of_ble_eq_true rfl, Nat.le_of_ble_eq_true rfl⟩ rfl hl.1 rfl (Nat.le_of_ble_eq_true rfl) d_Mo_lose_78 ⟨Nat.zero_le _, Nat.zero_le _⟩ (fun I5 R6 h H locs V => ?_)
    refine lv_iload (pc := 81) hx hb d_Mo_lose_81 (lv_at hl 0 rfl) ?_
    exact u_reti (pc := 83) X V hr hlk hsz h d_Mo_lose_83
def wp_Mo_lose_L31 (Q : Int32 → UI → UR → Prop) (I : UI) (R : UR) (x2 : Int32) (x3 : Int32) (s0 : Int32) : Prop :=
  vp_in s0 2 ∧ ∀ v4 : Int32, v4 = (I 82 s0.toNatClampNeg) - x2 → ((0 ≤ v4 → ((x3 ≤ v4 → wp_Mo_lose_L65 Q I R x2 s0 x3) ∧ (¬ x3 ≤ v4 → wp_Mo_lose_L65 Q I R x2 s0 v4))) ∧ (¬ 0 ≤ v4 → wp_Mo_lose_L65 Q I R x2 s0 0))
set_option maxHeartbeats 4000000 in
set_option maxRecDepth 100000 in
theorem j_Mo_lose_31 (X : uX p s m args c prog_10_method_45_code 7 "FrameFerryModel" D cc L A t16 t32) (hr : meth.sig.returnType = (some .int)) (hlk : meth.locks = false) (hsz : sz = s.heap.size) {Q : Int32 → UI → UR → Prop} {I : UI} {R : UR} {x2 : Int32} {x3 : Int32} {s0 : Int32} {H : Heap} {locs : List Loc} {ls : Array Slot} (V : uV s D cc L A J I R H locs) (hl : lv_has ls 7 [(0, .ref (A 80)), (2, .int x2), (3, .int x3)]) (h : wp_Mo_lose_L31 Q I R x2 x3 s0) : W p l e rm_Mo_lose s m args below meth c H locs 0 0 (MQ below (va_Qi (fun (r : Int32) (u : UI × UR) => Q r u.1 u.2) (uBv D cc L A J) (uA L A sz)) args s 0 0 (uA L A sz)) (F0 m 31 ls [.int s0]) := by
  have hx := X.1
  have hb := X.2.1
  unfold wp_Mo_lose_L31 at h
  refine lv_istore (pc := 31) (lv' := [(4, .int s0), (0, .ref (A 80)), (2, .int x2), (3, .int x3)]) hx hb d_Mo_lose_31 hl (by decide) rfl (fun ls hl => ?_)
  refine lv_aload_n (pc := 33) hx hb d_Mo_lose_33 rfl (lv_at hl 1 rfl) ?_
  refine u_getr (pc := 34) (o' := 82) X V (X.fix rfl) rfl rfl f_Mo_13 rfl rfl d_Mo_lose_34 ?_
  refine lv_iload (pc := 37) hx hb d_Mo_lose_37 (lv_at hl 0 rfl) ?_
  refine u_iald (pc := 39) X V (X.fix rfl) rfl rfl h.1 d_Mo_lose_39 ?_
  have h := h.2
  refine lv_iload_n (pc := 40) hx hb d_Mo_lose_40 rfl (lv_at hl 2 rfl) ?_
  refine lv_isub (pc := 41) hx hb d_Mo_lose_41 ?_
  refine lv_topi (fun v4 ev4 => ?_)
  have h := h v4 ev4
  refine lv_istore (pc := 42) (lv' := [(5, .int v4), (4, .int s0), (0, .ref (A 80)), (2, .int x2), (3, .int x3)]) hx hb d_Mo_lose_42 hl (by decide) rfl (fun ls hl => ?_)
  refine lv_iload (pc := 44) hx hb d_Mo_lose_44 (lv_at hl 0 rfl) ?_
  refine lv_if_ge (pc := 46) (tgt := 53) hx hb d_Mo_lose_46 (by decide) (fun hc => ?_) (fun hc => ?_)
  · have h := h.1 hc
    refine lv_iload (pc := 53) hx hb d_Mo_lose_53 (lv_at hl 0 rfl) ?_
    refine lv_iload_n (pc := 55) hx hb d_Mo_lose_55 rfl (lv_at hl 4 rfl) ?_
    refine lv_icmp_ge (pc := 56) (tgt := 64) hx hb d_Mo_lose_56 (by decide) (fun hc => ?_) (fun hc => ?_)
    · have h := h.1 hc
      refine lv_iload_n (pc := 64) hx hb d_Mo_lose_64 rfl (lv_at hl 4 rfl) ?_
      exact j_Mo_lose_65 X hr hlk hsz V (lv_sub hl [2, 3, 1] rfl) h
    · have h := h.2 hc
      refine lv_iload (pc := 59) hx hb d_Mo_lose_59 (lv_at hl 0 rfl) ?_
      refine lv_goto (pc := 61) (tgt := 65) hx hb d_Mo_lose_61 (by decide) ?_
      exact j_Mo_lose_65 X hr hlk hsz V (lv_sub hl [2, 3, 1] rfl) h
  · have h := h.2 hc
    refine lv_iconst (pc := 49) (v := 0) hx hb d_Mo_lose_49 (by decide) ?_
    refine lv_goto (pc := 50) (tgt := 65) hx hb d_Mo_lose_50 (by decide) ?_
    exact j_Mo_lose_65 X hr hlk hsz V (lv_sub hl [2, 3, 1] rfl) h
def wp_Mo_lose_L14 (Q : Int32 → UI → UR → Prop) (I : UI) (R : UR) (x1 : Int32) (x2 : Int32) (x3 : Int32) (s0 : Int32) : Prop :=
  wp_Mo_refused I R s0 (fun r3 I1 R2 => ((r3 = 0 → ((x1 = 0 → wp_Mo_lose_L31 Q I1 R2 x2 x3 0) ∧ (¬ x1 = 0 → wp_Mo_lose_L31 Q I1 R2 x2 x3 1))) ∧ (¬ r3 = 0 → Q 0 I1 R2)))
set_option maxHeartbeats 4000000 in
set_option maxRecDepth 100000 in
theorem j_Mo_lose_14 (X : uX p s m args c prog_10_method_45_code 7 "FrameFerryModel" D cc L A t16 t32) (hr : meth.sig.returnType = (some .int)) (hlk : meth.locks = false) (hsz : sz = s.heap.size) {Q : Int32 → UI → UR → Prop} {I : UI} {R : UR} {x1 : Int32} {x2 : Int32} {x3 : Int32} {s0 : Int32} {H : Heap} {locs : List Loc} {ls : Array Slot} (V : uV s D cc L A J I R H locs) (hl : lv_has ls 7 [(0, .ref (A 80)), (1, .int x1), (2, .int x2), (3, .int x3)]) (h : wp_Mo_lose_L14 Q I R x1 x2 x3 s0) : W p l e rm_Mo_lose s m args below meth c H locs 0 0 (MQ below (va_Qi (fun (r : Int32) (u : UI × UR) => Q r u.1 u.2) (uBv D cc L A J) (uA L A sz)) args s 0 0 (uA L A sz)) (F0 m 14 ls [.int s0, .ref (A 80)]) := by
  have hx := X.1
  have hb := X.2.1
  unfold wp_Mo_lose_L14 at h
  refine u_cVi (pc := 14) (As := [.int s0]) X V s_Mo_92 (X.fix rfl) rfl rfl rfl (c_Mo_refused l D cc L A J t16 t32 _ _ s0 _ h) ⟨rfl, rfl, Nat.le_of_ble_eq_true rfl, Nat.le_of_ble_eq_true rfl⟩ rfl hl.1 rfl (Nat.le_of_ble_eq_true rfl) d_Mo_lose_14 ⟨Nat.zero_le _, Nat.zero_le _⟩ (fun r3 I1 R2 h H locs V => ?_)
  refine lv_if_eq (pc := 17) (tgt := 22) hx hb d_Mo_lose_17 (by decide) (fun hc => ?_) (fun hc => ?_)
  · have h := h.1 hc
    refine lv_iload_n (pc := 22) hx hb d_Mo_lose_22 rfl (lv_at hl 1 rfl) ?_
    refine lv_if_eq (pc := 23) (tgt := 30) hx hb d_Mo_lose_23 (by decide) (fun hc => ?_) (fun hc => ?_)
    · have h := h.1 hc
      refine lv_iconst (pc := 30) (v := 0) hx hb d_Mo_lose_30 (by decide) ?_
      exact j_Mo_lose_31 X hr hlk hsz V (lv_sub hl [0, 2, 3] rfl) h
    · have h := h.2 hc
      refine lv_iconst (pc := 26) (v := 1) hx hb d_Mo_lose_26 (by decide) ?_
      refine lv_goto (pc := 27) (tgt := 31) hx hb d_Mo_lose_27 (by decide) ?_
      exact j_Mo_lose_31 X hr hlk hsz V (lv_sub hl [0, 2, 3] rfl) h
  · have h := h.2 hc
    refine lv_iconst (pc := 20) (v := 0) hx hb d_Mo_lose_20 (by decide) ?_
    exact u_reti (pc := 21) X V hr hlk hsz h d_Mo_lose_21
def wp_Mo_lose_L13 (Q : Int32 → UI → UR → Prop) (I : UI) (R : UR) (x1 : Int32) (x2 : Int32) (x3 : Int32) : Prop :=
  wp_Mo_lose_L14 Q I R x1 x2 x3 1
set_option maxHeartbeats 4000000 in
set_option maxRecDepth 100000 in
theorem j_Mo_lose_13 (X : uX p s m args c prog_10_method_45_code 7 "FrameFerryModel" D cc L A t16 t32) (hr : meth.sig.returnType = (some .int)) (hlk : meth.locks = false) (hsz : sz = s.heap.size) {Q : Int32 → UI → UR → Prop} {I : UI} {R : UR} {x1 : Int32} {x2 : Int32} {x3 : Int32} {H : Heap} {locs : List Loc} {ls : Array Slot} (V : uV s D cc L A J I R H locs) (hl : lv_has ls 7 [(0, .ref (A 80)), (1, .int x1), (2, .int x2), (3, .int x3)]) (h : wp_Mo_lose_L13 Q I R x1 x2 x3) : W p l e rm_Mo_lose s m args below meth c H locs 0 0 (MQ below (va_Qi (fun (r : Int32) (u : UI × UR) => Q r u.1 u.2) (uBv D cc L A J) (uA L A sz)) args s 0 0 (uA L A sz)) (F0 m 13 ls [.ref (A 80)]) := by
  have hx := X.1
  have hb := X.2.1
  unfold wp_Mo_lose_L13 at h
  refine lv_iconst (pc := 13) (v := 1) hx hb d_Mo_lose_13 (by decide) ?_
  exact j_Mo_lose_14 X hr hlk hsz V (lv_sub hl [0, 1, 2, 3] rfl) h
def wp_Mo_lose (I : UI) (R : UR) (x1 : Int32) (x2 : Int32) (x3 : Int32) (Q : Int32 → UI → UR → Prop) : Prop :=
  ((x2 < 0 → wp_Mo_lose_L13 Q I R x1 x2 x3) ∧ (¬ x2 < 0 → ((x3 < 0 → wp_Mo_lose_L13 Q I R x1 x2 x3) ∧ (¬ x3 < 0 → wp_Mo_lose_L14 Q I R x1 x2 x3 0))))
set_option maxHeartbeats 4000000 in
set_option maxRecDepth 100000 in
theorem c_Mo_lose (l : Launch) (D : va_G) (cc : Nat → ClassId) (L : List Nat) (A : Nat → Nat) (J : Nat → Int64) (t16 t32 : Nat) (I : UI) (R : UR) (x1 : Int32) (x2 : Int32) (x3 : Int32) (Q : Int32 → UI → UR → Prop) (h : wp_Mo_lose I R x1 x2 x3 Q) : uMi l y_Mo_lose (.code y_Mo_lose prog_10_method_45_code 7 (some .int)) rm_Mo_lose [.ref (A 80), .int x1, .int x2, .int x3] D cc L A J t16 t32 I R Q := by
  intro sz
  refine u_entry (by decide) (Nat.le_of_ble_eq_true rfl) (fun p e s m args below meth c hsz X V hr hlk ls hl => ?_)
  have X : uX p s m args c prog_10_method_45_code 7 "FrameFerryModel" D cc L A t16 t32 := X
  have hx := X.1
  have hb := X.2.1
  have hl : lv_has ls 7 [(0, .ref (A 80)), (1, .int x1), (2, .int x2), (3, .int x3)] := hl
  unfold wp_Mo_lose at h
  generalize hH : s.heap = H at V ⊢
  generalize hlo : ([] : List Loc) = locs at V ⊢
  refine lv_aload_n (pc := 0) hx hb d_Mo_lose_0 rfl (lv_at hl 0 rfl) ?_
  refine lv_iload_n (pc := 1) hx hb d_Mo_lose_1 rfl (lv_at hl 2 rfl) ?_
  refine lv_if_lt (pc := 2) (tgt := 13) hx hb d_Mo_lose_2 (by decide) (fun hc => ?_) (fun hc => ?_)
  · have h := h.1 hc
    exact j_Mo_lose_13 X hr hlk hsz V (lv_sub hl [0, 1, 2, 3] rfl) h
  · have h := h.2 hc
    refine lv_iload_n (pc := 5) hx hb d_Mo_lose_5 rfl (lv_at hl 3 rfl) ?_
    refine lv_if_lt (pc := 6) (tgt := 13) hx hb d_Mo_lose_6 (by decide) (fun hc => ?_) (fun hc => ?_)
    · have h := h.1 hc
      exact j_Mo_lose_13 X hr hlk hsz V (lv_sub hl [0, 1, 2, 3] rfl) h
    · have h := h.2 hc
      refine lv_iconst (pc := 9) (v := 0) hx hb d_Mo_lose_9 (by decide) ?_
      refine lv_goto (pc := 10) (tgt := 14) hx hb d_Mo_lose_10 (by decide) ?_
      exact j_Mo_lose_14 X hr hlk hsz V (lv_sub hl [0, 1, 2, 3] rfl) h
-- FrameFerryModel.pipe (ZI)I
theorem d_Mo_pipe_0 : decode prog_10_method_46_code 0 = .ok (.aload_n 0, 1) := by decide +kernel
theorem d_Mo_pipe_1 : decode prog_10_method_46_code 1 = .ok (.iconst 0, 1) := by decide +kernel
theorem d_Mo_pipe_2 : decode prog_10_method_46_code 2 = .ok (.putfield 82, 3) := by decide +kernel
theorem d_Mo_pipe_5 : decode prog_10_method_46_code 5 = .ok (.iload_n 1, 1) := by decide +kernel
theorem d_Mo_pipe_6 : decode prog_10_method_46_code 6 = .ok (.ifCond .eq 7, 3) := by decide +kernel
theorem d_Mo_pipe_9 : decode prog_10_method_46_code 9 = .ok (.iconst 1, 1) := by decide +kernel
theorem d_Mo_pipe_10 : decode prog_10_method_46_code 10 = .ok (.goto 4, 3) := by decide +kernel
theorem d_Mo_pipe_13 : decode prog_10_method_46_code 13 = .ok (.iconst 0, 1) := by decide +kernel
theorem d_Mo_pipe_14 : decode prog_10_method_46_code 14 = .ok (.istore_n 3, 1) := by decide +kernel
theorem d_Mo_pipe_15 : decode prog_10_method_46_code 15 = .ok (.iload_n 2, 1) := by decide +kernel
theorem d_Mo_pipe_16 : decode prog_10_method_46_code 16 = .ok (.iconst 0, 1) := by decide +kernel
theorem d_Mo_pipe_17 : decode prog_10_method_46_code 17 = .ok (.aload_n 0, 1) := by decide +kernel
theorem d_Mo_pipe_18 : decode prog_10_method_46_code 18 = .ok (.getfield 13, 3) := by decide +kernel
theorem d_Mo_pipe_21 : decode prog_10_method_46_code 21 = .ok (.iload_n 3, 1) := by decide +kernel
theorem d_Mo_pipe_22 : decode prog_10_method_46_code 22 = .ok (.iaload, 1) := by decide +kernel
theorem d_Mo_pipe_23 : decode prog_10_method_46_code 23 = .ok (.iconst 1, 1) := by decide +kernel
theorem d_Mo_pipe_24 : decode prog_10_method_46_code 24 = .ok (.isub, 1) := by decide +kernel
theorem d_Mo_pipe_25 : decode prog_10_method_46_code 25 = .ok (.invokestatic 85, 3) := by decide +kernel
theorem d_Mo_pipe_28 : decode prog_10_method_46_code 28 = .ok (.ifCond .eq 18, 3) := by decide +kernel
theorem d_Mo_pipe_31 : decode prog_10_method_46_code 31 = .ok (.aload_n 0, 1) := by decide +kernel
theorem d_Mo_pipe_32 : decode prog_10_method_46_code 32 = .ok (.getfield 7, 3) := by decide +kernel
theorem d_Mo_pipe_35 : decode prog_10_method_46_code 35 = .ok (.sipush 3000, 3) := by decide +kernel
theorem d_Mo_pipe_38 : decode prog_10_method_46_code 38 = .ok (.iload_n 3, 1) := by decide +kernel
theorem d_Mo_pipe_39 : decode prog_10_method_46_code 39 = .ok (.imul, 1) := by decide +kernel
theorem d_Mo_pipe_40 : decode prog_10_method_46_code 40 = .ok (.iload_n 2, 1) := by decide +kernel
theorem d_Mo_pipe_41 : decode prog_10_method_46_code 41 = .ok (.iadd, 1) := by decide +kernel
theorem d_Mo_pipe_42 : decode prog_10_method_46_code 42 = .ok (.iaload, 1) := by decide +kernel
theorem d_Mo_pipe_43 : decode prog_10_method_46_code 43 = .ok (.goto 4, 3) := by decide +kernel
theorem d_Mo_pipe_46 : decode prog_10_method_46_code 46 = .ok (.iconst (-1), 1) := by decide +kernel
theorem d_Mo_pipe_47 : decode prog_10_method_46_code 47 = .ok (.ireturn, 1) := by decide +kernel
def rm_Mo_pipe : Room := { frames := 1, cells := 0, slots := 0, locals := 22 }
def wp_Mo_pipe_L14 (Q : Int32 → UI → UR → Prop) (I : UI) (R : UR) (x2 : Int32) (s0 : Int32) : Prop :=
  vp_in s0 2 ∧ wp_Mo_isIn I R x2 0 ((I 82 s0.toNatClampNeg) - 1) (fun r4 I2 R3 => ((r4 = 0 → Q (-1) I2 R3) ∧ (¬ r4 = 0 → vp_in ((3000 * s0) + x2) 6000 ∧ Q (I2 81 ((3000 * s0) + x2).toNatClampNeg) I2 R3)))
set_option maxHeartbeats 4000000 in
set_option maxRecDepth 100000 in
theorem j_Mo_pipe_14 (X : uX p s m args c prog_10_method_46_code 4 "FrameFerryModel" D cc L A t16 t32) (hr : meth.sig.returnType = (some .int)) (hlk : meth.locks = false) (hsz : sz = s.heap.size) {Q : Int32 → UI → UR → Prop} {I : UI} {R : UR} {x2 : Int32} {s0 : Int32} {H : Heap} {locs : List Loc} {ls : Array Slot} (V : uV s D cc L A J I R H locs) (hl : lv_has ls 4 [(0, .ref (A 80)), (2, .int x2)]) (h : wp_Mo_pipe_L14 Q I R x2 s0) : W p l e rm_Mo_pipe s m args below meth c H locs 0 0 (MQ below (va_Qi (fun (r : Int32) (u : UI × UR) => Q r u.1 u.2) (uBv D cc L A J) (uA L A sz)) args s 0 0 (uA L A sz)) (F0 m 14 ls [.int s0]) := by
  have hx := X.1
  have hb := X.2.1
  unfold wp_Mo_pipe_L14 at h
  refine lv_istore_n (pc := 14) (lv' := [(3, .int s0), (0, .ref (A 80)), (2, .int x2)]) hx hb d_Mo_pipe_14 rfl hl (by decide) rfl (fun ls hl => ?_)
  refine lv_iload_n (pc := 15) hx hb d_Mo_pipe_15 rfl (lv_at hl 2 rfl) ?_
  refine lv_iconst (pc := 16) (v := 0) hx hb d_Mo_pipe_16 (by decide) ?_
  refine lv_aload_n (pc := 17) hx hb d_Mo_pipe_17 rfl (lv_at hl 1 rfl) ?_
  refine u_getr (pc := 18) (o' := 82) X V (X.fix rfl) rfl rfl f_Mo_13 rfl rfl d_Mo_pipe_18 ?_
  refine lv_iload_n (pc := 21) hx hb d_Mo_pipe_21 rfl (lv_at hl 0 rfl) ?_
  refine u_iald (pc := 22) X V (X.fix rfl) rfl rfl h.1 d_Mo_pipe_22 ?_
  have h := h.2
  refine lv_iconst (pc := 23) (v := 1) hx hb d_Mo_pipe_23 (by decide) ?_
  refine lv_isub (pc := 24) hx hb d_Mo_pipe_24 ?_
  refine u_cSi (pc := 25) (As := [.int x2, .int 0, .int ((I 82 s0.toNatClampNeg) - 1)]) X V s_Mo_85 (c_Mo_isIn l D cc L A J t16 t32 _ _ x2 0 ((I 82 s0.toNatClampNeg) - 1) _ h) ⟨rfl, rfl, Nat.le_of_ble_eq_true rfl, Nat.le_of_ble_eq_true rfl⟩ rfl hl.1 rfl (Nat.le_of_ble_eq_true rfl) d_Mo_pipe_25 ⟨Nat.zero_le _, Nat.zero_le _⟩ (fun r4 I2 R3 h H locs V => ?_)
  refine lv_if_eq (pc := 28) (tgt := 46) hx hb d_Mo_pipe_28 (by decide) (fun hc => ?_) (fun hc => ?_)
  · have h := h.1 hc
    refine lv_iconst (pc := 46) (v := (-1)) hx hb d_Mo_pipe_46 (by decide) ?_
    exact u_reti (pc := 47) X V hr hlk hsz h d_Mo_pipe_47
  · have h := h.2 hc
    refine lv_aload_n (pc := 31) hx hb d_Mo_pipe_31 rfl (lv_at hl 1 rfl) ?_
    refine u_getr (pc := 32) (o' := 81) X V (X.fix rfl) rfl rfl f_Mo_7 rfl rfl d_Mo_pipe_32 ?_
    refine lv_sipush (pc := 35) (v := 3000) hx hb d_Mo_pipe_35 (by decide) ?_
    refine lv_iload_n (pc := 38) hx hb d_Mo_pipe_38 rfl (lv_at hl 0 rfl) ?_
    refine lv_imul (pc := 39) hx hb d_Mo_pipe_39 ?_
    refine lv_iload_n (pc := 40) hx hb d_Mo_pipe_40 rfl (lv_at hl 2 rfl) ?_
    refine lv_iadd (pc := 41) hx hb d_Mo_pipe_41 ?_
    refine u_iald (pc := 42) X V (X.fix rfl) rfl rfl h.1 d_Mo_pipe_42 ?_
    have h := h.2
    refine lv_goto (pc := 43) (tgt := 47) hx hb d_Mo_pipe_43 (by decide) ?_
    exact u_reti (pc := 47) X V hr hlk hsz h d_Mo_pipe_47
def wp_Mo_pipe (I : UI) (R : UR) (x1 : Int32) (x2 : Int32) (Q : Int32 → UI → UR → Prop) : Prop :=
  ∀ I1 : UI, I1 = u2 I 80 0 0 → ((x1 = 0 → wp_Mo_pipe_L14 Q I1 R x2 0) ∧ (¬ x1 = 0 → wp_Mo_pipe_L14 Q I1 R x2 1))
set_option maxHeartbeats 4000000 in
set_option maxRecDepth 100000 in
theorem c_Mo_pipe (l : Launch) (D : va_G) (cc : Nat → ClassId) (L : List Nat) (A : Nat → Nat) (J : Nat → Int64) (t16 t32 : Nat) (I : UI) (R : UR) (x1 : Int32) (x2 : Int32) (Q : Int32 → UI → UR → Prop) (h : wp_Mo_pipe I R x1 x2 Q) : uMi l y_Mo_pipe (.code y_Mo_pipe prog_10_method_46_code 4 (some .int)) rm_Mo_pipe [.ref (A 80), .int x1, .int x2] D cc L A J t16 t32 I R Q := by
  intro sz
  refine u_entry (by decide) (Nat.le_of_ble_eq_true rfl) (fun p e s m args below meth c hsz X V hr hlk ls hl => ?_)
  have X : uX p s m args c prog_10_method_46_code 4 "FrameFerryModel" D cc L A t16 t32 := X
  have hx := X.1
  have hb := X.2.1
  have hl : lv_has ls 4 [(0, .ref (A 80)), (1, .int x1), (2, .int x2)] := hl
  unfold wp_Mo_pipe at h
  generalize hH : s.heap = H at V ⊢
  generalize hlo : ([] : List Loc) = locs at V ⊢
  refine lv_aload_n (pc := 0) hx hb d_Mo_pipe_0 rfl (lv_at hl 0 rfl) ?_
  refine lv_iconst (pc := 1) (v := 0) hx hb d_Mo_pipe_1 (by decide) ?_
  refine u_puti (pc := 2) X V (X.fix rfl) rfl rfl f_Mo_82 rfl d_Mo_pipe_2 (fun I1 eI1 H locs V => ?_)
  have h := h I1 eI1
  refine lv_iload_n (pc := 5) hx hb d_Mo_pipe_5 rfl (lv_at hl 1 rfl) ?_
  refine lv_if_eq (pc := 6) (tgt := 13) hx hb d_Mo_pipe_6 (by decide) (fun hc => ?_) (fun hc => ?_)
  · have h := h.1 hc
    refine lv_iconst (pc := 13) (v := 0) hx hb d_Mo_pipe_13 (by decide) ?_
    exact j_Mo_pipe_14 X hr hlk hsz V (lv_sub hl [0, 2] rfl) h
  · have h := h.2 hc
    refine lv_iconst (pc := 9) (v := 1) hx hb d_Mo_pipe_9 (by decide) ?_
    refine lv_goto (pc := 10) (tgt := 14) hx hb d_Mo_pipe_10 (by decide) ?_
    exact j_Mo_pipe_14 X hr hlk hsz V (lv_sub hl [0, 2] rfl) h
-- FrameFerryModel.got (II)I
theorem d_Mo_got_0 : decode prog_10_method_47_code 0 = .ok (.aload_n 0, 1) := by decide +kernel
theorem d_Mo_got_1 : decode prog_10_method_47_code 1 = .ok (.iload_n 1, 1) := by decide +kernel
theorem d_Mo_got_2 : decode prog_10_method_47_code 2 = .ok (.iconst 0, 1) := by decide +kernel
theorem d_Mo_got_3 : decode prog_10_method_47_code 3 = .ok (.bipush 25, 2) := by decide +kernel
theorem d_Mo_got_5 : decode prog_10_method_47_code 5 = .ok (.invokestatic 85, 3) := by decide +kernel
theorem d_Mo_got_8 : decode prog_10_method_47_code 8 = .ok (.ifCond .eq 7, 3) := by decide +kernel
theorem d_Mo_got_11 : decode prog_10_method_47_code 11 = .ok (.iconst 0, 1) := by decide +kernel
theorem d_Mo_got_12 : decode prog_10_method_47_code 12 = .ok (.goto 4, 3) := by decide +kernel
theorem d_Mo_got_15 : decode prog_10_method_47_code 15 = .ok (.iconst 1, 1) := by decide +kernel
theorem d_Mo_got_16 : decode prog_10_method_47_code 16 = .ok (.invokevirtual 92, 3) := by decide +kernel
theorem d_Mo_got_19 : decode prog_10_method_47_code 19 = .ok (.ifCond .eq 5, 3) := by decide +kernel
theorem d_Mo_got_22 : decode prog_10_method_47_code 22 = .ok (.iconst 0, 1) := by decide +kernel
theorem d_Mo_got_23 : decode prog_10_method_47_code 23 = .ok (.ireturn, 1) := by decide +kernel
theorem d_Mo_got_24 : decode prog_10_method_47_code 24 = .ok (.aload_n 0, 1) := by decide +kernel
theorem d_Mo_got_25 : decode prog_10_method_47_code 25 = .ok (.getfield 60, 3) := by decide +kernel
theorem d_Mo_got_28 : decode prog_10_method_47_code 28 = .ok (.iload_n 1, 1) := by decide +kernel
theorem d_Mo_got_29 : decode prog_10_method_47_code 29 = .ok (.baload, 1) := by decide +kernel
theorem d_Mo_got_30 : decode prog_10_method_47_code 30 = .ok (.ifCond .eq 34, 3) := by decide +kernel
theorem d_Mo_got_33 : decode prog_10_method_47_code 33 = .ok (.iload_n 2, 1) := by decide +kernel
theorem d_Mo_got_34 : decode prog_10_method_47_code 34 = .ok (.iconst 0, 1) := by decide +kernel
theorem d_Mo_got_35 : decode prog_10_method_47_code 35 = .ok (.aload_n 0, 1) := by decide +kernel
theorem d_Mo_got_36 : decode prog_10_method_47_code 36 = .ok (.getfield 63, 3) := by decide +kernel
theorem d_Mo_got_39 : decode prog_10_method_47_code 39 = .ok (.iload_n 1, 1) := by decide +kernel
theorem d_Mo_got_40 : decode prog_10_method_47_code 40 = .ok (.iaload, 1) := by decide +kernel
theorem d_Mo_got_41 : decode prog_10_method_47_code 41 = .ok (.iconst 1, 1) := by decide +kernel
theorem d_Mo_got_42 : decode prog_10_method_47_code 42 = .ok (.isub, 1) := by decide +kernel
theorem d_Mo_got_43 : decode prog_10_method_47_code 43 = .ok (.invokestatic 85, 3) := by decide +kernel
theorem d_Mo_got_46 : decode prog_10_method_47_code 46 = .ok (.ifCond .eq 18, 3) := by decide +kernel
theorem d_Mo_got_49 : decode prog_10_method_47_code 49 = .ok (.aload_n 0, 1) := by decide +kernel
theorem d_Mo_got_50 : decode prog_10_method_47_code 50 = .ok (.getfield 66, 3) := by decide +kernel
theorem d_Mo_got_53 : decode prog_10_method_47_code 53 = .ok (.sipush 300, 3) := by decide +kernel
theorem d_Mo_got_56 : decode prog_10_method_47_code 56 = .ok (.iload_n 1, 1) := by decide +kernel
theorem d_Mo_got_57 : decode prog_10_method_47_code 57 = .ok (.imul, 1) := by decide +kernel
theorem d_Mo_got_58 : decode prog_10_method_47_code 58 = .ok (.iload_n 2, 1) := by decide +kernel
theorem d_Mo_got_59 : decode prog_10_method_47_code 59 = .ok (.iadd, 1) := by decide +kernel
theorem d_Mo_got_60 : decode prog_10_method_47_code 60 = .ok (.iaload, 1) := by decide +kernel
theorem d_Mo_got_61 : decode prog_10_method_47_code 61 = .ok (.goto 4, 3) := by decide +kernel
theorem d_Mo_got_64 : decode prog_10_method_47_code 64 = .ok (.iconst (-1), 1) := by decide +kernel
theorem d_Mo_got_65 : decode prog_10_method_47_code 65 = .ok (.ireturn, 1) := by decide +kernel
def rm_Mo_got : Room := { frames := 1, cells := 0, slots := 0, locals := 22 }
def wp_Mo_got_L16 (Q : Int32 → UI → UR → Prop) (I : UI) (R : UR) (x1 : Int32) (x2 : Int32) (s0 : Int32) : Prop :=
  wp_Mo_refused I R s0 (fun r6 I4 R5 => ((r6 = 0 → vp_in x1 26 ∧ ((I4 102 x1.toNatClampNeg = 0 → Q (-1) I4 R5) ∧ (¬ I4 102 x1.toNatClampNeg = 0 → vp_in x1 26 ∧ wp_Mo_isIn I4 R5 x2 0 ((I4 103 x1.toNatClampNeg) - 1) (fun r9 I7 R8 => ((r9 = 0 → Q (-1) I7 R8) ∧ (¬ r9 = 0 → vp_in ((300 * x1) + x2) 7800 ∧ Q (I7 104 ((300 * x1) + x2).toNatClampNeg) I7 R8)))))) ∧ (¬ r6 = 0 → Q 0 I4 R5)))
set_option maxHeartbeats 4000000 in
set_option maxRecDepth 100000 in
theorem j_Mo_got_16 (X : uX p s m args c prog_10_method_47_code 3 "FrameFerryModel" D cc L A t16 t32) (hr : meth.sig.returnType = (some .int)) (hlk : meth.locks = false) (hsz : sz = s.heap.size) {Q : Int32 → UI → UR → Prop} {I : UI} {R : UR} {x1 : Int32} {x2 : Int32} {s0 : Int32} {H : Heap} {locs : List Loc} {ls : Array Slot} (V : uV s D cc L A J I R H locs) (hl : lv_has ls 3 [(0, .ref (A 80)), (1, .int x1), (2, .int x2)]) (h : wp_Mo_got_L16 Q I R x1 x2 s0) : W p l e rm_Mo_got s m args below meth c H locs 0 0 (MQ below (va_Qi (fun (r : Int32) (u : UI × UR) => Q r u.1 u.2) (uBv D cc L A J) (uA L A sz)) args s 0 0 (uA L A sz)) (F0 m 16 ls [.int s0, .ref (A 80)]) := by
  have hx := X.1
  have hb := X.2.1
  unfold wp_Mo_got_L16 at h
  refine u_cVi (pc := 16) (As := [.int s0]) X V s_Mo_92 (X.fix rfl) rfl rfl rfl (c_Mo_refused l D cc L A J t16 t32 _ _ s0 _ h) ⟨rfl, rfl, Nat.le_of_ble_eq_true rfl, Nat.le_of_ble_eq_true rfl⟩ rfl hl.1 rfl (Nat.le_of_ble_eq_true rfl) d_Mo_got_16 ⟨Nat.zero_le _, Nat.zero_le _⟩ (fun r6 I4 R5 h H locs V => ?_)
  refine lv_if_eq (pc := 19) (tgt := 24) hx hb d_Mo_got_19 (by decide) (fun hc => ?_) (fun hc => ?_)
  · have h := h.1 hc
    refine lv_aload_n (pc := 24) hx hb d_Mo_got_24 rfl (lv_at hl 0 rfl) ?_
    refine u_getr (pc := 25) (o' := 102) X V (X.fix rfl) rfl rfl f_Mo_60 rfl rfl d_Mo_got_25 ?_
    refine lv_iload_n (pc := 28) hx hb d_Mo_got_28 rfl (lv_at hl 1 rfl) ?_
    refine u_zald (pc := 29) X V (X.fix rfl) rfl rfl h.1 d_Mo_got_29 ?_
    have h := h.2
    refine lv_if_eq (pc := 30) (tgt := 64) hx hb d_Mo_got_30 (by decide) (fun hc => ?_) (fun hc => ?_)
    · have h := h.1 hc
      refine lv_iconst (pc := 64) (v := (-1)) hx hb d_Mo_got_64 (by decide) ?_
      exact u_reti (pc := 65) X V hr hlk hsz h d_Mo_got_65
    · have h := h.2 hc
      refine lv_iload_n (pc := 33) hx hb d_Mo_got_33 rfl (lv_at hl 2 rfl) ?_
      refine lv_iconst (pc := 34) (v := 0) hx hb d_Mo_got_34 (by decide) ?_
      refine lv_aload_n (pc := 35) hx hb d_Mo_got_35 rfl (lv_at hl 0 rfl) ?_
      refine u_getr (pc := 36) (o' := 103) X V (X.fix rfl) rfl rfl f_Mo_63 rfl rfl d_Mo_got_36 ?_
      refine lv_iload_n (pc := 39) hx hb d_Mo_got_39 rfl (lv_at hl 1 rfl) ?_
      refine u_iald (pc := 40) X V (X.fix rfl) rfl rfl h.1 d_Mo_got_40 ?_
      have h := h.2
      refine lv_iconst (pc := 41) (v := 1) hx hb d_Mo_got_41 (by decide) ?_
      refine lv_isub (pc := 42) hx hb d_Mo_got_42 ?_
      refine u_cSi (pc := 43) (As := [.int x2, .int 0, .int ((I4 103 x1.toNatClampNeg) - 1)]) X V s_Mo_85 (c_Mo_isIn l D cc L A J t16 t32 _ _ x2 0 ((I4 103 x1.toNatClampNeg) - 1) _ h) ⟨rfl, rfl, Nat.le_of_ble_eq_true rfl, Nat.le_of_ble_eq_true rfl⟩ rfl hl.1 rfl (Nat.le_of_ble_eq_true rfl) d_Mo_got_43 ⟨Nat.zero_le _, Nat.zero_le _⟩ (fun r9 I7 R8 h H locs V => ?_)
      refine lv_if_eq (pc := 46) (tgt := 64) hx hb d_Mo_got_46 (by decide) (fun hc => ?_) (fun hc => ?_)
      · have h := h.1 hc
        refine lv_iconst (pc := 64) (v := (-1)) hx hb d_Mo_got_64 (by decide) ?_
        exact u_reti (pc := 65) X V hr hlk hsz h d_Mo_got_65
      · have h := h.2 hc
        refine lv_aload_n (pc := 49) hx hb d_Mo_got_49 rfl (lv_at hl 0 rfl) ?_
        refine u_getr (pc := 50) (o' := 104) X V (X.fix rfl) rfl rfl f_Mo_66 rfl rfl d_Mo_got_50 ?_
        refine lv_sipush (pc := 53) (v := 300) hx hb d_Mo_got_53 (by decide) ?_
        refine lv_iload_n (pc := 56) hx hb d_Mo_got_56 rfl (lv_at hl 1 rfl) ?_
        refine lv_imul (pc := 57) hx hb d_Mo_got_57 ?_
        refine lv_iload_n (pc := 58) hx hb d_Mo_got_58 rfl (lv_at hl 2 rfl) ?_
        refine lv_iadd (pc := 59) hx hb d_Mo_got_59 ?_
        refine u_iald (pc := 60) X V (X.fix rfl) rfl rfl h.1 d_Mo_got_60 ?_
        have h := h.2
        refine lv_goto (pc := 61) (tgt := 65) hx hb d_Mo_got_61 (by decide) ?_
        exact u_reti (pc := 65) X V hr hlk hsz h d_Mo_got_65
  · have h := h.2 hc
    refine lv_iconst (pc := 22) (v := 0) hx hb d_Mo_got_22 (by decide) ?_
    exact u_reti (pc := 23) X V hr hlk hsz h d_Mo_got_23
def wp_Mo_got (I : UI) (R : UR) (x1 : Int32) (x2 : Int32) (Q : Int32 → UI → UR → Prop) : Prop :=
  wp_Mo_isIn I R x1 0 25 (fun r3 I1 R2 => ((r3 = 0 → wp_Mo_got_L16 Q I1 R2 x1 x2 1) ∧ (¬ r3 = 0 → wp_Mo_got_L16 Q I1 R2 x1 x2 0)))
set_option maxHeartbeats 4000000 in
set_option maxRecDepth 100000 in
theorem c_Mo_got (l : Launch) (D : va_G) (cc : Nat → ClassId) (L : List Nat) (A : Nat → Nat) (J : Nat → Int64) (t16 t32 : Nat) (I : UI) (R : UR) (x1 : Int32) (x2 : Int32) (Q : Int32 → UI → UR → Prop) (h : wp_Mo_got I R x1 x2 Q) : uMi l y_Mo_got (.code y_Mo_got prog_10_method_47_code 3 (some .int)) rm_Mo_got [.ref (A 80), .int x1, .int x2] D cc L A J t16 t32 I R Q := by
  intro sz
  refine u_entry (by decide) (Nat.le_of_ble_eq_true rfl) (fun p e s m args below meth c hsz X V hr hlk ls hl => ?_)
  have X : uX p s m args c prog_10_method_47_code 3 "FrameFerryModel" D cc L A t16 t32 := X
  have hx := X.1
  have hb := X.2.1
  have hl : lv_has ls 3 [(0, .ref (A 80)), (1, .int x1), (2, .int x2)] := hl
  unfold wp_Mo_got at h
  generalize hH : s.heap = H at V ⊢
  generalize hlo : ([] : List Loc) = locs at V ⊢
  refine lv_aload_n (pc := 0) hx hb d_Mo_got_0 rfl (lv_at hl 0 rfl) ?_
  refine lv_iload_n (pc := 1) hx hb d_Mo_got_1 rfl (lv_at hl 1 rfl) ?_
  refine lv_iconst (pc := 2) (v := 0) hx hb d_Mo_got_2 (by decide) ?_
  refine lv_bipush (pc := 3) (v := 25) hx hb d_Mo_got_3 (by decide) ?_
  refine u_cSi (pc := 5) (As := [.int x1, .int 0, .int 25]) X V s_Mo_85 (c_Mo_isIn l D cc L A J t16 t32 _ _ x1 0 25 _ h) ⟨rfl, rfl, Nat.le_of_ble_eq_true rfl, Nat.le_of_ble_eq_true rfl⟩ rfl hl.1 rfl (Nat.le_of_ble_eq_true rfl) d_Mo_got_5 ⟨Nat.zero_le _, Nat.zero_le _⟩ (fun r3 I1 R2 h H locs V => ?_)
  refine lv_if_eq (pc := 8) (tgt := 15) hx hb d_Mo_got_8 (by decide) (fun hc => ?_) (fun hc => ?_)
  · have h := h.1 hc
    refine lv_iconst (pc := 15) (v := 1) hx hb d_Mo_got_15 (by decide) ?_
    exact j_Mo_got_16 X hr hlk hsz V (lv_sub hl [0, 1, 2] rfl) h
  · have h := h.2 hc
    refine lv_iconst (pc := 11) (v := 0) hx hb d_Mo_got_11 (by decide) ?_
    refine lv_goto (pc := 12) (tgt := 16) hx hb d_Mo_got_12 (by decide) ?_
    exact j_Mo_got_16 X hr hlk hsz V (lv_sub hl [0, 1, 2] rfl) h
-- FrameFerryModel.count (I)I
theorem d_Mo_count_0 : decode prog_10_method_48_code 0 = .ok (.aload_n 0, 1) := by decide +kernel
theorem d_Mo_count_1 : decode prog_10_method_48_code 1 = .ok (.iload_n 1, 1) := by decide +kernel
theorem d_Mo_count_2 : decode prog_10_method_48_code 2 = .ok (.iconst 0, 1) := by decide +kernel
theorem d_Mo_count_3 : decode prog_10_method_48_code 3 = .ok (.bipush 11, 2) := by decide +kernel
theorem d_Mo_count_5 : decode prog_10_method_48_code 5 = .ok (.invokestatic 85, 3) := by decide +kernel
theorem d_Mo_count_8 : decode prog_10_method_48_code 8 = .ok (.ifCond .eq 7, 3) := by decide +kernel
theorem d_Mo_count_11 : decode prog_10_method_48_code 11 = .ok (.iconst 0, 1) := by decide +kernel
theorem d_Mo_count_12 : decode prog_10_method_48_code 12 = .ok (.goto 4, 3) := by decide +kernel
theorem d_Mo_count_15 : decode prog_10_method_48_code 15 = .ok (.iconst 1, 1) := by decide +kernel
theorem d_Mo_count_16 : decode prog_10_method_48_code 16 = .ok (.invokevirtual 92, 3) := by decide +kernel
theorem d_Mo_count_19 : decode prog_10_method_48_code 19 = .ok (.ifCond .eq 5, 3) := by decide +kernel
theorem d_Mo_count_22 : decode prog_10_method_48_code 22 = .ok (.iconst 0, 1) := by decide +kernel
theorem d_Mo_count_23 : decode prog_10_method_48_code 23 = .ok (.ireturn, 1) := by decide +kernel
theorem d_Mo_count_24 : decode prog_10_method_48_code 24 = .ok (.iload_n 1, 1) := by decide +kernel
theorem d_Mo_count_25 : decode prog_10_method_48_code 25 = .ok (.tableswitch 110 0 7 #[47, 52, 57, 62, 75, 80, 96, 103], 47) := by decide +kernel
theorem d_Mo_count_72 : decode prog_10_method_48_code 72 = .ok (.aload_n 0, 1) := by decide +kernel
theorem d_Mo_count_73 : decode prog_10_method_48_code 73 = .ok (.getfield 57, 3) := by decide +kernel
theorem d_Mo_count_76 : decode prog_10_method_48_code 76 = .ok (.ireturn, 1) := by decide +kernel
theorem d_Mo_count_77 : decode prog_10_method_48_code 77 = .ok (.aload_n 0, 1) := by decide +kernel
theorem d_Mo_count_78 : decode prog_10_method_48_code 78 = .ok (.getfield 96, 3) := by decide +kernel
theorem d_Mo_count_81 : decode prog_10_method_48_code 81 = .ok (.ireturn, 1) := by decide +kernel
theorem d_Mo_count_82 : decode prog_10_method_48_code 82 = .ok (.aload_n 0, 1) := by decide +kernel
theorem d_Mo_count_83 : decode prog_10_method_48_code 83 = .ok (.getfield 99, 3) := by decide +kernel
theorem d_Mo_count_86 : decode prog_10_method_48_code 86 = .ok (.ireturn, 1) := by decide +kernel
theorem d_Mo_count_87 : decode prog_10_method_48_code 87 = .ok (.aload_n 0, 1) := by decide +kernel
theorem d_Mo_count_88 : decode prog_10_method_48_code 88 = .ok (.getfield 72, 3) := by decide +kernel
theorem d_Mo_count_91 : decode prog_10_method_48_code 91 = .ok (.ifCond .eq 7, 3) := by decide +kernel
theorem d_Mo_count_94 : decode prog_10_method_48_code 94 = .ok (.iconst 1, 1) := by decide +kernel
theorem d_Mo_count_95 : decode prog_10_method_48_code 95 = .ok (.goto 4, 3) := by decide +kernel
theorem d_Mo_count_98 : decode prog_10_method_48_code 98 = .ok (.iconst 0, 1) := by decide +kernel
theorem d_Mo_count_99 : decode prog_10_method_48_code 99 = .ok (.ireturn, 1) := by decide +kernel
theorem d_Mo_count_100 : decode prog_10_method_48_code 100 = .ok (.aload_n 0, 1) := by decide +kernel
theorem d_Mo_count_101 : decode prog_10_method_48_code 101 = .ok (.getfield 69, 3) := by decide +kernel
theorem d_Mo_count_104 : decode prog_10_method_48_code 104 = .ok (.ireturn, 1) := by decide +kernel
theorem d_Mo_count_105 : decode prog_10_method_48_code 105 = .ok (.aload_n 0, 1) := by decide +kernel
theorem d_Mo_count_106 : decode prog_10_method_48_code 106 = .ok (.getfield 69, 3) := by decide +kernel
theorem d_Mo_count_109 : decode prog_10_method_48_code 109 = .ok (.ifCond .ge 7, 3) := by decide +kernel
theorem d_Mo_count_112 : decode prog_10_method_48_code 112 = .ok (.iconst (-1), 1) := by decide +kernel
theorem d_Mo_count_113 : decode prog_10_method_48_code 113 = .ok (.goto 7, 3) := by decide +kernel
theorem d_Mo_count_116 : decode prog_10_method_48_code 116 = .ok (.aload_n 0, 1) := by decide +kernel
theorem d_Mo_count_117 : decode prog_10_method_48_code 117 = .ok (.invokevirtual 198, 3) := by decide +kernel
theorem d_Mo_count_120 : decode prog_10_method_48_code 120 = .ok (.ireturn, 1) := by decide +kernel
theorem d_Mo_count_121 : decode prog_10_method_48_code 121 = .ok (.aload_n 0, 1) := by decide +kernel
theorem d_Mo_count_122 : decode prog_10_method_48_code 122 = .ok (.getfield 13, 3) := by decide +kernel
theorem d_Mo_count_125 : decode prog_10_method_48_code 125 = .ok (.iconst 1, 1) := by decide +kernel
theorem d_Mo_count_126 : decode prog_10_method_48_code 126 = .ok (.iaload, 1) := by decide +kernel
theorem d_Mo_count_127 : decode prog_10_method_48_code 127 = .ok (.ireturn, 1) := by decide +kernel
theorem d_Mo_count_128 : decode prog_10_method_48_code 128 = .ok (.aload_n 0, 1) := by decide +kernel
theorem d_Mo_count_129 : decode prog_10_method_48_code 129 = .ok (.getfield 13, 3) := by decide +kernel
theorem d_Mo_count_132 : decode prog_10_method_48_code 132 = .ok (.iconst 0, 1) := by decide +kernel
theorem d_Mo_count_133 : decode prog_10_method_48_code 133 = .ok (.iaload, 1) := by decide +kernel
theorem d_Mo_count_134 : decode prog_10_method_48_code 134 = .ok (.ireturn, 1) := by decide +kernel
theorem d_Mo_count_135 : decode prog_10_method_48_code 135 = .ok (.aload_n 0, 1) := by decide +kernel
theorem d_Mo_count_136 : decode prog_10_method_48_code 136 = .ok (.getfield 76, 3) := by decide +kernel
theorem d_Mo_count_139 : decode prog_10_method_48_code 139 = .ok (.iload_n 1, 1) := by decide +kernel
theorem d_Mo_count_140 : decode prog_10_method_48_code 140 = .ok (.bipush 8, 2) := by decide +kernel
theorem d_Mo_count_142 : decode prog_10_method_48_code 142 = .ok (.isub, 1) := by decide +kernel
theorem d_Mo_count_143 : decode prog_10_method_48_code 143 = .ok (.iaload, 1) := by decide +kernel
theorem d_Mo_count_144 : decode prog_10_method_48_code 144 = .ok (.ireturn, 1) := by decide +kernel
def rm_Mo_count : Room := { frames := 1, cells := 0, slots := 0, locals := 22 }
def wp_Mo_count_L16 (Q : Int32 → UI → UR → Prop) (I : UI) (R : UR) (x1 : Int32) (s0 : Int32) : Prop :=
  wp_Mo_refused I R s0 (fun r6 I4 R5 => ((r6 = 0 → ∀ v7 : Int32, v7 = x1 → ((v7 = 0 → Q (I4 80 17) I4 R5) ∧ (¬ v7 = 0 → ((v7 = 1 → Q (I4 80 18) I4 R5) ∧ (¬ v7 = 1 → ((v7 = 2 → Q (I4 80 19) I4 R5) ∧ (¬ v7 = 2 → ((v7 = 3 → ((I4 80 27 = 0 → Q 0 I4 R5) ∧ (¬ I4 80 27 = 0 → Q 1 I4 R5))) ∧ (¬ v7 = 3 → ((v7 = 4 → Q (I4 80 25) I4 R5) ∧ (¬ v7 = 4 → ((v7 = 5 → ((0 ≤ I4 80 25 → wp_Mo_position I4 R5 (fun r10 I8 R9 => Q r10 I8 R9)) ∧ (¬ 0 ≤ I4 80 25 → Q (-1) I4 R5))) ∧ (¬ v7 = 5 → ((v7 = 6 → vp_in 1 2 ∧ Q (I4 82 (1 : Int32).toNatClampNeg) I4 R5) ∧ (¬ v7 = 6 → ((v7 = 7 → vp_in 0 2 ∧ Q (I4 82 (0 : Int32).toNatClampNeg) I4 R5) ∧ (¬ v7 = 7 → vp_in (x1 - 8) 4 ∧ Q (I4 108 (x1 - 8).toNatClampNeg) I4 R5))))))))))))))))) ∧ (¬ r6 = 0 → Q 0 I4 R5)))
set_option maxHeartbeats 4000000 in
set_option maxRecDepth 100000 in
theorem j_Mo_count_16 (X : uX p s m args c prog_10_method_48_code 2 "FrameFerryModel" D cc L A t16 t32) (hr : meth.sig.returnType = (some .int)) (hlk : meth.locks = false) (hsz : sz = s.heap.size) {Q : Int32 → UI → UR → Prop} {I : UI} {R : UR} {x1 : Int32} {s0 : Int32} {H : Heap} {locs : List Loc} {ls : Array Slot} (V : uV s D cc L A J I R H locs) (hl : lv_has ls 2 [(0, .ref (A 80)), (1, .int x1)]) (h : wp_Mo_count_L16 Q I R x1 s0) : W p l e rm_Mo_count s m args below meth c H locs 0 0 (MQ below (va_Qi (fun (r : Int32) (u : UI × UR) => Q r u.1 u.2) (uBv D cc L A J) (uA L A sz)) args s 0 0 (uA L A sz)) (F0 m 16 ls [.int s0, .ref (A 80)]) := by
  have hx := X.1
  have hb := X.2.1
  unfold wp_Mo_count_L16 at h
  refine u_cVi (pc := 16) (As := [.int s0]) X V s_Mo_92 (X.fix rfl) rfl rfl rfl (c_Mo_refused l D cc L A J t16 t32 _ _ s0 _ h) ⟨rfl, rfl, Nat.le_of_ble_eq_true rfl, Nat.le_of_ble_eq_true rfl⟩ rfl hl.1 rfl (Nat.le_of_ble_eq_true rfl) d_Mo_count_16 ⟨Nat.zero_le _, Nat.zero_le _⟩ (fun r6 I4 R5 h H locs V => ?_)
  refine lv_if_eq (pc := 19) (tgt := 24) hx hb d_Mo_count_19 (by decide) (fun hc => ?_) (fun hc => ?_)
  · have h := h.1 hc
    refine lv_iload_n (pc := 24) hx hb d_Mo_count_24 rfl (lv_at hl 1 rfl) ?_
    refine lv_topi (fun v7 ev7 => ?_)
    have h := h v7 ev7
    by_cases hn0 : v7 = 0
    · have h := h.1 hn0
      rw [hn0]
      refine lv_tableIn (pc := 25) (tgt := 72) (off := 47) hx hb d_Mo_count_25 (by decide) (by decide) rfl (by decide) ?_
      refine lv_aload_n (pc := 72) hx hb d_Mo_count_72 rfl (lv_at hl 0 rfl) ?_
      refine u_geti (pc := 73) X V (X.fix rfl) rfl rfl f_Mo_57 rfl d_Mo_count_73 ?_
      exact u_reti (pc := 76) X V hr hlk hsz h d_Mo_count_76
    · have h := h.2 hn0
      by_cases hn1 : v7 = 1
      · have h := h.1 hn1
        rw [hn1]
        refine lv_tableIn (pc := 25) (tgt := 77) (off := 52) hx hb d_Mo_count_25 (by decide) (by decide) rfl (by decide) ?_
        refine lv_aload_n (pc := 77) hx hb d_Mo_count_77 rfl (lv_at hl 0 rfl) ?_
        refine u_geti (pc := 78) X V (X.fix rfl) rfl rfl f_Mo_96 rfl d_Mo_count_78 ?_
        exact u_reti (pc := 81) X V hr hlk hsz h d_Mo_count_81
      · have h := h.2 hn1
        by_cases hn2 : v7 = 2
        · have h := h.1 hn2
          rw [hn2]
          refine lv_tableIn (pc := 25) (tgt := 82) (off := 57) hx hb d_Mo_count_25 (by decide) (by decide) rfl (by decide) ?_
          refine lv_aload_n (pc := 82) hx hb d_Mo_count_82 rfl (lv_at hl 0 rfl) ?_
          refine u_geti (pc := 83) X V (X.fix rfl) rfl rfl f_Mo_99 rfl d_Mo_count_83 ?_
          exact u_reti (pc := 86) X V hr hlk hsz h d_Mo_count_86
        · have h := h.2 hn2
          by_cases hn3 : v7 = 3
          · have h := h.1 hn3
            rw [hn3]
            refine lv_tableIn (pc := 25) (tgt := 87) (off := 62) hx hb d_Mo_count_25 (by decide) (by decide) rfl (by decide) ?_
            refine lv_aload_n (pc := 87) hx hb d_Mo_count_87 rfl (lv_at hl 0 rfl) ?_
            refine u_geti (pc := 88) X V (X.fix rfl) rfl rfl f_Mo_72 rfl d_Mo_count_88 ?_
            refine lv_if_eq (pc := 91) (tgt := 98) hx hb d_Mo_count_91 (by decide) (fun hc => ?_) (fun hc => ?_)
            · have h := h.1 hc
              refine lv_iconst (pc := 98) (v := 0) hx hb d_Mo_count_98 (by decide) ?_
              exact u_reti (pc := 99) X V hr hlk hsz h d_Mo_count_99
            · have h := h.2 hc
              refine lv_iconst (pc := 94) (v := 1) hx hb d_Mo_count_94 (by decide) ?_
              refine lv_goto (pc := 95) (tgt := 99) hx hb d_Mo_count_95 (by decide) ?_
              exact u_reti (pc := 99) X V hr hlk hsz h d_Mo_count_99
          · have h := h.2 hn3
            by_cases hn4 : v7 = 4
            · have h := h.1 hn4
              rw [hn4]
              refine lv_tableIn (pc := 25) (tgt := 100) (off := 75) hx hb d_Mo_count_25 (by decide) (by decide) rfl (by decide) ?_
              refine lv_aload_n (pc := 100) hx hb d_Mo_count_100 rfl (lv_at hl 0 rfl) ?_
              refine u_geti (pc := 101) X V (X.fix rfl) rfl rfl f_Mo_69 rfl d_Mo_count_101 ?_
              exact u_reti (pc := 104) X V hr hlk hsz h d_Mo_count_104
            · have h := h.2 hn4
              by_cases hn5 : v7 = 5
              · have h := h.1 hn5
                rw [hn5]
                refine lv_tableIn (pc := 25) (tgt := 105) (off := 80) hx hb d_Mo_count_25 (by decide) (by decide) rfl (by decide) ?_
                refine lv_aload_n (pc := 105) hx hb d_Mo_count_105 rfl (lv_at hl 0 rfl) ?_
                refine u_geti (pc := 106) X V (X.fix rfl) rfl rfl f_Mo_69 rfl d_Mo_count_106 ?_
                refine lv_if_ge (pc := 109) (tgt := 116) hx hb d_Mo_count_109 (by decide) (fun hc => ?_) (fun hc => ?_)
                · have h := h.1 hc
                  refine lv_aload_n (pc := 116) hx hb d_Mo_count_116 rfl (lv_at hl 0 rfl) ?_
                  refine u_cVi (pc := 117) (As := []) X V s_Mo_198 (X.fix rfl) rfl rfl rfl (c_Mo_position l D cc L A J t16 t32 _ _  _ h) ⟨rfl, rfl, Nat.le_of_ble_eq_true rfl, Nat.le_of_ble_eq_true rfl⟩ rfl hl.1 rfl (Nat.le_of_ble_eq_true rfl) d_Mo_count_117 ⟨Nat.zero_le _, Nat.zero_le _⟩ (fun r10 I8 R9 h H locs V => ?_)
                  exact u_reti (pc := 120) X V hr hlk hsz h d_Mo_count_120
                · have h := h.2 hc
                  refine lv_iconst (pc := 112) (v := (-1)) hx hb d_Mo_count_112 (by decide) ?_
                  refine lv_goto (pc := 113) (tgt := 120) hx hb d_Mo_count_113 (by decide) ?_
                  exact u_reti (pc := 120) X V hr hlk hsz h d_Mo_count_120
              · have h := h.2 hn5
                by_cases hn6 : v7 = 6
                · have h := h.1 hn6
                  rw [hn6]
                  refine lv_tableIn (pc := 25) (tgt := 121) (off := 96) hx hb d_Mo_count_25 (by decide) (by decide) rfl (by decide) ?_
                  refine lv_aload_n (pc := 121) hx hb d_Mo_count_121 rfl (lv_at hl 0 rfl) ?_
                  refine u_getr (pc := 122) (o' := 82) X V (X.fix rfl) rfl rfl f_Mo_13 rfl rfl d_Mo_count_122 ?_
                  refine lv_iconst (pc := 125) (v := 1) hx hb d_Mo_count_125 (by decide) ?_
                  refine u_iald (pc := 126) X V (X.fix rfl) rfl rfl h.1 d_Mo_count_126 ?_
                  have h := h.2
                  exact u_reti (pc := 127) X V hr hlk hsz h d_Mo_count_127
                · have h := h.2 hn6
                  by_cases hn7 : v7 = 7
                  · have h := h.1 hn7
                    rw [hn7]
                    refine lv_tableIn (pc := 25) (tgt := 128) (off := 103) hx hb d_Mo_count_25 (by decide) (by decide) rfl (by decide) ?_
                    refine lv_aload_n (pc := 128) hx hb d_Mo_count_128 rfl (lv_at hl 0 rfl) ?_
                    refine u_getr (pc := 129) (o' := 82) X V (X.fix rfl) rfl rfl f_Mo_13 rfl rfl d_Mo_count_129 ?_
                    refine lv_iconst (pc := 132) (v := 0) hx hb d_Mo_count_132 (by decide) ?_
                    refine u_iald (pc := 133) X V (X.fix rfl) rfl rfl h.1 d_Mo_count_133 ?_
                    have h := h.2
                    exact u_reti (pc := 134) X V hr hlk hsz h d_Mo_count_134
                  · have h := h.2 hn7
                    have hd0 := nr_ok (a := 0) hn0 rfl
                    have hd1 := nr_ok (a := 1) hn1 rfl
                    have hd2 := nr_ok (a := 2) hn2 rfl
                    have hd3 := nr_ok (a := 3) hn3 rfl
                    have hd4 := nr_ok (a := 4) hn4 rfl
                    have hd5 := nr_ok (a := 5) hn5 rfl
                    have hd6 := nr_ok (a := 6) hn6 rfl
                    have hd7 := nr_ok (a := 7) hn7 rfl
                    refine lv_tableOut (pc := 25) (tgt := 135) hx hb d_Mo_count_25 (by omega) (by decide) ?_
                    refine lv_aload_n (pc := 135) hx hb d_Mo_count_135 rfl (lv_at hl 0 rfl) ?_
                    refine u_getr (pc := 136) (o' := 108) X V (X.fix rfl) rfl rfl f_Mo_76 rfl rfl d_Mo_count_136 ?_
                    refine lv_iload_n (pc := 139) hx hb d_Mo_count_139 rfl (lv_at hl 1 rfl) ?_
                    refine lv_bipush (pc := 140) (v := 8) hx hb d_Mo_count_140 (by decide) ?_
                    refine lv_isub (pc := 142) hx hb d_Mo_count_142 ?_
                    refine u_iald (pc := 143) X V (X.fix rfl) rfl rfl h.1 d_Mo_count_143 ?_
                    have h := h.2
                    exact u_reti (pc := 144) X V hr hlk hsz h d_Mo_count_144
  · have h := h.2 hc
    refine lv_iconst (pc := 22) (v := 0) hx hb d_Mo_count_22 (by decide) ?_
    exact u_reti (pc := 23) X V hr hlk hsz h d_Mo_count_23
def wp_Mo_count (I : UI) (R : UR) (x1 : Int32) (Q : Int32 → UI → UR → Prop) : Prop :=
  wp_Mo_isIn I R x1 0 11 (fun r3 I1 R2 => ((r3 = 0 → wp_Mo_count_L16 Q I1 R2 x1 1) ∧ (¬ r3 = 0 → wp_Mo_count_L16 Q I1 R2 x1 0)))
set_option maxHeartbeats 4000000 in
set_option maxRecDepth 100000 in
theorem c_Mo_count (l : Launch) (D : va_G) (cc : Nat → ClassId) (L : List Nat) (A : Nat → Nat) (J : Nat → Int64) (t16 t32 : Nat) (I : UI) (R : UR) (x1 : Int32) (Q : Int32 → UI → UR → Prop) (h : wp_Mo_count I R x1 Q) : uMi l y_Mo_count (.code y_Mo_count prog_10_method_48_code 2 (some .int)) rm_Mo_count [.ref (A 80), .int x1] D cc L A J t16 t32 I R Q := by
  intro sz
  refine u_entry (by decide) (Nat.le_of_ble_eq_true rfl) (fun p e s m args below meth c hsz X V hr hlk ls hl => ?_)
  have X : uX p s m args c prog_10_method_48_code 2 "FrameFerryModel" D cc L A t16 t32 := X
  have hx := X.1
  have hb := X.2.1
  have hl : lv_has ls 2 [(0, .ref (A 80)), (1, .int x1)] := hl
  unfold wp_Mo_count at h
  generalize hH : s.heap = H at V ⊢
  generalize hlo : ([] : List Loc) = locs at V ⊢
  refine lv_aload_n (pc := 0) hx hb d_Mo_count_0 rfl (lv_at hl 0 rfl) ?_
  refine lv_iload_n (pc := 1) hx hb d_Mo_count_1 rfl (lv_at hl 1 rfl) ?_
  refine lv_iconst (pc := 2) (v := 0) hx hb d_Mo_count_2 (by decide) ?_
  refine lv_bipush (pc := 3) (v := 11) hx hb d_Mo_count_3 (by decide) ?_
  refine u_cSi (pc := 5) (As := [.int x1, .int 0, .int 11]) X V s_Mo_85 (c_Mo_isIn l D cc L A J t16 t32 _ _ x1 0 11 _ h) ⟨rfl, rfl, Nat.le_of_ble_eq_true rfl, Nat.le_of_ble_eq_true rfl⟩ rfl hl.1 rfl (Nat.le_of_ble_eq_true rfl) d_Mo_count_5 ⟨Nat.zero_le _, Nat.zero_le _⟩ (fun r3 I1 R2 h H locs V => ?_)
  refine lv_if_eq (pc := 8) (tgt := 15) hx hb d_Mo_count_8 (by decide) (fun hc => ?_) (fun hc => ?_)
  · have h := h.1 hc
    refine lv_iconst (pc := 15) (v := 1) hx hb d_Mo_count_15 (by decide) ?_
    exact j_Mo_count_16 X hr hlk hsz V (lv_sub hl [0, 1] rfl) h
  · have h := h.2 hc
    refine lv_iconst (pc := 11) (v := 0) hx hb d_Mo_count_11 (by decide) ?_
    refine lv_goto (pc := 12) (tgt := 16) hx hb d_Mo_count_12 (by decide) ?_
    exact j_Mo_count_16 X hr hlk hsz V (lv_sub hl [0, 1] rfl) h
end G
