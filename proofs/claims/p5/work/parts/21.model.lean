/-! Written by wip/gen/gen.py. -/
theorem s_Mo_134 : uCv "FrameFerryModel" 134 y_Mo_sendBytes 2 (.code y_Mo_sendBytes prog_10_method_16_code 4 none) := ⟨⟨tb_of 865 (by decide +kernel) rfl, tb_of 8 (by decide +kernel) rfl, tb_of 868 (by decide +kernel) rfl, by decide +kernel⟩, tb_of 867 (by decide +kernel) rfl, tb_sel 32 (by decide +kernel) rfl⟩
theorem f_Mo_96 : uF "FrameFerryModel" 96 8 18 false .int := ⟨R_Mo, T_Mo, 32, ty_Mo, rfl, by decide, tb_of 718 (by decide +kernel) rfl, l_Mo, ty_Mo_ok, n_Mo, rfl, rfl⟩
theorem s_Mo_137 : uCv "FrameFerryModel" 137 y_Mo_sendPacket 2 (.code y_Mo_sendPacket prog_10_method_17_code 4 none) := ⟨⟨tb_of 873 (by decide +kernel) rfl, tb_of 8 (by decide +kernel) rfl, tb_of 876 (by decide +kernel) rfl, by decide +kernel⟩, tb_of 875 (by decide +kernel) rfl, tb_sel 34 (by decide +kernel) rfl⟩
theorem s_Mo_140 : uCv "FrameFerryModel" 140 y_Mo_sendHex 3 (.code y_Mo_sendHex prog_10_method_15_code 5 none) := ⟨⟨tb_of 834 (by decide +kernel) rfl, tb_of 8 (by decide +kernel) rfl, tb_of 837 (by decide +kernel) rfl, by decide +kernel⟩, tb_of 836 (by decide +kernel) rfl, tb_sel 27 (by decide +kernel) rfl⟩
theorem s_Mo_144 : uCv "FrameFerryModel" 144 y_Mo_sendFile 0 (.code y_Mo_sendFile prog_10_method_18_code 1 none) := ⟨⟨tb_of 861 (by decide +kernel) rfl, tb_of 8 (by decide +kernel) rfl, tb_of 864 (by decide +kernel) rfl, by decide +kernel⟩, tb_of 863 (by decide +kernel) rfl, tb_sel 31 (by decide +kernel) rfl⟩
theorem f_Mo_99 : uF "FrameFerryModel" 99 8 19 false .int := ⟨R_Mo, T_Mo, 32, ty_Mo, rfl, by decide, tb_of 719 (by decide +kernel) rfl, l_Mo, ty_Mo_ok, n_Mo, rfl, rfl⟩
theorem f_Mo_89 : uF "FrameFerryModel" 89 8 13 false .int := ⟨R_Mo, T_Mo, 32, ty_Mo, rfl, by decide, tb_of 713 (by decide +kernel) rfl, l_Mo, ty_Mo_ok, n_Mo, rfl, rfl⟩
theorem s_Mo_147 : uCv "FrameFerryModel" 147 y_Mo_again 0 (.code y_Mo_again prog_10_method_19_code 1 none) := ⟨⟨tb_of 830 (by decide +kernel) rfl, tb_of 8 (by decide +kernel) rfl, tb_of 833 (by decide +kernel) rfl, by decide +kernel⟩, tb_of 832 (by decide +kernel) rfl, tb_sel 26 (by decide +kernel) rfl⟩
theorem f_Mo_150 : uF "FrameFerryModel" 150 8 20 false .boolean := ⟨R_Mo, T_Mo, 32, ty_Mo, rfl, by decide, tb_of 720 (by decide +kernel) rfl, l_Mo, ty_Mo_ok, n_Mo, rfl, rfl⟩
theorem s_Mo_85 : uCt "FrameFerryModel" 85 y_Mo_isIn 3 (.code y_Mo_isIn prog_10_method_4_code 3 (some .boolean)) := ⟨⟨tb_of 807 (by decide +kernel) rfl, tb_of 8 (by decide +kernel) rfl, tb_of 809 (by decide +kernel) rfl, by decide +kernel⟩, tb_of 808 (by decide +kernel) rfl⟩
theorem s_Mo_153 : uCv "FrameFerryModel" 153 y_Mo_begin 2 (.code y_Mo_begin prog_10_method_22_code 3 none) := ⟨⟨tb_of 826 (by decide +kernel) rfl, tb_of 8 (by decide +kernel) rfl, tb_of 829 (by decide +kernel) rfl, by decide +kernel⟩, tb_of 828 (by decide +kernel) rfl, tb_sel 25 (by decide +kernel) rfl⟩
theorem s_Mo_198 : uCv "FrameFerryModel" 198 y_Mo_position 0 (.code y_Mo_position prog_10_method_31_code 1 (some .int)) := ⟨⟨tb_of 904 (by decide +kernel) rfl, tb_of 8 (by decide +kernel) rfl, tb_of 907 (by decide +kernel) rfl, by decide +kernel⟩, tb_of 906 (by decide +kernel) rfl, tb_sel 40 (by decide +kernel) rfl⟩
theorem f_Mo_195 : uF "FrameFerryModel" 195 8 26 false .boolean := ⟨R_Mo, T_Mo, 32, ty_Mo, rfl, by decide, tb_of 726 (by decide +kernel) rfl, l_Mo, ty_Mo_ok, n_Mo, rfl, rfl⟩
theorem f_Mo_189 : uF "FrameFerryModel" 189 8 31 false .boolean := ⟨R_Mo, T_Mo, 32, ty_Mo, rfl, by decide, tb_of 731 (by decide +kernel) rfl, l_Mo, ty_Mo_ok, n_Mo, rfl, rfl⟩
theorem s_Mo_202 : uCv "FrameFerryModel" 202 y_Mo_answer 1 (.code y_Mo_answer prog_10_method_32_code 2 none) := ⟨⟨tb_of 908 (by decide +kernel) rfl, tb_of 8 (by decide +kernel) rfl, tb_of 911 (by decide +kernel) rfl, by decide +kernel⟩, tb_of 910 (by decide +kernel) rfl, tb_sel 41 (by decide +kernel) rfl⟩
theorem s_Mo_205 : uCv "FrameFerryModel" 205 y_Mo_told 1 (.code y_Mo_told prog_10_method_36_code 3 none) := ⟨⟨tb_of 940 (by decide +kernel) rfl, tb_of 8 (by decide +kernel) rfl, tb_of 943 (by decide +kernel) rfl, by decide +kernel⟩, tb_of 942 (by decide +kernel) rfl, tb_sel 49 (by decide +kernel) rfl⟩
theorem s_Mo_208 : uCv "FrameFerryModel" 208 y_Mo_nextFile 1 (.code y_Mo_nextFile prog_10_method_20_code 2 none) := ⟨⟨tb_of 916 (by decide +kernel) rfl, tb_of 8 (by decide +kernel) rfl, tb_of 919 (by decide +kernel) rfl, by decide +kernel⟩, tb_of 918 (by decide +kernel) rfl, tb_sel 43 (by decide +kernel) rfl⟩
section G
variable {p : Program} {l : Launch} {e : Env} {s : State} {m : MethodId} {args : Array Value} {below : List Frame} {meth : Method} {c : Code} {D : va_G} {cc : Nat → ClassId} {L L0 : List Nat} {A A0 : Nat → Nat} {J : Nat → Int64} {t16 t32 sz : Nat}
-- FrameFerryModel.sendFile ()V
theorem d_Mo_sendFile_0 : decode prog_10_method_18_code 0 = .ok (.aload_n 0, 1) := by decide +kernel
theorem d_Mo_sendFile_1 : decode prog_10_method_18_code 1 = .ok (.iconst 4, 1) := by decide +kernel
theorem d_Mo_sendFile_2 : decode prog_10_method_18_code 2 = .ok (.iconst 0, 1) := by decide +kernel
theorem d_Mo_sendFile_3 : decode prog_10_method_18_code 3 = .ok (.invokevirtual 134, 3) := by decide +kernel
theorem d_Mo_sendFile_6 : decode prog_10_method_18_code 6 = .ok (.aload_n 0, 1) := by decide +kernel
theorem d_Mo_sendFile_7 : decode prog_10_method_18_code 7 = .ok (.getfield 79, 3) := by decide +kernel
theorem d_Mo_sendFile_10 : decode prog_10_method_18_code 10 = .ok (.iconst 0, 1) := by decide +kernel
theorem d_Mo_sendFile_11 : decode prog_10_method_18_code 11 = .ok (.bipush 97, 2) := by decide +kernel
theorem d_Mo_sendFile_13 : decode prog_10_method_18_code 13 = .ok (.aload_n 0, 1) := by decide +kernel
theorem d_Mo_sendFile_14 : decode prog_10_method_18_code 14 = .ok (.getfield 48, 3) := by decide +kernel
theorem d_Mo_sendFile_17 : decode prog_10_method_18_code 17 = .ok (.aload_n 0, 1) := by decide +kernel
theorem d_Mo_sendFile_18 : decode prog_10_method_18_code 18 = .ok (.getfield 96, 3) := by decide +kernel
theorem d_Mo_sendFile_21 : decode prog_10_method_18_code 21 = .ok (.iaload, 1) := by decide +kernel
theorem d_Mo_sendFile_22 : decode prog_10_method_18_code 22 = .ok (.iadd, 1) := by decide +kernel
theorem d_Mo_sendFile_23 : decode prog_10_method_18_code 23 = .ok (.iastore, 1) := by decide +kernel
theorem d_Mo_sendFile_24 : decode prog_10_method_18_code 24 = .ok (.aload_n 0, 1) := by decide +kernel
theorem d_Mo_sendFile_25 : decode prog_10_method_18_code 25 = .ok (.getfield 79, 3) := by decide +kernel
theorem d_Mo_sendFile_28 : decode prog_10_method_18_code 28 = .ok (.iconst 1, 1) := by decide +kernel
theorem d_Mo_sendFile_29 : decode prog_10_method_18_code 29 = .ok (.aload_n 0, 1) := by decide +kernel
theorem d_Mo_sendFile_30 : decode prog_10_method_18_code 30 = .ok (.getfield 51, 3) := by decide +kernel
theorem d_Mo_sendFile_33 : decode prog_10_method_18_code 33 = .ok (.aload_n 0, 1) := by decide +kernel
theorem d_Mo_sendFile_34 : decode prog_10_method_18_code 34 = .ok (.getfield 96, 3) := by decide +kernel
theorem d_Mo_sendFile_37 : decode prog_10_method_18_code 37 = .ok (.iaload, 1) := by decide +kernel
theorem d_Mo_sendFile_38 : decode prog_10_method_18_code 38 = .ok (.bipush 8, 2) := by decide +kernel
theorem d_Mo_sendFile_40 : decode prog_10_method_18_code 40 = .ok (.ishr, 1) := by decide +kernel
theorem d_Mo_sendFile_41 : decode prog_10_method_18_code 41 = .ok (.iastore, 1) := by decide +kernel
theorem d_Mo_sendFile_42 : decode prog_10_method_18_code 42 = .ok (.aload_n 0, 1) := by decide +kernel
theorem d_Mo_sendFile_43 : decode prog_10_method_18_code 43 = .ok (.getfield 79, 3) := by decide +kernel
theorem d_Mo_sendFile_46 : decode prog_10_method_18_code 46 = .ok (.iconst 2, 1) := by decide +kernel
theorem d_Mo_sendFile_47 : decode prog_10_method_18_code 47 = .ok (.aload_n 0, 1) := by decide +kernel
theorem d_Mo_sendFile_48 : decode prog_10_method_18_code 48 = .ok (.getfield 51, 3) := by decide +kernel
theorem d_Mo_sendFile_51 : decode prog_10_method_18_code 51 = .ok (.aload_n 0, 1) := by decide +kernel
theorem d_Mo_sendFile_52 : decode prog_10_method_18_code 52 = .ok (.getfield 96, 3) := by decide +kernel
theorem d_Mo_sendFile_55 : decode prog_10_method_18_code 55 = .ok (.iaload, 1) := by decide +kernel
theorem d_Mo_sendFile_56 : decode prog_10_method_18_code 56 = .ok (.sipush 255, 3) := by decide +kernel
theorem d_Mo_sendFile_59 : decode prog_10_method_18_code 59 = .ok (.iand, 1) := by decide +kernel
theorem d_Mo_sendFile_60 : decode prog_10_method_18_code 60 = .ok (.iastore, 1) := by decide +kernel
theorem d_Mo_sendFile_61 : decode prog_10_method_18_code 61 = .ok (.aload_n 0, 1) := by decide +kernel
theorem d_Mo_sendFile_62 : decode prog_10_method_18_code 62 = .ok (.iconst 3, 1) := by decide +kernel
theorem d_Mo_sendFile_63 : decode prog_10_method_18_code 63 = .ok (.bipush 107, 2) := by decide +kernel
theorem d_Mo_sendFile_65 : decode prog_10_method_18_code 65 = .ok (.invokevirtual 137, 3) := by decide +kernel
theorem d_Mo_sendFile_68 : decode prog_10_method_18_code 68 = .ok (.return_, 1) := by decide +kernel
def rm_Mo_sendFile : Room := { frames := 3, cells := 0, slots := 0, locals := 73 }
def wp_Mo_sendFile (I : UI) (R : UR) (Q : UI → UR → Prop) : Prop :=
  wp_Mo_sendBytes I R 4 0 (fun I1 R2 => vp_in (I1 80 18) 4 ∧ vp_in 0 160 ∧ ∀ I3 : UI, I3 = u2 I1 110 ((0 : Int32).toNatClampNeg) (97 + (I1 94 (I1 80 18).toNatClampNeg)) → vp_in (I3 80 18) 4 ∧ vp_in 1 160 ∧ ∀ I4 : UI, I4 = u2 I3 110 ((1 : Int32).toNatClampNeg) ((I3 95 (I3 80 18).toNatClampNeg) >>> (8 &&& 31)) → vp_in (I4 80 18) 4 ∧ vp_in 2 160 ∧ ∀ I5 : UI, I5 = u2 I4 110 ((2 : Int32).toNatClampNeg) ((I4 95 (I4 80 18).toNatClampNeg) &&& 255) → wp_Mo_sendPacket I5 R2 3 107 (fun I6 R7 => Q I6 R7))
set_option maxHeartbeats 4000000 in
set_option maxRecDepth 100000 in
theorem c_Mo_sendFile (l : Launch) (D : va_G) (cc : Nat → ClassId) (L : List Nat) (A : Nat → Nat) (J : Nat → Int64) (t16 t32 : Nat) (I : UI) (R : UR) (Q : UI → UR → Prop) (h : wp_Mo_sendFile I R Q) : uMv l y_Mo_sendFile (.code y_Mo_sendFile prog_10_method_18_code 1 none) rm_Mo_sendFile [.ref (A 80)] D cc L A J t16 t32 I R Q := by
  intro sz
  refine u_entry (by decide) (Nat.le_of_ble_eq_true rfl) (fun p e s m args below meth c hsz X V hr hlk ls hl => ?_)
  have X : uX p s m args c prog_10_method_18_code 1 "FrameFerryModel" D cc L A t16 t32 := X
  have hx := X.1
  have hb := X.2.1
  have hl : lv_has ls 1 [(0, .ref (A 80))] := hl
  unfold wp_Mo_sendFile at h
  generalize hH : s.heap = H at V ⊢
  generalize hlo : ([] : List Loc) = locs at V ⊢
  refine lv_aload_n (pc := 0) hx hb d_Mo_sendFile_0 rfl (lv_at hl 0 rfl) ?_
  refine lv_iconst (pc := 1) (v := 4) hx hb d_Mo_sendFile_1 (by decide) ?_
  refine lv_iconst (pc := 2) (v := 0) hx hb d_Mo_sendFile_2 (by decide) ?_
  refine u_cVv (pc := 3) (As := [.int 4, .int 0]) X V s_Mo_134 (X.fix rfl) rfl rfl rfl (c_Mo_sendBytes l D cc L A J t16 t32 _ _ 4 0 _ h) ⟨rfl, rfl, Nat.le_of_ble_eq_true rfl, Nat.le_of_ble_eq_true rfl⟩ rfl hl.1 rfl (Nat.le_of_ble_eq_true rfl) d_Mo_sendFile_3 ⟨Nat.zero_le _, Nat.zero_le _⟩ (fun I1 R2 h H locs V => ?_)
  refine lv_aload_n (pc := 6) hx hb d_Mo_sendFile_6 rfl (lv_at hl 0 rfl) ?_
  refine u_getr (pc := 7) (o' := 110) X V (X.fix rfl) rfl rfl f_Mo_79 rfl rfl d_Mo_sendFile_7 ?_
  refine lv_iconst (pc := 10) (v := 0) hx hb d_Mo_sendFile_10 (by decide) ?_
  refine lv_bipush (pc := 11) (v := 97) hx hb d_Mo_sendFile_11 (by decide) ?_
  refine lv_aload_n (pc := 13) hx hb d_Mo_sendFile_13 rfl (lv_at hl 0 rfl) ?_
  refine u_getr (pc := 14) (o' := 94) X V (X.fix rfl) rfl rfl f_Mo_48 rfl rfl d_Mo_sendFile_14 ?_
  refine lv_aload_n (pc := 17) hx hb d_Mo_sendFile_17 rfl (lv_at hl 0 rfl) ?_
  refine u_geti (pc := 18) X V (X.fix rfl) rfl rfl f_Mo_96 rfl d_Mo_sendFile_18 ?_
  refine u_iald (pc := 21) X V (X.fix rfl) rfl rfl h.1 d_Mo_sendFile_21 ?_
  have h := h.2
  refine lv_iadd (pc := 22) hx hb d_Mo_sendFile_22 ?_
  refine u_iast (pc := 23) X V (X.fix rfl) rfl rfl h.1 d_Mo_sendFile_23 (fun I3 eI3 H locs V => ?_)
  have h := h.2 I3 eI3
  refine lv_aload_n (pc := 24) hx hb d_Mo_sendFile_24 rfl (lv_at hl 0 rfl) ?_
  refine u_getr (pc := 25) (o' := 110) X V (X.fix rfl) rfl rfl f_Mo_79 rfl rfl d_Mo_sendFile_25 ?_
  refine lv_iconst (pc := 28) (v := 1) hx hb d_Mo_sendFile_28 (by decide) ?_
  refine lv_aload_n (pc := 29) hx hb d_Mo_sendFile_29 rfl (lv_at hl 0 rfl) ?_
  refine u_getr (pc := 30) (o' := 95) X V (X.fix rfl) rfl rfl f_Mo_51 rfl rfl d_Mo_sendFile_30 ?_
  refine lv_aload_n (pc := 33) hx hb d_Mo_sendFile_33 rfl (lv_at hl 0 rfl) ?_
  refine u_geti (pc := 34) X V (X.fix rfl) rfl rfl f_Mo_96 rfl d_Mo_sendFile_34 ?_
  refine u_iald (pc := 37) X V (X.fix rfl) rfl rfl h.1 d_Mo_sendFile_37 ?_
  have h := h.2
  refine lv_bipush (pc := 38) (v := 8) hx hb d_Mo_sendFile_38 (by decide) ?_
  refine lv_ishr (pc := 40) hx hb d_Mo_sendFile_40 ?_
  refine u_iast (pc := 41) X V (X.fix rfl) rfl rfl h.1 d_Mo_sendFile_41 (fun I4 eI4 H locs V => ?_)
  have h := h.2 I4 eI4
  refine lv_aload_n (pc := 42) hx hb d_Mo_sendFile_42 rfl (lv_at hl 0 rfl) ?_
  refine u_getr (pc := 43) (o' := 110) X V (X.fix rfl) rfl rfl f_Mo_79 rfl rfl d_Mo_sendFile_43 ?_
  refine lv_iconst (pc := 46) (v := 2) hx hb d_Mo_sendFile_46 (by decide) ?_
  refine lv_aload_n (pc := 47) hx hb d_Mo_sendFile_47 rfl (lv_at hl 0 rfl) ?_
  refine u_getr (pc := 48) (o' := 95) X V (X.fix rfl) rfl rfl f_Mo_51 rfl rfl d_Mo_sendFile_48 ?_
  refine lv_aload_n (pc := 51) hx hb d_Mo_sendFile_51 rfl (lv_at hl 0 rfl) ?_
  refine u_geti (pc := 52) X V (X.fix rfl) rfl rfl f_Mo_96 rfl d_Mo_sendFile_52 ?_
  refine u_iald (pc := 55) X V (X.fix rfl) rfl rfl h.1 d_Mo_sendFile_55 ?_
  have h := h.2
  refine lv_sipush (pc := 56) (v := 255) hx hb d_Mo_sendFile_56 (by decide) ?_
  refine lv_iand (pc := 59) hx hb d_Mo_sendFile_59 ?_
  refine u_iast (pc := 60) X V (X.fix rfl) rfl rfl h.1 d_Mo_sendFile_60 (fun I5 eI5 H locs V => ?_)
  have h := h.2 I5 eI5
  refine lv_aload_n (pc := 61) hx hb d_Mo_sendFile_61 rfl (lv_at hl 0 rfl) ?_
  refine lv_iconst (pc := 62) (v := 3) hx hb d_Mo_sendFile_62 (by decide) ?_
  refine lv_bipush (pc := 63) (v := 107) hx hb d_Mo_sendFile_63 (by decide) ?_
  refine u_cVv (pc := 65) (As := [.int 3, .int 107]) X V s_Mo_137 (X.fix rfl) rfl rfl rfl (c_Mo_sendPacket l D cc L A J t16 t32 _ _ 3 107 _ h) ⟨rfl, rfl, Nat.le_of_ble_eq_true rfl, Nat.le_of_ble_eq_true rfl⟩ rfl hl.1 rfl (Nat.le_of_ble_eq_true rfl) d_Mo_sendFile_65 ⟨Nat.zero_le _, Nat.zero_le _⟩ (fun I6 R7 h H locs V => ?_)
  exact u_retv (pc := 68) X V hr hlk hsz h d_Mo_sendFile_68
-- FrameFerryModel.again ()V
theorem d_Mo_again_0 : decode prog_10_method_19_code 0 = .ok (.aload_n 0, 1) := by decide +kernel
theorem d_Mo_again_1 : decode prog_10_method_19_code 1 = .ok (.getfield 57, 3) := by decide +kernel
theorem d_Mo_again_4 : decode prog_10_method_19_code 4 = .ok (.tableswitch 82 0 4 #[36, 46, 82, 53, 71], 36) := by decide +kernel
theorem d_Mo_again_40 : decode prog_10_method_19_code 40 = .ok (.aload_n 0, 1) := by decide +kernel
theorem d_Mo_again_41 : decode prog_10_method_19_code 41 = .ok (.iconst 1, 1) := by decide +kernel
theorem d_Mo_again_42 : decode prog_10_method_19_code 42 = .ok (.iconst 0, 1) := by decide +kernel
theorem d_Mo_again_43 : decode prog_10_method_19_code 43 = .ok (.iconst 0, 1) := by decide +kernel
theorem d_Mo_again_44 : decode prog_10_method_19_code 44 = .ok (.invokevirtual 140, 3) := by decide +kernel
theorem d_Mo_again_47 : decode prog_10_method_19_code 47 = .ok (.goto 39, 3) := by decide +kernel
theorem d_Mo_again_50 : decode prog_10_method_19_code 50 = .ok (.aload_n 0, 1) := by decide +kernel
theorem d_Mo_again_51 : decode prog_10_method_19_code 51 = .ok (.invokevirtual 144, 3) := by decide +kernel
theorem d_Mo_again_54 : decode prog_10_method_19_code 54 = .ok (.goto 32, 3) := by decide +kernel
theorem d_Mo_again_57 : decode prog_10_method_19_code 57 = .ok (.aload_n 0, 1) := by decide +kernel
theorem d_Mo_again_58 : decode prog_10_method_19_code 58 = .ok (.bipush 11, 2) := by decide +kernel
theorem d_Mo_again_60 : decode prog_10_method_19_code 60 = .ok (.aload_n 0, 1) := by decide +kernel
theorem d_Mo_again_61 : decode prog_10_method_19_code 61 = .ok (.getfield 51, 3) := by decide +kernel
theorem d_Mo_again_64 : decode prog_10_method_19_code 64 = .ok (.aload_n 0, 1) := by decide +kernel
theorem d_Mo_again_65 : decode prog_10_method_19_code 65 = .ok (.getfield 96, 3) := by decide +kernel
theorem d_Mo_again_68 : decode prog_10_method_19_code 68 = .ok (.iaload, 1) := by decide +kernel
theorem d_Mo_again_69 : decode prog_10_method_19_code 69 = .ok (.invokevirtual 134, 3) := by decide +kernel
theorem d_Mo_again_72 : decode prog_10_method_19_code 72 = .ok (.goto 14, 3) := by decide +kernel
theorem d_Mo_again_75 : decode prog_10_method_19_code 75 = .ok (.aload_n 0, 1) := by decide +kernel
theorem d_Mo_again_76 : decode prog_10_method_19_code 76 = .ok (.iconst 1, 1) := by decide +kernel
theorem d_Mo_again_77 : decode prog_10_method_19_code 77 = .ok (.bipush 8, 2) := by decide +kernel
theorem d_Mo_again_79 : decode prog_10_method_19_code 79 = .ok (.iconst 0, 1) := by decide +kernel
theorem d_Mo_again_80 : decode prog_10_method_19_code 80 = .ok (.invokevirtual 140, 3) := by decide +kernel
theorem d_Mo_again_83 : decode prog_10_method_19_code 83 = .ok (.goto 3, 3) := by decide +kernel
theorem d_Mo_again_86 : decode prog_10_method_19_code 86 = .ok (.return_, 1) := by decide +kernel
def rm_Mo_again : Room := { frames := 4, cells := 0, slots := 0, locals := 93 }
def wp_Mo_again (I : UI) (R : UR) (Q : UI → UR → Prop) : Prop :=
  ∀ v1 : Int32, v1 = I 80 17 → ((v1 = 0 → wp_Mo_sendHex I R 1 0 0 (fun I2 R3 => Q I2 R3)) ∧ (¬ v1 = 0 → ((v1 = 1 → wp_Mo_sendFile I R (fun I4 R5 => Q I4 R5)) ∧ (¬ v1 = 1 → ((v1 = 2 → Q I R) ∧ (¬ v1 = 2 → ((v1 = 3 → vp_in (I 80 18) 4 ∧ wp_Mo_sendBytes I R 11 (I 95 (I 80 18).toNatClampNeg) (fun I6 R7 => Q I6 R7)) ∧ (¬ v1 = 3 → ((v1 = 4 → wp_Mo_sendHex I R 1 8 0 (fun I8 R9 => Q I8 R9)) ∧ (¬ v1 = 4 → Q I R))))))))))
set_option maxHeartbeats 4000000 in
set_option maxRecDepth 100000 in
theorem c_Mo_again (l : Launch) (D : va_G) (cc : Nat → ClassId) (L : List Nat) (A : Nat → Nat) (J : Nat → Int64) (t16 t32 : Nat) (I : UI) (R : UR) (Q : UI → UR → Prop) (h : wp_Mo_again I R Q) : uMv l y_Mo_again (.code y_Mo_again prog_10_method_19_code 1 none) rm_Mo_again [.ref (A 80)] D cc L A J t16 t32 I R Q := by
  intro sz
  refine u_entry (by decide) (Nat.le_of_ble_eq_true rfl) (fun p e s m args below meth c hsz X V hr hlk ls hl => ?_)
  have X : uX p s m args c prog_10_method_19_code 1 "FrameFerryModel" D cc L A t16 t32 := X
  have hx := X.1
  have hb := X.2.1
  have hl : lv_has ls 1 [(0, .ref (A 80))] := hl
  unfold wp_Mo_again at h
  generalize hH : s.heap = H at V ⊢
  generalize hlo : ([] : List Loc) = locs at V ⊢
  refine lv_aload_n (pc := 0) hx hb d_Mo_again_0 rfl (lv_at hl 0 rfl) ?_
  refine u_geti (pc := 1) X V (X.fix rfl) rfl rfl f_Mo_57 rfl d_Mo_again_1 ?_
  refine lv_topi (fun v1 ev1 => ?_)
  have h := h v1 ev1
  by_cases hn0 : v1 = 0
  · have h := h.1 hn0
    rw [hn0]
    refine lv_tableIn (pc := 4) (tgt := 40) (off := 36) hx hb d_Mo_again_4 (by decide) (by decide) rfl (by decide) ?_
    refine lv_aload_n (pc := 40) hx hb d_Mo_again_40 rfl (lv_at hl 0 rfl) ?_
    refine lv_iconst (pc := 41) (v := 1) hx hb d_Mo_again_41 (by decide) ?_
    refine lv_iconst (pc := 42) (v := 0) hx hb d_Mo_again_42 (by decide) ?_
    refine lv_iconst (pc := 43) (v := 0) hx hb d_Mo_again_43 (by decide) ?_
    refine u_cVv (pc := 44) (As := [.int 1, .int 0, .int 0]) X V s_Mo_140 (X.fix rfl) rfl rfl rfl (c_Mo_sendHex l D cc L A J t16 t32 _ _ 1 0 0 _ h) ⟨rfl, rfl, Nat.le_of_ble_eq_true rfl, Nat.le_of_ble_eq_true rfl⟩ rfl hl.1 rfl (Nat.le_of_ble_eq_true rfl) d_Mo_again_44 ⟨Nat.zero_le _, Nat.zero_le _⟩ (fun I2 R3 h H locs V => ?_)
    refine lv_goto (pc := 47) (tgt := 86) hx hb d_Mo_again_47 (by decide) ?_
    exact u_retv (pc := 86) X V hr hlk hsz h d_Mo_again_86
  · have h := h.2 hn0
    by_cases hn1 : v1 = 1
    · have h := h.1 hn1
      rw [hn1]
      refine lv_tableIn (pc := 4) (tgt := 50) (off := 46) hx hb d_Mo_again_4 (by decide) (by decide) rfl (by decide) ?_
      refine lv_aload_n (pc := 50) hx hb d_Mo_again_50 rfl (lv_at hl 0 rfl) ?_
      refine u_cVv (pc := 51) (As := []) X V s_Mo_144 (X.fix rfl) rfl rfl rfl (c_Mo_sendFile l D cc L A J t16 t32 _ _  _ h) ⟨rfl, rfl, Nat.le_of_ble_eq_true rfl, Nat.le_of_ble_eq_true rfl⟩ rfl hl.1 rfl (Nat.le_of_ble_eq_true rfl) d_Mo_again_51 ⟨Nat.zero_le _, Nat.zero_le _⟩ (fun I4 R5 h H locs V => ?_)
      refine lv_goto (pc := 54) (tgt := 86) hx hb d_Mo_again_54 (by decide) ?_
      exact u_retv (pc := 86) X V hr hlk hsz h d_Mo_again_86
    · have h := h.2 hn1
      by_cases hn2 : v1 = 2
      · have h := h.1 hn2
        rw [hn2]
        refine lv_tableIn (pc := 4) (tgt := 86) (off := 82) hx hb d_Mo_again_4 (by decide) (by decide) rfl (by decide) ?_
        exact u_retv (pc := 86) X V hr hlk hsz h d_Mo_again_86
      · have h := h.2 hn2
        by_cases hn3 : v1 = 3
        · have h := h.1 hn3
          rw [hn3]
          refine lv_tableIn (pc := 4) (tgt := 57) (off := 53) hx hb d_Mo_again_4 (by decide) (by decide) rfl (by decide) ?_
          refine lv_aload_n (pc := 57) hx hb d_Mo_again_57 rfl (lv_at hl 0 rfl) ?_
          refine lv_bipush (pc := 58) (v := 11) hx hb d_Mo_again_58 (by decide) ?_
          refine lv_aload_n (pc := 60) hx hb d_Mo_again_60 rfl (lv_at hl 0 rfl) ?_
          refine u_getr (pc := 61) (o' := 95) X V (X.fix rfl) rfl rfl f_Mo_51 rfl rfl d_Mo_again_61 ?_
          refine lv_aload_n (pc := 64) hx hb d_Mo_again_64 rfl (lv_at hl 0 rfl) ?_
          refine u_geti (pc := 65) X V (X.fix rfl) rfl rfl f_Mo_96 rfl d_Mo_again_65 ?_
          refine u_iald (pc := 68) X V (X.fix rfl) rfl rfl h.1 d_Mo_again_68 ?_
          have h := h.2
          refine u_cVv (pc := 69) (As := [.int 11, .int (I 95 (I 80 18).toNatClampNeg)]) X V s_Mo_134 (X.fix rfl) rfl rfl rfl (c_Mo_sendBytes l D cc L A J t16 t32 _ _ 11 (I 95 (I 80 18).toNatClampNeg) _ h) ⟨rfl, rfl, Nat.le_of_ble_eq_true rfl, Nat.le_of_ble_eq_true rfl⟩ rfl hl.1 rfl (Nat.le_of_ble_eq_true rfl) d_Mo_again_69 ⟨Nat.zero_le _, Nat.zero_le _⟩ (fun I6 R7 h H locs V => ?_)
          refine lv_goto (pc := 72) (tgt := 86) hx hb d_Mo_again_72 (by decide) ?_
          exact u_retv (pc := 86) X V hr hlk hsz h d_Mo_again_86
        · have h := h.2 hn3
          by_cases hn4 : v1 = 4
          · have h := h.1 hn4
            rw [hn4]
            refine lv_tableIn (pc := 4) (tgt := 75) (off := 71) hx hb d_Mo_again_4 (by decide) (by decide) rfl (by decide) ?_
            refine lv_aload_n (pc := 75) hx hb d_Mo_again_75 rfl (lv_at hl 0 rfl) ?_
            refine lv_iconst (pc := 76) (v := 1) hx hb d_Mo_again_76 (by decide) ?_
            refine lv_bipush (pc := 77) (v := 8) hx hb d_Mo_again_77 (by decide) ?_
            refine lv_iconst (pc := 79) (v := 0) hx hb d_Mo_again_79 (by decide) ?_
            refine u_cVv (pc := 80) (As := [.int 1, .int 8, .int 0]) X V s_Mo_140 (X.fix rfl) rfl rfl rfl (c_Mo_sendHex l D cc L A J t16 t32 _ _ 1 8 0 _ h) ⟨rfl, rfl, Nat.le_of_ble_eq_true rfl, Nat.le_of_ble_eq_true rfl⟩ rfl hl.1 rfl (Nat.le_of_ble_eq_true rfl) d_Mo_again_80 ⟨Nat.zero_le _, Nat.zero_le _⟩ (fun I8 R9 h H locs V => ?_)
            refine lv_goto (pc := 83) (tgt := 86) hx hb d_Mo_again_83 (by decide) ?_
            exact u_retv (pc := 86) X V hr hlk hsz h d_Mo_again_86
          · have h := h.2 hn4
            have hd0 := nr_ok (a := 0) hn0 rfl
            have hd1 := nr_ok (a := 1) hn1 rfl
            have hd2 := nr_ok (a := 2) hn2 rfl
            have hd3 := nr_ok (a := 3) hn3 rfl
            have hd4 := nr_ok (a := 4) hn4 rfl
            refine lv_tableOut (pc := 4) (tgt := 86) hx hb d_Mo_again_4 (by omega) (by decide) ?_
            exact u_retv (pc := 86) X V hr hlk hsz h d_Mo_again_86
-- FrameFerryModel.nextFile (I)V
theorem d_Mo_nextFile_0 : decode prog_10_method_20_code 0 = .ok (.aload_n 0, 1) := by decide +kernel
theorem d_Mo_nextFile_1 : decode prog_10_method_20_code 1 = .ok (.iload_n 1, 1) := by decide +kernel
theorem d_Mo_nextFile_2 : decode prog_10_method_20_code 2 = .ok (.putfield 96, 3) := by decide +kernel
theorem d_Mo_nextFile_5 : decode prog_10_method_20_code 5 = .ok (.aload_n 0, 1) := by decide +kernel
theorem d_Mo_nextFile_6 : decode prog_10_method_20_code 6 = .ok (.iconst 0, 1) := by decide +kernel
theorem d_Mo_nextFile_7 : decode prog_10_method_20_code 7 = .ok (.putfield 99, 3) := by decide +kernel
theorem d_Mo_nextFile_10 : decode prog_10_method_20_code 10 = .ok (.aload_n 0, 1) := by decide +kernel
theorem d_Mo_nextFile_11 : decode prog_10_method_20_code 11 = .ok (.iload_n 1, 1) := by decide +kernel
theorem d_Mo_nextFile_12 : decode prog_10_method_20_code 12 = .ok (.aload_n 0, 1) := by decide +kernel
theorem d_Mo_nextFile_13 : decode prog_10_method_20_code 13 = .ok (.getfield 89, 3) := by decide +kernel
theorem d_Mo_nextFile_16 : decode prog_10_method_20_code 16 = .ok (.if_icmp .ge 7, 3) := by decide +kernel
theorem d_Mo_nextFile_19 : decode prog_10_method_20_code 19 = .ok (.iconst 1, 1) := by decide +kernel
theorem d_Mo_nextFile_20 : decode prog_10_method_20_code 20 = .ok (.goto 4, 3) := by decide +kernel
theorem d_Mo_nextFile_23 : decode prog_10_method_20_code 23 = .ok (.iconst 4, 1) := by decide +kernel
theorem d_Mo_nextFile_24 : decode prog_10_method_20_code 24 = .ok (.putfield 57, 3) := by decide +kernel
theorem d_Mo_nextFile_27 : decode prog_10_method_20_code 27 = .ok (.aload_n 0, 1) := by decide +kernel
theorem d_Mo_nextFile_28 : decode prog_10_method_20_code 28 = .ok (.invokevirtual 147, 3) := by decide +kernel
theorem d_Mo_nextFile_31 : decode prog_10_method_20_code 31 = .ok (.return_, 1) := by decide +kernel
def rm_Mo_nextFile : Room := { frames := 5, cells := 0, slots := 0, locals := 113 }
def wp_Mo_nextFile_L24 (Q : UI → UR → Prop) (I : UI) (R : UR) (s0 : Int32) : Prop :=
  ∀ I3 : UI, I3 = u2 I 80 17 s0 → wp_Mo_again I3 R (fun I4 R5 => Q I4 R5)
set_option maxHeartbeats 4000000 in
set_option maxRecDepth 100000 in
theorem j_Mo_nextFile_24 (X : uX p s m args c prog_10_method_20_code 2 "FrameFerryModel" D cc L A t16 t32) (hr : meth.sig.returnType = none) (hlk : meth.locks = false) (hsz : sz = s.heap.size) {Q : UI → UR → Prop} {I : UI} {R : UR} {s0 : Int32} {H : Heap} {locs : List Loc} {ls : Array Slot} (V : uV s D cc L A J I R H locs) (hl : lv_has ls 2 [(0, .ref (A 80))]) (h : wp_Mo_nextFile_L24 Q I R s0) : W p l e rm_Mo_nextFile s m args below meth c H locs 0 0 (MQ below (va_Qv (fun u : UI × UR => Q u.1 u.2) (uBv D cc L A J) (uA L A sz)) args s 0 0 (uA L A sz)) (F0 m 24 ls [.int s0, .ref (A 80)]) := by
  have hx := X.1
  have hb := X.2.1
  unfold wp_Mo_nextFile_L24 at h
  refine u_puti (pc := 24) X V (X.fix rfl) rfl rfl f_Mo_57 rfl d_Mo_nextFile_24 (fun I3 eI3 H locs V => ?_)
  have h := h I3 eI3
  refine lv_aload_n (pc := 27) hx hb d_Mo_nextFile_27 rfl (lv_at hl 0 rfl) ?_
  refine u_cVv (pc := 28) (As := []) X V s_Mo_147 (X.fix rfl) rfl rfl rfl (c_Mo_again l D cc L A J t16 t32 _ _  _ h) ⟨rfl, rfl, Nat.le_of_ble_eq_true rfl, Nat.le_of_ble_eq_true rfl⟩ rfl hl.1 rfl (Nat.le_of_ble_eq_true rfl) d_Mo_nextFile_28 ⟨Nat.zero_le _, Nat.zero_le _⟩ (fun I4 R5 h H locs V => ?_)
  exact u_retv (pc := 31) X V hr hlk hsz h d_Mo_nextFile_31
def wp_Mo_nextFile (I : UI) (R : UR) (x1 : Int32) (Q : UI → UR → Prop) : Prop :=
  ∀ I1 : UI, I1 = u2 I 80 18 x1 → ∀ I2 : UI, I2 = u2 I1 80 19 0 → ((I2 80 13 ≤ x1 → wp_Mo_nextFile_L24 Q I2 R 4) ∧ (¬ I2 80 13 ≤ x1 → wp_Mo_nextFile_L24 Q I2 R 1))
set_option maxHeartbeats 4000000 in
set_option maxRecDepth 100000 in
theorem c_Mo_nextFile (l : Launch) (D : va_G) (cc : Nat → ClassId) (L : List Nat) (A : Nat → Nat) (J : Nat → Int64) (t16 t32 : Nat) (I : UI) (R : UR) (x1 : Int32) (Q : UI → UR → Prop) (h : wp_Mo_nextFile I R x1 Q) : uMv l y_Mo_nextFile (.code y_Mo_nextFile prog_10_method_20_code 2 none) rm_Mo_nextFile [.ref (A 80), .int x1] D cc L A J t16 t32 I R Q := by
  intro sz
  refine u_entry (by decide) (Nat.le_of_ble_eq_true rfl) (fun p e s m args below meth c hsz X V hr hlk ls hl => ?_)
  have X : uX p s m args c prog_10_method_20_code 2 "FrameFerryModel" D cc L A t16 t32 := X
  have hx := X.1
  have hb := X.2.1
  have hl : lv_has ls 2 [(0, .ref (A 80)), (1, .int x1)] := hl
  unfold wp_Mo_nextFile at h
  generalize hH : s.heap = H at V ⊢
  generalize hlo : ([] : List Loc) = locs at V ⊢
  refine lv_aload_n (pc := 0) hx hb d_Mo_nextFile_0 rfl (lv_at hl 0 rfl) ?_
  refine lv_iload_n (pc := 1) hx hb d_Mo_nextFile_1 rfl (lv_at hl 1 rfl) ?_
  refine u_puti (pc := 2) X V (X.fix rfl) rfl rfl f_Mo_96 rfl d_Mo_nextFile_2 (fun I1 eI1 H locs V => ?_)
  have h := h I1 eI1
  refine lv_aload_n (pc := 5) hx hb d_Mo_nextFile_5 rfl (lv_at hl 0 rfl) ?_
  refine lv_iconst (pc := 6) (v := 0) hx hb d_Mo_nextFile_6 (by decide) ?_
  refine u_puti (pc := 7) X V (X.fix rfl) rfl rfl f_Mo_99 rfl d_Mo_nextFile_7 (fun I2 eI2 H locs V => ?_)
  have h := h I2 eI2
  refine lv_aload_n (pc := 10) hx hb d_Mo_nextFile_10 rfl (lv_at hl 0 rfl) ?_
  refine lv_iload_n (pc := 11) hx hb d_Mo_nextFile_11 rfl (lv_at hl 1 rfl) ?_
  refine lv_aload_n (pc := 12) hx hb d_Mo_nextFile_12 rfl (lv_at hl 0 rfl) ?_
  refine u_geti (pc := 13) X V (X.fix rfl) rfl rfl f_Mo_89 rfl d_Mo_nextFile_13 ?_
  refine lv_icmp_ge (pc := 16) (tgt := 23) hx hb d_Mo_nextFile_16 (by decide) (fun hc => ?_) (fun hc => ?_)
  · have h := h.1 hc
    refine lv_iconst (pc := 23) (v := 4) hx hb d_Mo_nextFile_23 (by decide) ?_
    exact j_Mo_nextFile_24 X hr hlk hsz V (lv_sub hl [0] rfl) h
  · have h := h.2 hc
    refine lv_iconst (pc := 19) (v := 1) hx hb d_Mo_nextFile_19 (by decide) ?_
    refine lv_goto (pc := 20) (tgt := 24) hx hb d_Mo_nextFile_20 (by decide) ?_
    exact j_Mo_nextFile_24 X hr hlk hsz V (lv_sub hl [0] rfl) h
-- FrameFerryModel.sendOn ()V
theorem d_Mo_sendOn_0 : decode prog_10_method_21_code 0 = .ok (.aload_n 0, 1) := by decide +kernel
theorem d_Mo_sendOn_1 : decode prog_10_method_21_code 1 = .ok (.getfield 57, 3) := by decide +kernel
theorem d_Mo_sendOn_4 : decode prog_10_method_21_code 4 = .ok (.iconst 2, 1) := by decide +kernel
theorem d_Mo_sendOn_5 : decode prog_10_method_21_code 5 = .ok (.if_icmp .eq 4, 3) := by decide +kernel
theorem d_Mo_sendOn_8 : decode prog_10_method_21_code 8 = .ok (.return_, 1) := by decide +kernel
theorem d_Mo_sendOn_9 : decode prog_10_method_21_code 9 = .ok (.iconst 1, 1) := by decide +kernel
theorem d_Mo_sendOn_10 : decode prog_10_method_21_code 10 = .ok (.istore_n 1, 1) := by decide +kernel
theorem d_Mo_sendOn_11 : decode prog_10_method_21_code 11 = .ok (.iconst 0, 1) := by decide +kernel
theorem d_Mo_sendOn_12 : decode prog_10_method_21_code 12 = .ok (.istore_n 2, 1) := by decide +kernel
theorem d_Mo_sendOn_13 : decode prog_10_method_21_code 13 = .ok (.iload_n 2, 1) := by decide +kernel
theorem d_Mo_sendOn_14 : decode prog_10_method_21_code 14 = .ok (.iconst 4, 1) := by decide +kernel
theorem d_Mo_sendOn_15 : decode prog_10_method_21_code 15 = .ok (.if_icmp .ge 152, 3) := by decide +kernel
theorem d_Mo_sendOn_18 : decode prog_10_method_21_code 18 = .ok (.iload_n 1, 1) := by decide +kernel
theorem d_Mo_sendOn_19 : decode prog_10_method_21_code 19 = .ok (.ifCond .eq 148, 3) := by decide +kernel
theorem d_Mo_sendOn_22 : decode prog_10_method_21_code 22 = .ok (.aload_n 0, 1) := by decide +kernel
theorem d_Mo_sendOn_23 : decode prog_10_method_21_code 23 = .ok (.getfield 150, 3) := by decide +kernel
theorem d_Mo_sendOn_26 : decode prog_10_method_21_code 26 = .ok (.ifCond .eq 18, 3) := by decide +kernel
theorem d_Mo_sendOn_29 : decode prog_10_method_21_code 29 = .ok (.aload_n 0, 1) := by decide +kernel
theorem d_Mo_sendOn_30 : decode prog_10_method_21_code 30 = .ok (.bipush 10, 2) := by decide +kernel
theorem d_Mo_sendOn_32 : decode prog_10_method_21_code 32 = .ok (.aload_n 0, 1) := by decide +kernel
theorem d_Mo_sendOn_33 : decode prog_10_method_21_code 33 = .ok (.getfield 99, 3) := by decide +kernel
theorem d_Mo_sendOn_36 : decode prog_10_method_21_code 36 = .ok (.invokevirtual 134, 3) := by decide +kernel
theorem d_Mo_sendOn_39 : decode prog_10_method_21_code 39 = .ok (.aload_n 0, 1) := by decide +kernel
theorem d_Mo_sendOn_40 : decode prog_10_method_21_code 40 = .ok (.iconst 0, 1) := by decide +kernel
theorem d_Mo_sendOn_41 : decode prog_10_method_21_code 41 = .ok (.putfield 150, 3) := by decide +kernel
theorem d_Mo_sendOn_44 : decode prog_10_method_21_code 44 = .ok (.aload_n 0, 1) := by decide +kernel
theorem d_Mo_sendOn_45 : decode prog_10_method_21_code 45 = .ok (.getfield 51, 3) := by decide +kernel
theorem d_Mo_sendOn_48 : decode prog_10_method_21_code 48 = .ok (.aload_n 0, 1) := by decide +kernel
theorem d_Mo_sendOn_49 : decode prog_10_method_21_code 49 = .ok (.getfield 96, 3) := by decide +kernel
theorem d_Mo_sendOn_52 : decode prog_10_method_21_code 52 = .ok (.iaload, 1) := by decide +kernel
theorem d_Mo_sendOn_53 : decode prog_10_method_21_code 53 = .ok (.aload_n 0, 1) := by decide +kernel
theorem d_Mo_sendOn_54 : decode prog_10_method_21_code 54 = .ok (.getfield 99, 3) := by decide +kernel
theorem d_Mo_sendOn_57 : decode prog_10_method_21_code 57 = .ok (.isub, 1) := by decide +kernel
theorem d_Mo_sendOn_58 : decode prog_10_method_21_code 58 = .ok (.istore_n 3, 1) := by decide +kernel
theorem d_Mo_sendOn_59 : decode prog_10_method_21_code 59 = .ok (.iload_n 3, 1) := by decide +kernel
theorem d_Mo_sendOn_60 : decode prog_10_method_21_code 60 = .ok (.aload_n 0, 1) := by decide +kernel
theorem d_Mo_sendOn_61 : decode prog_10_method_21_code 61 = .ok (.getfield 44, 3) := by decide +kernel
theorem d_Mo_sendOn_64 : decode prog_10_method_21_code 64 = .ok (.if_icmp .ge 7, 3) := by decide +kernel
theorem d_Mo_sendOn_67 : decode prog_10_method_21_code 67 = .ok (.iload_n 3, 1) := by decide +kernel
theorem d_Mo_sendOn_68 : decode prog_10_method_21_code 68 = .ok (.goto 7, 3) := by decide +kernel
theorem d_Mo_sendOn_71 : decode prog_10_method_21_code 71 = .ok (.aload_n 0, 1) := by decide +kernel
theorem d_Mo_sendOn_72 : decode prog_10_method_21_code 72 = .ok (.getfield 44, 3) := by decide +kernel
theorem d_Mo_sendOn_75 : decode prog_10_method_21_code 75 = .ok (.istore 4, 2) := by decide +kernel
theorem d_Mo_sendOn_77 : decode prog_10_method_21_code 77 = .ok (.iload 4, 2) := by decide +kernel
theorem d_Mo_sendOn_79 : decode prog_10_method_21_code 79 = .ok (.iload_n 3, 1) := by decide +kernel
theorem d_Mo_sendOn_80 : decode prog_10_method_21_code 80 = .ok (.if_icmp .ge 7, 3) := by decide +kernel
theorem d_Mo_sendOn_83 : decode prog_10_method_21_code 83 = .ok (.iconst 1, 1) := by decide +kernel
theorem d_Mo_sendOn_84 : decode prog_10_method_21_code 84 = .ok (.goto 4, 3) := by decide +kernel
theorem d_Mo_sendOn_87 : decode prog_10_method_21_code 87 = .ok (.iconst 0, 1) := by decide +kernel
theorem d_Mo_sendOn_88 : decode prog_10_method_21_code 88 = .ok (.istore_n 1, 1) := by decide +kernel
theorem d_Mo_sendOn_89 : decode prog_10_method_21_code 89 = .ok (.iconst 0, 1) := by decide +kernel
theorem d_Mo_sendOn_90 : decode prog_10_method_21_code 90 = .ok (.istore 5, 2) := by decide +kernel
theorem d_Mo_sendOn_92 : decode prog_10_method_21_code 92 = .ok (.iload 5, 2) := by decide +kernel
theorem d_Mo_sendOn_94 : decode prog_10_method_21_code 94 = .ok (.iload 4, 2) := by decide +kernel
theorem d_Mo_sendOn_96 : decode prog_10_method_21_code 96 = .ok (.if_icmp .ge 37, 3) := by decide +kernel
theorem d_Mo_sendOn_99 : decode prog_10_method_21_code 99 = .ok (.aload_n 0, 1) := by decide +kernel
theorem d_Mo_sendOn_100 : decode prog_10_method_21_code 100 = .ok (.getfield 79, 3) := by decide +kernel
theorem d_Mo_sendOn_103 : decode prog_10_method_21_code 103 = .ok (.iload 5, 2) := by decide +kernel
theorem d_Mo_sendOn_105 : decode prog_10_method_21_code 105 = .ok (.aload_n 0, 1) := by decide +kernel
theorem d_Mo_sendOn_106 : decode prog_10_method_21_code 106 = .ok (.getfield 54, 3) := by decide +kernel
theorem d_Mo_sendOn_109 : decode prog_10_method_21_code 109 = .ok (.sipush 300, 3) := by decide +kernel
theorem d_Mo_sendOn_112 : decode prog_10_method_21_code 112 = .ok (.aload_n 0, 1) := by decide +kernel
theorem d_Mo_sendOn_113 : decode prog_10_method_21_code 113 = .ok (.getfield 96, 3) := by decide +kernel
theorem d_Mo_sendOn_116 : decode prog_10_method_21_code 116 = .ok (.imul, 1) := by decide +kernel
theorem d_Mo_sendOn_117 : decode prog_10_method_21_code 117 = .ok (.aload_n 0, 1) := by decide +kernel
theorem d_Mo_sendOn_118 : decode prog_10_method_21_code 118 = .ok (.getfield 99, 3) := by decide +kernel
theorem d_Mo_sendOn_121 : decode prog_10_method_21_code 121 = .ok (.iadd, 1) := by decide +kernel
theorem d_Mo_sendOn_122 : decode prog_10_method_21_code 122 = .ok (.iload 5, 2) := by decide +kernel
theorem d_Mo_sendOn_124 : decode prog_10_method_21_code 124 = .ok (.iadd, 1) := by decide +kernel
theorem d_Mo_sendOn_125 : decode prog_10_method_21_code 125 = .ok (.iaload, 1) := by decide +kernel
theorem d_Mo_sendOn_126 : decode prog_10_method_21_code 126 = .ok (.iastore, 1) := by decide +kernel
theorem d_Mo_sendOn_127 : decode prog_10_method_21_code 127 = .ok (.iinc 5 1, 3) := by decide +kernel
theorem d_Mo_sendOn_130 : decode prog_10_method_21_code 130 = .ok (.goto (-38), 3) := by decide +kernel
theorem d_Mo_sendOn_133 : decode prog_10_method_21_code 133 = .ok (.aload_n 0, 1) := by decide +kernel
theorem d_Mo_sendOn_134 : decode prog_10_method_21_code 134 = .ok (.aload_n 0, 1) := by decide +kernel
theorem d_Mo_sendOn_135 : decode prog_10_method_21_code 135 = .ok (.getfield 99, 3) := by decide +kernel
theorem d_Mo_sendOn_138 : decode prog_10_method_21_code 138 = .ok (.iload 4, 2) := by decide +kernel
theorem d_Mo_sendOn_140 : decode prog_10_method_21_code 140 = .ok (.iadd, 1) := by decide +kernel
theorem d_Mo_sendOn_141 : decode prog_10_method_21_code 141 = .ok (.putfield 99, 3) := by decide +kernel
theorem d_Mo_sendOn_144 : decode prog_10_method_21_code 144 = .ok (.aload_n 0, 1) := by decide +kernel
theorem d_Mo_sendOn_145 : decode prog_10_method_21_code 145 = .ok (.iload 4, 2) := by decide +kernel
theorem d_Mo_sendOn_147 : decode prog_10_method_21_code 147 = .ok (.iload_n 1, 1) := by decide +kernel
theorem d_Mo_sendOn_148 : decode prog_10_method_21_code 148 = .ok (.ifCond .eq 8, 3) := by decide +kernel
theorem d_Mo_sendOn_151 : decode prog_10_method_21_code 151 = .ok (.bipush 105, 2) := by decide +kernel
theorem d_Mo_sendOn_153 : decode prog_10_method_21_code 153 = .ok (.goto 5, 3) := by decide +kernel
theorem d_Mo_sendOn_156 : decode prog_10_method_21_code 156 = .ok (.bipush 104, 2) := by decide +kernel
theorem d_Mo_sendOn_158 : decode prog_10_method_21_code 158 = .ok (.invokevirtual 137, 3) := by decide +kernel
theorem d_Mo_sendOn_161 : decode prog_10_method_21_code 161 = .ok (.iinc 2 1, 3) := by decide +kernel
theorem d_Mo_sendOn_164 : decode prog_10_method_21_code 164 = .ok (.goto (-151), 3) := by decide +kernel
theorem d_Mo_sendOn_167 : decode prog_10_method_21_code 167 = .ok (.iload_n 1, 1) := by decide +kernel
theorem d_Mo_sendOn_168 : decode prog_10_method_21_code 168 = .ok (.ifCond .ne 23, 3) := by decide +kernel
theorem d_Mo_sendOn_171 : decode prog_10_method_21_code 171 = .ok (.aload_n 0, 1) := by decide +kernel
theorem d_Mo_sendOn_172 : decode prog_10_method_21_code 172 = .ok (.iconst 3, 1) := by decide +kernel
theorem d_Mo_sendOn_173 : decode prog_10_method_21_code 173 = .ok (.putfield 57, 3) := by decide +kernel
theorem d_Mo_sendOn_176 : decode prog_10_method_21_code 176 = .ok (.aload_n 0, 1) := by decide +kernel
theorem d_Mo_sendOn_177 : decode prog_10_method_21_code 177 = .ok (.bipush 11, 2) := by decide +kernel
theorem d_Mo_sendOn_179 : decode prog_10_method_21_code 179 = .ok (.aload_n 0, 1) := by decide +kernel
theorem d_Mo_sendOn_180 : decode prog_10_method_21_code 180 = .ok (.getfield 51, 3) := by decide +kernel
theorem d_Mo_sendOn_183 : decode prog_10_method_21_code 183 = .ok (.aload_n 0, 1) := by decide +kernel
theorem d_Mo_sendOn_184 : decode prog_10_method_21_code 184 = .ok (.getfield 96, 3) := by decide +kernel
theorem d_Mo_sendOn_187 : decode prog_10_method_21_code 187 = .ok (.iaload, 1) := by decide +kernel
theorem d_Mo_sendOn_188 : decode prog_10_method_21_code 188 = .ok (.invokevirtual 134, 3) := by decide +kernel
theorem d_Mo_sendOn_191 : decode prog_10_method_21_code 191 = .ok (.return_, 1) := by decide +kernel
def rm_Mo_sendOn : Room := { frames := 3, cells := 0, slots := 0, locals := 73 }
def wp_Mo_sendOn_L167 (Q : UI → UR → Prop) (I : UI) (R : UR) (x1 : Int32) : Prop :=
  ((¬ x1 = 0 → Q I R) ∧ (x1 = 0 → ∀ I1 : UI, I1 = u2 I 80 17 3 → vp_in (I1 80 18) 4 ∧ wp_Mo_sendBytes I1 R 11 (I1 95 (I1 80 18).toNatClampNeg) (fun I2 R3 => Q I2 R3)))
set_option maxHeartbeats 4000000 in
set_option maxRecDepth 100000 in
theorem j_Mo_sendOn_167 (X : uX p s m args c prog_10_method_21_code 6 "FrameFerryModel" D cc L A t16 t32) (hr : meth.sig.returnType = none) (hlk : meth.locks = false) (hsz : sz = s.heap.size) {Q : UI → UR → Prop} {I : UI} {R : UR} {x1 : Int32} {H : Heap} {locs : List Loc} {ls : Array Slot} (V : uV s D cc L A J I R H locs) (hl : lv_has ls 6 [(0, .ref (A 80)), (1, .int x1)]) (h : wp_Mo_sendOn_L167 Q I R x1) : W p l e rm_Mo_sendOn s m args below meth c H locs 0 0 (MQ below (va_Qv (fun u : UI × UR => Q u.1 u.2) (uBv D cc L A J) (uA L A sz)) args s 0 0 (uA L A sz)) (F0 m 167 ls []) := by
  have hx := X.1
  have hb := X.2.1
  unfold wp_Mo_sendOn_L167 at h
  refine lv_iload_n (pc := 167) hx hb d_Mo_sendOn_167 rfl (lv_at hl 1 rfl) ?_
  refine lv_if_ne (pc := 168) (tgt := 191) hx hb d_Mo_sendOn_168 (by decide) (fun hc => ?_) (fun hc => ?_)
  · have h := h.1 hc
    exact u_retv (pc := 191) X V hr hlk hsz h d_Mo_sendOn_191
  · have h := h.2 hc
    refine lv_aload_n (pc := 171) hx hb d_Mo_sendOn_171 rfl (lv_at hl 0 rfl) ?_
    refine lv_iconst (pc := 172) (v := 3) hx hb d_Mo_sendOn_172 (by decide) ?_
    refine u_puti (pc := 173) X V (X.fix rfl) rfl rfl f_Mo_57 rfl d_Mo_sendOn_173 (fun I1 eI1 H locs V => ?_)
    have h := h I1 eI1
    refine lv_aload_n (pc := 176) hx hb d_Mo_sendOn_176 rfl (lv_at hl 0 rfl) ?_
    refine lv_bipush (pc := 177) (v := 11) hx hb d_Mo_sendOn_177 (by decide) ?_
    refine lv_aload_n (pc := 179) hx hb d_Mo_sendOn_179 rfl (lv_at hl 0 rfl) ?_
    refine u_getr (pc := 180) (o' := 95) X V (X.fix rfl) rfl rfl f_Mo_51 rfl rfl d_Mo_sendOn_180 ?_
    refine lv_aload_n (pc := 183) hx hb d_Mo_sendOn_183 rfl (lv_at hl 0 rfl) ?_
    refine u_geti (pc := 184) X V (X.fix rfl) rfl rfl f_Mo_96 rfl d_Mo_sendOn_184 ?_
    refine u_iald (pc := 187) X V (X.fix rfl) rfl rfl h.1 d_Mo_sendOn_187 ?_
    have h := h.2
    refine u_cVv (pc := 188) (As := [.int 11, .int (I1 95 (I1 80 18).toNatClampNeg)]) X V s_Mo_134 (X.fix rfl) rfl rfl rfl (c_Mo_sendBytes l D cc L A J t16 t32 _ _ 11 (I1 95 (I1 80 18).toNatClampNeg) _ h) ⟨rfl, rfl, Nat.le_of_ble_eq_true rfl, Nat.le_of_ble_eq_true rfl⟩ rfl hl.1 rfl (Nat.le_of_ble_eq_true rfl) d_Mo_sendOn_188 ⟨Nat.zero_le _, Nat.zero_le _⟩ (fun I2 R3 h H locs V => ?_)
    exact u_retv (pc := 191) X V hr hlk hsz h d_Mo_sendOn_191
def wp_Mo_sendOn_L158 (Q : UI → UR → Prop) (K13 : UI → UR → Int32 → Int32 → Prop) (K92 : UI → UR → Int32 → Int32 → Int32 → Int32 → Prop) (I : UI) (R : UR) (x1 : Int32) (x2 : Int32) (s0 : Int32) (s1 : Int32) : Prop :=
  wp_Mo_sendPacket I R s1 s0 (fun I6 R7 => ∀ v8 : Int32, v8 = x2 + 1 → K13 I6 R7 x1 v8)
set_option maxHeartbeats 4000000 in
set_option maxRecDepth 100000 in
theorem j_Mo_sendOn_158 (X : uX p s m args c prog_10_method_21_code 6 "FrameFerryModel" D cc L A t16 t32) (hr : meth.sig.returnType = none) (hlk : meth.locks = false) (hsz : sz = s.heap.size) {Q : UI → UR → Prop} {K13 : UI → UR → Int32 → Int32 → Prop} (hK13 : ∀ (I : UI) (R : UR) (x1 : Int32) (x2 : Int32) (H : Heap) (locs : List Loc) (ls : Array Slot), uV s D cc L A J I R H locs → lv_has ls 6 [(0, .ref (A 80)), (1, .int x1), (2, .int x2)] → K13 I R x1 x2 → W p l e rm_Mo_sendOn s m args below meth c H locs 0 0 (MQ below (va_Qv (fun u : UI × UR => Q u.1 u.2) (uBv D cc L A J) (uA L A sz)) args s 0 0 (uA L A sz)) (F0 m 13 ls [])) {K92 : UI → UR → Int32 → Int32 → Int32 → Int32 → Prop} (hK92 : ∀ (I : UI) (R : UR) (x1 : Int32) (x2 : Int32) (x4 : Int32) (x5 : Int32) (H : Heap) (locs : List Loc) (ls : Array Slot), uV s D cc L A J I R H locs → lv_has ls 6 [(0, .ref (A 80)), (1, .int x1), (2, .int x2), (4, .int x4), (5, .int x5)] → K92 I R x1 x2 x4 x5 → W p l e rm_Mo_sendOn s m args below meth c H locs 0 0 (MQ below (va_Qv (fun u : UI × UR => Q u.1 u.2) (uBv D cc L A J) (uA L A sz)) args s 0 0 (uA L A sz)) (F0 m 92 ls [])) {I : UI} {R : UR} {x1 : Int32} {x2 : Int32} {s0 : Int32} {s1 : Int32} {H : Heap} {locs : List Loc} {ls : Array Slot} (V : uV s D cc L A J I R H locs) (hl : lv_has ls 6 [(0, .ref (A 80)), (1, .int x1), (2, .int x2)]) (h : wp_Mo_sendOn_L158 Q K13 K92 I R x1 x2 s0 s1) : W p l e rm_Mo_sendOn s m args below meth c H locs 0 0 (MQ below (va_Qv (fun u : UI × UR => Q u.1 u.2) (uBv D cc L A J) (uA L A sz)) args s 0 0 (uA L A sz)) (F0 m 158 ls [.int s0, .int s1, .ref (A 80)]) := by
  have hx := X.1
  have hb := X.2.1
  unfold wp_Mo_sendOn_L158 at h
  refine u_cVv (pc := 158) (As := [.int s1, .int s0]) X V s_Mo_137 (X.fix rfl) rfl rfl rfl (c_Mo_sendPacket l D cc L A J t16 t32 _ _ s1 s0 _ h) ⟨rfl, rfl, Nat.le_of_ble_eq_true rfl, Nat.le_of_ble_eq_true rfl⟩ rfl hl.1 rfl (Nat.le_of_ble_eq_true rfl) d_Mo_sendOn_158 ⟨Nat.zero_le _, Nat.zero_le _⟩ (fun I6 R7 h H locs V => ?_)
  obtain ⟨v8, ev8⟩ : ∃ z : Int32, z = x2 + 1 := ⟨_, rfl⟩
  have h := h v8 ev8
  refine lv_iinc (pc := 161) (k := 2) (v := v8) (lv' := [(2, .int v8), (0, .ref (A 80)), (1, .int x1)]) hx hb d_Mo_sendOn_161 hl rfl (by rw [ev8]; rfl) (by decide) rfl (fun ls hl => ?_)
  refine lv_goto (pc := 164) (tgt := 13) hx hb d_Mo_sendOn_164 (by decide) ?_
  exact hK13 I6 R7 x1 v8 H locs ls V (lv_sub hl [1, 2, 0] rfl) h
def wp_Mo_sendOn_L92 (Q : UI → UR → Prop) (K13 : UI → UR → Int32 → Int32 → Prop) : Nat → UI → UR → Int32 → Int32 → Int32 → Int32 → Prop
  | 0, _, _, _, _, _, _ => False
  | n + 1, I, R, x1, x2, x4, x5 => ((x4 ≤ x5 → ∀ I5 : UI, I5 = u2 I 80 19 ((I 80 19) + x4) → ((x1 = 0 → wp_Mo_sendOn_L158 Q K13 (fun I R x1 x2 x4 x5 => wp_Mo_sendOn_L92 Q K13 n I R x1 x2 x4 x5) I5 R x1 x2 104 x4) ∧ (¬ x1 = 0 → wp_Mo_sendOn_L158 Q K13 (fun I R x1 x2 x4 x5 => wp_Mo_sendOn_L92 Q K13 n I R x1 x2 x4 x5) I5 R x1 x2 105 x4))) ∧ (¬ x4 ≤ x5 → vp_in (((300 * (I 80 18)) + (I 80 19)) + x5) 1200 ∧ vp_in x5 160 ∧ ∀ I9 : UI, I9 = u2 I 110 x5.toNatClampNeg (I 96 (((300 * (I 80 18)) + (I 80 19)) + x5).toNatClampNeg) → ∀ v10 : Int32, v10 = x5 + 1 → wp_Mo_sendOn_L92 Q K13 n I9 R x1 x2 x4 v10))
set_option maxHeartbeats 4000000 in
set_option maxRecDepth 100000 in
theorem j_Mo_sendOn_92 (X : uX p s m args c prog_10_method_21_code 6 "FrameFerryModel" D cc L A t16 t32) (hr : meth.sig.returnType = none) (hlk : meth.locks = false) (hsz : sz = s.heap.size) {Q : UI → UR → Prop} {K13 : UI → UR → Int32 → Int32 → Prop} (hK13 : ∀ (I : UI) (R : UR) (x1 : Int32) (x2 : Int32) (H : Heap) (locs : List Loc) (ls : Array Slot), uV s D cc L A J I R H locs → lv_has ls 6 [(0, .ref (A 80)), (1, .int x1), (2, .int x2)] → K13 I R x1 x2 → W p l e rm_Mo_sendOn s m args below meth c H locs 0 0 (MQ below (va_Qv (fun u : UI × UR => Q u.1 u.2) (uBv D cc L A J) (uA L A sz)) args s 0 0 (uA L A sz)) (F0 m 13 ls [])) : ∀ (n : Nat) (I : UI) (R : UR) (x1 : Int32) (x2 : Int32) (x4 : Int32) (x5 : Int32) (H : Heap) (locs : List Loc) (ls : Array Slot), uV s D cc L A J I R H locs → lv_has ls 6 [(0, .ref (A 80)), (1, .int x1), (2, .int x2), (4, .int x4), (5, .int x5)] → wp_Mo_sendOn_L92 Q K13 n I R x1 x2 x4 x5 → W p l e rm_Mo_sendOn s m args below meth c H locs 0 0 (MQ below (va_Qv (fun u : UI × UR => Q u.1 u.2) (uBv D cc L A J) (uA L A sz)) args s 0 0 (uA L A sz)) (F0 m 92 ls []) := by
  intro n
  induction n with
  | zero => exact fun I R x1 x2 x4 x5 H locs ls V hl h => False.elim h
  | succ n ih =>
    intro I R x1 x2 x4 x5 H locs ls V hl h
    have hx := X.1
    have hb := X.2.1
    rw [wp_Mo_sendOn_L92] at h
    refine lv_iload (pc := 92) hx hb d_Mo_sendOn_92 (lv_at hl 4 rfl) ?_
    refine lv_iload (pc := 94) hx hb d_Mo_sendOn_94 (lv_at hl 3 rfl) ?_
    refine lv_icmp_ge (pc := 96) (tgt := 133) hx hb d_Mo_sendOn_96 (by decide) (fun hc => ?_) (fun hc => ?_)
    · have h := h.1 hc
      refine lv_aload_n (pc := 133) hx hb d_Mo_sendOn_133 rfl (lv_at hl 0 rfl) ?_
      refine lv_aload_n (pc := 134) hx hb d_Mo_sendOn_134 rfl (lv_at hl 0 rfl) ?_
      refine u_geti (pc := 135) X V (X.fix rfl) rfl rfl f_Mo_99 rfl d_Mo_sendOn_135 ?_
      refine lv_iload (pc := 138) hx hb d_Mo_sendOn_138 (lv_at hl 3 rfl) ?_
      refine lv_iadd (pc := 140) hx hb d_Mo_sendOn_140 ?_
      refine u_puti (pc := 141) X V (X.fix rfl) rfl rfl f_Mo_99 rfl d_Mo_sendOn_141 (fun I5 eI5 H locs V => ?_)
      have h := h I5 eI5
      refine lv_aload_n (pc := 144) hx hb d_Mo_sendOn_144 rfl (lv_at hl 0 rfl) ?_
      refine lv_iload (pc := 145) hx hb d_Mo_sendOn_145 (lv_at hl 3 rfl) ?_
      refine lv_iload_n (pc := 147) hx hb d_Mo_sendOn_147 rfl (lv_at hl 1 rfl) ?_
      refine lv_if_eq (pc := 148) (tgt := 156) hx hb d_Mo_sendOn_148 (by decide) (fun hc => ?_) (fun hc => ?_)
      · have h := h.1 hc
        refine lv_bipush (pc := 156) (v := 104) hx hb d_Mo_sendOn_156 (by decide) ?_
        exact j_Mo_sendOn_158 X hr hlk hsz hK13 ih V (lv_sub hl [0, 1, 2] rfl) h
      · have h := h.2 hc
        refine lv_bipush (pc := 151) (v := 105) hx hb d_Mo_sendOn_151 (by decide) ?_
        refine lv_goto (pc := 153) (tgt := 158) hx hb d_Mo_sendOn_153 (by decide) ?_
        exact j_Mo_sendOn_158 X hr hlk hsz hK13 ih V (lv_sub hl [0, 1, 2] rfl) h
    · have h := h.2 hc
      refine lv_aload_n (pc := 99) hx hb d_Mo_sendOn_99 rfl (lv_at hl 0 rfl) ?_
      refine u_getr (pc := 100) (o' := 110) X V (X.fix rfl) rfl rfl f_Mo_79 rfl rfl d_Mo_sendOn_100 ?_
      refine lv_iload (pc := 103) hx hb d_Mo_sendOn_103 (lv_at hl 4 rfl) ?_
      refine lv_aload_n (pc := 105) hx hb d_Mo_sendOn_105 rfl (lv_at hl 0 rfl) ?_
      refine u_getr (pc := 106) (o' := 96) X V (X.fix rfl) rfl rfl f_Mo_54 rfl rfl d_Mo_sendOn_106 ?_
      refine lv_sipush (pc := 109) (v := 300) hx hb d_Mo_sendOn_109 (by decide) ?_
      refine lv_aload_n (pc := 112) hx hb d_Mo_sendOn_112 rfl (lv_at hl 0 rfl) ?_
      refine u_geti (pc := 113) X V (X.fix rfl) rfl rfl f_Mo_96 rfl d_Mo_sendOn_113 ?_
      refine lv_imul (pc := 116) hx hb d_Mo_sendOn_116 ?_
      refine lv_aload_n (pc := 117) hx hb d_Mo_sendOn_117 rfl (lv_at hl 0 rfl) ?_
      refine u_geti (pc := 118) X V (X.fix rfl) rfl rfl f_Mo_99 rfl d_Mo_sendOn_118 ?_
      refine lv_iadd (pc := 121) hx hb d_Mo_sendOn_121 ?_
      refine lv_iload (pc := 122) hx hb d_Mo_sendOn_122 (lv_at hl 4 rfl) ?_
      refine lv_iadd (pc := 124) hx hb d_Mo_sendOn_124 ?_
      refine u_iald (pc := 125) X V (X.fix rfl) rfl rfl h.1 d_Mo_sendOn_125 ?_
      have h := h.2
      refine u_iast (pc := 126) X V (X.fix rfl) rfl rfl h.1 d_Mo_sendOn_126 (fun I9 eI9 H locs V => ?_)
      have h := h.2 I9 eI9
      obtain ⟨v10, ev10⟩ : ∃ z : Int32, z = x5 + 1 := ⟨_, rfl⟩
      have h := h v10 ev10
      refine lv_iinc (pc := 127) (k := 4) (v := v10) (lv' := [(5, .int v10), (0, .ref (A 80)), (1, .int x1), (2, .int x2), (4, .int x4)]) hx hb d_Mo_sendOn_127 hl rfl (by rw [ev10]; rfl) (by decide) rfl (fun ls hl => ?_)
      refine lv_goto (pc := 130) (tgt := 92) hx hb d_Mo_sendOn_130 (by decide) ?_
      exact ih I9 R x1 x2 x4 v10 H locs ls V (lv_sub hl [1, 2, 3, 4, 0] rfl) h
def wp_Mo_sendOn_L88 (Q : UI → UR → Prop) (K13 : UI → UR → Int32 → Int32 → Prop) (I : UI) (R : UR) (x2 : Int32) (x4 : Int32) (s0 : Int32) : Prop :=
  (∃ n92 : Nat, wp_Mo_sendOn_L92 Q K13 n92 I R s0 x2 x4 0)
set_option maxHeartbeats 4000000 in
set_option maxRecDepth 100000 in
theorem j_Mo_sendOn_88 (X : uX p s m args c prog_10_method_21_code 6 "FrameFerryModel" D cc L A t16 t32) (hr : meth.sig.returnType = none) (hlk : meth.locks = false) (hsz : sz = s.heap.size) {Q : UI → UR → Prop} {K13 : UI → UR → Int32 → Int32 → Prop} (hK13 : ∀ (I : UI) (R : UR) (x1 : Int32) (x2 : Int32) (H : Heap) (locs : List Loc) (ls : Array Slot), uV s D cc L A J I R H locs → lv_has ls 6 [(0, .ref (A 80)), (1, .int x1), (2, .int x2)] → K13 I R x1 x2 → W p l e rm_Mo_sendOn s m args below meth c H locs 0 0 (MQ below (va_Qv (fun u : UI × UR => Q u.1 u.2) (uBv D cc L A J) (uA L A sz)) args s 0 0 (uA L A sz)) (F0 m 13 ls [])) {I : UI} {R : UR} {x2 : Int32} {x4 : Int32} {s0 : Int32} {H : Heap} {locs : List Loc} {ls : Array Slot} (V : uV s D cc L A J I R H locs) (hl : lv_has ls 6 [(0, .ref (A 80)), (2, .int x2), (4, .int x4)]) (h : wp_Mo_sendOn_L88 Q K13 I R x2 x4 s0) : W p l e rm_Mo_sendOn s m args below meth c H locs 0 0 (MQ below (va_Qv (fun u : UI × UR => Q u.1 u.2) (uBv D cc L A J) (uA L A sz)) args s 0 0 (uA L A sz)) (F0 m 88 ls [.int s0]) := by
  have hx := X.1
  have hb := X.2.1
  unfold wp_Mo_sendOn_L88 at h
  refine lv_istore_n (pc := 88) (lv' := [(1, .int s0), (0, .ref (A 80)), (2, .int x2), (4, .int x4)]) hx hb d_Mo_sendOn_88 rfl hl (by decide) rfl (fun ls hl => ?_)
  refine lv_iconst (pc := 89) (v := 0) hx hb d_Mo_sendOn_89 (by decide) ?_
  refine lv_istore (pc := 90) (lv' := [(5, .int 0), (1, .int s0), (0, .ref (A 80)), (2, .int x2), (4, .int x4)]) hx hb d_Mo_sendOn_90 hl (by decide) rfl (fun ls hl => ?_)
  obtain ⟨n92, h⟩ := h
  exact j_Mo_sendOn_92 X hr hlk hsz hK13 n92 I R s0 x2 x4 0 H locs ls V (lv_sub hl [2, 1, 3, 4, 0] rfl) h
def wp_Mo_sendOn_L75 (Q : UI → UR → Prop) (K13 : UI → UR → Int32 → Int32 → Prop) (I : UI) (R : UR) (x2 : Int32) (x3 : Int32) (s0 : Int32) : Prop :=
  ((x3 ≤ s0 → wp_Mo_sendOn_L88 Q K13 I R x2 s0 0) ∧ (¬ x3 ≤ s0 → wp_Mo_sendOn_L88 Q K13 I R x2 s0 1))
set_option maxHeartbeats 4000000 in
set_option maxRecDepth 100000 in
theorem j_Mo_sendOn_75 (X : uX p s m args c prog_10_method_21_code 6 "FrameFerryModel" D cc L A t16 t32) (hr : meth.sig.returnType = none) (hlk : meth.locks = false) (hsz : sz = s.heap.size) {Q : UI → UR → Prop} {K13 : UI → UR → Int32 → Int32 → Prop} (hK13 : ∀ (I : UI) (R : UR) (x1 : Int32) (x2 : Int32) (H : Heap) (locs : List Loc) (ls : Array Slot), uV s D cc L A J I R H locs → lv_has ls 6 [(0, .ref (A 80)), (1, .int x1), (2, .int x2)] → K13 I R x1 x2 → W p l e rm_Mo_sendOn s m args below meth c H locs 0 0 (MQ below (va_Qv (fun u : UI × UR => Q u.1 u.2) (uBv D cc L A J) (uA L A sz)) args s 0 0 (uA L A sz)) (F0 m 13 ls [])) {I : UI} {R : UR} {x2 : Int32} {x3 : Int32} {s0 : Int32} {H : Heap} {locs : List Loc} {ls : Array Slot} (V : uV s D cc L A J I R H locs) (hl : lv_has ls 6 [(0, .ref (A 80)), (2, .int x2), (3, .int x3)]) (h : wp_Mo_sendOn_L75 Q K13 I R x2 x3 s0) : W p l e rm_Mo_sendOn s m args below meth c H locs 0 0 (MQ below (va_Qv (fun u : UI × UR => Q u.1 u.2) (uBv D cc L A J) (uA L A sz)) args s 0 0 (uA L A sz)) (F0 m 75 ls [.int s0]) := by
  have hx := X.1
  have hb := X.2.1
  unfold wp_Mo_sendOn_L75 at h
  refine lv_istore (pc := 75) (lv' := [(4, .int s0), (0, .ref (A 80)), (2, .int x2), (3, .int x3)]) hx hb d_Mo_sendOn_75 hl (by decide) rfl (fun ls hl => ?_)
  refine lv_iload (pc := 77) hx hb d_Mo_sendOn_77 (lv_at hl 0 rfl) ?_
  refine lv_iload_n (pc := 79) hx hb d_Mo_sendOn_79 rfl (lv_at hl 3 rfl) ?_
  refine lv_icmp_ge (pc := 80) (tgt := 87) hx hb d_Mo_sendOn_80 (by decide) (fun hc => ?_) (fun hc => ?_)
  · have h := h.1 hc
    refine lv_iconst (pc := 87) (v := 0) hx hb d_Mo_sendOn_87 (by decide) ?_
    exact j_Mo_sendOn_88 X hr hlk hsz hK13 V (lv_sub hl [1, 2, 0] rfl) h
  · have h := h.2 hc
    refine lv_iconst (pc := 83) (v := 1) hx hb d_Mo_sendOn_83 (by decide) ?_
    refine lv_goto (pc := 84) (tgt := 88) hx hb d_Mo_sendOn_84 (by decide) ?_
    exact j_Mo_sendOn_88 X hr hlk hsz hK13 V (lv_sub hl [1, 2, 0] rfl) h
def wp_Mo_sendOn_L44 (Q : UI → UR → Prop) (K13 : UI → UR → Int32 → Int32 → Prop) (I : UI) (R : UR) (x2 : Int32) : Prop :=
  vp_in (I 80 18) 4 ∧ ∀ v4 : Int32, v4 = (I 95 (I 80 18).toNatClampNeg) - (I 80 19) → ((I 80 12 ≤ v4 → wp_Mo_sendOn_L75 Q K13 I R x2 v4 (I 80 12)) ∧ (¬ I 80 12 ≤ v4 → wp_Mo_sendOn_L75 Q K13 I R x2 v4 v4))
set_option maxHeartbeats 4000000 in
set_option maxRecDepth 100000 in
theorem j_Mo_sendOn_44 (X : uX p s m args c prog_10_method_21_code 6 "FrameFerryModel" D cc L A t16 t32) (hr : meth.sig.returnType = none) (hlk : meth.locks = false) (hsz : sz = s.heap.size) {Q : UI → UR → Prop} {K13 : UI → UR → Int32 → Int32 → Prop} (hK13 : ∀ (I : UI) (R : UR) (x1 : Int32) (x2 : Int32) (H : Heap) (locs : List Loc) (ls : Array Slot), uV s D cc L A J I R H locs → lv_has ls 6 [(0, .ref (A 80)), (1, .int x1), (2, .int x2)] → K13 I R x1 x2 → W p l e rm_Mo_sendOn s m args below meth c H locs 0 0 (MQ below (va_Qv (fun u : UI × UR => Q u.1 u.2) (uBv D cc L A J) (uA L A sz)) args s 0 0 (uA L A sz)) (F0 m 13 ls [])) {I : UI} {R : UR} {x2 : Int32} {H : Heap} {locs : List Loc} {ls : Array Slot} (V : uV s D cc L A J I R H locs) (hl : lv_has ls 6 [(0, .ref (A 80)), (2, .int x2)]) (h : wp_Mo_sendOn_L44 Q K13 I R x2) : W p l e rm_Mo_sendOn s m args below meth c H locs 0 0 (MQ below (va_Qv (fun u : UI × UR => Q u.1 u.2) (uBv D cc L A J) (uA L A sz)) args s 0 0 (uA L A sz)) (F0 m 44 ls []) := by
  have hx := X.1
  have hb := X.2.1
  unfold wp_Mo_sendOn_L44 at h
  refine lv_aload_n (pc := 44) hx hb d_Mo_sendOn_44 rfl (lv_at hl 0 rfl) ?_
  refine u_getr (pc := 45) (o' := 95) X V (X.fix rfl) rfl rfl f_Mo_51 rfl rfl d_Mo_sendOn_45 ?_
  refine lv_aload_n (pc := 48) hx hb d_Mo_sendOn_48 rfl (lv_at hl 0 rfl) ?_
  refine u_geti (pc := 49) X V (X.fix rfl) rfl rfl f_Mo_96 rfl d_Mo_sendOn_49 ?_
  refine u_iald (pc := 52) X V (X.fix rfl) rfl rfl h.1 d_Mo_sendOn_52 ?_
  have h := h.2
  refine lv_aload_n (pc := 53) hx hb d_Mo_sendOn_53 rfl (lv_at hl 0 rfl) ?_
  refine u_geti (pc := 54) X V (X.fix rfl) rfl rfl f_Mo_99 rfl d_Mo_sendOn_54 ?_
  refine lv_isub (pc := 57) hx hb d_Mo_sendOn_57 ?_
  refine lv_topi (fun v4 ev4 => ?_)
  have h := h v4 ev4
  refine lv_istore_n (pc := 58) (lv' := [(3, .int v4), (0, .ref (A 80)), (2, .int x2)]) hx hb d_Mo_sendOn_58 rfl hl (by decide) rfl (fun ls hl => ?_)
  refine lv_iload_n (pc := 59) hx hb d_Mo_sendOn_59 rfl (lv_at hl 0 rfl) ?_
  refine lv_aload_n (pc := 60) hx hb d_Mo_sendOn_60 rfl (lv_at hl 1 rfl) ?_
  refine u_geti (pc := 61) X V (X.fix rfl) rfl rfl f_Mo_44 rfl d_Mo_sendOn_61 ?_
  refine lv_icmp_ge (pc := 64) (tgt := 71) hx hb d_Mo_sendOn_64 (by decide) (fun hc => ?_) (fun hc => ?_)
  · have h := h.1 hc
    refine lv_aload_n (pc := 71) hx hb d_Mo_sendOn_71 rfl (lv_at hl 1 rfl) ?_
    refine u_geti (pc := 72) X V (X.fix rfl) rfl rfl f_Mo_44 rfl d_Mo_sendOn_72 ?_
    exact j_Mo_sendOn_75 X hr hlk hsz hK13 V (lv_sub hl [1, 2, 0] rfl) h
  · have h := h.2 hc
    refine lv_iload_n (pc := 67) hx hb d_Mo_sendOn_67 rfl (lv_at hl 0 rfl) ?_
    refine lv_goto (pc := 68) (tgt := 75) hx hb d_Mo_sendOn_68 (by decide) ?_
    exact j_Mo_sendOn_75 X hr hlk hsz hK13 V (lv_sub hl [1, 2, 0] rfl) h
def wp_Mo_sendOn_L13 (Q : UI → UR → Prop) : Nat → UI → UR → Int32 → Int32 → Prop
  | 0, _, _, _, _ => False
  | n + 1, I, R, x1, x2 => ((4 ≤ x2 → wp_Mo_sendOn_L167 Q I R x1) ∧ (¬ 4 ≤ x2 → ((x1 = 0 → wp_Mo_sendOn_L167 Q I R x1) ∧ (¬ x1 = 0 → ((I 80 20 = 0 → wp_Mo_sendOn_L44 Q (fun I R x1 x2 => wp_Mo_sendOn_L13 Q n I R x1 x2) I R x2) ∧ (¬ I 80 20 = 0 → wp_Mo_sendBytes I R 10 (I 80 19) (fun I11 R12 => zb 0 ∧ ∀ I13 : UI, I13 = u2 I11 80 20 0 → wp_Mo_sendOn_L44 Q (fun I R x1 x2 => wp_Mo_sendOn_L13 Q n I R x1 x2) I13 R12 x2)))))))
set_option maxHeartbeats 4000000 in
set_option maxRecDepth 100000 in
theorem j_Mo_sendOn_13 (X : uX p s m args c prog_10_method_21_code 6 "FrameFerryModel" D cc L A t16 t32) (hr : meth.sig.returnType = none) (hlk : meth.locks = false) (hsz : sz = s.heap.size) {Q : UI → UR → Prop} : ∀ (n : Nat) (I : UI) (R : UR) (x1 : Int32) (x2 : Int32) (H : Heap) (locs : List Loc) (ls : Array Slot), uV s D cc L A J I R H locs → lv_has ls 6 [(0, .ref (A 80)), (1, .int x1), (2, .int x2)] → wp_Mo_sendOn_L13 Q n I R x1 x2 → W p l e rm_Mo_sendOn s m args below meth c H locs 0 0 (MQ below (va_Qv (fun u : UI × UR => Q u.1 u.2) (uBv D cc L A J) (uA L A sz)) args s 0 0 (uA L A sz)) (F0 m 13 ls []) := by
  intro n
  induction n with
  | zero => exact fun I R x1 x2 H locs ls V hl h => False.elim h
  | succ n ih =>
    intro I R x1 x2 H locs ls V hl h
    have hx := X.1
    have hb := X.2.1
    rw [wp_Mo_sendOn_L13] at h
    refine lv_iload_n (pc := 13) hx hb d_Mo_sendOn_13 rfl (lv_at hl 2 rfl) ?_
    refine lv_iconst (pc := 14) (v := 4) hx hb d_Mo_sendOn_14 (by decide) ?_
    refine lv_icmp_ge (pc := 15) (tgt := 167) hx hb d_Mo_sendOn_15 (by decide) (fun hc => ?_) (fun hc => ?_)
    · have h := h.1 hc
      exact j_Mo_sendOn_167 X hr hlk hsz V (lv_sub hl [0, 1] rfl) h
    · have h := h.2 hc
      refine lv_iload_n (pc := 18) hx hb d_Mo_sendOn_18 rfl (lv_at hl 1 rfl) ?_
      refine lv_if_eq (pc := 19) (tgt := 167) hx hb d_Mo_sendOn_19 (by decide) (fun hc => ?_) (fun hc => ?_)
      · have h := h.1 hc
        exact j_Mo_sendOn_167 X hr hlk hsz V (lv_sub hl [0, 1] rfl) h
      · have h := h.2 hc
        refine lv_aload_n (pc := 22) hx hb d_Mo_sendOn_22 rfl (lv_at hl 0 rfl) ?_
        refine u_geti (pc := 23) X V (X.fix rfl) rfl rfl f_Mo_150 rfl d_Mo_sendOn_23 ?_
        refine lv_if_eq (pc := 26) (tgt := 44) hx hb d_Mo_sendOn_26 (by decide) (fun hc => ?_) (fun hc => ?_)
        · have h := h.1 hc
          exact j_Mo_sendOn_44 X hr hlk hsz ih V (lv_sub hl [0, 2] rfl) h
        · have h := h.2 hc
          refine lv_aload_n (pc := 29) hx hb d_Mo_sendOn_29 rfl (lv_at hl 0 rfl) ?_
          refine lv_bipush (pc := 30) (v := 10) hx hb d_Mo_sendOn_30 (by decide) ?_
          refine lv_aload_n (pc := 32) hx hb d_Mo_sendOn_32 rfl (lv_at hl 0 rfl) ?_
          refine u_geti (pc := 33) X V (X.fix rfl) rfl rfl f_Mo_99 rfl d_Mo_sendOn_33 ?_
          refine u_cVv (pc := 36) (As := [.int 10, .int (I 80 19)]) X V s_Mo_134 (X.fix rfl) rfl rfl rfl (c_Mo_sendBytes l D cc L A J t16 t32 _ _ 10 (I 80 19) _ h) ⟨rfl, rfl, Nat.le_of_ble_eq_true rfl, Nat.le_of_ble_eq_true rfl⟩ rfl hl.1 rfl (Nat.le_of_ble_eq_true rfl) d_Mo_sendOn_36 ⟨Nat.zero_le _, Nat.zero_le _⟩ (fun I11 R12 h H locs V => ?_)
          refine lv_aload_n (pc := 39) hx hb d_Mo_sendOn_39 rfl (lv_at hl 0 rfl) ?_
          refine lv_iconst (pc := 40) (v := 0) hx hb d_Mo_sendOn_40 (by decide) ?_
          refine u_putz (pc := 41) X V (X.fix rfl) rfl rfl f_Mo_150 rfl h.1 d_Mo_sendOn_41 (fun I13 eI13 H locs V => ?_)
          have h := h.2 I13 eI13
          exact j_Mo_sendOn_44 X hr hlk hsz ih V (lv_sub hl [0, 2] rfl) h
def wp_Mo_sendOn (I : UI) (R : UR) (Q : UI → UR → Prop) : Prop :=
  ((I 80 17 = 2 → (∃ n13 : Nat, wp_Mo_sendOn_L13 Q n13 I R 1 0)) ∧ (¬ I 80 17 = 2 → Q I R))
set_option maxHeartbeats 4000000 in
set_option maxRecDepth 100000 in
theorem c_Mo_sendOn (l : Launch) (D : va_G) (cc : Nat → ClassId) (L : List Nat) (A : Nat → Nat) (J : Nat → Int64) (t16 t32 : Nat) (I : UI) (R : UR) (Q : UI → UR → Prop) (h : wp_Mo_sendOn I R Q) : uMv l y_Mo_sendOn (.code y_Mo_sendOn prog_10_method_21_code 6 none) rm_Mo_sendOn [.ref (A 80)] D cc L A J t16 t32 I R Q := by
  intro sz
  refine u_entry (by decide) (Nat.le_of_ble_eq_true rfl) (fun p e s m args below meth c hsz X V hr hlk ls hl => ?_)
  have X : uX p s m args c prog_10_method_21_code 6 "FrameFerryModel" D cc L A t16 t32 := X
  have hx := X.1
  have hb := X.2.1
  have hl : lv_has ls 6 [(0, .ref (A 80))] := hl
  unfold wp_Mo_sendOn at h
  generalize hH : s.heap = H at V ⊢
  generalize hlo : ([] : List Loc) = locs at V ⊢
  refine lv_aload_n (pc := 0) hx hb d_Mo_sendOn_0 rfl (lv_at hl 0 rfl) ?_
  refine u_geti (pc := 1) X V (X.fix rfl) rfl rfl f_Mo_57 rfl d_Mo_sendOn_1 ?_
  refine lv_iconst (pc := 4) (v := 2) hx hb d_Mo_sendOn_4 (by decide) ?_
  refine lv_icmp_eq (pc := 5) (tgt := 9) hx hb d_Mo_sendOn_5 (by decide) (fun hc => ?_) (fun hc => ?_)
  · have h := h.1 hc
    refine lv_iconst (pc := 9) (v := 1) hx hb d_Mo_sendOn_9 (by decide) ?_
    refine lv_istore_n (pc := 10) (lv' := [(1, .int 1), (0, .ref (A 80))]) hx hb d_Mo_sendOn_10 rfl hl (by decide) rfl (fun ls hl => ?_)
    refine lv_iconst (pc := 11) (v := 0) hx hb d_Mo_sendOn_11 (by decide) ?_
    refine lv_istore_n (pc := 12) (lv' := [(2, .int 0), (1, .int 1), (0, .ref (A 80))]) hx hb d_Mo_sendOn_12 rfl hl (by decide) rfl (fun ls hl => ?_)
    obtain ⟨n13, h⟩ := h
    exact j_Mo_sendOn_13 X hr hlk hsz n13 I R 1 0 H locs ls V (lv_sub hl [2, 1, 0] rfl) h
  · have h := h.2 hc
    exact u_retv (pc := 8) X V hr hlk hsz h d_Mo_sendOn_8
-- FrameFerryModel.begin (II)V
theorem d_Mo_begin_0 : decode prog_10_method_22_code 0 = .ok (.aload_n 0, 1) := by decide +kernel
theorem d_Mo_begin_1 : decode prog_10_method_22_code 1 = .ok (.getfield 16, 3) := by decide +kernel
theorem d_Mo_begin_4 : decode prog_10_method_22_code 4 = .ok (.iload_n 1, 1) := by decide +kernel
theorem d_Mo_begin_5 : decode prog_10_method_22_code 5 = .ok (.iload_n 2, 1) := by decide +kernel
theorem d_Mo_begin_6 : decode prog_10_method_22_code 6 = .ok (.iastore, 1) := by decide +kernel
theorem d_Mo_begin_7 : decode prog_10_method_22_code 7 = .ok (.aload_n 0, 1) := by decide +kernel
theorem d_Mo_begin_8 : decode prog_10_method_22_code 8 = .ok (.getfield 19, 3) := by decide +kernel
theorem d_Mo_begin_11 : decode prog_10_method_22_code 11 = .ok (.iload_n 1, 1) := by decide +kernel
theorem d_Mo_begin_12 : decode prog_10_method_22_code 12 = .ok (.iconst 0, 1) := by decide +kernel
theorem d_Mo_begin_13 : decode prog_10_method_22_code 13 = .ok (.iastore, 1) := by decide +kernel
theorem d_Mo_begin_14 : decode prog_10_method_22_code 14 = .ok (.aload_n 0, 1) := by decide +kernel
theorem d_Mo_begin_15 : decode prog_10_method_22_code 15 = .ok (.getfield 22, 3) := by decide +kernel
theorem d_Mo_begin_18 : decode prog_10_method_22_code 18 = .ok (.iload_n 1, 1) := by decide +kernel
theorem d_Mo_begin_19 : decode prog_10_method_22_code 19 = .ok (.iconst (-1), 1) := by decide +kernel
theorem d_Mo_begin_20 : decode prog_10_method_22_code 20 = .ok (.iastore, 1) := by decide +kernel
theorem d_Mo_begin_21 : decode prog_10_method_22_code 21 = .ok (.aload_n 0, 1) := by decide +kernel
theorem d_Mo_begin_22 : decode prog_10_method_22_code 22 = .ok (.getfield 25, 3) := by decide +kernel
theorem d_Mo_begin_25 : decode prog_10_method_22_code 25 = .ok (.iload_n 1, 1) := by decide +kernel
theorem d_Mo_begin_26 : decode prog_10_method_22_code 26 = .ok (.iconst 0, 1) := by decide +kernel
theorem d_Mo_begin_27 : decode prog_10_method_22_code 27 = .ok (.bastore, 1) := by decide +kernel
theorem d_Mo_begin_28 : decode prog_10_method_22_code 28 = .ok (.return_, 1) := by decide +kernel
def rm_Mo_begin : Room := { frames := 0, cells := 0, slots := 0, locals := 0 }
def wp_Mo_begin (I : UI) (R : UR) (x1 : Int32) (x2 : Int32) (Q : UI → UR → Prop) : Prop :=
  vp_in x1 2 ∧ ∀ I1 : UI, I1 = u2 I 83 x1.toNatClampNeg x2 → vp_in x1 2 ∧ ∀ I2 : UI, I2 = u2 I1 84 x1.toNatClampNeg 0 → vp_in x1 2 ∧ ∀ I3 : UI, I3 = u2 I2 85 x1.toNatClampNeg (-1) → vp_in x1 2 ∧ zb 0 ∧ ∀ I4 : UI, I4 = u2 I3 86 x1.toNatClampNeg 0 → Q I4 R
set_option maxHeartbeats 4000000 in
set_option maxRecDepth 100000 in
theorem c_Mo_begin (l : Launch) (D : va_G) (cc : Nat → ClassId) (L : List Nat) (A : Nat → Nat) (J : Nat → Int64) (t16 t32 : Nat) (I : UI) (R : UR) (x1 : Int32) (x2 : Int32) (Q : UI → UR → Prop) (h : wp_Mo_begin I R x1 x2 Q) : uMv l y_Mo_begin (.code y_Mo_begin prog_10_method_22_code 3 none) rm_Mo_begin [.ref (A 80), .int x1, .int x2] D cc L A J t16 t32 I R Q := by
  intro sz
  refine u_entry (by decide) (Nat.le_of_ble_eq_true rfl) (fun p e s m args below meth c hsz X V hr hlk ls hl => ?_)
  have X : uX p s m args c prog_10_method_22_code 3 "FrameFerryModel" D cc L A t16 t32 := X
  have hx := X.1
  have hb := X.2.1
  have hl : lv_has ls 3 [(0, .ref (A 80)), (1, .int x1), (2, .int x2)] := hl
  unfold wp_Mo_begin at h
  generalize hH : s.heap = H at V ⊢
  generalize hlo : ([] : List Loc) = locs at V ⊢
  refine lv_aload_n (pc := 0) hx hb d_Mo_begin_0 rfl (lv_at hl 0 rfl) ?_
  refine u_getr (pc := 1) (o' := 83) X V (X.fix rfl) rfl rfl f_Mo_16 rfl rfl d_Mo_begin_1 ?_
  refine lv_iload_n (pc := 4) hx hb d_Mo_begin_4 rfl (lv_at hl 1 rfl) ?_
  refine lv_iload_n (pc := 5) hx hb d_Mo_begin_5 rfl (lv_at hl 2 rfl) ?_
  refine u_iast (pc := 6) X V (X.fix rfl) rfl rfl h.1 d_Mo_begin_6 (fun I1 eI1 H locs V => ?_)
  have h := h.2 I1 eI1
  refine lv_aload_n (pc := 7) hx hb d_Mo_begin_7 rfl (lv_at hl 0 rfl) ?_
  refine u_getr (pc := 8) (o' := 84) X V (X.fix rfl) rfl rfl f_Mo_19 rfl rfl d_Mo_begin_8 ?_
  refine lv_iload_n (pc := 11) hx hb d_Mo_begin_11 rfl (lv_at hl 1 rfl) ?_
  refine lv_iconst (pc := 12) (v := 0) hx hb d_Mo_begin_12 (by decide) ?_
  refine u_iast (pc := 13) X V (X.fix rfl) rfl rfl h.1 d_Mo_begin_13 (fun I2 eI2 H locs V => ?_)
  have h := h.2 I2 eI2
  refine lv_aload_n (pc := 14) hx hb d_Mo_begin_14 rfl (lv_at hl 0 rfl) ?_
  refine u_getr (pc := 15) (o' := 85) X V (X.fix rfl) rfl rfl f_Mo_22 rfl rfl d_Mo_begin_15 ?_
  refine lv_iload_n (pc := 18) hx hb d_Mo_begin_18 rfl (lv_at hl 1 rfl) ?_
  refine lv_iconst (pc := 19) (v := (-1)) hx hb d_Mo_begin_19 (by decide) ?_
  refine u_iast (pc := 20) X V (X.fix rfl) rfl rfl h.1 d_Mo_begin_20 (fun I3 eI3 H locs V => ?_)
  have h := h.2 I3 eI3
  refine lv_aload_n (pc := 21) hx hb d_Mo_begin_21 rfl (lv_at hl 0 rfl) ?_
  refine u_getr (pc := 22) (o' := 86) X V (X.fix rfl) rfl rfl f_Mo_25 rfl rfl d_Mo_begin_22 ?_
  refine lv_iload_n (pc := 25) hx hb d_Mo_begin_25 rfl (lv_at hl 1 rfl) ?_
  refine lv_iconst (pc := 26) (v := 0) hx hb d_Mo_begin_26 (by decide) ?_
  refine u_zast (pc := 27) X V (X.fix rfl) rfl rfl h.1 h.2.1 d_Mo_begin_27 (fun I4 eI4 H locs V => ?_)
  have h := h.2.2 I4 eI4
  exact u_retv (pc := 28) X V hr hlk hsz h d_Mo_begin_28
-- FrameFerryModel.digitOf (I)I
theorem d_Mo_digitOf_0 : decode prog_10_method_23_code 0 = .ok (.iload_n 0, 1) := by decide +kernel
theorem d_Mo_digitOf_1 : decode prog_10_method_23_code 1 = .ok (.bipush 48, 2) := by decide +kernel
theorem d_Mo_digitOf_3 : decode prog_10_method_23_code 3 = .ok (.bipush 57, 2) := by decide +kernel
theorem d_Mo_digitOf_5 : decode prog_10_method_23_code 5 = .ok (.invokestatic 85, 3) := by decide +kernel
theorem d_Mo_digitOf_8 : decode prog_10_method_23_code 8 = .ok (.ifCond .eq 10, 3) := by decide +kernel
theorem d_Mo_digitOf_11 : decode prog_10_method_23_code 11 = .ok (.iload_n 0, 1) := by decide +kernel
theorem d_Mo_digitOf_12 : decode prog_10_method_23_code 12 = .ok (.bipush 48, 2) := by decide +kernel
theorem d_Mo_digitOf_14 : decode prog_10_method_23_code 14 = .ok (.isub, 1) := by decide +kernel
theorem d_Mo_digitOf_15 : decode prog_10_method_23_code 15 = .ok (.goto 46, 3) := by decide +kernel
theorem d_Mo_digitOf_18 : decode prog_10_method_23_code 18 = .ok (.iload_n 0, 1) := by decide +kernel
theorem d_Mo_digitOf_19 : decode prog_10_method_23_code 19 = .ok (.bipush 97, 2) := by decide +kernel
theorem d_Mo_digitOf_21 : decode prog_10_method_23_code 21 = .ok (.bipush 102, 2) := by decide +kernel
theorem d_Mo_digitOf_23 : decode prog_10_method_23_code 23 = .ok (.invokestatic 85, 3) := by decide +kernel
theorem d_Mo_digitOf_26 : decode prog_10_method_23_code 26 = .ok (.ifCond .eq 13, 3) := by decide +kernel
theorem d_Mo_digitOf_29 : decode prog_10_method_23_code 29 = .ok (.iload_n 0, 1) := by decide +kernel
theorem d_Mo_digitOf_30 : decode prog_10_method_23_code 30 = .ok (.bipush 97, 2) := by decide +kernel
theorem d_Mo_digitOf_32 : decode prog_10_method_23_code 32 = .ok (.isub, 1) := by decide +kernel
theorem d_Mo_digitOf_33 : decode prog_10_method_23_code 33 = .ok (.bipush 10, 2) := by decide +kernel
theorem d_Mo_digitOf_35 : decode prog_10_method_23_code 35 = .ok (.iadd, 1) := by decide +kernel
theorem d_Mo_digitOf_36 : decode prog_10_method_23_code 36 = .ok (.goto 25, 3) := by decide +kernel
theorem d_Mo_digitOf_39 : decode prog_10_method_23_code 39 = .ok (.iload_n 0, 1) := by decide +kernel
theorem d_Mo_digitOf_40 : decode prog_10_method_23_code 40 = .ok (.bipush 65, 2) := by decide +kernel
theorem d_Mo_digitOf_42 : decode prog_10_method_23_code 42 = .ok (.bipush 70, 2) := by decide +kernel
theorem d_Mo_digitOf_44 : decode prog_10_method_23_code 44 = .ok (.invokestatic 85, 3) := by decide +kernel
theorem d_Mo_digitOf_47 : decode prog_10_method_23_code 47 = .ok (.ifCond .eq 13, 3) := by decide +kernel
theorem d_Mo_digitOf_50 : decode prog_10_method_23_code 50 = .ok (.iload_n 0, 1) := by decide +kernel
theorem d_Mo_digitOf_51 : decode prog_10_method_23_code 51 = .ok (.bipush 65, 2) := by decide +kernel
theorem d_Mo_digitOf_53 : decode prog_10_method_23_code 53 = .ok (.isub, 1) := by decide +kernel
theorem d_Mo_digitOf_54 : decode prog_10_method_23_code 54 = .ok (.bipush 10, 2) := by decide +kernel
theorem d_Mo_digitOf_56 : decode prog_10_method_23_code 56 = .ok (.iadd, 1) := by decide +kernel
theorem d_Mo_digitOf_57 : decode prog_10_method_23_code 57 = .ok (.goto 4, 3) := by decide +kernel
theorem d_Mo_digitOf_60 : decode prog_10_method_23_code 60 = .ok (.iconst (-1), 1) := by decide +kernel
theorem d_Mo_digitOf_61 : decode prog_10_method_23_code 61 = .ok (.ireturn, 1) := by decide +kernel
def rm_Mo_digitOf : Room := { frames := 1, cells := 0, slots := 0, locals := 22 }
def wp_Mo_digitOf (I : UI) (R : UR) (x0 : Int32) (Q : Int32 → UI → UR → Prop) : Prop :=
  wp_Mo_isIn I R x0 48 57 (fun r3 I1 R2 => ((r3 = 0 → wp_Mo_isIn I1 R2 x0 97 102 (fun r6 I4 R5 => ((r6 = 0 → wp_Mo_isIn I4 R5 x0 65 70 (fun r9 I7 R8 => ((r9 = 0 → Q (-1) I7 R8) ∧ (¬ r9 = 0 → Q ((x0 - 65) + 10) I7 R8)))) ∧ (¬ r6 = 0 → Q ((x0 - 97) + 10) I4 R5)))) ∧ (¬ r3 = 0 → Q (x0 - 48) I1 R2)))
set_option maxHeartbeats 4000000 in
set_option maxRecDepth 100000 in
theorem c_Mo_digitOf (l : Launch) (D : va_G) (cc : Nat → ClassId) (L : List Nat) (A : Nat → Nat) (J : Nat → Int64) (t16 t32 : Nat) (I : UI) (R : UR) (x0 : Int32) (Q : Int32 → UI → UR → Prop) (h : wp_Mo_digitOf I R x0 Q) : uMi l y_Mo_digitOf (.code y_Mo_digitOf prog_10_method_23_code 1 (some .int)) rm_Mo_digitOf [.int x0] D cc L A J t16 t32 I R Q := by
  intro sz
  refine u_entry (by decide) (Nat.le_of_ble_eq_true rfl) (fun p e s m args below meth c hsz X V hr hlk ls hl => ?_)
  have X : uX p s m args c prog_10_method_23_code 1 "FrameFerryModel" D cc L A t16 t32 := X
  have hx := X.1
  have hb := X.2.1
  have hl : lv_has ls 1 [(0, .int x0)] := hl
  unfold wp_Mo_digitOf at h
  generalize hH : s.heap = H at V ⊢
  generalize hlo : ([] : List Loc) = locs at V ⊢
  refine lv_iload_n (pc := 0) hx hb d_Mo_digitOf_0 rfl (lv_at hl 0 rfl) ?_
  refine lv_bipush (pc := 1) (v := 48) hx hb d_Mo_digitOf_1 (by decide) ?_
  refine lv_bipush (pc := 3) (v := 57) hx hb d_Mo_digitOf_3 (by decide) ?_
  refine u_cSi (pc := 5) (As := [.int x0, .int 48, .int 57]) X V s_Mo_85 (c_Mo_isIn l D cc L A J t16 t32 _ _ x0 48 57 _ h) ⟨rfl, rfl, Nat.le_of_ble_eq_true rfl, Nat.le_of_ble_eq_true rfl⟩ rfl hl.1 rfl (Nat.le_of_ble_eq_true rfl) d_Mo_digitOf_5 ⟨Nat.zero_le _, Nat.zero_le _⟩ (fun r3 I1 R2 h H locs V => ?_)
  refine lv_if_eq (pc := 8) (tgt := 18) hx hb d_Mo_digitOf_8 (by decide) (fun hc => ?_) (fun hc => ?_)
  · have h := h.1 hc
    refine lv_iload_n (pc := 18) hx hb d_Mo_digitOf_18 rfl (lv_at hl 0 rfl) ?_
    refine lv_bipush (pc := 19) (v := 97) hx hb d_Mo_digitOf_19 (by decide) ?_
    refine lv_bipush (pc := 21) (v := 102) hx hb d_Mo_digitOf_21 (by decide) ?_
    refine u_cSi (pc := 23) (As := [.int x0, .int 97, .int 102]) X V s_Mo_85 (c_Mo_isIn l D cc L A J t16 t32 _ _ x0 97 102 _ h) ⟨rfl, rfl, Nat.le_of_ble_eq_true rfl, Nat.le_of_ble_eq_true rfl⟩ rfl hl.1 rfl (Nat.le_of_ble_eq_true rfl) d_Mo_digitOf_23 ⟨Nat.zero_le _, Nat.zero_le _⟩ (fun r6 I4 R5 h H locs V => ?_)
    refine lv_if_eq (pc := 26) (tgt := 39) hx hb d_Mo_digitOf_26 (by decide) (fun hc => ?_) (fun hc => ?_)
    · have h := h.1 hc
      refine lv_iload_n (pc := 39) hx hb d_Mo_digitOf_39 rfl (lv_at hl 0 rfl) ?_
      refine lv_bipush (pc := 40) (v := 65) hx hb d_Mo_digitOf_40 (by decide) ?_
      refine lv_bipush (pc := 42) (v := 70) hx hb d_Mo_digitOf_42 (by decide) ?_
      refine u_cSi (pc := 44) (As := [.int x0, .int 65, .int 70]) X V s_Mo_85 (c_Mo_isIn l D cc L A J t16 t32 _ _ x0 65 70 _ h) ⟨rfl, rfl, Nat.le_of_ble_eq_true rfl, Nat.le_of_ble_eq_true rfl⟩ rfl hl.1 rfl (Nat.le_of_ble_eq_true rfl) d_Mo_digitOf_44 ⟨Nat.zero_le _, Nat.zero_le _⟩ (fun r9 I7 R8 h H locs V => ?_)
      refine lv_if_eq (pc := 47) (tgt := 60) hx hb d_Mo_digitOf_47 (by decide) (fun hc => ?_) (fun hc => ?_)
      · have h := h.1 hc
        refine lv_iconst (pc := 60) (v := (-1)) hx hb d_Mo_digitOf_60 (by decide) ?_
        exact u_reti (pc := 61) X V hr hlk hsz h d_Mo_digitOf_61
      · have h := h.2 hc
        refine lv_iload_n (pc := 50) hx hb d_Mo_digitOf_50 rfl (lv_at hl 0 rfl) ?_
        refine lv_bipush (pc := 51) (v := 65) hx hb d_Mo_digitOf_51 (by decide) ?_
        refine lv_isub (pc := 53) hx hb d_Mo_digitOf_53 ?_
        refine lv_bipush (pc := 54) (v := 10) hx hb d_Mo_digitOf_54 (by decide) ?_
        refine lv_iadd (pc := 56) hx hb d_Mo_digitOf_56 ?_
        refine lv_goto (pc := 57) (tgt := 61) hx hb d_Mo_digitOf_57 (by decide) ?_
        exact u_reti (pc := 61) X V hr hlk hsz h d_Mo_digitOf_61
    · have h := h.2 hc
      refine lv_iload_n (pc := 29) hx hb d_Mo_digitOf_29 rfl (lv_at hl 0 rfl) ?_
      refine lv_bipush (pc := 30) (v := 97) hx hb d_Mo_digitOf_30 (by decide) ?_
      refine lv_isub (pc := 32) hx hb d_Mo_digitOf_32 ?_
      refine lv_bipush (pc := 33) (v := 10) hx hb d_Mo_digitOf_33 (by decide) ?_
      refine lv_iadd (pc := 35) hx hb d_Mo_digitOf_35 ?_
      refine lv_goto (pc := 36) (tgt := 61) hx hb d_Mo_digitOf_36 (by decide) ?_
      exact u_reti (pc := 61) X V hr hlk hsz h d_Mo_digitOf_61
  · have h := h.2 hc
    refine lv_iload_n (pc := 11) hx hb d_Mo_digitOf_11 rfl (lv_at hl 0 rfl) ?_
    refine lv_bipush (pc := 12) (v := 48) hx hb d_Mo_digitOf_12 (by decide) ?_
    refine lv_isub (pc := 14) hx hb d_Mo_digitOf_14 ?_
    refine lv_goto (pc := 15) (tgt := 61) hx hb d_Mo_digitOf_15 (by decide) ?_
    exact u_reti (pc := 61) X V hr hlk hsz h d_Mo_digitOf_61
-- FrameFerryModel.badHeader (I)V
theorem d_Mo_badHeader_0 : decode prog_10_method_24_code 0 = .ok (.aload_n 0, 1) := by decide +kernel
theorem d_Mo_badHeader_1 : decode prog_10_method_24_code 1 = .ok (.iload_n 1, 1) := by decide +kernel
theorem d_Mo_badHeader_2 : decode prog_10_method_24_code 2 = .ok (.iconst 0, 1) := by decide +kernel
theorem d_Mo_badHeader_3 : decode prog_10_method_24_code 3 = .ok (.invokevirtual 153, 3) := by decide +kernel
theorem d_Mo_badHeader_6 : decode prog_10_method_24_code 6 = .ok (.iload_n 1, 1) := by decide +kernel
theorem d_Mo_badHeader_7 : decode prog_10_method_24_code 7 = .ok (.iconst 1, 1) := by decide +kernel
theorem d_Mo_badHeader_8 : decode prog_10_method_24_code 8 = .ok (.if_icmp .ne 21, 3) := by decide +kernel
theorem d_Mo_badHeader_11 : decode prog_10_method_24_code 11 = .ok (.aload_n 0, 1) := by decide +kernel
theorem d_Mo_badHeader_12 : decode prog_10_method_24_code 12 = .ok (.getfield 76, 3) := by decide +kernel
theorem d_Mo_badHeader_15 : decode prog_10_method_24_code 15 = .ok (.iconst 1, 1) := by decide +kernel
theorem d_Mo_badHeader_16 : decode prog_10_method_24_code 16 = .ok (.dup2, 1) := by decide +kernel
theorem d_Mo_badHeader_17 : decode prog_10_method_24_code 17 = .ok (.iaload, 1) := by decide +kernel
theorem d_Mo_badHeader_18 : decode prog_10_method_24_code 18 = .ok (.iconst 1, 1) := by decide +kernel
theorem d_Mo_badHeader_19 : decode prog_10_method_24_code 19 = .ok (.iadd, 1) := by decide +kernel
theorem d_Mo_badHeader_20 : decode prog_10_method_24_code 20 = .ok (.iastore, 1) := by decide +kernel
theorem d_Mo_badHeader_21 : decode prog_10_method_24_code 21 = .ok (.aload_n 0, 1) := by decide +kernel
theorem d_Mo_badHeader_22 : decode prog_10_method_24_code 22 = .ok (.iconst 0, 1) := by decide +kernel
theorem d_Mo_badHeader_23 : decode prog_10_method_24_code 23 = .ok (.bipush 6, 2) := by decide +kernel
theorem d_Mo_badHeader_25 : decode prog_10_method_24_code 25 = .ok (.iconst 0, 1) := by decide +kernel
theorem d_Mo_badHeader_26 : decode prog_10_method_24_code 26 = .ok (.invokevirtual 140, 3) := by decide +kernel
theorem d_Mo_badHeader_29 : decode prog_10_method_24_code 29 = .ok (.return_, 1) := by decide +kernel
def rm_Mo_badHeader : Room := { frames := 3, cells := 0, slots := 0, locals := 74 }
def wp_Mo_badHeader (I : UI) (R : UR) (x1 : Int32) (Q : UI → UR → Prop) : Prop :=
  wp_Mo_begin I R x1 0 (fun I1 R2 => ((¬ x1 = 1 → Q I1 R2) ∧ (x1 = 1 → vp_in 1 4 ∧ vp_in 1 4 ∧ ∀ I3 : UI, I3 = u2 I1 108 ((1 : Int32).toNatClampNeg) ((I1 108 (1 : Int32).toNatClampNeg) + 1) → wp_Mo_sendHex I3 R2 0 6 0 (fun I4 R5 => Q I4 R5))))
set_option maxHeartbeats 4000000 in
set_option maxRecDepth 100000 in
theorem c_Mo_badHeader (l : Launch) (D : va_G) (cc : Nat → ClassId) (L : List Nat) (A : Nat → Nat) (J : Nat → Int64) (t16 t32 : Nat) (I : UI) (R : UR) (x1 : Int32) (Q : UI → UR → Prop) (h : wp_Mo_badHeader I R x1 Q) : uMv l y_Mo_badHeader (.code y_Mo_badHeader prog_10_method_24_code 2 none) rm_Mo_badHeader [.ref (A 80), .int x1] D cc L A J t16 t32 I R Q := by
  intro sz
  refine u_entry (by decide) (Nat.le_of_ble_eq_true rfl) (fun p e s m args below meth c hsz X V hr hlk ls hl => ?_)
  have X : uX p s m args c prog_10_method_24_code 2 "FrameFerryModel" D cc L A t16 t32 := X
  have hx := X.1
  have hb := X.2.1
  have hl : lv_has ls 2 [(0, .ref (A 80)), (1, .int x1)] := hl
  unfold wp_Mo_badHeader at h
  generalize hH : s.heap = H at V ⊢
  generalize hlo : ([] : List Loc) = locs at V ⊢
  refine lv_aload_n (pc := 0) hx hb d_Mo_badHeader_0 rfl (lv_at hl 0 rfl) ?_
  refine lv_iload_n (pc := 1) hx hb d_Mo_badHeader_1 rfl (lv_at hl 1 rfl) ?_
  refine lv_iconst (pc := 2) (v := 0) hx hb d_Mo_badHeader_2 (by decide) ?_
  refine u_cVv (pc := 3) (As := [.int x1, .int 0]) X V s_Mo_153 (X.fix rfl) rfl rfl rfl (c_Mo_begin l D cc L A J t16 t32 _ _ x1 0 _ h) ⟨rfl, rfl, Nat.le_of_ble_eq_true rfl, Nat.le_of_ble_eq_true rfl⟩ rfl hl.1 rfl (Nat.le_of_ble_eq_true rfl) d_Mo_badHeader_3 ⟨Nat.zero_le _, Nat.zero_le _⟩ (fun I1 R2 h H locs V => ?_)
  refine lv_iload_n (pc := 6) hx hb d_Mo_badHeader_6 rfl (lv_at hl 1 rfl) ?_
  refine lv_iconst (pc := 7) (v := 1) hx hb d_Mo_badHeader_7 (by decide) ?_
  refine lv_icmp_ne (pc := 8) (tgt := 29) hx hb d_Mo_badHeader_8 (by decide) (fun hc => ?_) (fun hc => ?_)
  · have h := h.1 hc
    exact u_retv (pc := 29) X V hr hlk hsz h d_Mo_badHeader_29
  · have h := h.2 hc
    refine lv_aload_n (pc := 11) hx hb d_Mo_badHeader_11 rfl (lv_at hl 0 rfl) ?_
    refine u_getr (pc := 12) (o' := 108) X V (X.fix rfl) rfl rfl f_Mo_76 rfl rfl d_Mo_badHeader_12 ?_
    refine lv_iconst (pc := 15) (v := 1) hx hb d_Mo_badHeader_15 (by decide) ?_
    refine lv_dup2_11 (pc := 16) hx hb d_Mo_badHeader_16 rfl rfl ?_
    refine u_iald (pc := 17) X V (X.fix rfl) rfl rfl h.1 d_Mo_badHeader_17 ?_
    have h := h.2
    refine lv_iconst (pc := 18) (v := 1) hx hb d_Mo_badHeader_18 (by decide) ?_
    refine lv_iadd (pc := 19) hx hb d_Mo_badHeader_19 ?_
    refine u_iast (pc := 20) X V (X.fix rfl) rfl rfl h.1 d_Mo_badHeader_20 (fun I3 eI3 H locs V => ?_)
    have h := h.2 I3 eI3
    refine lv_aload_n (pc := 21) hx hb d_Mo_badHeader_21 rfl (lv_at hl 0 rfl) ?_
    refine lv_iconst (pc := 22) (v := 0) hx hb d_Mo_badHeader_22 (by decide) ?_
    refine lv_bipush (pc := 23) (v := 6) hx hb d_Mo_badHeader_23 (by decide) ?_
    refine lv_iconst (pc := 25) (v := 0) hx hb d_Mo_badHeader_25 (by decide) ?_
    refine u_cVv (pc := 26) (As := [.int 0, .int 6, .int 0]) X V s_Mo_140 (X.fix rfl) rfl rfl rfl (c_Mo_sendHex l D cc L A J t16 t32 _ _ 0 6 0 _ h) ⟨rfl, rfl, Nat.le_of_ble_eq_true rfl, Nat.le_of_ble_eq_true rfl⟩ rfl hl.1 rfl (Nat.le_of_ble_eq_true rfl) d_Mo_badHeader_26 ⟨Nat.zero_le _, Nat.zero_le _⟩ (fun I4 R5 h H locs V => ?_)
    exact u_retv (pc := 29) X V hr hlk hsz h d_Mo_badHeader_29
-- FrameFerryModel.position ()I
theorem d_Mo_position_0 : decode prog_10_method_31_code 0 = .ok (.aload_n 0, 1) := by decide +kernel
theorem d_Mo_position_1 : decode prog_10_method_31_code 1 = .ok (.getfield 69, 3) := by decide +kernel
theorem d_Mo_position_4 : decode prog_10_method_31_code 4 = .ok (.ifCond .ge 7, 3) := by decide +kernel
theorem d_Mo_position_7 : decode prog_10_method_31_code 7 = .ok (.iconst 0, 1) := by decide +kernel
theorem d_Mo_position_8 : decode prog_10_method_31_code 8 = .ok (.goto 12, 3) := by decide +kernel
theorem d_Mo_position_11 : decode prog_10_method_31_code 11 = .ok (.aload_n 0, 1) := by decide +kernel
theorem d_Mo_position_12 : decode prog_10_method_31_code 12 = .ok (.getfield 63, 3) := by decide +kernel
theorem d_Mo_position_15 : decode prog_10_method_31_code 15 = .ok (.aload_n 0, 1) := by decide +kernel
theorem d_Mo_position_16 : decode prog_10_method_31_code 16 = .ok (.getfield 69, 3) := by decide +kernel
theorem d_Mo_position_19 : decode prog_10_method_31_code 19 = .ok (.iaload, 1) := by decide +kernel
theorem d_Mo_position_20 : decode prog_10_method_31_code 20 = .ok (.ireturn, 1) := by decide +kernel
def rm_Mo_position : Room := { frames := 0, cells := 0, slots := 0, locals := 0 }
def wp_Mo_position (I : UI) (R : UR) (Q : Int32 → UI → UR → Prop) : Prop :=
  ((0 ≤ I 80 25 → vp_in (I 80 25) 26 ∧ Q (I 103 (I 80 25).toNatClampNeg) I R) ∧ (¬ 0 ≤ I 80 25 → Q 0 I R))
set_option maxHeartbeats 4000000 in
set_option maxRecDepth 100000 in
theorem c_Mo_position (l : Launch) (D : va_G) (cc : Nat → ClassId) (L : List Nat) (A : Nat → Nat) (J : Nat → Int64) (t16 t32 : Nat) (I : UI) (R : UR) (Q : Int32 → UI → UR → Prop) (h : wp_Mo_position I R Q) : uMi l y_Mo_position (.code y_Mo_position prog_10_method_31_code 1 (some .int)) rm_Mo_position [.ref (A 80)] D cc L A J t16 t32 I R Q := by
  intro sz
  refine u_entry (by decide) (Nat.le_of_ble_eq_true rfl) (fun p e s m args below meth c hsz X V hr hlk ls hl => ?_)
  have X : uX p s m args c prog_10_method_31_code 1 "FrameFerryModel" D cc L A t16 t32 := X
  have hx := X.1
  have hb := X.2.1
  have hl : lv_has ls 1 [(0, .ref (A 80))] := hl
  unfold wp_Mo_position at h
  generalize hH : s.heap = H at V ⊢
  generalize hlo : ([] : List Loc) = locs at V ⊢
  refine lv_aload_n (pc := 0) hx hb d_Mo_position_0 rfl (lv_at hl 0 rfl) ?_
  refine u_geti (pc := 1) X V (X.fix rfl) rfl rfl f_Mo_69 rfl d_Mo_position_1 ?_
  refine lv_if_ge (pc := 4) (tgt := 11) hx hb d_Mo_position_4 (by decide) (fun hc => ?_) (fun hc => ?_)
  · have h := h.1 hc
    refine lv_aload_n (pc := 11) hx hb d_Mo_position_11 rfl (lv_at hl 0 rfl) ?_
    refine u_getr (pc := 12) (o' := 103) X V (X.fix rfl) rfl rfl f_Mo_63 rfl rfl d_Mo_position_12 ?_
    refine lv_aload_n (pc := 15) hx hb d_Mo_position_15 rfl (lv_at hl 0 rfl) ?_
    refine u_geti (pc := 16) X V (X.fix rfl) rfl rfl f_Mo_69 rfl d_Mo_position_16 ?_
    refine u_iald (pc := 19) X V (X.fix rfl) rfl rfl h.1 d_Mo_position_19 ?_
    have h := h.2
    exact u_reti (pc := 20) X V hr hlk hsz h d_Mo_position_20
  · have h := h.2 hc
    refine lv_iconst (pc := 7) (v := 0) hx hb d_Mo_position_7 (by decide) ?_
    refine lv_goto (pc := 8) (tgt := 20) hx hb d_Mo_position_8 (by decide) ?_
    exact u_reti (pc := 20) X V hr hlk hsz h d_Mo_position_20
-- FrameFerryModel.answer (I)V
theorem d_Mo_answer_0 : decode prog_10_method_32_code 0 = .ok (.aload_n 0, 1) := by decide +kernel
theorem d_Mo_answer_1 : decode prog_10_method_32_code 1 = .ok (.iconst 0, 1) := by decide +kernel
theorem d_Mo_answer_2 : decode prog_10_method_32_code 2 = .ok (.iload_n 1, 1) := by decide +kernel
theorem d_Mo_answer_3 : decode prog_10_method_32_code 3 = .ok (.iload_n 1, 1) := by decide +kernel
theorem d_Mo_answer_4 : decode prog_10_method_32_code 4 = .ok (.iconst 1, 1) := by decide +kernel
theorem d_Mo_answer_5 : decode prog_10_method_32_code 5 = .ok (.if_icmp .ne 19, 3) := by decide +kernel
theorem d_Mo_answer_8 : decode prog_10_method_32_code 8 = .ok (.aload_n 0, 1) := by decide +kernel
theorem d_Mo_answer_9 : decode prog_10_method_32_code 9 = .ok (.getfield 195, 3) := by decide +kernel
theorem d_Mo_answer_12 : decode prog_10_method_32_code 12 = .ok (.ifCond .eq 8, 3) := by decide +kernel
theorem d_Mo_answer_15 : decode prog_10_method_32_code 15 = .ok (.bipush 32, 2) := by decide +kernel
theorem d_Mo_answer_17 : decode prog_10_method_32_code 17 = .ok (.goto 26, 3) := by decide +kernel
theorem d_Mo_answer_20 : decode prog_10_method_32_code 20 = .ok (.iconst 0, 1) := by decide +kernel
theorem d_Mo_answer_21 : decode prog_10_method_32_code 21 = .ok (.goto 22, 3) := by decide +kernel
theorem d_Mo_answer_24 : decode prog_10_method_32_code 24 = .ok (.iload_n 1, 1) := by decide +kernel
theorem d_Mo_answer_25 : decode prog_10_method_32_code 25 = .ok (.bipush 9, 2) := by decide +kernel
theorem d_Mo_answer_27 : decode prog_10_method_32_code 27 = .ok (.if_icmp .eq 8, 3) := by decide +kernel
theorem d_Mo_answer_30 : decode prog_10_method_32_code 30 = .ok (.iload_n 1, 1) := by decide +kernel
theorem d_Mo_answer_31 : decode prog_10_method_32_code 31 = .ok (.iconst 3, 1) := by decide +kernel
theorem d_Mo_answer_32 : decode prog_10_method_32_code 32 = .ok (.if_icmp .ne 10, 3) := by decide +kernel
theorem d_Mo_answer_35 : decode prog_10_method_32_code 35 = .ok (.aload_n 0, 1) := by decide +kernel
theorem d_Mo_answer_36 : decode prog_10_method_32_code 36 = .ok (.invokevirtual 198, 3) := by decide +kernel
theorem d_Mo_answer_39 : decode prog_10_method_32_code 39 = .ok (.goto 4, 3) := by decide +kernel
theorem d_Mo_answer_42 : decode prog_10_method_32_code 42 = .ok (.iconst 0, 1) := by decide +kernel
theorem d_Mo_answer_43 : decode prog_10_method_32_code 43 = .ok (.invokevirtual 140, 3) := by decide +kernel
theorem d_Mo_answer_46 : decode prog_10_method_32_code 46 = .ok (.return_, 1) := by decide +kernel
def rm_Mo_answer : Room := { frames := 3, cells := 0, slots := 0, locals := 74 }
def wp_Mo_answer_L43 (Q : UI → UR → Prop) (I : UI) (R : UR) (s0 : Int32) (s1 : Int32) (s2 : Int32) : Prop :=
  wp_Mo_sendHex I R s2 s1 s0 (fun I4 R5 => Q I4 R5)
set_option maxHeartbeats 4000000 in
set_option maxRecDepth 100000 in
theorem j_Mo_answer_43 (X : uX p s m args c prog_10_method_32_code 2 "FrameFerryModel" D cc L A t16 t32) (hr : meth.sig.returnType = none) (hlk : meth.locks = false) (hsz : sz = s.heap.size) {Q : UI → UR → Prop} {I : UI} {R : UR} {s0 : Int32} {s1 : Int32} {s2 : Int32} {H : Heap} {locs : List Loc} {ls : Array Slot} (V : uV s D cc L A J I R H locs) (hl : lv_has ls 2 []) (h : wp_Mo_answer_L43 Q I R s0 s1 s2) : W p l e rm_Mo_answer s m args below meth c H locs 0 0 (MQ below (va_Qv (fun u : UI × UR => Q u.1 u.2) (uBv D cc L A J) (uA L A sz)) args s 0 0 (uA L A sz)) (F0 m 43 ls [.int s0, .int s1, .int s2, .ref (A 80)]) := by
  have hx := X.1
  have hb := X.2.1
  unfold wp_Mo_answer_L43 at h
  refine u_cVv (pc := 43) (As := [.int s2, .int s1, .int s0]) X V s_Mo_140 (X.fix rfl) rfl rfl rfl (c_Mo_sendHex l D cc L A J t16 t32 _ _ s2 s1 s0 _ h) ⟨rfl, rfl, Nat.le_of_ble_eq_true rfl, Nat.le_of_ble_eq_true rfl⟩ rfl hl.1 rfl (Nat.le_of_ble_eq_true rfl) d_Mo_answer_43 ⟨Nat.zero_le _, Nat.zero_le _⟩ (fun I4 R5 h H locs V => ?_)
  exact u_retv (pc := 46) X V hr hlk hsz h d_Mo_answer_46
def wp_Mo_answer_L35 (Q : UI → UR → Prop) (I : UI) (R : UR) (s0 : Int32) (s1 : Int32) : Prop :=
  wp_Mo_position I R (fun r3 I1 R2 => wp_Mo_answer_L43 Q I1 R2 r3 s0 s1)
set_option maxHeartbeats 4000000 in
set_option maxRecDepth 100000 in
theorem j_Mo_answer_35 (X : uX p s m args c prog_10_method_32_code 2 "FrameFerryModel" D cc L A t16 t32) (hr : meth.sig.returnType = none) (hlk : meth.locks = false) (hsz : sz = s.heap.size) {Q : UI → UR → Prop} {I : UI} {R : UR} {s0 : Int32} {s1 : Int32} {H : Heap} {locs : List Loc} {ls : Array Slot} (V : uV s D cc L A J I R H locs) (hl : lv_has ls 2 [(0, .ref (A 80))]) (h : wp_Mo_answer_L35 Q I R s0 s1) : W p l e rm_Mo_answer s m args below meth c H locs 0 0 (MQ below (va_Qv (fun u : UI × UR => Q u.1 u.2) (uBv D cc L A J) (uA L A sz)) args s 0 0 (uA L A sz)) (F0 m 35 ls [.int s0, .int s1, .ref (A 80)]) := by
  have hx := X.1
  have hb := X.2.1
  unfold wp_Mo_answer_L35 at h
  refine lv_aload_n (pc := 35) hx hb d_Mo_answer_35 rfl (lv_at hl 0 rfl) ?_
  refine u_cVi (pc := 36) (As := []) X V s_Mo_198 (X.fix rfl) rfl rfl rfl (c_Mo_position l D cc L A J t16 t32 _ _  _ h) ⟨rfl, rfl, Nat.le_of_ble_eq_true rfl, Nat.le_of_ble_eq_true rfl⟩ rfl hl.1 rfl (Nat.le_of_ble_eq_true rfl) d_Mo_answer_36 ⟨Nat.zero_le _, Nat.zero_le _⟩ (fun r3 I1 R2 h H locs V => ?_)
  refine lv_goto (pc := 39) (tgt := 43) hx hb d_Mo_answer_39 (by decide) ?_
  exact j_Mo_answer_43 X hr hlk hsz V (lv_sub hl [] rfl) h
def wp_Mo_answer (I : UI) (R : UR) (x1 : Int32) (Q : UI → UR → Prop) : Prop :=
  ((¬ x1 = 1 → ((x1 = 9 → wp_Mo_answer_L35 Q I R x1 0) ∧ (¬ x1 = 9 → ((¬ x1 = 3 → wp_Mo_answer_L43 Q I R 0 x1 0) ∧ (x1 = 3 → wp_Mo_answer_L35 Q I R x1 0))))) ∧ (x1 = 1 → ((I 80 26 = 0 → wp_Mo_answer_L43 Q I R 0 x1 0) ∧ (¬ I 80 26 = 0 → wp_Mo_answer_L43 Q I R 32 x1 0))))
set_option maxHeartbeats 4000000 in
set_option maxRecDepth 100000 in
theorem c_Mo_answer (l : Launch) (D : va_G) (cc : Nat → ClassId) (L : List Nat) (A : Nat → Nat) (J : Nat → Int64) (t16 t32 : Nat) (I : UI) (R : UR) (x1 : Int32) (Q : UI → UR → Prop) (h : wp_Mo_answer I R x1 Q) : uMv l y_Mo_answer (.code y_Mo_answer prog_10_method_32_code 2 none) rm_Mo_answer [.ref (A 80), .int x1] D cc L A J t16 t32 I R Q := by
  intro sz
  refine u_entry (by decide) (Nat.le_of_ble_eq_true rfl) (fun p e s m args below meth c hsz X V hr hlk ls hl => ?_)
  have X : uX p s m args c prog_10_method_32_code 2 "FrameFerryModel" D cc L A t16 t32 := X
  have hx := X.1
  have hb := X.2.1
  have hl : lv_has ls 2 [(0, .ref (A 80)), (1, .int x1)] := hl
  unfold wp_Mo_answer at h
  generalize hH : s.heap = H at V ⊢
  generalize hlo : ([] : List Loc) = locs at V ⊢
  refine lv_aload_n (pc := 0) hx hb d_Mo_answer_0 rfl (lv_at hl 0 rfl) ?_
  refine lv_iconst (pc := 1) (v := 0) hx hb d_Mo_answer_1 (by decide) ?_
  refine lv_iload_n (pc := 2) hx hb d_Mo_answer_2 rfl (lv_at hl 1 rfl) ?_
  refine lv_iload_n (pc := 3) hx hb d_Mo_answer_3 rfl (lv_at hl 1 rfl) ?_
  refine lv_iconst (pc := 4) (v := 1) hx hb d_Mo_answer_4 (by decide) ?_
  refine lv_icmp_ne (pc := 5) (tgt := 24) hx hb d_Mo_answer_5 (by decide) (fun hc => ?_) (fun hc => ?_)
  · have h := h.1 hc
    refine lv_iload_n (pc := 24) hx hb d_Mo_answer_24 rfl (lv_at hl 1 rfl) ?_
    refine lv_bipush (pc := 25) (v := 9) hx hb d_Mo_answer_25 (by decide) ?_
    refine lv_icmp_eq (pc := 27) (tgt := 35) hx hb d_Mo_answer_27 (by decide) (fun hc => ?_) (fun hc => ?_)
    · have h := h.1 hc
      exact j_Mo_answer_35 X hr hlk hsz V (lv_sub hl [0] rfl) h
    · have h := h.2 hc
      refine lv_iload_n (pc := 30) hx hb d_Mo_answer_30 rfl (lv_at hl 1 rfl) ?_
      refine lv_iconst (pc := 31) (v := 3) hx hb d_Mo_answer_31 (by decide) ?_
      refine lv_icmp_ne (pc := 32) (tgt := 42) hx hb d_Mo_answer_32 (by decide) (fun hc => ?_) (fun hc => ?_)
      · have h := h.1 hc
        refine lv_iconst (pc := 42) (v := 0) hx hb d_Mo_answer_42 (by decide) ?_
        exact j_Mo_answer_43 X hr hlk hsz V (lv_sub hl [] rfl) h
      · have h := h.2 hc
        exact j_Mo_answer_35 X hr hlk hsz V (lv_sub hl [0] rfl) h
  · have h := h.2 hc
    refine lv_aload_n (pc := 8) hx hb d_Mo_answer_8 rfl (lv_at hl 0 rfl) ?_
    refine u_geti (pc := 9) X V (X.fix rfl) rfl rfl f_Mo_195 rfl d_Mo_answer_9 ?_
    refine lv_if_eq (pc := 12) (tgt := 20) hx hb d_Mo_answer_12 (by decide) (fun hc => ?_) (fun hc => ?_)
    · have h := h.1 hc
      refine lv_iconst (pc := 20) (v := 0) hx hb d_Mo_answer_20 (by decide) ?_
      refine lv_goto (pc := 21) (tgt := 43) hx hb d_Mo_answer_21 (by decide) ?_
      exact j_Mo_answer_43 X hr hlk hsz V (lv_sub hl [] rfl) h
    · have h := h.2 hc
      refine lv_bipush (pc := 15) (v := 32) hx hb d_Mo_answer_15 (by decide) ?_
      refine lv_goto (pc := 17) (tgt := 43) hx hb d_Mo_answer_17 (by decide) ?_
      exact j_Mo_answer_43 X hr hlk hsz V (lv_sub hl [] rfl) h
-- FrameFerryModel.badPacket ()V
theorem d_Mo_badPacket_0 : decode prog_10_method_34_code 0 = .ok (.aload_n 0, 1) := by decide +kernel
theorem d_Mo_badPacket_1 : decode prog_10_method_34_code 1 = .ok (.getfield 76, 3) := by decide +kernel
theorem d_Mo_badPacket_4 : decode prog_10_method_34_code 4 = .ok (.iconst 3, 1) := by decide +kernel
theorem d_Mo_badPacket_5 : decode prog_10_method_34_code 5 = .ok (.dup2, 1) := by decide +kernel
theorem d_Mo_badPacket_6 : decode prog_10_method_34_code 6 = .ok (.iaload, 1) := by decide +kernel
theorem d_Mo_badPacket_7 : decode prog_10_method_34_code 7 = .ok (.iconst 1, 1) := by decide +kernel
theorem d_Mo_badPacket_8 : decode prog_10_method_34_code 8 = .ok (.iadd, 1) := by decide +kernel
theorem d_Mo_badPacket_9 : decode prog_10_method_34_code 9 = .ok (.iastore, 1) := by decide +kernel
theorem d_Mo_badPacket_10 : decode prog_10_method_34_code 10 = .ok (.aload_n 0, 1) := by decide +kernel
theorem d_Mo_badPacket_11 : decode prog_10_method_34_code 11 = .ok (.iconst 0, 1) := by decide +kernel
theorem d_Mo_badPacket_12 : decode prog_10_method_34_code 12 = .ok (.putfield 189, 3) := by decide +kernel
theorem d_Mo_badPacket_15 : decode prog_10_method_34_code 15 = .ok (.aload_n 0, 1) := by decide +kernel
theorem d_Mo_badPacket_16 : decode prog_10_method_34_code 16 = .ok (.iconst 1, 1) := by decide +kernel
theorem d_Mo_badPacket_17 : decode prog_10_method_34_code 17 = .ok (.iconst 0, 1) := by decide +kernel
theorem d_Mo_badPacket_18 : decode prog_10_method_34_code 18 = .ok (.invokevirtual 153, 3) := by decide +kernel
theorem d_Mo_badPacket_21 : decode prog_10_method_34_code 21 = .ok (.aload_n 0, 1) := by decide +kernel
theorem d_Mo_badPacket_22 : decode prog_10_method_34_code 22 = .ok (.aload_n 0, 1) := by decide +kernel
theorem d_Mo_badPacket_23 : decode prog_10_method_34_code 23 = .ok (.getfield 41, 3) := by decide +kernel
theorem d_Mo_badPacket_26 : decode prog_10_method_34_code 26 = .ok (.iconst 1, 1) := by decide +kernel
theorem d_Mo_badPacket_27 : decode prog_10_method_34_code 27 = .ok (.iaload, 1) := by decide +kernel
theorem d_Mo_badPacket_28 : decode prog_10_method_34_code 28 = .ok (.iconst 4, 1) := by decide +kernel
theorem d_Mo_badPacket_29 : decode prog_10_method_34_code 29 = .ok (.if_icmp .ne 8, 3) := by decide +kernel
theorem d_Mo_badPacket_32 : decode prog_10_method_34_code 32 = .ok (.bipush 6, 2) := by decide +kernel
theorem d_Mo_badPacket_34 : decode prog_10_method_34_code 34 = .ok (.goto 5, 3) := by decide +kernel
theorem d_Mo_badPacket_37 : decode prog_10_method_34_code 37 = .ok (.bipush 9, 2) := by decide +kernel
theorem d_Mo_badPacket_39 : decode prog_10_method_34_code 39 = .ok (.invokevirtual 202, 3) := by decide +kernel
theorem d_Mo_badPacket_42 : decode prog_10_method_34_code 42 = .ok (.return_, 1) := by decide +kernel
def rm_Mo_badPacket : Room := { frames := 4, cells := 0, slots := 0, locals := 95 }
def wp_Mo_badPacket_L39 (Q : UI → UR → Prop) (I : UI) (R : UR) (s0 : Int32) : Prop :=
  wp_Mo_answer I R s0 (fun I5 R6 => Q I5 R6)
set_option maxHeartbeats 4000000 in
set_option maxRecDepth 100000 in
theorem j_Mo_badPacket_39 (X : uX p s m args c prog_10_method_34_code 1 "FrameFerryModel" D cc L A t16 t32) (hr : meth.sig.returnType = none) (hlk : meth.locks = false) (hsz : sz = s.heap.size) {Q : UI → UR → Prop} {I : UI} {R : UR} {s0 : Int32} {H : Heap} {locs : List Loc} {ls : Array Slot} (V : uV s D cc L A J I R H locs) (hl : lv_has ls 1 []) (h : wp_Mo_badPacket_L39 Q I R s0) : W p l e rm_Mo_badPacket s m args below meth c H locs 0 0 (MQ below (va_Qv (fun u : UI × UR => Q u.1 u.2) (uBv D cc L A J) (uA L A sz)) args s 0 0 (uA L A sz)) (F0 m 39 ls [.int s0, .ref (A 80)]) := by
  have hx := X.1
  have hb := X.2.1
  unfold wp_Mo_badPacket_L39 at h
  refine u_cVv (pc := 39) (As := [.int s0]) X V s_Mo_202 (X.fix rfl) rfl rfl rfl (c_Mo_answer l D cc L A J t16 t32 _ _ s0 _ h) ⟨rfl, rfl, Nat.le_of_ble_eq_true rfl, Nat.le_of_ble_eq_true rfl⟩ rfl hl.1 rfl (Nat.le_of_ble_eq_true rfl) d_Mo_badPacket_39 ⟨Nat.zero_le _, Nat.zero_le _⟩ (fun I5 R6 h H locs V => ?_)
  exact u_retv (pc := 42) X V hr hlk hsz h d_Mo_badPacket_42
def wp_Mo_badPacket (I : UI) (R : UR) (Q : UI → UR → Prop) : Prop :=
  vp_in 3 4 ∧ vp_in 3 4 ∧ ∀ I1 : UI, I1 = u2 I 108 ((3 : Int32).toNatClampNeg) ((I 108 (3 : Int32).toNatClampNeg) + 1) → zb 0 ∧ ∀ I2 : UI, I2 = u2 I1 80 31 0 → wp_Mo_begin I2 R 1 0 (fun I3 R4 => vp_in 1 2 ∧ ((¬ I3 91 (1 : Int32).toNatClampNeg = 4 → wp_Mo_badPacket_L39 Q I3 R4 9) ∧ (I3 91 (1 : Int32).toNatClampNeg = 4 → wp_Mo_badPacket_L39 Q I3 R4 6)))
set_option maxHeartbeats 4000000 in
set_option maxRecDepth 100000 in
theorem c_Mo_badPacket (l : Launch) (D : va_G) (cc : Nat → ClassId) (L : List Nat) (A : Nat → Nat) (J : Nat → Int64) (t16 t32 : Nat) (I : UI) (R : UR) (Q : UI → UR → Prop) (h : wp_Mo_badPacket I R Q) : uMv l y_Mo_badPacket (.code y_Mo_badPacket prog_10_method_34_code 1 none) rm_Mo_badPacket [.ref (A 80)] D cc L A J t16 t32 I R Q := by
  intro sz
  refine u_entry (by decide) (Nat.le_of_ble_eq_true rfl) (fun p e s m args below meth c hsz X V hr hlk ls hl => ?_)
  have X : uX p s m args c prog_10_method_34_code 1 "FrameFerryModel" D cc L A t16 t32 := X
  have hx := X.1
  have hb := X.2.1
  have hl : lv_has ls 1 [(0, .ref (A 80))] := hl
  unfold wp_Mo_badPacket at h
  generalize hH : s.heap = H at V ⊢
  generalize hlo : ([] : List Loc) = locs at V ⊢
  refine lv_aload_n (pc := 0) hx hb d_Mo_badPacket_0 rfl (lv_at hl 0 rfl) ?_
  refine u_getr (pc := 1) (o' := 108) X V (X.fix rfl) rfl rfl f_Mo_76 rfl rfl d_Mo_badPacket_1 ?_
  refine lv_iconst (pc := 4) (v := 3) hx hb d_Mo_badPacket_4 (by decide) ?_
  refine lv_dup2_11 (pc := 5) hx hb d_Mo_badPacket_5 rfl rfl ?_
  refine u_iald (pc := 6) X V (X.fix rfl) rfl rfl h.1 d_Mo_badPacket_6 ?_
  have h := h.2
  refine lv_iconst (pc := 7) (v := 1) hx hb d_Mo_badPacket_7 (by decide) ?_
  refine lv_iadd (pc := 8) hx hb d_Mo_badPacket_8 ?_
  refine u_iast (pc := 9) X V (X.fix rfl) rfl rfl h.1 d_Mo_badPacket_9 (fun I1 eI1 H locs V => ?_)
  have h := h.2 I1 eI1
  refine lv_aload_n (pc := 10) hx hb d_Mo_badPacket_10 rfl (lv_at hl 0 rfl) ?_
  refine lv_iconst (pc := 11) (v := 0) hx hb d_Mo_badPacket_11 (by decide) ?_
  refine u_putz (pc := 12) X V (X.fix rfl) rfl rfl f_Mo_189 rfl h.1 d_Mo_badPacket_12 (fun I2 eI2 H locs V => ?_)
  have h := h.2 I2 eI2
  refine lv_aload_n (pc := 15) hx hb d_Mo_badPacket_15 rfl (lv_at hl 0 rfl) ?_
  refine lv_iconst (pc := 16) (v := 1) hx hb d_Mo_badPacket_16 (by decide) ?_
  refine lv_iconst (pc := 17) (v := 0) hx hb d_Mo_badPacket_17 (by decide) ?_
  refine u_cVv (pc := 18) (As := [.int 1, .int 0]) X V s_Mo_153 (X.fix rfl) rfl rfl rfl (c_Mo_begin l D cc L A J t16 t32 _ _ 1 0 _ h) ⟨rfl, rfl, Nat.le_of_ble_eq_true rfl, Nat.le_of_ble_eq_true rfl⟩ rfl hl.1 rfl (Nat.le_of_ble_eq_true rfl) d_Mo_badPacket_18 ⟨Nat.zero_le _, Nat.zero_le _⟩ (fun I3 R4 h H locs V => ?_)
  refine lv_aload_n (pc := 21) hx hb d_Mo_badPacket_21 rfl (lv_at hl 0 rfl) ?_
  refine lv_aload_n (pc := 22) hx hb d_Mo_badPacket_22 rfl (lv_at hl 0 rfl) ?_
  refine u_getr (pc := 23) (o' := 91) X V (X.fix rfl) rfl rfl f_Mo_41 rfl rfl d_Mo_badPacket_23 ?_
  refine lv_iconst (pc := 26) (v := 1) hx hb d_Mo_badPacket_26 (by decide) ?_
  refine u_iald (pc := 27) X V (X.fix rfl) rfl rfl h.1 d_Mo_badPacket_27 ?_
  have h := h.2
  refine lv_iconst (pc := 28) (v := 4) hx hb d_Mo_badPacket_28 (by decide) ?_
  refine lv_icmp_ne (pc := 29) (tgt := 37) hx hb d_Mo_badPacket_29 (by decide) (fun hc => ?_) (fun hc => ?_)
  · have h := h.1 hc
    refine lv_bipush (pc := 37) (v := 9) hx hb d_Mo_badPacket_37 (by decide) ?_
    exact j_Mo_badPacket_39 X hr hlk hsz V (lv_sub hl [] rfl) h
  · have h := h.2 hc
    refine lv_bipush (pc := 32) (v := 6) hx hb d_Mo_badPacket_32 (by decide) ?_
    refine lv_goto (pc := 34) (tgt := 39) hx hb d_Mo_badPacket_34 (by decide) ?_
    exact j_Mo_badPacket_39 X hr hlk hsz V (lv_sub hl [] rfl) h
-- FrameFerryModel.told (I)V
theorem d_Mo_told_0 : decode prog_10_method_36_code 0 = .ok (.aload_n 0, 1) := by decide +kernel
theorem d_Mo_told_1 : decode prog_10_method_36_code 1 = .ok (.getfield 32, 3) := by decide +kernel
theorem d_Mo_told_4 : decode prog_10_method_36_code 4 = .ok (.bipush 80, 2) := by decide +kernel
theorem d_Mo_told_6 : decode prog_10_method_36_code 6 = .ok (.iaload, 1) := by decide +kernel
theorem d_Mo_told_7 : decode prog_10_method_36_code 7 = .ok (.bipush 97, 2) := by decide +kernel
theorem d_Mo_told_9 : decode prog_10_method_36_code 9 = .ok (.isub, 1) := by decide +kernel
theorem d_Mo_told_10 : decode prog_10_method_36_code 10 = .ok (.istore_n 2, 1) := by decide +kernel
theorem d_Mo_told_11 : decode prog_10_method_36_code 11 = .ok (.iload_n 1, 1) := by decide +kernel
theorem d_Mo_told_12 : decode prog_10_method_36_code 12 = .ok (.iconst 3, 1) := by decide +kernel
theorem d_Mo_told_13 : decode prog_10_method_36_code 13 = .ok (.if_icmp .ne 13, 3) := by decide +kernel
theorem d_Mo_told_16 : decode prog_10_method_36_code 16 = .ok (.iload_n 2, 1) := by decide +kernel
theorem d_Mo_told_17 : decode prog_10_method_36_code 17 = .ok (.iconst 0, 1) := by decide +kernel
theorem d_Mo_told_18 : decode prog_10_method_36_code 18 = .ok (.bipush 25, 2) := by decide +kernel
theorem d_Mo_told_20 : decode prog_10_method_36_code 20 = .ok (.invokestatic 85, 3) := by decide +kernel
theorem d_Mo_told_23 : decode prog_10_method_36_code 23 = .ok (.ifCond .ne 10, 3) := by decide +kernel
theorem d_Mo_told_26 : decode prog_10_method_36_code 26 = .ok (.aload_n 0, 1) := by decide +kernel
theorem d_Mo_told_27 : decode prog_10_method_36_code 27 = .ok (.bipush 6, 2) := by decide +kernel
theorem d_Mo_told_29 : decode prog_10_method_36_code 29 = .ok (.invokevirtual 202, 3) := by decide +kernel
theorem d_Mo_told_32 : decode prog_10_method_36_code 32 = .ok (.return_, 1) := by decide +kernel
theorem d_Mo_told_33 : decode prog_10_method_36_code 33 = .ok (.aload_n 0, 1) := by decide +kernel
theorem d_Mo_told_34 : decode prog_10_method_36_code 34 = .ok (.getfield 60, 3) := by decide +kernel
theorem d_Mo_told_37 : decode prog_10_method_36_code 37 = .ok (.iload_n 2, 1) := by decide +kernel
theorem d_Mo_told_38 : decode prog_10_method_36_code 38 = .ok (.baload, 1) := by decide +kernel
theorem d_Mo_told_39 : decode prog_10_method_36_code 39 = .ok (.ifCond .eq 37, 3) := by decide +kernel
theorem d_Mo_told_42 : decode prog_10_method_36_code 42 = .ok (.aload_n 0, 1) := by decide +kernel
theorem d_Mo_told_43 : decode prog_10_method_36_code 43 = .ok (.getfield 63, 3) := by decide +kernel
theorem d_Mo_told_46 : decode prog_10_method_36_code 46 = .ok (.iload_n 2, 1) := by decide +kernel
theorem d_Mo_told_47 : decode prog_10_method_36_code 47 = .ok (.iaload, 1) := by decide +kernel
theorem d_Mo_told_48 : decode prog_10_method_36_code 48 = .ok (.sipush 256, 3) := by decide +kernel
theorem d_Mo_told_51 : decode prog_10_method_36_code 51 = .ok (.aload_n 0, 1) := by decide +kernel
theorem d_Mo_told_52 : decode prog_10_method_36_code 52 = .ok (.getfield 32, 3) := by decide +kernel
theorem d_Mo_told_55 : decode prog_10_method_36_code 55 = .ok (.bipush 81, 2) := by decide +kernel
theorem d_Mo_told_57 : decode prog_10_method_36_code 57 = .ok (.iaload, 1) := by decide +kernel
theorem d_Mo_told_58 : decode prog_10_method_36_code 58 = .ok (.imul, 1) := by decide +kernel
theorem d_Mo_told_59 : decode prog_10_method_36_code 59 = .ok (.aload_n 0, 1) := by decide +kernel
theorem d_Mo_told_60 : decode prog_10_method_36_code 60 = .ok (.getfield 32, 3) := by decide +kernel
theorem d_Mo_told_63 : decode prog_10_method_36_code 63 = .ok (.bipush 82, 2) := by decide +kernel
theorem d_Mo_told_65 : decode prog_10_method_36_code 65 = .ok (.iaload, 1) := by decide +kernel
theorem d_Mo_told_66 : decode prog_10_method_36_code 66 = .ok (.iadd, 1) := by decide +kernel
theorem d_Mo_told_67 : decode prog_10_method_36_code 67 = .ok (.if_icmp .lt 9, 3) := by decide +kernel
theorem d_Mo_told_70 : decode prog_10_method_36_code 70 = .ok (.aload_n 0, 1) := by decide +kernel
theorem d_Mo_told_71 : decode prog_10_method_36_code 71 = .ok (.iconst 5, 1) := by decide +kernel
theorem d_Mo_told_72 : decode prog_10_method_36_code 72 = .ok (.invokevirtual 202, 3) := by decide +kernel
theorem d_Mo_told_75 : decode prog_10_method_36_code 75 = .ok (.return_, 1) := by decide +kernel
theorem d_Mo_told_76 : decode prog_10_method_36_code 76 = .ok (.aload_n 0, 1) := by decide +kernel
theorem d_Mo_told_77 : decode prog_10_method_36_code 77 = .ok (.getfield 60, 3) := by decide +kernel
theorem d_Mo_told_80 : decode prog_10_method_36_code 80 = .ok (.iload_n 2, 1) := by decide +kernel
theorem d_Mo_told_81 : decode prog_10_method_36_code 81 = .ok (.iconst 1, 1) := by decide +kernel
theorem d_Mo_told_82 : decode prog_10_method_36_code 82 = .ok (.bastore, 1) := by decide +kernel
theorem d_Mo_told_83 : decode prog_10_method_36_code 83 = .ok (.aload_n 0, 1) := by decide +kernel
theorem d_Mo_told_84 : decode prog_10_method_36_code 84 = .ok (.iload_n 2, 1) := by decide +kernel
theorem d_Mo_told_85 : decode prog_10_method_36_code 85 = .ok (.putfield 69, 3) := by decide +kernel
theorem d_Mo_told_88 : decode prog_10_method_36_code 88 = .ok (.aload_n 0, 1) := by decide +kernel
theorem d_Mo_told_89 : decode prog_10_method_36_code 89 = .ok (.bipush 9, 2) := by decide +kernel
theorem d_Mo_told_91 : decode prog_10_method_36_code 91 = .ok (.invokevirtual 202, 3) := by decide +kernel
theorem d_Mo_told_94 : decode prog_10_method_36_code 94 = .ok (.return_, 1) := by decide +kernel
def rm_Mo_told : Room := { frames := 4, cells := 0, slots := 0, locals := 95 }
def wp_Mo_told_L26 (Q : UI → UR → Prop) (I : UI) (R : UR) : Prop :=
  wp_Mo_answer I R 6 (fun I2 R3 => Q I2 R3)
set_option maxHeartbeats 4000000 in
set_option maxRecDepth 100000 in
theorem j_Mo_told_26 (X : uX p s m args c prog_10_method_36_code 3 "FrameFerryModel" D cc L A t16 t32) (hr : meth.sig.returnType = none) (hlk : meth.locks = false) (hsz : sz = s.heap.size) {Q : UI → UR → Prop} {I : UI} {R : UR} {H : Heap} {locs : List Loc} {ls : Array Slot} (V : uV s D cc L A J I R H locs) (hl : lv_has ls 3 [(0, .ref (A 80))]) (h : wp_Mo_told_L26 Q I R) : W p l e rm_Mo_told s m args below meth c H locs 0 0 (MQ below (va_Qv (fun u : UI × UR => Q u.1 u.2) (uBv D cc L A J) (uA L A sz)) args s 0 0 (uA L A sz)) (F0 m 26 ls []) := by
  have hx := X.1
  have hb := X.2.1
  unfold wp_Mo_told_L26 at h
  refine lv_aload_n (pc := 26) hx hb d_Mo_told_26 rfl (lv_at hl 0 rfl) ?_
  refine lv_bipush (pc := 27) (v := 6) hx hb d_Mo_told_27 (by decide) ?_
  refine u_cVv (pc := 29) (As := [.int 6]) X V s_Mo_202 (X.fix rfl) rfl rfl rfl (c_Mo_answer l D cc L A J t16 t32 _ _ 6 _ h) ⟨rfl, rfl, Nat.le_of_ble_eq_true rfl, Nat.le_of_ble_eq_true rfl⟩ rfl hl.1 rfl (Nat.le_of_ble_eq_true rfl) d_Mo_told_29 ⟨Nat.zero_le _, Nat.zero_le _⟩ (fun I2 R3 h H locs V => ?_)
  exact u_retv (pc := 32) X V hr hlk hsz h d_Mo_told_32
def wp_Mo_told_L76 (Q : UI → UR → Prop) (I : UI) (R : UR) (x2 : Int32) : Prop :=
  vp_in x2 26 ∧ zb 1 ∧ ∀ I7 : UI, I7 = u2 I 102 x2.toNatClampNeg 1 → ∀ I8 : UI, I8 = u2 I7 80 25 x2 → wp_Mo_answer I8 R 9 (fun I9 R10 => Q I9 R10)
set_option maxHeartbeats 4000000 in
set_option maxRecDepth 100000 in
theorem j_Mo_told_76 (X : uX p s m args c prog_10_method_36_code 3 "FrameFerryModel" D cc L A t16 t32) (hr : meth.sig.returnType = none) (hlk : meth.locks = false) (hsz : sz = s.heap.size) {Q : UI → UR → Prop} {I : UI} {R : UR} {x2 : Int32} {H : Heap} {locs : List Loc} {ls : Array Slot} (V : uV s D cc L A J I R H locs) (hl : lv_has ls 3 [(0, .ref (A 80)), (2, .int x2)]) (h : wp_Mo_told_L76 Q I R x2) : W p l e rm_Mo_told s m args below meth c H locs 0 0 (MQ below (va_Qv (fun u : UI × UR => Q u.1 u.2) (uBv D cc L A J) (uA L A sz)) args s 0 0 (uA L A sz)) (F0 m 76 ls []) := by
  have hx := X.1
  have hb := X.2.1
  unfold wp_Mo_told_L76 at h
  refine lv_aload_n (pc := 76) hx hb d_Mo_told_76 rfl (lv_at hl 0 rfl) ?_
  refine u_getr (pc := 77) (o' := 102) X V (X.fix rfl) rfl rfl f_Mo_60 rfl rfl d_Mo_told_77 ?_
  refine lv_iload_n (pc := 80) hx hb d_Mo_told_80 rfl (lv_at hl 1 rfl) ?_
  refine lv_iconst (pc := 81) (v := 1) hx hb d_Mo_told_81 (by decide) ?_
  refine u_zast (pc := 82) X V (X.fix rfl) rfl rfl h.1 h.2.1 d_Mo_told_82 (fun I7 eI7 H locs V => ?_)
  have h := h.2.2 I7 eI7
  refine lv_aload_n (pc := 83) hx hb d_Mo_told_83 rfl (lv_at hl 0 rfl) ?_
  refine lv_iload_n (pc := 84) hx hb d_Mo_told_84 rfl (lv_at hl 1 rfl) ?_
  refine u_puti (pc := 85) X V (X.fix rfl) rfl rfl f_Mo_69 rfl d_Mo_told_85 (fun I8 eI8 H locs V => ?_)
  have h := h I8 eI8
  refine lv_aload_n (pc := 88) hx hb d_Mo_told_88 rfl (lv_at hl 0 rfl) ?_
  refine lv_bipush (pc := 89) (v := 9) hx hb d_Mo_told_89 (by decide) ?_
  refine u_cVv (pc := 91) (As := [.int 9]) X V s_Mo_202 (X.fix rfl) rfl rfl rfl (c_Mo_answer l D cc L A J t16 t32 _ _ 9 _ h) ⟨rfl, rfl, Nat.le_of_ble_eq_true rfl, Nat.le_of_ble_eq_true rfl⟩ rfl hl.1 rfl (Nat.le_of_ble_eq_true rfl) d_Mo_told_91 ⟨Nat.zero_le _, Nat.zero_le _⟩ (fun I9 R10 h H locs V => ?_)
  exact u_retv (pc := 94) X V hr hlk hsz h d_Mo_told_94
def wp_Mo_told (I : UI) (R : UR) (x1 : Int32) (Q : UI → UR → Prop) : Prop :=
  vp_in 80 160 ∧ ∀ v1 : Int32, v1 = (I 88 (80 : Int32).toNatClampNeg) - 97 → ((¬ x1 = 3 → wp_Mo_told_L26 Q I R) ∧ (x1 = 3 → wp_Mo_isIn I R v1 0 25 (fun r6 I4 R5 => ((¬ r6 = 0 → vp_in v1 26 ∧ ((I4 102 v1.toNatClampNeg = 0 → wp_Mo_told_L76 Q I4 R5 v1) ∧ (¬ I4 102 v1.toNatClampNeg = 0 → vp_in v1 26 ∧ vp_in 81 160 ∧ vp_in 82 160 ∧ ((I4 103 v1.toNatClampNeg < (256 * (I4 88 (81 : Int32).toNatClampNeg)) + (I4 88 (82 : Int32).toNatClampNeg) → wp_Mo_told_L76 Q I4 R5 v1) ∧ (¬ I4 103 v1.toNatClampNeg < (256 * (I4 88 (81 : Int32).toNatClampNeg)) + (I4 88 (82 : Int32).toNatClampNeg) → wp_Mo_answer I4 R5 5 (fun I11 R12 => Q I11 R12)))))) ∧ (r6 = 0 → wp_Mo_told_L26 Q I4 R5)))))
set_option maxHeartbeats 4000000 in
set_option maxRecDepth 100000 in
theorem c_Mo_told (l : Launch) (D : va_G) (cc : Nat → ClassId) (L : List Nat) (A : Nat → Nat) (J : Nat → Int64) (t16 t32 : Nat) (I : UI) (R : UR) (x1 : Int32) (Q : UI → UR → Prop) (h : wp_Mo_told I R x1 Q) : uMv l y_Mo_told (.code y_Mo_told prog_10_method_36_code 3 none) rm_Mo_told [.ref (A 80), .int x1] D cc L A J t16 t32 I R Q := by
  intro sz
  refine u_entry (by decide) (Nat.le_of_ble_eq_true rfl) (fun p e s m args below meth c hsz X V hr hlk ls hl => ?_)
  have X : uX p s m args c prog_10_method_36_code 3 "FrameFerryModel" D cc L A t16 t32 := X
  have hx := X.1
  have hb := X.2.1
  have hl : lv_has ls 3 [(0, .ref (A 80)), (1, .int x1)] := hl
  unfold wp_Mo_told at h
  generalize hH : s.heap = H at V ⊢
  generalize hlo : ([] : List Loc) = locs at V ⊢
  refine lv_aload_n (pc := 0) hx hb d_Mo_told_0 rfl (lv_at hl 0 rfl) ?_
  refine u_getr (pc := 1) (o' := 88) X V (X.fix rfl) rfl rfl f_Mo_32 rfl rfl d_Mo_told_1 ?_
  refine lv_bipush (pc := 4) (v := 80) hx hb d_Mo_told_4 (by decide) ?_
  refine u_iald (pc := 6) X V (X.fix rfl) rfl rfl h.1 d_Mo_told_6 ?_
  have h := h.2
  refine lv_bipush (pc := 7) (v := 97) hx hb d_Mo_told_7 (by decide) ?_
  refine lv_isub (pc := 9) hx hb d_Mo_told_9 ?_
  refine lv_topi (fun v1 ev1 => ?_)
  have h := h v1 ev1
  refine lv_istore_n (pc := 10) (lv' := [(2, .int v1), (0, .ref (A 80)), (1, .int x1)]) hx hb d_Mo_told_10 rfl hl (by decide) rfl (fun ls hl => ?_)
  refine lv_iload_n (pc := 11) hx hb d_Mo_told_11 rfl (lv_at hl 2 rfl) ?_
  refine lv_iconst (pc := 12) (v := 3) hx hb d_Mo_told_12 (by decide) ?_
  refine lv_icmp_ne (pc := 13) (tgt := 26) hx hb d_Mo_told_13 (by decide) (fun hc => ?_) (fun hc => ?_)
  · have h := h.1 hc
    exact j_Mo_told_26 X hr hlk hsz V (lv_sub hl [1] rfl) h
  · have h := h.2 hc
    refine lv_iload_n (pc := 16) hx hb d_Mo_told_16 rfl (lv_at hl 0 rfl) ?_
    refine lv_iconst (pc := 17) (v := 0) hx hb d_Mo_told_17 (by decide) ?_
    refine lv_bipush (pc := 18) (v := 25) hx hb d_Mo_told_18 (by decide) ?_
    refine u_cSi (pc := 20) (As := [.int v1, .int 0, .int 25]) X V s_Mo_85 (c_Mo_isIn l D cc L A J t16 t32 _ _ v1 0 25 _ h) ⟨rfl, rfl, Nat.le_of_ble_eq_true rfl, Nat.le_of_ble_eq_true rfl⟩ rfl hl.1 rfl (Nat.le_of_ble_eq_true rfl) d_Mo_told_20 ⟨Nat.zero_le _, Nat.zero_le _⟩ (fun r6 I4 R5 h H locs V => ?_)
    refine lv_if_ne (pc := 23) (tgt := 33) hx hb d_Mo_told_23 (by decide) (fun hc => ?_) (fun hc => ?_)
    · have h := h.1 hc
      refine lv_aload_n (pc := 33) hx hb d_Mo_told_33 rfl (lv_at hl 1 rfl) ?_
      refine u_getr (pc := 34) (o' := 102) X V (X.fix rfl) rfl rfl f_Mo_60 rfl rfl d_Mo_told_34 ?_
      refine lv_iload_n (pc := 37) hx hb d_Mo_told_37 rfl (lv_at hl 0 rfl) ?_
      refine u_zald (pc := 38) X V (X.fix rfl) rfl rfl h.1 d_Mo_told_38 ?_
      have h := h.2
      refine lv_if_eq (pc := 39) (tgt := 76) hx hb d_Mo_told_39 (by decide) (fun hc => ?_) (fun hc => ?_)
      · have h := h.1 hc
        exact j_Mo_told_76 X hr hlk hsz V (lv_sub hl [1, 0] rfl) h
      · have h := h.2 hc
        refine lv_aload_n (pc := 42) hx hb d_Mo_told_42 rfl (lv_at hl 1 rfl) ?_
        refine u_getr (pc := 43) (o' := 103) X V (X.fix rfl) rfl rfl f_Mo_63 rfl rfl d_Mo_told_43 ?_
        refine lv_iload_n (pc := 46) hx hb d_Mo_told_46 rfl (lv_at hl 0 rfl) ?_
        refine u_iald (pc := 47) X V (X.fix rfl) rfl rfl h.1 d_Mo_told_47 ?_
        have h := h.2
        refine lv_sipush (pc := 48) (v := 256) hx hb d_Mo_told_48 (by decide) ?_
        refine lv_aload_n (pc := 51) hx hb d_Mo_told_51 rfl (lv_at hl 1 rfl) ?_
        refine u_getr (pc := 52) (o' := 88) X V (X.fix rfl) rfl rfl f_Mo_32 rfl rfl d_Mo_told_52 ?_
        refine lv_bipush (pc := 55) (v := 81) hx hb d_Mo_told_55 (by decide) ?_
        refine u_iald (pc := 57) X V (X.fix rfl) rfl rfl h.1 d_Mo_told_57 ?_
        have h := h.2
        refine lv_imul (pc := 58) hx hb d_Mo_told_58 ?_
        refine lv_aload_n (pc := 59) hx hb d_Mo_told_59 rfl (lv_at hl 1 rfl) ?_
        refine u_getr (pc := 60) (o' := 88) X V (X.fix rfl) rfl rfl f_Mo_32 rfl rfl d_Mo_told_60 ?_
        refine lv_bipush (pc := 63) (v := 82) hx hb d_Mo_told_63 (by decide) ?_
        refine u_iald (pc := 65) X V (X.fix rfl) rfl rfl h.1 d_Mo_told_65 ?_
        have h := h.2
        refine lv_iadd (pc := 66) hx hb d_Mo_told_66 ?_
        refine lv_icmp_lt (pc := 67) (tgt := 76) hx hb d_Mo_told_67 (by decide) (fun hc => ?_) (fun hc => ?_)
        · have h := h.1 hc
          exact j_Mo_told_76 X hr hlk hsz V (lv_sub hl [1, 0] rfl) h
        · have h := h.2 hc
          refine lv_aload_n (pc := 70) hx hb d_Mo_told_70 rfl (lv_at hl 1 rfl) ?_
          refine lv_iconst (pc := 71) (v := 5) hx hb d_Mo_told_71 (by decide) ?_
          refine u_cVv (pc := 72) (As := [.int 5]) X V s_Mo_202 (X.fix rfl) rfl rfl rfl (c_Mo_answer l D cc L A J t16 t32 _ _ 5 _ h) ⟨rfl, rfl, Nat.le_of_ble_eq_true rfl, Nat.le_of_ble_eq_true rfl⟩ rfl hl.1 rfl (Nat.le_of_ble_eq_true rfl) d_Mo_told_72 ⟨Nat.zero_le _, Nat.zero_le _⟩ (fun I11 R12 h H locs V => ?_)
          exact u_retv (pc := 75) X V hr hlk hsz h d_Mo_told_75
    · have h := h.2 hc
      exact j_Mo_told_26 X hr hlk hsz V (lv_sub hl [1] rfl) h
-- FrameFerryModel.goodPacket (II)V
theorem d_Mo_goodPacket_0 : decode prog_10_method_35_code 0 = .ok (.aload_n 0, 1) := by decide +kernel
theorem d_Mo_goodPacket_1 : decode prog_10_method_35_code 1 = .ok (.getfield 41, 3) := by decide +kernel
theorem d_Mo_goodPacket_4 : decode prog_10_method_35_code 4 = .ok (.iconst 1, 1) := by decide +kernel
theorem d_Mo_goodPacket_5 : decode prog_10_method_35_code 5 = .ok (.iaload, 1) := by decide +kernel
theorem d_Mo_goodPacket_6 : decode prog_10_method_35_code 6 = .ok (.iconst 4, 1) := by decide +kernel
theorem d_Mo_goodPacket_7 : decode prog_10_method_35_code 7 = .ok (.if_icmp .ne 9, 3) := by decide +kernel
theorem d_Mo_goodPacket_10 : decode prog_10_method_35_code 10 = .ok (.aload_n 0, 1) := by decide +kernel
theorem d_Mo_goodPacket_11 : decode prog_10_method_35_code 11 = .ok (.iload_n 1, 1) := by decide +kernel
theorem d_Mo_goodPacket_12 : decode prog_10_method_35_code 12 = .ok (.invokevirtual 205, 3) := by decide +kernel
theorem d_Mo_goodPacket_15 : decode prog_10_method_35_code 15 = .ok (.return_, 1) := by decide +kernel
theorem d_Mo_goodPacket_16 : decode prog_10_method_35_code 16 = .ok (.iconst 0, 1) := by decide +kernel
theorem d_Mo_goodPacket_17 : decode prog_10_method_35_code 17 = .ok (.istore_n 3, 1) := by decide +kernel
theorem d_Mo_goodPacket_18 : decode prog_10_method_35_code 18 = .ok (.iload_n 3, 1) := by decide +kernel
theorem d_Mo_goodPacket_19 : decode prog_10_method_35_code 19 = .ok (.iload_n 1, 1) := by decide +kernel
theorem d_Mo_goodPacket_20 : decode prog_10_method_35_code 20 = .ok (.if_icmp .ge 69, 3) := by decide +kernel
theorem d_Mo_goodPacket_23 : decode prog_10_method_35_code 23 = .ok (.aload_n 0, 1) := by decide +kernel
theorem d_Mo_goodPacket_24 : decode prog_10_method_35_code 24 = .ok (.getfield 63, 3) := by decide +kernel
theorem d_Mo_goodPacket_27 : decode prog_10_method_35_code 27 = .ok (.aload_n 0, 1) := by decide +kernel
theorem d_Mo_goodPacket_28 : decode prog_10_method_35_code 28 = .ok (.getfield 69, 3) := by decide +kernel
theorem d_Mo_goodPacket_31 : decode prog_10_method_35_code 31 = .ok (.iaload, 1) := by decide +kernel
theorem d_Mo_goodPacket_32 : decode prog_10_method_35_code 32 = .ok (.sipush 300, 3) := by decide +kernel
theorem d_Mo_goodPacket_35 : decode prog_10_method_35_code 35 = .ok (.if_icmp .ge 54, 3) := by decide +kernel
theorem d_Mo_goodPacket_38 : decode prog_10_method_35_code 38 = .ok (.aload_n 0, 1) := by decide +kernel
theorem d_Mo_goodPacket_39 : decode prog_10_method_35_code 39 = .ok (.getfield 66, 3) := by decide +kernel
theorem d_Mo_goodPacket_42 : decode prog_10_method_35_code 42 = .ok (.sipush 300, 3) := by decide +kernel
theorem d_Mo_goodPacket_45 : decode prog_10_method_35_code 45 = .ok (.aload_n 0, 1) := by decide +kernel
theorem d_Mo_goodPacket_46 : decode prog_10_method_35_code 46 = .ok (.getfield 69, 3) := by decide +kernel
theorem d_Mo_goodPacket_49 : decode prog_10_method_35_code 49 = .ok (.imul, 1) := by decide +kernel
theorem d_Mo_goodPacket_50 : decode prog_10_method_35_code 50 = .ok (.aload_n 0, 1) := by decide +kernel
theorem d_Mo_goodPacket_51 : decode prog_10_method_35_code 51 = .ok (.getfield 63, 3) := by decide +kernel
theorem d_Mo_goodPacket_54 : decode prog_10_method_35_code 54 = .ok (.aload_n 0, 1) := by decide +kernel
theorem d_Mo_goodPacket_55 : decode prog_10_method_35_code 55 = .ok (.getfield 69, 3) := by decide +kernel
theorem d_Mo_goodPacket_58 : decode prog_10_method_35_code 58 = .ok (.iaload, 1) := by decide +kernel
theorem d_Mo_goodPacket_59 : decode prog_10_method_35_code 59 = .ok (.iadd, 1) := by decide +kernel
theorem d_Mo_goodPacket_60 : decode prog_10_method_35_code 60 = .ok (.aload_n 0, 1) := by decide +kernel
theorem d_Mo_goodPacket_61 : decode prog_10_method_35_code 61 = .ok (.getfield 32, 3) := by decide +kernel
theorem d_Mo_goodPacket_64 : decode prog_10_method_35_code 64 = .ok (.bipush 80, 2) := by decide +kernel
theorem d_Mo_goodPacket_66 : decode prog_10_method_35_code 66 = .ok (.iload_n 3, 1) := by decide +kernel
theorem d_Mo_goodPacket_67 : decode prog_10_method_35_code 67 = .ok (.iadd, 1) := by decide +kernel
theorem d_Mo_goodPacket_68 : decode prog_10_method_35_code 68 = .ok (.iaload, 1) := by decide +kernel
theorem d_Mo_goodPacket_69 : decode prog_10_method_35_code 69 = .ok (.iastore, 1) := by decide +kernel
theorem d_Mo_goodPacket_70 : decode prog_10_method_35_code 70 = .ok (.aload_n 0, 1) := by decide +kernel
theorem d_Mo_goodPacket_71 : decode prog_10_method_35_code 71 = .ok (.getfield 63, 3) := by decide +kernel
theorem d_Mo_goodPacket_74 : decode prog_10_method_35_code 74 = .ok (.aload_n 0, 1) := by decide +kernel
theorem d_Mo_goodPacket_75 : decode prog_10_method_35_code 75 = .ok (.getfield 69, 3) := by decide +kernel
theorem d_Mo_goodPacket_78 : decode prog_10_method_35_code 78 = .ok (.dup2, 1) := by decide +kernel
theorem d_Mo_goodPacket_79 : decode prog_10_method_35_code 79 = .ok (.iaload, 1) := by decide +kernel
theorem d_Mo_goodPacket_80 : decode prog_10_method_35_code 80 = .ok (.iconst 1, 1) := by decide +kernel
theorem d_Mo_goodPacket_81 : decode prog_10_method_35_code 81 = .ok (.iadd, 1) := by decide +kernel
theorem d_Mo_goodPacket_82 : decode prog_10_method_35_code 82 = .ok (.iastore, 1) := by decide +kernel
theorem d_Mo_goodPacket_83 : decode prog_10_method_35_code 83 = .ok (.iinc 3 1, 3) := by decide +kernel
theorem d_Mo_goodPacket_86 : decode prog_10_method_35_code 86 = .ok (.goto (-68), 3) := by decide +kernel
theorem d_Mo_goodPacket_89 : decode prog_10_method_35_code 89 = .ok (.iload_n 2, 1) := by decide +kernel
theorem d_Mo_goodPacket_90 : decode prog_10_method_35_code 90 = .ok (.bipush 106, 2) := by decide +kernel
theorem d_Mo_goodPacket_92 : decode prog_10_method_35_code 92 = .ok (.if_icmp .eq 9, 3) := by decide +kernel
theorem d_Mo_goodPacket_95 : decode prog_10_method_35_code 95 = .ok (.iload_n 2, 1) := by decide +kernel
theorem d_Mo_goodPacket_96 : decode prog_10_method_35_code 96 = .ok (.bipush 107, 2) := by decide +kernel
theorem d_Mo_goodPacket_98 : decode prog_10_method_35_code 98 = .ok (.if_icmp .ne 8, 3) := by decide +kernel
theorem d_Mo_goodPacket_101 : decode prog_10_method_35_code 101 = .ok (.aload_n 0, 1) := by decide +kernel
theorem d_Mo_goodPacket_102 : decode prog_10_method_35_code 102 = .ok (.iconst 3, 1) := by decide +kernel
theorem d_Mo_goodPacket_103 : decode prog_10_method_35_code 103 = .ok (.invokevirtual 202, 3) := by decide +kernel
theorem d_Mo_goodPacket_106 : decode prog_10_method_35_code 106 = .ok (.return_, 1) := by decide +kernel
def rm_Mo_goodPacket : Room := { frames := 5, cells := 0, slots := 0, locals := 117 }
def wp_Mo_goodPacket_L101 (Q : UI → UR → Prop) (I : UI) (R : UR) : Prop :=
  wp_Mo_answer I R 3 (fun I1 R2 => Q I1 R2)
set_option maxHeartbeats 4000000 in
set_option maxRecDepth 100000 in
theorem j_Mo_goodPacket_101 (X : uX p s m args c prog_10_method_35_code 4 "FrameFerryModel" D cc L A t16 t32) (hr : meth.sig.returnType = none) (hlk : meth.locks = false) (hsz : sz = s.heap.size) {Q : UI → UR → Prop} {I : UI} {R : UR} {H : Heap} {locs : List Loc} {ls : Array Slot} (V : uV s D cc L A J I R H locs) (hl : lv_has ls 4 [(0, .ref (A 80))]) (h : wp_Mo_goodPacket_L101 Q I R) : W p l e rm_Mo_goodPacket s m args below meth c H locs 0 0 (MQ below (va_Qv (fun u : UI × UR => Q u.1 u.2) (uBv D cc L A J) (uA L A sz)) args s 0 0 (uA L A sz)) (F0 m 101 ls []) := by
  have hx := X.1
  have hb := X.2.1
  unfold wp_Mo_goodPacket_L101 at h
  refine lv_aload_n (pc := 101) hx hb d_Mo_goodPacket_101 rfl (lv_at hl 0 rfl) ?_
  refine lv_iconst (pc := 102) (v := 3) hx hb d_Mo_goodPacket_102 (by decide) ?_
  refine u_cVv (pc := 103) (As := [.int 3]) X V s_Mo_202 (X.fix rfl) rfl rfl rfl (c_Mo_answer l D cc L A J t16 t32 _ _ 3 _ h) ⟨rfl, rfl, Nat.le_of_ble_eq_true rfl, Nat.le_of_ble_eq_true rfl⟩ rfl hl.1 rfl (Nat.le_of_ble_eq_true rfl) d_Mo_goodPacket_103 ⟨Nat.zero_le _, Nat.zero_le _⟩ (fun I1 R2 h H locs V => ?_)
  exact u_retv (pc := 106) X V hr hlk hsz h d_Mo_goodPacket_106
def wp_Mo_goodPacket_L89 (Q : UI → UR → Prop) (I : UI) (R : UR) (x2 : Int32) : Prop :=
  ((x2 = 106 → wp_Mo_goodPacket_L101 Q I R) ∧ (¬ x2 = 106 → ((¬ x2 = 107 → Q I R) ∧ (x2 = 107 → wp_Mo_goodPacket_L101 Q I R))))
set_option maxHeartbeats 4000000 in
set_option maxRecDepth 100000 in
theorem j_Mo_goodPacket_89 (X : uX p s m args c prog_10_method_35_code 4 "FrameFerryModel" D cc L A t16 t32) (hr : meth.sig.returnType = none) (hlk : meth.locks = false) (hsz : sz = s.heap.size) {Q : UI → UR → Prop} {I : UI} {R : UR} {x2 : Int32} {H : Heap} {locs : List Loc} {ls : Array Slot} (V : uV s D cc L A J I R H locs) (hl : lv_has ls 4 [(0, .ref (A 80)), (2, .int x2)]) (h : wp_Mo_goodPacket_L89 Q I R x2) : W p l e rm_Mo_goodPacket s m args below meth c H locs 0 0 (MQ below (va_Qv (fun u : UI × UR => Q u.1 u.2) (uBv D cc L A J) (uA L A sz)) args s 0 0 (uA L A sz)) (F0 m 89 ls []) := by
  have hx := X.1
  have hb := X.2.1
  unfold wp_Mo_goodPacket_L89 at h
  refine lv_iload_n (pc := 89) hx hb d_Mo_goodPacket_89 rfl (lv_at hl 1 rfl) ?_
  refine lv_bipush (pc := 90) (v := 106) hx hb d_Mo_goodPacket_90 (by decide) ?_
  refine lv_icmp_eq (pc := 92) (tgt := 101) hx hb d_Mo_goodPacket_92 (by decide) (fun hc => ?_) (fun hc => ?_)
  · have h := h.1 hc
    exact j_Mo_goodPacket_101 X hr hlk hsz V (lv_sub hl [0] rfl) h
  · have h := h.2 hc
    refine lv_iload_n (pc := 95) hx hb d_Mo_goodPacket_95 rfl (lv_at hl 1 rfl) ?_
    refine lv_bipush (pc := 96) (v := 107) hx hb d_Mo_goodPacket_96 (by decide) ?_
    refine lv_icmp_ne (pc := 98) (tgt := 106) hx hb d_Mo_goodPacket_98 (by decide) (fun hc => ?_) (fun hc => ?_)
    · have h := h.1 hc
      exact u_retv (pc := 106) X V hr hlk hsz h d_Mo_goodPacket_106
    · have h := h.2 hc
      exact j_Mo_goodPacket_101 X hr hlk hsz V (lv_sub hl [0] rfl) h
def wp_Mo_goodPacket_L18 (Q : UI → UR → Prop) : Nat → UI → UR → Int32 → Int32 → Int32 → Prop
  | 0, _, _, _, _, _ => False
  | n + 1, I, R, x1, x2, x3 => ((x1 ≤ x3 → wp_Mo_goodPacket_L89 Q I R x2) ∧ (¬ x1 ≤ x3 → vp_in (I 80 25) 26 ∧ ((300 ≤ I 103 (I 80 25).toNatClampNeg → wp_Mo_goodPacket_L89 Q I R x2) ∧ (¬ 300 ≤ I 103 (I 80 25).toNatClampNeg → vp_in (I 80 25) 26 ∧ vp_in (80 + x3) 160 ∧ vp_in ((300 * (I 80 25)) + (I 103 (I 80 25).toNatClampNeg)) 7800 ∧ ∀ I3 : UI, I3 = u2 I 104 (((300 * (I 80 25)) + (I 103 (I 80 25).toNatClampNeg)).toNatClampNeg) (I 88 (80 + x3).toNatClampNeg) → vp_in (I3 80 25) 26 ∧ vp_in (I3 80 25) 26 ∧ ∀ I4 : UI, I4 = u2 I3 103 ((I3 80 25).toNatClampNeg) ((I3 103 (I3 80 25).toNatClampNeg) + 1) → ∀ v5 : Int32, v5 = x3 + 1 → wp_Mo_goodPacket_L18 Q n I4 R x1 x2 v5))))
set_option maxHeartbeats 4000000 in
set_option maxRecDepth 100000 in
theorem j_Mo_goodPacket_18 (X : uX p s m args c prog_10_method_35_code 4 "FrameFerryModel" D cc L A t16 t32) (hr : meth.sig.returnType = none) (hlk : meth.locks = false) (hsz : sz = s.heap.size) {Q : UI → UR → Prop} : ∀ (n : Nat) (I : UI) (R : UR) (x1 : Int32) (x2 : Int32) (x3 : Int32) (H : Heap) (locs : List Loc) (ls : Array Slot), uV s D cc L A J I R H locs → lv_has ls 4 [(0, .ref (A 80)), (1, .int x1), (2, .int x2), (3, .int x3)] → wp_Mo_goodPacket_L18 Q n I R x1 x2 x3 → W p l e rm_Mo_goodPacket s m args below meth c H locs 0 0 (MQ below (va_Qv (fun u : UI × UR => Q u.1 u.2) (uBv D cc L A J) (uA L A sz)) args s 0 0 (uA L A sz)) (F0 m 18 ls []) := by
  intro n
  induction n with
  | zero => exact fun I R x1 x2 x3 H locs ls V hl h => False.elim h
  | succ n ih =>
    intro I R x1 x2 x3 H locs ls V hl h
    have hx := X.1
    have hb := X.2.1
    rw [wp_Mo_goodPacket_L18] at h
    refine lv_iload_n (pc := 18) hx hb d_Mo_goodPacket_18 rfl (lv_at hl 3 rfl) ?_
    refine lv_iload_n (pc := 19) hx hb d_Mo_goodPacket_19 rfl (lv_at hl 1 rfl) ?_
    refine lv_icmp_ge (pc := 20) (tgt := 89) hx hb d_Mo_goodPacket_20 (by decide) (fun hc => ?_) (fun hc => ?_)
    · have h := h.1 hc
      exact j_Mo_goodPacket_89 X hr hlk hsz V (lv_sub hl [0, 2] rfl) h
    · have h := h.2 hc
      refine lv_aload_n (pc := 23) hx hb d_Mo_goodPacket_23 rfl (lv_at hl 0 rfl) ?_
      refine u_getr (pc := 24) (o' := 103) X V (X.fix rfl) rfl rfl f_Mo_63 rfl rfl d_Mo_goodPacket_24 ?_
      refine lv_aload_n (pc := 27) hx hb d_Mo_goodPacket_27 rfl (lv_at hl 0 rfl) ?_
      refine u_geti (pc := 28) X V (X.fix rfl) rfl rfl f_Mo_69 rfl d_Mo_goodPacket_28 ?_
      refine u_iald (pc := 31) X V (X.fix rfl) rfl rfl h.1 d_Mo_goodPacket_31 ?_
      have h := h.2
      refine lv_sipush (pc := 32) (v := 300) hx hb d_Mo_goodPacket_32 (by decide) ?_
      refine lv_icmp_ge (pc := 35) (tgt := 89) hx hb d_Mo_goodPacket_35 (by decide) (fun hc => ?_) (fun hc => ?_)
      · have h := h.1 hc
        exact j_Mo_goodPacket_89 X hr hlk hsz V (lv_sub hl [0, 2] rfl) h
      · have h := h.2 hc
        refine lv_aload_n (pc := 38) hx hb d_Mo_goodPacket_38 rfl (lv_at hl 0 rfl) ?_
        refine u_getr (pc := 39) (o' := 104) X V (X.fix rfl) rfl rfl f_Mo_66 rfl rfl d_Mo_goodPacket_39 ?_
        refine lv_sipush (pc := 42) (v := 300) hx hb d_Mo_goodPacket_42 (by decide) ?_
        refine lv_aload_n (pc := 45) hx hb d_Mo_goodPacket_45 rfl (lv_at hl 0 rfl) ?_
        refine u_geti (pc := 46) X V (X.fix rfl) rfl rfl f_Mo_69 rfl d_Mo_goodPacket_46 ?_
        refine lv_imul (pc := 49) hx hb d_Mo_goodPacket_49 ?_
        refine lv_aload_n (pc := 50) hx hb d_Mo_goodPacket_50 rfl (lv_at hl 0 rfl) ?_
        refine u_getr (pc := 51) (o' := 103) X V (X.fix rfl) rfl rfl f_Mo_63 rfl rfl d_Mo_goodPacket_51 ?_
        refine lv_aload_n (pc := 54) hx hb d_Mo_goodPacket_54 rfl (lv_at hl 0 rfl) ?_
        refine u_geti (pc := 55) X V (X.fix rfl) rfl rfl f_Mo_69 rfl d_Mo_goodPacket_55 ?_
        refine u_iald (pc := 58) X V (X.fix rfl) rfl rfl h.1 d_Mo_goodPacket_58 ?_
        have h := h.2
        refine lv_iadd (pc := 59) hx hb d_Mo_goodPacket_59 ?_
        refine lv_aload_n (pc := 60) hx hb d_Mo_goodPacket_60 rfl (lv_at hl 0 rfl) ?_
        refine u_getr (pc := 61) (o' := 88) X V (X.fix rfl) rfl rfl f_Mo_32 rfl rfl d_Mo_goodPacket_61 ?_
        refine lv_bipush (pc := 64) (v := 80) hx hb d_Mo_goodPacket_64 (by decide) ?_
        refine lv_iload_n (pc := 66) hx hb d_Mo_goodPacket_66 rfl (lv_at hl 3 rfl) ?_
        refine lv_iadd (pc := 67) hx hb d_Mo_goodPacket_67 ?_
        refine u_iald (pc := 68) X V (X.fix rfl) rfl rfl h.1 d_Mo_goodPacket_68 ?_
        have h := h.2
        refine u_iast (pc := 69) X V (X.fix rfl) rfl rfl h.1 d_Mo_goodPacket_69 (fun I3 eI3 H locs V => ?_)
        have h := h.2 I3 eI3
        refine lv_aload_n (pc := 70) hx hb d_Mo_goodPacket_70 rfl (lv_at hl 0 rfl) ?_
        refine u_getr (pc := 71) (o' := 103) X V (X.fix rfl) rfl rfl f_Mo_63 rfl rfl d_Mo_goodPacket_71 ?_
        refine lv_aload_n (pc := 74) hx hb d_Mo_goodPacket_74 rfl (lv_at hl 0 rfl) ?_
        refine u_geti (pc := 75) X V (X.fix rfl) rfl rfl f_Mo_69 rfl d_Mo_goodPacket_75 ?_
        refine lv_dup2_11 (pc := 78) hx hb d_Mo_goodPacket_78 rfl rfl ?_
        refine u_iald (pc := 79) X V (X.fix rfl) rfl rfl h.1 d_Mo_goodPacket_79 ?_
        have h := h.2
        refine lv_iconst (pc := 80) (v := 1) hx hb d_Mo_goodPacket_80 (by decide) ?_
        refine lv_iadd (pc := 81) hx hb d_Mo_goodPacket_81 ?_
        refine u_iast (pc := 82) X V (X.fix rfl) rfl rfl h.1 d_Mo_goodPacket_82 (fun I4 eI4 H locs V => ?_)
        have h := h.2 I4 eI4
        obtain ⟨v5, ev5⟩ : ∃ z : Int32, z = x3 + 1 := ⟨_, rfl⟩
        have h := h v5 ev5
        refine lv_iinc (pc := 83) (k := 3) (v := v5) (lv' := [(3, .int v5), (0, .ref (A 80)), (1, .int x1), (2, .int x2)]) hx hb d_Mo_goodPacket_83 hl rfl (by rw [ev5]; rfl) (by decide) rfl (fun ls hl => ?_)
        refine lv_goto (pc := 86) (tgt := 18) hx hb d_Mo_goodPacket_86 (by decide) ?_
        exact ih I4 R x1 x2 v5 H locs ls V (lv_sub hl [1, 2, 3, 0] rfl) h
def wp_Mo_goodPacket (I : UI) (R : UR) (x1 : Int32) (x2 : Int32) (Q : UI → UR → Prop) : Prop :=
  vp_in 1 2 ∧ ((¬ I 91 (1 : Int32).toNatClampNeg = 4 → (∃ n18 : Nat, wp_Mo_goodPacket_L18 Q n18 I R x1 x2 0)) ∧ (I 91 (1 : Int32).toNatClampNeg = 4 → wp_Mo_told I R x1 (fun I6 R7 => Q I6 R7)))
set_option maxHeartbeats 4000000 in
set_option maxRecDepth 100000 in
theorem c_Mo_goodPacket (l : Launch) (D : va_G) (cc : Nat → ClassId) (L : List Nat) (A : Nat → Nat) (J : Nat → Int64) (t16 t32 : Nat) (I : UI) (R : UR) (x1 : Int32) (x2 : Int32) (Q : UI → UR → Prop) (h : wp_Mo_goodPacket I R x1 x2 Q) : uMv l y_Mo_goodPacket (.code y_Mo_goodPacket prog_10_method_35_code 4 none) rm_Mo_goodPacket [.ref (A 80), .int x1, .int x2] D cc L A J t16 t32 I R Q := by
  intro sz
  refine u_entry (by decide) (Nat.le_of_ble_eq_true rfl) (fun p e s m args below meth c hsz X V hr hlk ls hl => ?_)
  have X : uX p s m args c prog_10_method_35_code 4 "FrameFerryModel" D cc L A t16 t32 := X
  have hx := X.1
  have hb := X.2.1
  have hl : lv_has ls 4 [(0, .ref (A 80)), (1, .int x1), (2, .int x2)] := hl
  unfold wp_Mo_goodPacket at h
  generalize hH : s.heap = H at V ⊢
  generalize hlo : ([] : List Loc) = locs at V ⊢
  refine lv_aload_n (pc := 0) hx hb d_Mo_goodPacket_0 rfl (lv_at hl 0 rfl) ?_
  refine u_getr (pc := 1) (o' := 91) X V (X.fix rfl) rfl rfl f_Mo_41 rfl rfl d_Mo_goodPacket_1 ?_
  refine lv_iconst (pc := 4) (v := 1) hx hb d_Mo_goodPacket_4 (by decide) ?_
  refine u_iald (pc := 5) X V (X.fix rfl) rfl rfl h.1 d_Mo_goodPacket_5 ?_
  have h := h.2
  refine lv_iconst (pc := 6) (v := 4) hx hb d_Mo_goodPacket_6 (by decide) ?_
  refine lv_icmp_ne (pc := 7) (tgt := 16) hx hb d_Mo_goodPacket_7 (by decide) (fun hc => ?_) (fun hc => ?_)
  · have h := h.1 hc
    refine lv_iconst (pc := 16) (v := 0) hx hb d_Mo_goodPacket_16 (by decide) ?_
    refine lv_istore_n (pc := 17) (lv' := [(3, .int 0), (0, .ref (A 80)), (1, .int x1), (2, .int x2)]) hx hb d_Mo_goodPacket_17 rfl hl (by decide) rfl (fun ls hl => ?_)
    obtain ⟨n18, h⟩ := h
    exact j_Mo_goodPacket_18 X hr hlk hsz n18 I R x1 x2 0 H locs ls V (lv_sub hl [1, 2, 3, 0] rfl) h
  · have h := h.2 hc
    refine lv_aload_n (pc := 10) hx hb d_Mo_goodPacket_10 rfl (lv_at hl 0 rfl) ?_
    refine lv_iload_n (pc := 11) hx hb d_Mo_goodPacket_11 rfl (lv_at hl 1 rfl) ?_
    refine u_cVv (pc := 12) (As := [.int x1]) X V s_Mo_205 (X.fix rfl) rfl rfl rfl (c_Mo_told l D cc L A J t16 t32 _ _ x1 _ h) ⟨rfl, rfl, Nat.le_of_ble_eq_true rfl, Nat.le_of_ble_eq_true rfl⟩ rfl hl.1 rfl (Nat.le_of_ble_eq_true rfl) d_Mo_goodPacket_12 ⟨Nat.zero_le _, Nat.zero_le _⟩ (fun I6 R7 h H locs V => ?_)
    exact u_retv (pc := 15) X V hr hlk hsz h d_Mo_goodPacket_15
-- FrameFerryModel.received (IIZ)V
theorem d_Mo_received_0 : decode prog_10_method_33_code 0 = .ok (.aload_n 0, 1) := by decide +kernel
theorem d_Mo_received_1 : decode prog_10_method_33_code 1 = .ok (.getfield 69, 3) := by decide +kernel
theorem d_Mo_received_4 : decode prog_10_method_33_code 4 = .ok (.ifCond .lt 15, 3) := by decide +kernel
theorem d_Mo_received_7 : decode prog_10_method_33_code 7 = .ok (.iload_n 2, 1) := by decide +kernel
theorem d_Mo_received_8 : decode prog_10_method_33_code 8 = .ok (.aload_n 0, 1) := by decide +kernel
theorem d_Mo_received_9 : decode prog_10_method_33_code 9 = .ok (.invokevirtual 198, 3) := by decide +kernel
theorem d_Mo_received_12 : decode prog_10_method_33_code 12 = .ok (.if_icmp .ne 7, 3) := by decide +kernel
theorem d_Mo_received_15 : decode prog_10_method_33_code 15 = .ok (.iconst 1, 1) := by decide +kernel
theorem d_Mo_received_16 : decode prog_10_method_33_code 16 = .ok (.goto 4, 3) := by decide +kernel
theorem d_Mo_received_19 : decode prog_10_method_33_code 19 = .ok (.iconst 0, 1) := by decide +kernel
theorem d_Mo_received_20 : decode prog_10_method_33_code 20 = .ok (.istore 4, 2) := by decide +kernel
theorem d_Mo_received_22 : decode prog_10_method_33_code 22 = .ok (.iload_n 1, 1) := by decide +kernel
theorem d_Mo_received_23 : decode prog_10_method_33_code 23 = .ok (.tableswitch 172 0 11 #[61, 172, 172, 172, 69, 172, 172, 172, 158, 172, 94, 140], 61) := by decide +kernel
theorem d_Mo_received_84 : decode prog_10_method_33_code 84 = .ok (.aload_n 0, 1) := by decide +kernel
theorem d_Mo_received_85 : decode prog_10_method_33_code 85 = .ok (.iconst 1, 1) := by decide +kernel
theorem d_Mo_received_86 : decode prog_10_method_33_code 86 = .ok (.invokevirtual 202, 3) := by decide +kernel
theorem d_Mo_received_89 : decode prog_10_method_33_code 89 = .ok (.goto 106, 3) := by decide +kernel
theorem d_Mo_received_92 : decode prog_10_method_33_code 92 = .ok (.iload_n 3, 1) := by decide +kernel
theorem d_Mo_received_93 : decode prog_10_method_33_code 93 = .ok (.ifCond .ne 102, 3) := by decide +kernel
theorem d_Mo_received_96 : decode prog_10_method_33_code 96 = .ok (.aload_n 0, 1) := by decide +kernel
theorem d_Mo_received_97 : decode prog_10_method_33_code 97 = .ok (.iconst (-1), 1) := by decide +kernel
theorem d_Mo_received_98 : decode prog_10_method_33_code 98 = .ok (.putfield 69, 3) := by decide +kernel
theorem d_Mo_received_101 : decode prog_10_method_33_code 101 = .ok (.aload_n 0, 1) := by decide +kernel
theorem d_Mo_received_102 : decode prog_10_method_33_code 102 = .ok (.getfield 41, 3) := by decide +kernel
theorem d_Mo_received_105 : decode prog_10_method_33_code 105 = .ok (.iconst 1, 1) := by decide +kernel
theorem d_Mo_received_106 : decode prog_10_method_33_code 106 = .ok (.iconst 4, 1) := by decide +kernel
theorem d_Mo_received_107 : decode prog_10_method_33_code 107 = .ok (.iastore, 1) := by decide +kernel
theorem d_Mo_received_108 : decode prog_10_method_33_code 108 = .ok (.aload_n 0, 1) := by decide +kernel
theorem d_Mo_received_109 : decode prog_10_method_33_code 109 = .ok (.iconst 1, 1) := by decide +kernel
theorem d_Mo_received_110 : decode prog_10_method_33_code 110 = .ok (.iconst 5, 1) := by decide +kernel
theorem d_Mo_received_111 : decode prog_10_method_33_code 111 = .ok (.invokevirtual 153, 3) := by decide +kernel
theorem d_Mo_received_114 : decode prog_10_method_33_code 114 = .ok (.goto 81, 3) := by decide +kernel
theorem d_Mo_received_117 : decode prog_10_method_33_code 117 = .ok (.iload_n 3, 1) := by decide +kernel
theorem d_Mo_received_118 : decode prog_10_method_33_code 118 = .ok (.ifCond .ne 25, 3) := by decide +kernel
theorem d_Mo_received_121 : decode prog_10_method_33_code 121 = .ok (.iload 4, 2) := by decide +kernel
theorem d_Mo_received_123 : decode prog_10_method_33_code 123 = .ok (.ifCond .eq 20, 3) := by decide +kernel
theorem d_Mo_received_126 : decode prog_10_method_33_code 126 = .ok (.aload_n 0, 1) := by decide +kernel
theorem d_Mo_received_127 : decode prog_10_method_33_code 127 = .ok (.getfield 41, 3) := by decide +kernel
theorem d_Mo_received_130 : decode prog_10_method_33_code 130 = .ok (.iconst 1, 1) := by decide +kernel
theorem d_Mo_received_131 : decode prog_10_method_33_code 131 = .ok (.bipush 10, 2) := by decide +kernel
theorem d_Mo_received_133 : decode prog_10_method_33_code 133 = .ok (.iastore, 1) := by decide +kernel
theorem d_Mo_received_134 : decode prog_10_method_33_code 134 = .ok (.aload_n 0, 1) := by decide +kernel
theorem d_Mo_received_135 : decode prog_10_method_33_code 135 = .ok (.iconst 1, 1) := by decide +kernel
theorem d_Mo_received_136 : decode prog_10_method_33_code 136 = .ok (.iconst 5, 1) := by decide +kernel
theorem d_Mo_received_137 : decode prog_10_method_33_code 137 = .ok (.invokevirtual 153, 3) := by decide +kernel
theorem d_Mo_received_140 : decode prog_10_method_33_code 140 = .ok (.goto 55, 3) := by decide +kernel
theorem d_Mo_received_143 : decode prog_10_method_33_code 143 = .ok (.iload_n 3, 1) := by decide +kernel
theorem d_Mo_received_144 : decode prog_10_method_33_code 144 = .ok (.ifCond .ne 51, 3) := by decide +kernel
theorem d_Mo_received_147 : decode prog_10_method_33_code 147 = .ok (.aload_n 0, 1) := by decide +kernel
theorem d_Mo_received_148 : decode prog_10_method_33_code 148 = .ok (.getfield 69, 3) := by decide +kernel
theorem d_Mo_received_151 : decode prog_10_method_33_code 151 = .ok (.ifCond .lt 44, 3) := by decide +kernel
theorem d_Mo_received_154 : decode prog_10_method_33_code 154 = .ok (.aload_n 0, 1) := by decide +kernel
theorem d_Mo_received_155 : decode prog_10_method_33_code 155 = .ok (.bipush 9, 2) := by decide +kernel
theorem d_Mo_received_157 : decode prog_10_method_33_code 157 = .ok (.invokevirtual 202, 3) := by decide +kernel
theorem d_Mo_received_160 : decode prog_10_method_33_code 160 = .ok (.goto 35, 3) := by decide +kernel
theorem d_Mo_received_163 : decode prog_10_method_33_code 163 = .ok (.iload 4, 2) := by decide +kernel
theorem d_Mo_received_165 : decode prog_10_method_33_code 165 = .ok (.ifCond .eq 30, 3) := by decide +kernel
theorem d_Mo_received_168 : decode prog_10_method_33_code 168 = .ok (.aload_n 0, 1) := by decide +kernel
theorem d_Mo_received_169 : decode prog_10_method_33_code 169 = .ok (.iconst (-1), 1) := by decide +kernel
theorem d_Mo_received_170 : decode prog_10_method_33_code 170 = .ok (.putfield 69, 3) := by decide +kernel
theorem d_Mo_received_173 : decode prog_10_method_33_code 173 = .ok (.aload_n 0, 1) := by decide +kernel
theorem d_Mo_received_174 : decode prog_10_method_33_code 174 = .ok (.iconst 1, 1) := by decide +kernel
theorem d_Mo_received_175 : decode prog_10_method_33_code 175 = .ok (.invokevirtual 202, 3) := by decide +kernel
theorem d_Mo_received_178 : decode prog_10_method_33_code 178 = .ok (.goto 17, 3) := by decide +kernel
theorem d_Mo_received_181 : decode prog_10_method_33_code 181 = .ok (.aload_n 0, 1) := by decide +kernel
theorem d_Mo_received_182 : decode prog_10_method_33_code 182 = .ok (.bipush 8, 2) := by decide +kernel
theorem d_Mo_received_184 : decode prog_10_method_33_code 184 = .ok (.invokevirtual 202, 3) := by decide +kernel
theorem d_Mo_received_187 : decode prog_10_method_33_code 187 = .ok (.aload_n 0, 1) := by decide +kernel
theorem d_Mo_received_188 : decode prog_10_method_33_code 188 = .ok (.iconst 1, 1) := by decide +kernel
theorem d_Mo_received_189 : decode prog_10_method_33_code 189 = .ok (.putfield 72, 3) := by decide +kernel
theorem d_Mo_received_192 : decode prog_10_method_33_code 192 = .ok (.goto 3, 3) := by decide +kernel
theorem d_Mo_received_195 : decode prog_10_method_33_code 195 = .ok (.return_, 1) := by decide +kernel
def rm_Mo_received : Room := { frames := 4, cells := 0, slots := 0, locals := 95 }
def wp_Mo_received_L143 (Q : UI → UR → Prop) (I : UI) (R : UR) (x3 : Int32) : Prop :=
  ((¬ x3 = 0 → Q I R) ∧ (x3 = 0 → ((I 80 25 < 0 → Q I R) ∧ (¬ I 80 25 < 0 → wp_Mo_answer I R 9 (fun I11 R12 => Q I11 R12)))))
set_option maxHeartbeats 4000000 in
set_option maxRecDepth 100000 in
theorem j_Mo_received_143 (X : uX p s m args c prog_10_method_33_code 5 "FrameFerryModel" D cc L A t16 t32) (hr : meth.sig.returnType = none) (hlk : meth.locks = false) (hsz : sz = s.heap.size) {Q : UI → UR → Prop} {I : UI} {R : UR} {x3 : Int32} {H : Heap} {locs : List Loc} {ls : Array Slot} (V : uV s D cc L A J I R H locs) (hl : lv_has ls 5 [(0, .ref (A 80)), (3, .int x3)]) (h : wp_Mo_received_L143 Q I R x3) : W p l e rm_Mo_received s m args below meth c H locs 0 0 (MQ below (va_Qv (fun u : UI × UR => Q u.1 u.2) (uBv D cc L A J) (uA L A sz)) args s 0 0 (uA L A sz)) (F0 m 143 ls []) := by
  have hx := X.1
  have hb := X.2.1
  unfold wp_Mo_received_L143 at h
  refine lv_iload_n (pc := 143) hx hb d_Mo_received_143 rfl (lv_at hl 1 rfl) ?_
  refine lv_if_ne (pc := 144) (tgt := 195) hx hb d_Mo_received_144 (by decide) (fun hc => ?_) (fun hc => ?_)
  · have h := h.1 hc
    exact u_retv (pc := 195) X V hr hlk hsz h d_Mo_received_195
  · have h := h.2 hc
    refine lv_aload_n (pc := 147) hx hb d_Mo_received_147 rfl (lv_at hl 0 rfl) ?_
    refine u_geti (pc := 148) X V (X.fix rfl) rfl rfl f_Mo_69 rfl d_Mo_received_148 ?_
    refine lv_if_lt (pc := 151) (tgt := 195) hx hb d_Mo_received_151 (by decide) (fun hc => ?_) (fun hc => ?_)
    · have h := h.1 hc
      exact u_retv (pc := 195) X V hr hlk hsz h d_Mo_received_195
    · have h := h.2 hc
      refine lv_aload_n (pc := 154) hx hb d_Mo_received_154 rfl (lv_at hl 0 rfl) ?_
      refine lv_bipush (pc := 155) (v := 9) hx hb d_Mo_received_155 (by decide) ?_
      refine u_cVv (pc := 157) (As := [.int 9]) X V s_Mo_202 (X.fix rfl) rfl rfl rfl (c_Mo_answer l D cc L A J t16 t32 _ _ 9 _ h) ⟨rfl, rfl, Nat.le_of_ble_eq_true rfl, Nat.le_of_ble_eq_true rfl⟩ rfl hl.1 rfl (Nat.le_of_ble_eq_true rfl) d_Mo_received_157 ⟨Nat.zero_le _, Nat.zero_le _⟩ (fun I11 R12 h H locs V => ?_)
      refine lv_goto (pc := 160) (tgt := 195) hx hb d_Mo_received_160 (by decide) ?_
      exact u_retv (pc := 195) X V hr hlk hsz h d_Mo_received_195
def wp_Mo_received_L20 (Q : UI → UR → Prop) (I : UI) (R : UR) (x1 : Int32) (x3 : Int32) (s0 : Int32) : Prop :=
  ∀ v1 : Int32, v1 = x1 → ((v1 = 0 → wp_Mo_answer I R 1 (fun I2 R3 => Q I2 R3)) ∧ (¬ v1 = 0 → ((v1 = 1 → Q I R) ∧ (¬ v1 = 1 → ((v1 = 2 → Q I R) ∧ (¬ v1 = 2 → ((v1 = 3 → Q I R) ∧ (¬ v1 = 3 → ((v1 = 4 → ((¬ x3 = 0 → Q I R) ∧ (x3 = 0 → ∀ I4 : UI, I4 = u2 I 80 25 (-1) → vp_in 1 2 ∧ ∀ I5 : UI, I5 = u2 I4 91 ((1 : Int32).toNatClampNeg) 4 → wp_Mo_begin I5 R 1 5 (fun I6 R7 => Q I6 R7)))) ∧ (¬ v1 = 4 → ((v1 = 5 → Q I R) ∧ (¬ v1 = 5 → ((v1 = 6 → Q I R) ∧ (¬ v1 = 6 → ((v1 = 7 → Q I R) ∧ (¬ v1 = 7 → ((v1 = 8 → wp_Mo_answer I R 8 (fun I8 R9 => zb 1 ∧ ∀ I10 : UI, I10 = u2 I8 80 27 1 → Q I10 R9)) ∧ (¬ v1 = 8 → ((v1 = 9 → Q I R) ∧ (¬ v1 = 9 → ((v1 = 10 → ((¬ x3 = 0 → wp_Mo_received_L143 Q I R x3) ∧ (x3 = 0 → ((s0 = 0 → wp_Mo_received_L143 Q I R x3) ∧ (¬ s0 = 0 → vp_in 1 2 ∧ ∀ I13 : UI, I13 = u2 I 91 ((1 : Int32).toNatClampNeg) 10 → wp_Mo_begin I13 R 1 5 (fun I14 R15 => Q I14 R15)))))) ∧ (¬ v1 = 10 → ((v1 = 11 → ((s0 = 0 → Q I R) ∧ (¬ s0 = 0 → ∀ I16 : UI, I16 = u2 I 80 25 (-1) → wp_Mo_answer I16 R 1 (fun I17 R18 => Q I17 R18)))) ∧ (¬ v1 = 11 → Q I R))))))))))))))))))))))))
set_option maxHeartbeats 4000000 in
set_option maxRecDepth 100000 in
theorem j_Mo_received_20 (X : uX p s m args c prog_10_method_33_code 5 "FrameFerryModel" D cc L A t16 t32) (hr : meth.sig.returnType = none) (hlk : meth.locks = false) (hsz : sz = s.heap.size) {Q : UI → UR → Prop} {I : UI} {R : UR} {x1 : Int32} {x3 : Int32} {s0 : Int32} {H : Heap} {locs : List Loc} {ls : Array Slot} (V : uV s D cc L A J I R H locs) (hl : lv_has ls 5 [(0, .ref (A 80)), (1, .int x1), (3, .int x3)]) (h : wp_Mo_received_L20 Q I R x1 x3 s0) : W p l e rm_Mo_received s m args below meth c H locs 0 0 (MQ below (va_Qv (fun u : UI × UR => Q u.1 u.2) (uBv D cc L A J) (uA L A sz)) args s 0 0 (uA L A sz)) (F0 m 20 ls [.int s0]) := by
  have hx := X.1
  have hb := X.2.1
  unfold wp_Mo_received_L20 at h
  refine lv_istore (pc := 20) (lv' := [(4, .int s0), (0, .ref (A 80)), (1, .int x1), (3, .int x3)]) hx hb d_Mo_received_20 hl (by decide) rfl (fun ls hl => ?_)
  refine lv_iload_n (pc := 22) hx hb d_Mo_received_22 rfl (lv_at hl 2 rfl) ?_
  refine lv_topi (fun v1 ev1 => ?_)
  have h := h v1 ev1
  by_cases hn0 : v1 = 0
  · have h := h.1 hn0
    rw [hn0]
    refine lv_tableIn (pc := 23) (tgt := 84) (off := 61) hx hb d_Mo_received_23 (by decide) (by decide) rfl (by decide) ?_
    refine lv_aload_n (pc := 84) hx hb d_Mo_received_84 rfl (lv_at hl 1 rfl) ?_
    refine lv_iconst (pc := 85) (v := 1) hx hb d_Mo_received_85 (by decide) ?_
    refine u_cVv (pc := 86) (As := [.int 1]) X V s_Mo_202 (X.fix rfl) rfl rfl rfl (c_Mo_answer l D cc L A J t16 t32 _ _ 1 _ h) ⟨rfl, rfl, Nat.le_of_ble_eq_true rfl, Nat.le_of_ble_eq_true rfl⟩ rfl hl.1 rfl (Nat.le_of_ble_eq_true rfl) d_Mo_received_86 ⟨Nat.zero_le _, Nat.zero_le _⟩ (fun I2 R3 h H locs V => ?_)
    refine lv_goto (pc := 89) (tgt := 195) hx hb d_Mo_received_89 (by decide) ?_
    exact u_retv (pc := 195) X V hr hlk hsz h d_Mo_received_195
  · have h := h.2 hn0
    by_cases hn1 : v1 = 1
    · have h := h.1 hn1
      rw [hn1]
      refine lv_tableIn (pc := 23) (tgt := 195) (off := 172) hx hb d_Mo_received_23 (by decide) (by decide) rfl (by decide) ?_
      exact u_retv (pc := 195) X V hr hlk hsz h d_Mo_received_195
    · have h := h.2 hn1
      by_cases hn2 : v1 = 2
      · have h := h.1 hn2
        rw [hn2]
        refine lv_tableIn (pc := 23) (tgt := 195) (off := 172) hx hb d_Mo_received_23 (by decide) (by decide) rfl (by decide) ?_
        exact u_retv (pc := 195) X V hr hlk hsz h d_Mo_received_195
      · have h := h.2 hn2
        by_cases hn3 : v1 = 3
        · have h := h.1 hn3
          rw [hn3]
          refine lv_tableIn (pc := 23) (tgt := 195) (off := 172) hx hb d_Mo_received_23 (by decide) (by decide) rfl (by decide) ?_
          exact u_retv (pc := 195) X V hr hlk hsz h d_Mo_received_195
        · have h := h.2 hn3
          by_cases hn4 : v1 = 4
          · have h := h.1 hn4
            rw [hn4]
            refine lv_tableIn (pc := 23) (tgt := 92) (off := 69) hx hb d_Mo_received_23 (by decide) (by decide) rfl (by decide) ?_
            refine lv_iload_n (pc := 92) hx hb d_Mo_received_92 rfl (lv_at hl 3 rfl) ?_
            refine lv_if_ne (pc := 93) (tgt := 195) hx hb d_Mo_received_93 (by decide) (fun hc => ?_) (fun hc => ?_)
            · have h := h.1 hc
              exact u_retv (pc := 195) X V hr hlk hsz h d_Mo_received_195
            · have h := h.2 hc
              refine lv_aload_n (pc := 96) hx hb d_Mo_received_96 rfl (lv_at hl 1 rfl) ?_
              refine lv_iconst (pc := 97) (v := (-1)) hx hb d_Mo_received_97 (by decide) ?_
              refine u_puti (pc := 98) X V (X.fix rfl) rfl rfl f_Mo_69 rfl d_Mo_received_98 (fun I4 eI4 H locs V => ?_)
              have h := h I4 eI4
              refine lv_aload_n (pc := 101) hx hb d_Mo_received_101 rfl (lv_at hl 1 rfl) ?_
              refine u_getr (pc := 102) (o' := 91) X V (X.fix rfl) rfl rfl f_Mo_41 rfl rfl d_Mo_received_102 ?_
              refine lv_iconst (pc := 105) (v := 1) hx hb d_Mo_received_105 (by decide) ?_
              refine lv_iconst (pc := 106) (v := 4) hx hb d_Mo_received_106 (by decide) ?_
              refine u_iast (pc := 107) X V (X.fix rfl) rfl rfl h.1 d_Mo_received_107 (fun I5 eI5 H locs V => ?_)
              have h := h.2 I5 eI5
              refine lv_aload_n (pc := 108) hx hb d_Mo_received_108 rfl (lv_at hl 1 rfl) ?_
              refine lv_iconst (pc := 109) (v := 1) hx hb d_Mo_received_109 (by decide) ?_
              refine lv_iconst (pc := 110) (v := 5) hx hb d_Mo_received_110 (by decide) ?_
              refine u_cVv (pc := 111) (As := [.int 1, .int 5]) X V s_Mo_153 (X.fix rfl) rfl rfl rfl (c_Mo_begin l D cc L A J t16 t32 _ _ 1 5 _ h) ⟨rfl, rfl, Nat.le_of_ble_eq_true rfl, Nat.le_of_ble_eq_true rfl⟩ rfl hl.1 rfl (Nat.le_of_ble_eq_true rfl) d_Mo_received_111 ⟨Nat.zero_le _, Nat.zero_le _⟩ (fun I6 R7 h H locs V => ?_)
              refine lv_goto (pc := 114) (tgt := 195) hx hb d_Mo_received_114 (by decide) ?_
              exact u_retv (pc := 195) X V hr hlk hsz h d_Mo_received_195
          · have h := h.2 hn4
            by_cases hn5 : v1 = 5
            · have h := h.1 hn5
              rw [hn5]
              refine lv_tableIn (pc := 23) (tgt := 195) (off := 172) hx hb d_Mo_received_23 (by decide) (by decide) rfl (by decide) ?_
              exact u_retv (pc := 195) X V hr hlk hsz h d_Mo_received_195
            · have h := h.2 hn5
              by_cases hn6 : v1 = 6
              · have h := h.1 hn6
                rw [hn6]
                refine lv_tableIn (pc := 23) (tgt := 195) (off := 172) hx hb d_Mo_received_23 (by decide) (by decide) rfl (by decide) ?_
                exact u_retv (pc := 195) X V hr hlk hsz h d_Mo_received_195
              · have h := h.2 hn6
                by_cases hn7 : v1 = 7
                · have h := h.1 hn7
                  rw [hn7]
                  refine lv_tableIn (pc := 23) (tgt := 195) (off := 172) hx hb d_Mo_received_23 (by decide) (by decide) rfl (by decide) ?_
                  exact u_retv (pc := 195) X V hr hlk hsz h d_Mo_received_195
                · have h := h.2 hn7
                  by_cases hn8 : v1 = 8
                  · have h := h.1 hn8
                    rw [hn8]
                    refine lv_tableIn (pc := 23) (tgt := 181) (off := 158) hx hb d_Mo_received_23 (by decide) (by decide) rfl (by decide) ?_
                    refine lv_aload_n (pc := 181) hx hb d_Mo_received_181 rfl (lv_at hl 1 rfl) ?_
                    refine lv_bipush (pc := 182) (v := 8) hx hb d_Mo_received_182 (by decide) ?_
                    refine u_cVv (pc := 184) (As := [.int 8]) X V s_Mo_202 (X.fix rfl) rfl rfl rfl (c_Mo_answer l D cc L A J t16 t32 _ _ 8 _ h) ⟨rfl, rfl, Nat.le_of_ble_eq_true rfl, Nat.le_of_ble_eq_true rfl⟩ rfl hl.1 rfl (Nat.le_of_ble_eq_true rfl) d_Mo_received_184 ⟨Nat.zero_le _, Nat.zero_le _⟩ (fun I8 R9 h H locs V => ?_)
                    refine lv_aload_n (pc := 187) hx hb d_Mo_received_187 rfl (lv_at hl 1 rfl) ?_
                    refine lv_iconst (pc := 188) (v := 1) hx hb d_Mo_received_188 (by decide) ?_
                    refine u_putz (pc := 189) X V (X.fix rfl) rfl rfl f_Mo_72 rfl h.1 d_Mo_received_189 (fun I10 eI10 H locs V => ?_)
                    have h := h.2 I10 eI10
                    refine lv_goto (pc := 192) (tgt := 195) hx hb d_Mo_received_192 (by decide) ?_
                    exact u_retv (pc := 195) X V hr hlk hsz h d_Mo_received_195
                  · have h := h.2 hn8
                    by_cases hn9 : v1 = 9
                    · have h := h.1 hn9
                      rw [hn9]
                      refine lv_tableIn (pc := 23) (tgt := 195) (off := 172) hx hb d_Mo_received_23 (by decide) (by decide) rfl (by decide) ?_
                      exact u_retv (pc := 195) X V hr hlk hsz h d_Mo_received_195
                    · have h := h.2 hn9
                      by_cases hn10 : v1 = 10
                      · have h := h.1 hn10
                        rw [hn10]
                        refine lv_tableIn (pc := 23) (tgt := 117) (off := 94) hx hb d_Mo_received_23 (by decide) (by decide) rfl (by decide) ?_
                        refine lv_iload_n (pc := 117) hx hb d_Mo_received_117 rfl (lv_at hl 3 rfl) ?_
                        refine lv_if_ne (pc := 118) (tgt := 143) hx hb d_Mo_received_118 (by decide) (fun hc => ?_) (fun hc => ?_)
                        · have h := h.1 hc
                          exact j_Mo_received_143 X hr hlk hsz V (lv_sub hl [1, 3] rfl) h
                        · have h := h.2 hc
                          refine lv_iload (pc := 121) hx hb d_Mo_received_121 (lv_at hl 0 rfl) ?_
                          refine lv_if_eq (pc := 123) (tgt := 143) hx hb d_Mo_received_123 (by decide) (fun hc => ?_) (fun hc => ?_)
                          · have h := h.1 hc
                            exact j_Mo_received_143 X hr hlk hsz V (lv_sub hl [1, 3] rfl) h
                          · have h := h.2 hc
                            refine lv_aload_n (pc := 126) hx hb d_Mo_received_126 rfl (lv_at hl 1 rfl) ?_
                            refine u_getr (pc := 127) (o' := 91) X V (X.fix rfl) rfl rfl f_Mo_41 rfl rfl d_Mo_received_127 ?_
                            refine lv_iconst (pc := 130) (v := 1) hx hb d_Mo_received_130 (by decide) ?_
                            refine lv_bipush (pc := 131) (v := 10) hx hb d_Mo_received_131 (by decide) ?_
                            refine u_iast (pc := 133) X V (X.fix rfl) rfl rfl h.1 d_Mo_received_133 (fun I13 eI13 H locs V => ?_)
                            have h := h.2 I13 eI13
                            refine lv_aload_n (pc := 134) hx hb d_Mo_received_134 rfl (lv_at hl 1 rfl) ?_
                            refine lv_iconst (pc := 135) (v := 1) hx hb d_Mo_received_135 (by decide) ?_
                            refine lv_iconst (pc := 136) (v := 5) hx hb d_Mo_received_136 (by decide) ?_
                            refine u_cVv (pc := 137) (As := [.int 1, .int 5]) X V s_Mo_153 (X.fix rfl) rfl rfl rfl (c_Mo_begin l D cc L A J t16 t32 _ _ 1 5 _ h) ⟨rfl, rfl, Nat.le_of_ble_eq_true rfl, Nat.le_of_ble_eq_true rfl⟩ rfl hl.1 rfl (Nat.le_of_ble_eq_true rfl) d_Mo_received_137 ⟨Nat.zero_le _, Nat.zero_le _⟩ (fun I14 R15 h H locs V => ?_)
                            refine lv_goto (pc := 140) (tgt := 195) hx hb d_Mo_received_140 (by decide) ?_
                            exact u_retv (pc := 195) X V hr hlk hsz h d_Mo_received_195
                      · have h := h.2 hn10
                        by_cases hn11 : v1 = 11
                        · have h := h.1 hn11
                          rw [hn11]
                          refine lv_tableIn (pc := 23) (tgt := 163) (off := 140) hx hb d_Mo_received_23 (by decide) (by decide) rfl (by decide) ?_
                          refine lv_iload (pc := 163) hx hb d_Mo_received_163 (lv_at hl 0 rfl) ?_
                          refine lv_if_eq (pc := 165) (tgt := 195) hx hb d_Mo_received_165 (by decide) (fun hc => ?_) (fun hc => ?_)
                          · have h := h.1 hc
                            exact u_retv (pc := 195) X V hr hlk hsz h d_Mo_received_195
                          · have h := h.2 hc
                            refine lv_aload_n (pc := 168) hx hb d_Mo_received_168 rfl (lv_at hl 1 rfl) ?_
                            refine lv_iconst (pc := 169) (v := (-1)) hx hb d_Mo_received_169 (by decide) ?_
                            refine u_puti (pc := 170) X V (X.fix rfl) rfl rfl f_Mo_69 rfl d_Mo_received_170 (fun I16 eI16 H locs V => ?_)
                            have h := h I16 eI16
                            refine lv_aload_n (pc := 173) hx hb d_Mo_received_173 rfl (lv_at hl 1 rfl) ?_
                            refine lv_iconst (pc := 174) (v := 1) hx hb d_Mo_received_174 (by decide) ?_
                            refine u_cVv (pc := 175) (As := [.int 1]) X V s_Mo_202 (X.fix rfl) rfl rfl rfl (c_Mo_answer l D cc L A J t16 t32 _ _ 1 _ h) ⟨rfl, rfl, Nat.le_of_ble_eq_true rfl, Nat.le_of_ble_eq_true rfl⟩ rfl hl.1 rfl (Nat.le_of_ble_eq_true rfl) d_Mo_received_175 ⟨Nat.zero_le _, Nat.zero_le _⟩ (fun I17 R18 h H locs V => ?_)
                            refine lv_goto (pc := 178) (tgt := 195) hx hb d_Mo_received_178 (by decide) ?_
                            exact u_retv (pc := 195) X V hr hlk hsz h d_Mo_received_195
                        · have h := h.2 hn11
                          have hd0 := nr_ok (a := 0) hn0 rfl
                          have hd1 := nr_ok (a := 1) hn1 rfl
                          have hd2 := nr_ok (a := 2) hn2 rfl
                          have hd3 := nr_ok (a := 3) hn3 rfl
                          have hd4 := nr_ok (a := 4) hn4 rfl
                          have hd5 := nr_ok (a := 5) hn5 rfl
                          have hd6 := nr_ok (a := 6) hn6 rfl
                          have hd7 := nr_ok (a := 7) hn7 rfl
                          have hd8 := nr_ok (a := 8) hn8 rfl
                          have hd9 := nr_ok (a := 9) hn9 rfl
                          have hd10 := nr_ok (a := 10) hn10 rfl
                          have hd11 := nr_ok (a := 11) hn11 rfl
                          refine lv_tableOut (pc := 23) (tgt := 195) hx hb d_Mo_received_23 (by omega) (by decide) ?_
                          exact u_retv (pc := 195) X V hr hlk hsz h d_Mo_received_195
def wp_Mo_received_L19 (Q : UI → UR → Prop) (I : UI) (R : UR) (x1 : Int32) (x3 : Int32) : Prop :=
  wp_Mo_received_L20 Q I R x1 x3 0
set_option maxHeartbeats 4000000 in
set_option maxRecDepth 100000 in
theorem j_Mo_received_19 (X : uX p s m args c prog_10_method_33_code 5 "FrameFerryModel" D cc L A t16 t32) (hr : meth.sig.returnType = none) (hlk : meth.locks = false) (hsz : sz = s.heap.size) {Q : UI → UR → Prop} {I : UI} {R : UR} {x1 : Int32} {x3 : Int32} {H : Heap} {locs : List Loc} {ls : Array Slot} (V : uV s D cc L A J I R H locs) (hl : lv_has ls 5 [(0, .ref (A 80)), (1, .int x1), (3, .int x3)]) (h : wp_Mo_received_L19 Q I R x1 x3) : W p l e rm_Mo_received s m args below meth c H locs 0 0 (MQ below (va_Qv (fun u : UI × UR => Q u.1 u.2) (uBv D cc L A J) (uA L A sz)) args s 0 0 (uA L A sz)) (F0 m 19 ls []) := by
  have hx := X.1
  have hb := X.2.1
  unfold wp_Mo_received_L19 at h
  refine lv_iconst (pc := 19) (v := 0) hx hb d_Mo_received_19 (by decide) ?_
  exact j_Mo_received_20 X hr hlk hsz V (lv_sub hl [0, 1, 2] rfl) h
def wp_Mo_received (I : UI) (R : UR) (x1 : Int32) (x2 : Int32) (x3 : Int32) (Q : UI → UR → Prop) : Prop :=
  ((I 80 25 < 0 → wp_Mo_received_L19 Q I R x1 x3) ∧ (¬ I 80 25 < 0 → wp_Mo_position I R (fun r21 I19 R20 => ((¬ x2 = r21 → wp_Mo_received_L19 Q I19 R20 x1 x3) ∧ (x2 = r21 → wp_Mo_received_L20 Q I19 R20 x1 x3 1)))))
set_option maxHeartbeats 4000000 in
set_option maxRecDepth 100000 in
theorem c_Mo_received (l : Launch) (D : va_G) (cc : Nat → ClassId) (L : List Nat) (A : Nat → Nat) (J : Nat → Int64) (t16 t32 : Nat) (I : UI) (R : UR) (x1 : Int32) (x2 : Int32) (x3 : Int32) (Q : UI → UR → Prop) (h : wp_Mo_received I R x1 x2 x3 Q) : uMv l y_Mo_received (.code y_Mo_received prog_10_method_33_code 5 none) rm_Mo_received [.ref (A 80), .int x1, .int x2, .int x3] D cc L A J t16 t32 I R Q := by
  intro sz
  refine u_entry (by decide) (Nat.le_of_ble_eq_true rfl) (fun p e s m args below meth c hsz X V hr hlk ls hl => ?_)
  have X : uX p s m args c prog_10_method_33_code 5 "FrameFerryModel" D cc L A t16 t32 := X
  have hx := X.1
  have hb := X.2.1
  have hl : lv_has ls 5 [(0, .ref (A 80)), (1, .int x1), (2, .int x2), (3, .int x3)] := hl
  unfold wp_Mo_received at h
  generalize hH : s.heap = H at V ⊢
  generalize hlo : ([] : List Loc) = locs at V ⊢
  refine lv_aload_n (pc := 0) hx hb d_Mo_received_0 rfl (lv_at hl 0 rfl) ?_
  refine u_geti (pc := 1) X V (X.fix rfl) rfl rfl f_Mo_69 rfl d_Mo_received_1 ?_
  refine lv_if_lt (pc := 4) (tgt := 19) hx hb d_Mo_received_4 (by decide) (fun hc => ?_) (fun hc => ?_)
  · have h := h.1 hc
    exact j_Mo_received_19 X hr hlk hsz V (lv_sub hl [0, 1, 3] rfl) h
  · have h := h.2 hc
    refine lv_iload_n (pc := 7) hx hb d_Mo_received_7 rfl (lv_at hl 2 rfl) ?_
    refine lv_aload_n (pc := 8) hx hb d_Mo_received_8 rfl (lv_at hl 0 rfl) ?_
    refine u_cVi (pc := 9) (As := []) X V s_Mo_198 (X.fix rfl) rfl rfl rfl (c_Mo_position l D cc L A J t16 t32 _ _  _ h) ⟨rfl, rfl, Nat.le_of_ble_eq_true rfl, Nat.le_of_ble_eq_true rfl⟩ rfl hl.1 rfl (Nat.le_of_ble_eq_true rfl) d_Mo_received_9 ⟨Nat.zero_le _, Nat.zero_le _⟩ (fun r21 I19 R20 h H locs V => ?_)
    refine lv_icmp_ne (pc := 12) (tgt := 19) hx hb d_Mo_received_12 (by decide) (fun hc => ?_) (fun hc => ?_)
    · have h := h.1 hc
      exact j_Mo_received_19 X hr hlk hsz V (lv_sub hl [0, 1, 3] rfl) h
    · have h := h.2 hc
      refine lv_iconst (pc := 15) (v := 1) hx hb d_Mo_received_15 (by decide) ?_
      refine lv_goto (pc := 16) (tgt := 20) hx hb d_Mo_received_16 (by decide) ?_
      exact j_Mo_received_20 X hr hlk hsz V (lv_sub hl [0, 1, 3] rfl) h
-- FrameFerryModel.heard (II)V
theorem d_Mo_heard_0 : decode prog_10_method_37_code 0 = .ok (.iload_n 1, 1) := by decide +kernel
theorem d_Mo_heard_1 : decode prog_10_method_37_code 1 = .ok (.tableswitch 212 1 9 #[51, 212, 212, 212, 150, 175, 212, 182, 103], 51) := by decide +kernel
theorem d_Mo_heard_52 : decode prog_10_method_37_code 52 = .ok (.aload_n 0, 1) := by decide +kernel
theorem d_Mo_heard_53 : decode prog_10_method_37_code 53 = .ok (.iload_n 2, 1) := by decide +kernel
theorem d_Mo_heard_54 : decode prog_10_method_37_code 54 = .ok (.bipush 32, 2) := by decide +kernel
theorem d_Mo_heard_56 : decode prog_10_method_37_code 56 = .ok (.iand, 1) := by decide +kernel
theorem d_Mo_heard_57 : decode prog_10_method_37_code 57 = .ok (.ifCond .eq 7, 3) := by decide +kernel
theorem d_Mo_heard_60 : decode prog_10_method_37_code 60 = .ok (.iconst 1, 1) := by decide +kernel
theorem d_Mo_heard_61 : decode prog_10_method_37_code 61 = .ok (.goto 4, 3) := by decide +kernel
theorem d_Mo_heard_64 : decode prog_10_method_37_code 64 = .ok (.iconst 0, 1) := by decide +kernel
theorem d_Mo_heard_65 : decode prog_10_method_37_code 65 = .ok (.putfield 128, 3) := by decide +kernel
theorem d_Mo_heard_68 : decode prog_10_method_37_code 68 = .ok (.aload_n 0, 1) := by decide +kernel
theorem d_Mo_heard_69 : decode prog_10_method_37_code 69 = .ok (.getfield 57, 3) := by decide +kernel
theorem d_Mo_heard_72 : decode prog_10_method_37_code 72 = .ok (.ifCond .ne 11, 3) := by decide +kernel
theorem d_Mo_heard_75 : decode prog_10_method_37_code 75 = .ok (.aload_n 0, 1) := by decide +kernel
theorem d_Mo_heard_76 : decode prog_10_method_37_code 76 = .ok (.iconst 0, 1) := by decide +kernel
theorem d_Mo_heard_77 : decode prog_10_method_37_code 77 = .ok (.invokevirtual 208, 3) := by decide +kernel
theorem d_Mo_heard_80 : decode prog_10_method_37_code 80 = .ok (.goto 133, 3) := by decide +kernel
theorem d_Mo_heard_83 : decode prog_10_method_37_code 83 = .ok (.aload_n 0, 1) := by decide +kernel
theorem d_Mo_heard_84 : decode prog_10_method_37_code 84 = .ok (.getfield 57, 3) := by decide +kernel
theorem d_Mo_heard_87 : decode prog_10_method_37_code 87 = .ok (.iconst 3, 1) := by decide +kernel
theorem d_Mo_heard_88 : decode prog_10_method_37_code 88 = .ok (.if_icmp .ne 125, 3) := by decide +kernel
theorem d_Mo_heard_91 : decode prog_10_method_37_code 91 = .ok (.aload_n 0, 1) := by decide +kernel
theorem d_Mo_heard_92 : decode prog_10_method_37_code 92 = .ok (.aload_n 0, 1) := by decide +kernel
theorem d_Mo_heard_93 : decode prog_10_method_37_code 93 = .ok (.getfield 96, 3) := by decide +kernel
theorem d_Mo_heard_96 : decode prog_10_method_37_code 96 = .ok (.iconst 1, 1) := by decide +kernel
theorem d_Mo_heard_97 : decode prog_10_method_37_code 97 = .ok (.iadd, 1) := by decide +kernel
theorem d_Mo_heard_98 : decode prog_10_method_37_code 98 = .ok (.invokevirtual 208, 3) := by decide +kernel
theorem d_Mo_heard_101 : decode prog_10_method_37_code 101 = .ok (.goto 112, 3) := by decide +kernel
theorem d_Mo_heard_104 : decode prog_10_method_37_code 104 = .ok (.aload_n 0, 1) := by decide +kernel
theorem d_Mo_heard_105 : decode prog_10_method_37_code 105 = .ok (.getfield 57, 3) := by decide +kernel
theorem d_Mo_heard_108 : decode prog_10_method_37_code 108 = .ok (.iconst 1, 1) := by decide +kernel
theorem d_Mo_heard_109 : decode prog_10_method_37_code 109 = .ok (.iconst 3, 1) := by decide +kernel
theorem d_Mo_heard_110 : decode prog_10_method_37_code 110 = .ok (.invokestatic 85, 3) := by decide +kernel
theorem d_Mo_heard_113 : decode prog_10_method_37_code 113 = .ok (.ifCond .eq 100, 3) := by decide +kernel
theorem d_Mo_heard_116 : decode prog_10_method_37_code 116 = .ok (.iload_n 2, 1) := by decide +kernel
theorem d_Mo_heard_117 : decode prog_10_method_37_code 117 = .ok (.ifCond .lt 96, 3) := by decide +kernel
theorem d_Mo_heard_120 : decode prog_10_method_37_code 120 = .ok (.iload_n 2, 1) := by decide +kernel
theorem d_Mo_heard_121 : decode prog_10_method_37_code 121 = .ok (.aload_n 0, 1) := by decide +kernel
theorem d_Mo_heard_122 : decode prog_10_method_37_code 122 = .ok (.getfield 51, 3) := by decide +kernel
theorem d_Mo_heard_125 : decode prog_10_method_37_code 125 = .ok (.aload_n 0, 1) := by decide +kernel
theorem d_Mo_heard_126 : decode prog_10_method_37_code 126 = .ok (.getfield 96, 3) := by decide +kernel
theorem d_Mo_heard_129 : decode prog_10_method_37_code 129 = .ok (.iaload, 1) := by decide +kernel
theorem d_Mo_heard_130 : decode prog_10_method_37_code 130 = .ok (.if_icmp .gt 83, 3) := by decide +kernel
theorem d_Mo_heard_133 : decode prog_10_method_37_code 133 = .ok (.aload_n 0, 1) := by decide +kernel
theorem d_Mo_heard_134 : decode prog_10_method_37_code 134 = .ok (.iconst 2, 1) := by decide +kernel
theorem d_Mo_heard_135 : decode prog_10_method_37_code 135 = .ok (.putfield 57, 3) := by decide +kernel
theorem d_Mo_heard_138 : decode prog_10_method_37_code 138 = .ok (.aload_n 0, 1) := by decide +kernel
theorem d_Mo_heard_139 : decode prog_10_method_37_code 139 = .ok (.iload_n 2, 1) := by decide +kernel
theorem d_Mo_heard_140 : decode prog_10_method_37_code 140 = .ok (.putfield 99, 3) := by decide +kernel
theorem d_Mo_heard_143 : decode prog_10_method_37_code 143 = .ok (.aload_n 0, 1) := by decide +kernel
theorem d_Mo_heard_144 : decode prog_10_method_37_code 144 = .ok (.iconst 1, 1) := by decide +kernel
theorem d_Mo_heard_145 : decode prog_10_method_37_code 145 = .ok (.putfield 150, 3) := by decide +kernel
theorem d_Mo_heard_148 : decode prog_10_method_37_code 148 = .ok (.goto 65, 3) := by decide +kernel
theorem d_Mo_heard_151 : decode prog_10_method_37_code 151 = .ok (.aload_n 0, 1) := by decide +kernel
theorem d_Mo_heard_152 : decode prog_10_method_37_code 152 = .ok (.getfield 57, 3) := by decide +kernel
theorem d_Mo_heard_155 : decode prog_10_method_37_code 155 = .ok (.iconst 1, 1) := by decide +kernel
theorem d_Mo_heard_156 : decode prog_10_method_37_code 156 = .ok (.iconst 3, 1) := by decide +kernel
theorem d_Mo_heard_157 : decode prog_10_method_37_code 157 = .ok (.invokestatic 85, 3) := by decide +kernel
theorem d_Mo_heard_160 : decode prog_10_method_37_code 160 = .ok (.ifCond .eq 53, 3) := by decide +kernel
theorem d_Mo_heard_163 : decode prog_10_method_37_code 163 = .ok (.aload_n 0, 1) := by decide +kernel
theorem d_Mo_heard_164 : decode prog_10_method_37_code 164 = .ok (.aload_n 0, 1) := by decide +kernel
theorem d_Mo_heard_165 : decode prog_10_method_37_code 165 = .ok (.getfield 96, 3) := by decide +kernel
theorem d_Mo_heard_168 : decode prog_10_method_37_code 168 = .ok (.iconst 1, 1) := by decide +kernel
theorem d_Mo_heard_169 : decode prog_10_method_37_code 169 = .ok (.iadd, 1) := by decide +kernel
theorem d_Mo_heard_170 : decode prog_10_method_37_code 170 = .ok (.invokevirtual 208, 3) := by decide +kernel
theorem d_Mo_heard_173 : decode prog_10_method_37_code 173 = .ok (.goto 40, 3) := by decide +kernel
theorem d_Mo_heard_176 : decode prog_10_method_37_code 176 = .ok (.aload_n 0, 1) := by decide +kernel
theorem d_Mo_heard_177 : decode prog_10_method_37_code 177 = .ok (.invokevirtual 147, 3) := by decide +kernel
theorem d_Mo_heard_180 : decode prog_10_method_37_code 180 = .ok (.goto 33, 3) := by decide +kernel
theorem d_Mo_heard_183 : decode prog_10_method_37_code 183 = .ok (.aload_n 0, 1) := by decide +kernel
theorem d_Mo_heard_184 : decode prog_10_method_37_code 184 = .ok (.getfield 57, 3) := by decide +kernel
theorem d_Mo_heard_187 : decode prog_10_method_37_code 187 = .ok (.iconst 4, 1) := by decide +kernel
theorem d_Mo_heard_188 : decode prog_10_method_37_code 188 = .ok (.if_icmp .ne 25, 3) := by decide +kernel
theorem d_Mo_heard_191 : decode prog_10_method_37_code 191 = .ok (.aload_n 0, 1) := by decide +kernel
theorem d_Mo_heard_192 : decode prog_10_method_37_code 192 = .ok (.iconst 1, 1) := by decide +kernel
theorem d_Mo_heard_193 : decode prog_10_method_37_code 193 = .ok (.bipush 79, 2) := by decide +kernel
theorem d_Mo_heard_195 : decode prog_10_method_37_code 195 = .ok (.invokevirtual 114, 3) := by decide +kernel
theorem d_Mo_heard_198 : decode prog_10_method_37_code 198 = .ok (.aload_n 0, 1) := by decide +kernel
theorem d_Mo_heard_199 : decode prog_10_method_37_code 199 = .ok (.iconst 1, 1) := by decide +kernel
theorem d_Mo_heard_200 : decode prog_10_method_37_code 200 = .ok (.bipush 79, 2) := by decide +kernel
theorem d_Mo_heard_202 : decode prog_10_method_37_code 202 = .ok (.invokevirtual 114, 3) := by decide +kernel
theorem d_Mo_heard_205 : decode prog_10_method_37_code 205 = .ok (.aload_n 0, 1) := by decide +kernel
theorem d_Mo_heard_206 : decode prog_10_method_37_code 206 = .ok (.iconst 5, 1) := by decide +kernel
theorem d_Mo_heard_207 : decode prog_10_method_37_code 207 = .ok (.putfield 57, 3) := by decide +kernel
theorem d_Mo_heard_210 : decode prog_10_method_37_code 210 = .ok (.goto 3, 3) := by decide +kernel
theorem d_Mo_heard_213 : decode prog_10_method_37_code 213 = .ok (.return_, 1) := by decide +kernel
def rm_Mo_heard : Room := { frames := 6, cells := 0, slots := 0, locals := 134 }
def wp_Mo_heard_L65 (Q : UI → UR → Prop) (I : UI) (R : UR) (s0 : Int32) : Prop :=
  zb s0 ∧ ∀ I2 : UI, I2 = u2 I 80 21 s0 → ((¬ I2 80 17 = 0 → ((¬ I2 80 17 = 3 → Q I2 R) ∧ (I2 80 17 = 3 → wp_Mo_nextFile I2 R ((I2 80 18) + 1) (fun I3 R4 => Q I3 R4)))) ∧ (I2 80 17 = 0 → wp_Mo_nextFile I2 R 0 (fun I5 R6 => Q I5 R6)))
set_option maxHeartbeats 4000000 in
set_option maxRecDepth 100000 in
theorem j_Mo_heard_65 (X : uX p s m args c prog_10_method_37_code 3 "FrameFerryModel" D cc L A t16 t32) (hr : meth.sig.returnType = none) (hlk : meth.locks = false) (hsz : sz = s.heap.size) {Q : UI → UR → Prop} {I : UI} {R : UR} {s0 : Int32} {H : Heap} {locs : List Loc} {ls : Array Slot} (V : uV s D cc L A J I R H locs) (hl : lv_has ls 3 [(0, .ref (A 80))]) (h : wp_Mo_heard_L65 Q I R s0) : W p l e rm_Mo_heard s m args below meth c H locs 0 0 (MQ below (va_Qv (fun u : UI × UR => Q u.1 u.2) (uBv D cc L A J) (uA L A sz)) args s 0 0 (uA L A sz)) (F0 m 65 ls [.int s0, .ref (A 80)]) := by
  have hx := X.1
  have hb := X.2.1
  unfold wp_Mo_heard_L65 at h
  refine u_putz (pc := 65) X V (X.fix rfl) rfl rfl f_Mo_128 rfl h.1 d_Mo_heard_65 (fun I2 eI2 H locs V => ?_)
  have h := h.2 I2 eI2
  refine lv_aload_n (pc := 68) hx hb d_Mo_heard_68 rfl (lv_at hl 0 rfl) ?_
  refine u_geti (pc := 69) X V (X.fix rfl) rfl rfl f_Mo_57 rfl d_Mo_heard_69 ?_
  refine lv_if_ne (pc := 72) (tgt := 83) hx hb d_Mo_heard_72 (by decide) (fun hc => ?_) (fun hc => ?_)
  · have h := h.1 hc
    refine lv_aload_n (pc := 83) hx hb d_Mo_heard_83 rfl (lv_at hl 0 rfl) ?_
    refine u_geti (pc := 84) X V (X.fix rfl) rfl rfl f_Mo_57 rfl d_Mo_heard_84 ?_
    refine lv_iconst (pc := 87) (v := 3) hx hb d_Mo_heard_87 (by decide) ?_
    refine lv_icmp_ne (pc := 88) (tgt := 213) hx hb d_Mo_heard_88 (by decide) (fun hc => ?_) (fun hc => ?_)
    · have h := h.1 hc
      exact u_retv (pc := 213) X V hr hlk hsz h d_Mo_heard_213
    · have h := h.2 hc
      refine lv_aload_n (pc := 91) hx hb d_Mo_heard_91 rfl (lv_at hl 0 rfl) ?_
      refine lv_aload_n (pc := 92) hx hb d_Mo_heard_92 rfl (lv_at hl 0 rfl) ?_
      refine u_geti (pc := 93) X V (X.fix rfl) rfl rfl f_Mo_96 rfl d_Mo_heard_93 ?_
      refine lv_iconst (pc := 96) (v := 1) hx hb d_Mo_heard_96 (by decide) ?_
      refine lv_iadd (pc := 97) hx hb d_Mo_heard_97 ?_
      refine u_cVv (pc := 98) (As := [.int ((I2 80 18) + 1)]) X V s_Mo_208 (X.fix rfl) rfl rfl rfl (c_Mo_nextFile l D cc L A J t16 t32 _ _ ((I2 80 18) + 1) _ h) ⟨rfl, rfl, Nat.le_of_ble_eq_true rfl, Nat.le_of_ble_eq_true rfl⟩ rfl hl.1 rfl (Nat.le_of_ble_eq_true rfl) d_Mo_heard_98 ⟨Nat.zero_le _, Nat.zero_le _⟩ (fun I3 R4 h H locs V => ?_)
      refine lv_goto (pc := 101) (tgt := 213) hx hb d_Mo_heard_101 (by decide) ?_
      exact u_retv (pc := 213) X V hr hlk hsz h d_Mo_heard_213
  · have h := h.2 hc
    refine lv_aload_n (pc := 75) hx hb d_Mo_heard_75 rfl (lv_at hl 0 rfl) ?_
    refine lv_iconst (pc := 76) (v := 0) hx hb d_Mo_heard_76 (by decide) ?_
    refine u_cVv (pc := 77) (As := [.int 0]) X V s_Mo_208 (X.fix rfl) rfl rfl rfl (c_Mo_nextFile l D cc L A J t16 t32 _ _ 0 _ h) ⟨rfl, rfl, Nat.le_of_ble_eq_true rfl, Nat.le_of_ble_eq_true rfl⟩ rfl hl.1 rfl (Nat.le_of_ble_eq_true rfl) d_Mo_heard_77 ⟨Nat.zero_le _, Nat.zero_le _⟩ (fun I5 R6 h H locs V => ?_)
    refine lv_goto (pc := 80) (tgt := 213) hx hb d_Mo_heard_80 (by decide) ?_
    exact u_retv (pc := 213) X V hr hlk hsz h d_Mo_heard_213
def wp_Mo_heard (I : UI) (R : UR) (x1 : Int32) (x2 : Int32) (Q : UI → UR → Prop) : Prop :=
  ∀ v1 : Int32, v1 = x1 → ((v1 = 1 → ((x2 &&& 32 = 0 → wp_Mo_heard_L65 Q I R 0) ∧ (¬ x2 &&& 32 = 0 → wp_Mo_heard_L65 Q I R 1))) ∧ (¬ v1 = 1 → ((v1 = 2 → Q I R) ∧ (¬ v1 = 2 → ((v1 = 3 → Q I R) ∧ (¬ v1 = 3 → ((v1 = 4 → Q I R) ∧ (¬ v1 = 4 → ((v1 = 5 → wp_Mo_isIn I R (I 80 17) 1 3 (fun r9 I7 R8 => ((r9 = 0 → Q I7 R8) ∧ (¬ r9 = 0 → wp_Mo_nextFile I7 R8 ((I7 80 18) + 1) (fun I10 R11 => Q I10 R11))))) ∧ (¬ v1 = 5 → ((v1 = 6 → wp_Mo_again I R (fun I12 R13 => Q I12 R13)) ∧ (¬ v1 = 6 → ((v1 = 7 → Q I R) ∧ (¬ v1 = 7 → ((v1 = 8 → ((¬ I 80 17 = 4 → Q I R) ∧ (I 80 17 = 4 → wp_Mo_put I R 1 79 (fun I14 R15 => wp_Mo_put I14 R15 1 79 (fun I16 R17 => ∀ I18 : UI, I18 = u2 I16 80 17 5 → Q I18 R17))))) ∧ (¬ v1 = 8 → ((v1 = 9 → wp_Mo_isIn I R (I 80 17) 1 3 (fun r21 I19 R20 => ((r21 = 0 → Q I19 R20) ∧ (¬ r21 = 0 → ((x2 < 0 → Q I19 R20) ∧ (¬ x2 < 0 → vp_in (I19 80 18) 4 ∧ ((I19 95 (I19 80 18).toNatClampNeg < x2 → Q I19 R20) ∧ (¬ I19 95 (I19 80 18).toNatClampNeg < x2 → ∀ I22 : UI, I22 = u2 I19 80 17 2 → ∀ I23 : UI, I23 = u2 I22 80 19 x2 → zb 1 ∧ ∀ I24 : UI, I24 = u2 I23 80 20 1 → Q I24 R20)))))))) ∧ (¬ v1 = 9 → Q I R))))))))))))))))))
set_option maxHeartbeats 4000000 in
set_option maxRecDepth 100000 in
theorem c_Mo_heard (l : Launch) (D : va_G) (cc : Nat → ClassId) (L : List Nat) (A : Nat → Nat) (J : Nat → Int64) (t16 t32 : Nat) (I : UI) (R : UR) (x1 : Int32) (x2 : Int32) (Q : UI → UR → Prop) (h : wp_Mo_heard I R x1 x2 Q) : uMv l y_Mo_heard (.code y_Mo_heard prog_10_method_37_code 3 none) rm_Mo_heard [.ref (A 80), .int x1, .int x2] D cc L A J t16 t32 I R Q := by
  intro sz
  refine u_entry (by decide) (Nat.le_of_ble_eq_true rfl) (fun p e s m args below meth c hsz X V hr hlk ls hl => ?_)
  have X : uX p s m args c prog_10_method_37_code 3 "FrameFerryModel" D cc L A t16 t32 := X
  have hx := X.1
  have hb := X.2.1
  have hl : lv_has ls 3 [(0, .ref (A 80)), (1, .int x1), (2, .int x2)] := hl
  unfold wp_Mo_heard at h
  generalize hH : s.heap = H at V ⊢
  generalize hlo : ([] : List Loc) = locs at V ⊢
  refine lv_iload_n (pc := 0) hx hb d_Mo_heard_0 rfl (lv_at hl 1 rfl) ?_
  refine lv_topi (fun v1 ev1 => ?_)
  have h := h v1 ev1
  by_cases hn0 : v1 = 1
  · have h := h.1 hn0
    rw [hn0]
    refine lv_tableIn (pc := 1) (tgt := 52) (off := 51) hx hb d_Mo_heard_1 (by decide) (by decide) rfl (by decide) ?_
    refine lv_aload_n (pc := 52) hx hb d_Mo_heard_52 rfl (lv_at hl 0 rfl) ?_
    refine lv_iload_n (pc := 53) hx hb d_Mo_heard_53 rfl (lv_at hl 2 rfl) ?_
    refine lv_bipush (pc := 54) (v := 32) hx hb d_Mo_heard_54 (by decide) ?_
    refine lv_iand (pc := 56) hx hb d_Mo_heard_56 ?_
    refine lv_if_eq (pc := 57) (tgt := 64) hx hb d_Mo_heard_57 (by decide) (fun hc => ?_) (fun hc => ?_)
    · have h := h.1 hc
      refine lv_iconst (pc := 64) (v := 0) hx hb d_Mo_heard_64 (by decide) ?_
      exact j_Mo_heard_65 X hr hlk hsz V (lv_sub hl [0] rfl) h
    · have h := h.2 hc
      refine lv_iconst (pc := 60) (v := 1) hx hb d_Mo_heard_60 (by decide) ?_
      refine lv_goto (pc := 61) (tgt := 65) hx hb d_Mo_heard_61 (by decide) ?_
      exact j_Mo_heard_65 X hr hlk hsz V (lv_sub hl [0] rfl) h
  · have h := h.2 hn0
    by_cases hn1 : v1 = 2
    · have h := h.1 hn1
      rw [hn1]
      refine lv_tableIn (pc := 1) (tgt := 213) (off := 212) hx hb d_Mo_heard_1 (by decide) (by decide) rfl (by decide) ?_
      exact u_retv (pc := 213) X V hr hlk hsz h d_Mo_heard_213
    · have h := h.2 hn1
      by_cases hn2 : v1 = 3
      · have h := h.1 hn2
        rw [hn2]
        refine lv_tableIn (pc := 1) (tgt := 213) (off := 212) hx hb d_Mo_heard_1 (by decide) (by decide) rfl (by decide) ?_
        exact u_retv (pc := 213) X V hr hlk hsz h d_Mo_heard_213
      · have h := h.2 hn2
        by_cases hn3 : v1 = 4
        · have h := h.1 hn3
          rw [hn3]
          refine lv_tableIn (pc := 1) (tgt := 213) (off := 212) hx hb d_Mo_heard_1 (by decide) (by decide) rfl (by decide) ?_
          exact u_retv (pc := 213) X V hr hlk hsz h d_Mo_heard_213
        · have h := h.2 hn3
          by_cases hn4 : v1 = 5
          · have h := h.1 hn4
            rw [hn4]
            refine lv_tableIn (pc := 1) (tgt := 151) (off := 150) hx hb d_Mo_heard_1 (by decide) (by decide) rfl (by decide) ?_
            refine lv_aload_n (pc := 151) hx hb d_Mo_heard_151 rfl (lv_at hl 0 rfl) ?_
            refine u_geti (pc := 152) X V (X.fix rfl) rfl rfl f_Mo_57 rfl d_Mo_heard_152 ?_
            refine lv_iconst (pc := 155) (v := 1) hx hb d_Mo_heard_155 (by decide) ?_
            refine lv_iconst (pc := 156) (v := 3) hx hb d_Mo_heard_156 (by decide) ?_
            refine u_cSi (pc := 157) (As := [.int (I 80 17), .int 1, .int 3]) X V s_Mo_85 (c_Mo_isIn l D cc L A J t16 t32 _ _ (I 80 17) 1 3 _ h) ⟨rfl, rfl, Nat.le_of_ble_eq_true rfl, Nat.le_of_ble_eq_true rfl⟩ rfl hl.1 rfl (Nat.le_of_ble_eq_true rfl) d_Mo_heard_157 ⟨Nat.zero_le _, Nat.zero_le _⟩ (fun r9 I7 R8 h H locs V => ?_)
            refine lv_if_eq (pc := 160) (tgt := 213) hx hb d_Mo_heard_160 (by decide) (fun hc => ?_) (fun hc => ?_)
            · have h := h.1 hc
              exact u_retv (pc := 213) X V hr hlk hsz h d_Mo_heard_213
            · have h := h.2 hc
              refine lv_aload_n (pc := 163) hx hb d_Mo_heard_163 rfl (lv_at hl 0 rfl) ?_
              refine lv_aload_n (pc := 164) hx hb d_Mo_heard_164 rfl (lv_at hl 0 rfl) ?_
              refine u_geti (pc := 165) X V (X.fix rfl) rfl rfl f_Mo_96 rfl d_Mo_heard_165 ?_
              refine lv_iconst (pc := 168) (v := 1) hx hb d_Mo_heard_168 (by decide) ?_
              refine lv_iadd (pc := 169) hx hb d_Mo_heard_169 ?_
              refine u_cVv (pc := 170) (As := [.int ((I7 80 18) + 1)]) X V s_Mo_208 (X.fix rfl) rfl rfl rfl (c_Mo_nextFile l D cc L A J t16 t32 _ _ ((I7 80 18) + 1) _ h) ⟨rfl, rfl, Nat.le_of_ble_eq_true rfl, Nat.le_of_ble_eq_true rfl⟩ rfl hl.1 rfl (Nat.le_of_ble_eq_true rfl) d_Mo_heard_170 ⟨Nat.zero_le _, Nat.zero_le _⟩ (fun I10 R11 h H locs V => ?_)
              refine lv_goto (pc := 173) (tgt := 213) hx hb d_Mo_heard_173 (by decide) ?_
              exact u_retv (pc := 213) X V hr hlk hsz h d_Mo_heard_213
          · have h := h.2 hn4
            by_cases hn5 : v1 = 6
            · have h := h.1 hn5
              rw [hn5]
              refine lv_tableIn (pc := 1) (tgt := 176) (off := 175) hx hb d_Mo_heard_1 (by decide) (by decide) rfl (by decide) ?_
              refine lv_aload_n (pc := 176) hx hb d_Mo_heard_176 rfl (lv_at hl 0 rfl) ?_
              refine u_cVv (pc := 177) (As := []) X V s_Mo_147 (X.fix rfl) rfl rfl rfl (c_Mo_again l D cc L A J t16 t32 _ _  _ h) ⟨rfl, rfl, Nat.le_of_ble_eq_true rfl, Nat.le_of_ble_eq_true rfl⟩ rfl hl.1 rfl (Nat.le_of_ble_eq_true rfl) d_Mo_heard_177 ⟨Nat.zero_le _, Nat.zero_le _⟩ (fun I12 R13 h H locs V => ?_)
              refine lv_goto (pc := 180) (tgt := 213) hx hb d_Mo_heard_180 (by decide) ?_
              exact u_retv (pc := 213) X V hr hlk hsz h d_Mo_heard_213
            · have h := h.2 hn5
              by_cases hn6 : v1 = 7
              · have h := h.1 hn6
                rw [hn6]
                refine lv_tableIn (pc := 1) (tgt := 213) (off := 212) hx hb d_Mo_heard_1 (by decide) (by decide) rfl (by decide) ?_
                exact u_retv (pc := 213) X V hr hlk hsz h d_Mo_heard_213
              · have h := h.2 hn6
                by_cases hn7 : v1 = 8
                · have h := h.1 hn7
                  rw [hn7]
                  refine lv_tableIn (pc := 1) (tgt := 183) (off := 182) hx hb d_Mo_heard_1 (by decide) (by decide) rfl (by decide) ?_
                  refine lv_aload_n (pc := 183) hx hb d_Mo_heard_183 rfl (lv_at hl 0 rfl) ?_
                  refine u_geti (pc := 184) X V (X.fix rfl) rfl rfl f_Mo_57 rfl d_Mo_heard_184 ?_
                  refine lv_iconst (pc := 187) (v := 4) hx hb d_Mo_heard_187 (by decide) ?_
                  refine lv_icmp_ne (pc := 188) (tgt := 213) hx hb d_Mo_heard_188 (by decide) (fun hc => ?_) (fun hc => ?_)
                  · have h := h.1 hc
                    exact u_retv (pc := 213) X V hr hlk hsz h d_Mo_heard_213
                  · have h := h.2 hc
                    refine lv_aload_n (pc := 191) hx hb d_Mo_heard_191 rfl (lv_at hl 0 rfl) ?_
                    refine lv_iconst (pc := 192) (v := 1) hx hb d_Mo_heard_192 (by decide) ?_
                    refine lv_bipush (pc := 193) (v := 79) hx hb d_Mo_heard_193 (by decide) ?_
                    refine u_cVv (pc := 195) (As := [.int 1, .int 79]) X V s_Mo_114 (X.fix rfl) rfl rfl rfl (c_Mo_put l D cc L A J t16 t32 _ _ 1 79 _ h) ⟨rfl, rfl, Nat.le_of_ble_eq_true rfl, Nat.le_of_ble_eq_true rfl⟩ rfl hl.1 rfl (Nat.le_of_ble_eq_true rfl) d_Mo_heard_195 ⟨Nat.zero_le _, Nat.zero_le _⟩ (fun I14 R15 h H locs V => ?_)
                    refine lv_aload_n (pc := 198) hx hb d_Mo_heard_198 rfl (lv_at hl 0 rfl) ?_
                    refine lv_iconst (pc := 199) (v := 1) hx hb d_Mo_heard_199 (by decide) ?_
                    refine lv_bipush (pc := 200) (v := 79) hx hb d_Mo_heard_200 (by decide) ?_
                    refine u_cVv (pc := 202) (As := [.int 1, .int 79]) X V s_Mo_114 (X.fix rfl) rfl rfl rfl (c_Mo_put l D cc L A J t16 t32 _ _ 1 79 _ h) ⟨rfl, rfl, Nat.le_of_ble_eq_true rfl, Nat.le_of_ble_eq_true rfl⟩ rfl hl.1 rfl (Nat.le_of_ble_eq_true rfl) d_Mo_heard_202 ⟨Nat.zero_le _, Nat.zero_le _⟩ (fun I16 R17 h H locs V => ?_)
                    refine lv_aload_n (pc := 205) hx hb d_Mo_heard_205 rfl (lv_at hl 0 rfl) ?_
                    refine lv_iconst (pc := 206) (v := 5) hx hb d_Mo_heard_206 (by decide) ?_
                    refine u_puti (pc := 207) X V (X.fix rfl) rfl rfl f_Mo_57 rfl d_Mo_heard_207 (fun I18 eI18 H locs V => ?_)
                    have h := h I18 eI18
                    refine lv_goto (pc := 210) (tgt := 213) hx hb d_Mo_heard_210 (by decide) ?_
                    exact u_retv (pc := 213) X V hr hlk hsz h d_Mo_heard_213
                · have h := h.2 hn7
                  by_cases hn8 : v1 = 9
                  · have h := h.1 hn8
                    rw [hn8]
                    refine lv_tableIn (pc := 1) (tgt := 104) (off := 103) hx hb d_Mo_heard_1 (by decide) (by decide) rfl (by decide) ?_
                    refine lv_aload_n (pc := 104) hx hb d_Mo_heard_104 rfl (lv_at hl 0 rfl) ?_
                    refine u_geti (pc := 105) X V (X.fix rfl) rfl rfl f_Mo_57 rfl d_Mo_heard_105 ?_
                    refine lv_iconst (pc := 108) (v := 1) hx hb d_Mo_heard_108 (by decide) ?_
                    refine lv_iconst (pc := 109) (v := 3) hx hb d_Mo_heard_109 (by decide) ?_
                    refine u_cSi (pc := 110) (As := [.int (I 80 17), .int 1, .int 3]) X V s_Mo_85 (c_Mo_isIn l D cc L A J t16 t32 _ _ (I 80 17) 1 3 _ h) ⟨rfl, rfl, Nat.le_of_ble_eq_true rfl, Nat.le_of_ble_eq_true rfl⟩ rfl hl.1 rfl (Nat.le_of_ble_eq_true rfl) d_Mo_heard_110 ⟨Nat.zero_le _, Nat.zero_le _⟩ (fun r21 I19 R20 h H locs V => ?_)
                    refine lv_if_eq (pc := 113) (tgt := 213) hx hb d_Mo_heard_113 (by decide) (fun hc => ?_) (fun hc => ?_)
                    · have h := h.1 hc
                      exact u_retv (pc := 213) X V hr hlk hsz h d_Mo_heard_213
                    · have h := h.2 hc
                      refine lv_iload_n (pc := 116) hx hb d_Mo_heard_116 rfl (lv_at hl 2 rfl) ?_
                      refine lv_if_lt (pc := 117) (tgt := 213) hx hb d_Mo_heard_117 (by decide) (fun hc => ?_) (fun hc => ?_)
                      · have h := h.1 hc
                        exact u_retv (pc := 213) X V hr hlk hsz h d_Mo_heard_213
                      · have h := h.2 hc
                        refine lv_iload_n (pc := 120) hx hb d_Mo_heard_120 rfl (lv_at hl 2 rfl) ?_
                        refine lv_aload_n (pc := 121) hx hb d_Mo_heard_121 rfl (lv_at hl 0 rfl) ?_
                        refine u_getr (pc := 122) (o' := 95) X V (X.fix rfl) rfl rfl f_Mo_51 rfl rfl d_Mo_heard_122 ?_
                        refine lv_aload_n (pc := 125) hx hb d_Mo_heard_125 rfl (lv_at hl 0 rfl) ?_
                        refine u_geti (pc := 126) X V (X.fix rfl) rfl rfl f_Mo_96 rfl d_Mo_heard_126 ?_
                        refine u_iald (pc := 129) X V (X.fix rfl) rfl rfl h.1 d_Mo_heard_129 ?_
                        have h := h.2
                        refine lv_icmp_gt (pc := 130) (tgt := 213) hx hb d_Mo_heard_130 (by decide) (fun hc => ?_) (fun hc => ?_)
                        · have h := h.1 hc
                          exact u_retv (pc := 213) X V hr hlk hsz h d_Mo_heard_213
                        · have h := h.2 hc
                          refine lv_aload_n (pc := 133) hx hb d_Mo_heard_133 rfl (lv_at hl 0 rfl) ?_
                          refine lv_iconst (pc := 134) (v := 2) hx hb d_Mo_heard_134 (by decide) ?_
                          refine u_puti (pc := 135) X V (X.fix rfl) rfl rfl f_Mo_57 rfl d_Mo_heard_135 (fun I22 eI22 H locs V => ?_)
                          have h := h I22 eI22
                          refine lv_aload_n (pc := 138) hx hb d_Mo_heard_138 rfl (lv_at hl 0 rfl) ?_
                          refine lv_iload_n (pc := 139) hx hb d_Mo_heard_139 rfl (lv_at hl 2 rfl) ?_
                          refine u_puti (pc := 140) X V (X.fix rfl) rfl rfl f_Mo_99 rfl d_Mo_heard_140 (fun I23 eI23 H locs V => ?_)
                          have h := h I23 eI23
                          refine lv_aload_n (pc := 143) hx hb d_Mo_heard_143 rfl (lv_at hl 0 rfl) ?_
                          refine lv_iconst (pc := 144) (v := 1) hx hb d_Mo_heard_144 (by decide) ?_
                          refine u_putz (pc := 145) X V (X.fix rfl) rfl rfl f_Mo_150 rfl h.1 d_Mo_heard_145 (fun I24 eI24 H locs V => ?_)
                          have h := h.2 I24 eI24
                          refine lv_goto (pc := 148) (tgt := 213) hx hb d_Mo_heard_148 (by decide) ?_
                          exact u_retv (pc := 213) X V hr hlk hsz h d_Mo_heard_213
                  · have h := h.2 hn8
                    have hd0 := nr_ok (a := 1) hn0 rfl
                    have hd1 := nr_ok (a := 2) hn1 rfl
                    have hd2 := nr_ok (a := 3) hn2 rfl
                    have hd3 := nr_ok (a := 4) hn3 rfl
                    have hd4 := nr_ok (a := 5) hn4 rfl
                    have hd5 := nr_ok (a := 6) hn5 rfl
                    have hd6 := nr_ok (a := 7) hn6 rfl
                    have hd7 := nr_ok (a := 8) hn7 rfl
                    have hd8 := nr_ok (a := 9) hn8 rfl
                    refine lv_tableOut (pc := 1) (tgt := 213) hx hb d_Mo_heard_1 (by omega) (by decide) ?_
                    exact u_retv (pc := 213) X V hr hlk hsz h d_Mo_heard_213
end G
