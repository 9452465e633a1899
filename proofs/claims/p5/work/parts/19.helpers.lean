/-! The law's helpers, written by wip/gen/helper.py. -/
theorem s_Lw_7 : uCv "FrameFerryLaw" 7 y_FF_open 1 (.code y_FF_open prog_1_method_2_code 2 (some .int)) := ⟨⟨tb_of 528 (by decide +kernel) rfl, tb_of 1 (by decide +kernel) rfl, tb_of 531 (by decide +kernel) rfl, by decide +kernel⟩, tb_of 529 (by decide +kernel) rfl, tb_of 530 (by decide +kernel) rfl⟩
theorem s_Lw_17 : uCv "FrameFerryLaw" 17 y_FF_feed 5 (.code y_FF_feed prog_1_method_3_code 9 (some .int)) := ⟨⟨tb_of 622 (by decide +kernel) rfl, tb_of 1 (by decide +kernel) rfl, tb_of 625 (by decide +kernel) rfl, by decide +kernel⟩, tb_of 623 (by decide +kernel) rfl, tb_of 624 (by decide +kernel) rfl⟩
theorem s_Lw_21 : uCv "FrameFerryLaw" 21 y_FF_clear 0 (.code y_FF_clear prog_1_method_4_code 1 (some .int)) := ⟨⟨tb_of 631 (by decide +kernel) rfl, tb_of 1 (by decide +kernel) rfl, tb_of 634 (by decide +kernel) rfl, by decide +kernel⟩, tb_of 632 (by decide +kernel) rfl, tb_of 633 (by decide +kernel) rfl⟩
theorem s_Lw_25 : uCv "FrameFerryLaw" 25 y_FF_start 2 (.code y_FF_start prog_1_method_5_code 3 none) := ⟨⟨tb_of 642 (by decide +kernel) rfl, tb_of 1 (by decide +kernel) rfl, tb_of 645 (by decide +kernel) rfl, by decide +kernel⟩, tb_of 643 (by decide +kernel) rfl, tb_of 644 (by decide +kernel) rfl⟩
theorem s_Lw_29 : uCv "FrameFerryLaw" 29 y_FF_flip 3 (.code y_FF_flip prog_1_method_10_code 4 (some .boolean)) := ⟨⟨tb_of 659 (by decide +kernel) rfl, tb_of 1 (by decide +kernel) rfl, tb_of 662 (by decide +kernel) rfl, by decide +kernel⟩, tb_of 660 (by decide +kernel) rfl, tb_of 661 (by decide +kernel) rfl⟩
theorem s_Lw_33 : uCv "FrameFerryLaw" 33 y_FF_lose 3 (.code y_FF_lose prog_1_method_11_code 4 (some .int)) := ⟨⟨tb_of 670 (by decide +kernel) rfl, tb_of 1 (by decide +kernel) rfl, tb_of 673 (by decide +kernel) rfl, by decide +kernel⟩, tb_of 671 (by decide +kernel) rfl, tb_of 672 (by decide +kernel) rfl⟩
theorem s_Lw_37 : uCv "FrameFerryLaw" 37 y_FF_got 2 (.code y_FF_got prog_1_method_13_code 4 (some .int)) := ⟨⟨tb_of 678 (by decide +kernel) rfl, tb_of 1 (by decide +kernel) rfl, tb_of 681 (by decide +kernel) rfl, by decide +kernel⟩, tb_of 679 (by decide +kernel) rfl, tb_of 680 (by decide +kernel) rfl⟩
theorem s_Lw_41 : uCv "FrameFerryLaw" 41 y_FF_count 1 (.code y_FF_count prog_1_method_14_code 2 (some .int)) := ⟨⟨tb_of 686 (by decide +kernel) rfl, tb_of 1 (by decide +kernel) rfl, tb_of 689 (by decide +kernel) rfl, by decide +kernel⟩, tb_of 687 (by decide +kernel) rfl, tb_of 688 (by decide +kernel) rfl⟩
theorem q_Lw_13 : Cond.classLink "FrameFerryLaw" 13 "java/lang/IllegalArgumentException" ∈ tb := tb_of 526 (by decide +kernel) rfl
theorem q_Lw_15 : Cond.classLink "FrameFerryLaw" 15 "java/lang/IllegalStateException" ∈ tb := tb_of 527 (by decide +kernel) rfl
section G
variable {p : Program} {l : Launch} {e : Env} {s : State} {m : MethodId} {args : Array Value} {below : List Frame} {meth : Method} {c : Code} {D : va_G} {cc : Nat → ClassId} {L L0 : List Nat} {A A0 : Nat → Nat} {J : Nat → Int64} {t16 t32 sz : Nat}
-- FrameFerryLaw.open (LFrameFerry;I[J)I
theorem d_Lw_open_0 : decode method_3_code 0 = .ok (.aload_n 2, 1) := by decide +kernel
theorem d_Lw_open_1 : decode method_3_code 1 = .ok (.iconst 0, 1) := by decide +kernel
theorem d_Lw_open_2 : decode method_3_code 2 = .ok (.aload_n 0, 1) := by decide +kernel
theorem d_Lw_open_3 : decode method_3_code 3 = .ok (.iload_n 1, 1) := by decide +kernel
theorem d_Lw_open_4 : decode method_3_code 4 = .ok (.invokevirtual 7, 3) := by decide +kernel
theorem d_Lw_open_7 : decode method_3_code 7 = .ok (.i2l, 1) := by decide +kernel
theorem d_Lw_open_8 : decode method_3_code 8 = .ok (.lastore, 1) := by decide +kernel
theorem d_Lw_open_9 : decode method_3_code 9 = .ok (.goto 9, 3) := by decide +kernel
theorem d_Lw_open_12 : decode method_3_code 12 = .ok (.astore_n 3, 1) := by decide +kernel
theorem d_Lw_open_13 : decode method_3_code 13 = .ok (.iconst 1, 1) := by decide +kernel
theorem d_Lw_open_14 : decode method_3_code 14 = .ok (.ireturn, 1) := by decide +kernel
theorem d_Lw_open_15 : decode method_3_code 15 = .ok (.astore_n 3, 1) := by decide +kernel
theorem d_Lw_open_16 : decode method_3_code 16 = .ok (.iconst 2, 1) := by decide +kernel
theorem d_Lw_open_17 : decode method_3_code 17 = .ok (.ireturn, 1) := by decide +kernel
theorem d_Lw_open_18 : decode method_3_code 18 = .ok (.iconst 0, 1) := by decide +kernel
theorem d_Lw_open_19 : decode method_3_code 19 = .ok (.ireturn, 1) := by decide +kernel
def rm_Lw_open (mc ms : Nat) : Room := { frames := 7, cells := mc, slots := ms, locals := 131 }
def wp_Lw_open (mc ms : Nat) (L : List Nat) (J : Nat → Int64) (I : UI) (R : UR) (x1 : Int32) (Q : Int32 → (Nat → Int64) → List Nat → UI → UR → Prop) : Prop :=
  (∃ c1 s2 : Nat, (0 + c1 ≤ mc ∧ 0 + s2 ≤ ms) ∧ wp_FF_open c1 s2 L I R x1 (fun r7 L3 I5 R6 => vp_in 0 1 ∧ ∀ J8 : Nat → Int64, J8 = vp_updL J ((0 : Int32).toNatClampNeg) ((r7).toInt64) → Q 0 J8 L3 I5 R6) (fun k => (k = 1 ∧ Q 1 J L I R) ∨ (k = 2 ∧ Q 2 J L I R)))
set_option maxHeartbeats 4000000 in
set_option maxRecDepth 100000 in
theorem c_Lw_open (l : Launch) (hfl : l.flags = pinnedFlags ++ [noTraceFlag]) (D : va_G) (cc : Nat → ClassId) (L : List Nat) (A : Nat → Nat) (J : Nat → Int64) (t16 t32 : Nat) (mc ms : Nat) (I : UI) (R : UR) (x1 : Int32) (Q : Int32 → (Nat → Int64) → List Nat → UI → UR → Prop) (h : wp_Lw_open mc ms L J I R x1 Q) : uMH l y_Lw_open (.codeWith y_Lw_open method_3_code 4 (some .int) [(0, 9, 12, 13), (0, 9, 15, 15)]) (rm_Lw_open mc ms) mc ms [.ref (A 1), .int x1, .ref (A 0)] D cc L A J t16 t32 I R Q := by
  intro sz
  refine u_entryH (by decide) (Nat.le_of_ble_eq_true rfl) (fun p e s m args below meth c hsz X V hr hlk hh ls hl => ?_)
  have X : uX p s m args c method_3_code 4 "FrameFerryLaw" D cc L A t16 t32 := X
  have hx := X.1
  have hb := X.2.1
  have hl : lv_has ls 4 [(0, .ref (A 1)), (1, .int x1), (2, .ref (A 0))] := hl
  unfold wp_Lw_open at h
  have hE : uEx s.heap.size L A L A := uEx.rf X.2.2.2.2.2.2.1 X.2.2.2.2.2.2.2.1
  have hk : 0 ≤ mc ∧ 0 ≤ ms := ⟨Nat.zero_le _, Nat.zero_le _⟩
  generalize hH : s.heap = H at V ⊢
  generalize hlo : ([] : List Loc) = locs at V ⊢
  refine lv_aload_n (pc := 0) hx hb d_Lw_open_0 rfl (lv_at hl 2 rfl) ?_
  refine lv_iconst (pc := 1) (v := 0) hx hb d_Lw_open_1 (by decide) ?_
  refine lv_aload_n (pc := 2) hx hb d_Lw_open_2 rfl (lv_at hl 0 rfl) ?_
  refine lv_iload_n (pc := 3) hx hb d_Lw_open_3 rfl (lv_at hl 1 rfl) ?_
  obtain ⟨c1, s2, hk1, h⟩ := h
  have X0 := X
  refine u_cX (pc := 4) (As := [.int x1]) X V hE s_Lw_7 (X.fix rfl) rfl rfl rfl (c_FF_open l hfl D cc L A J t16 t32 c1 s2 _ _ x1 _ _ h) ⟨rfl, rfl, (Nat.le_of_ble_eq_true rfl), (Nat.le_of_ble_eq_true rfl)⟩ rfl hl.1 rfl (Nat.le_of_ble_eq_true rfl) d_Lw_open_4 hk1 (fun k => if k = 1 then 12 else 15) ?_ (fun r7 L3 A4 I5 R6 h hG hE X H locs V => ?_) (fun k a h H locs V => ?_)
  · intro k a T locs cells slots hq St hx
    rcases hq with ⟨rfl, -⟩ | ⟨rfl, -⟩
    · exact x_find1 St X.2.2.2.1 (X.2.2.2.2.1 _ q_Lw_13) (X.2.2.2.2.2.2.2.2.2.1 _ (List.mem_of_getElem? (i := 16) rfl)) hh rfl ⟨Nat.zero_le _, Nat.le_of_ble_eq_true rfl⟩ (by decide) hx
    · exact x_find2 St X.2.2.2.1 (X.2.2.2.2.1 _ q_Lw_13) (X.2.2.2.2.1 _ q_Lw_15) (X.2.2.2.2.2.2.2.2.2.1 _ (List.mem_of_getElem? (i := 17) rfl)) X.2.2.2.2.2.2.2.2.2.2.2.2.2 hh rfl ⟨Nat.zero_le _, Nat.le_of_ble_eq_true rfl⟩ ⟨Nat.zero_le _, Nat.le_of_ble_eq_true rfl⟩ (by decide) (by decide) hx
  · have hk := hk1
    have hl : lv_has ls 4 [] := lv_sub hl [] rfl
    have ea0 := (hG.2.2.1 0 (X0.fix rfl)).2
    try rw [← ea0] at hl
    try rw [← ea0]
    refine lv_i2l (pc := 7) (v := (r7).toInt64) hx hb d_Lw_open_7 rfl ?_
    refine u_last (pc := 8) X V h.1 d_Lw_open_8 (fun J8 eJ8 H locs V => ?_)
    have h := h.2 J8 eJ8
    refine lv_goto (pc := 9) (tgt := 18) hx hb d_Lw_open_9 (by decide) ?_
    refine lv_iconst (pc := 18) (v := 0) hx hb d_Lw_open_18 (by decide) ?_
    exact u_retH (pc := 19) X V hE hk hr hlk hsz h d_Lw_open_19
  · have hk := hk1
    rcases h with ⟨rfl, h⟩ | ⟨rfl, h⟩
    · refine W.eq (g2 := F0 m 12 ls [.ref a]) rfl ?_
      refine lv_astore_n (pc := 12) (lv' := [(3, .ref a), (0, .ref (A 1)), (1, .int x1), (2, .ref (A 0))]) hx hb d_Lw_open_12 rfl hl (by decide) rfl (fun ls hl => ?_)
      refine lv_iconst (pc := 13) (v := 1) hx hb d_Lw_open_13 (by decide) ?_
      exact u_retH (pc := 14) X V hE hk hr hlk hsz h d_Lw_open_14
    · refine W.eq (g2 := F0 m 15 ls [.ref a]) rfl ?_
      refine lv_astore_n (pc := 15) (lv' := [(3, .ref a), (0, .ref (A 1)), (1, .int x1), (2, .ref (A 0))]) hx hb d_Lw_open_15 rfl hl (by decide) rfl (fun ls hl => ?_)
      refine lv_iconst (pc := 16) (v := 2) hx hb d_Lw_open_16 (by decide) ?_
      exact u_retH (pc := 17) X V hE hk hr hlk hsz h d_Lw_open_17
-- FrameFerryLaw.feed (LFrameFerry;IIIII[J)I
theorem d_Lw_feed_0 : decode method_4_code 0 = .ok (.aload 6, 2) := by decide +kernel
theorem d_Lw_feed_2 : decode method_4_code 2 = .ok (.iconst 0, 1) := by decide +kernel
theorem d_Lw_feed_3 : decode method_4_code 3 = .ok (.aload_n 0, 1) := by decide +kernel
theorem d_Lw_feed_4 : decode method_4_code 4 = .ok (.iload_n 1, 1) := by decide +kernel
theorem d_Lw_feed_5 : decode method_4_code 5 = .ok (.iload_n 2, 1) := by decide +kernel
theorem d_Lw_feed_6 : decode method_4_code 6 = .ok (.iload_n 3, 1) := by decide +kernel
theorem d_Lw_feed_7 : decode method_4_code 7 = .ok (.iload 4, 2) := by decide +kernel
theorem d_Lw_feed_9 : decode method_4_code 9 = .ok (.iload 5, 2) := by decide +kernel
theorem d_Lw_feed_11 : decode method_4_code 11 = .ok (.invokevirtual 17, 3) := by decide +kernel
theorem d_Lw_feed_14 : decode method_4_code 14 = .ok (.i2l, 1) := by decide +kernel
theorem d_Lw_feed_15 : decode method_4_code 15 = .ok (.lastore, 1) := by decide +kernel
theorem d_Lw_feed_16 : decode method_4_code 16 = .ok (.goto 11, 3) := by decide +kernel
theorem d_Lw_feed_19 : decode method_4_code 19 = .ok (.astore 7, 2) := by decide +kernel
theorem d_Lw_feed_21 : decode method_4_code 21 = .ok (.iconst 1, 1) := by decide +kernel
theorem d_Lw_feed_22 : decode method_4_code 22 = .ok (.ireturn, 1) := by decide +kernel
theorem d_Lw_feed_23 : decode method_4_code 23 = .ok (.astore 7, 2) := by decide +kernel
theorem d_Lw_feed_25 : decode method_4_code 25 = .ok (.iconst 2, 1) := by decide +kernel
theorem d_Lw_feed_26 : decode method_4_code 26 = .ok (.ireturn, 1) := by decide +kernel
theorem d_Lw_feed_27 : decode method_4_code 27 = .ok (.iconst 0, 1) := by decide +kernel
theorem d_Lw_feed_28 : decode method_4_code 28 = .ok (.ireturn, 1) := by decide +kernel
def rm_Lw_feed (mc ms : Nat) : Room := { frames := 7, cells := mc, slots := ms, locals := 138 }
def wp_Lw_feed (mc ms : Nat) (L : List Nat) (J : Nat → Int64) (I : UI) (R : UR) (x1 : Int32) (x2 : Int32) (x3 : Int32) (x4 : Int32) (x5 : Int32) (Q : Int32 → (Nat → Int64) → List Nat → UI → UR → Prop) : Prop :=
  (∃ c1 s2 : Nat, (0 + c1 ≤ mc ∧ 0 + s2 ≤ ms) ∧ wp_FF_feed c1 s2 L I R x1 x2 x3 x4 x5 (fun r7 L3 I5 R6 => vp_in 0 1 ∧ ∀ J8 : Nat → Int64, J8 = vp_updL J ((0 : Int32).toNatClampNeg) ((r7).toInt64) → Q 0 J8 L3 I5 R6) (fun k => (k = 1 ∧ Q 1 J L I R) ∨ (k = 2 ∧ Q 2 J L I R)))
set_option maxHeartbeats 4000000 in
set_option maxRecDepth 100000 in
theorem c_Lw_feed (l : Launch) (hfl : l.flags = pinnedFlags ++ [noTraceFlag]) (D : va_G) (cc : Nat → ClassId) (L : List Nat) (A : Nat → Nat) (J : Nat → Int64) (t16 t32 : Nat) (mc ms : Nat) (I : UI) (R : UR) (x1 : Int32) (x2 : Int32) (x3 : Int32) (x4 : Int32) (x5 : Int32) (Q : Int32 → (Nat → Int64) → List Nat → UI → UR → Prop) (h : wp_Lw_feed mc ms L J I R x1 x2 x3 x4 x5 Q) : uMH l y_Lw_feed (.codeWith y_Lw_feed method_4_code 8 (some .int) [(0, 16, 19, 13), (0, 16, 23, 15)]) (rm_Lw_feed mc ms) mc ms [.ref (A 1), .int x1, .int x2, .int x3, .int x4, .int x5, .ref (A 0)] D cc L A J t16 t32 I R Q := by
  intro sz
  refine u_entryH (by decide) (Nat.le_of_ble_eq_true rfl) (fun p e s m args below meth c hsz X V hr hlk hh ls hl => ?_)
  have X : uX p s m args c method_4_code 8 "FrameFerryLaw" D cc L A t16 t32 := X
  have hx := X.1
  have hb := X.2.1
  have hl : lv_has ls 8 [(0, .ref (A 1)), (1, .int x1), (2, .int x2), (3, .int x3), (4, .int x4), (5, .int x5), (6, .ref (A 0))] := hl
  unfold wp_Lw_feed at h
  have hE : uEx s.heap.size L A L A := uEx.rf X.2.2.2.2.2.2.1 X.2.2.2.2.2.2.2.1
  have hk : 0 ≤ mc ∧ 0 ≤ ms := ⟨Nat.zero_le _, Nat.zero_le _⟩
  generalize hH : s.heap = H at V ⊢
  generalize hlo : ([] : List Loc) = locs at V ⊢
  refine lv_aload (pc := 0) hx hb d_Lw_feed_0 (lv_at hl 6 rfl) ?_
  refine lv_iconst (pc := 2) (v := 0) hx hb d_Lw_feed_2 (by decide) ?_
  refine lv_aload_n (pc := 3) hx hb d_Lw_feed_3 rfl (lv_at hl 0 rfl) ?_
  refine lv_iload_n (pc := 4) hx hb d_Lw_feed_4 rfl (lv_at hl 1 rfl) ?_
  refine lv_iload_n (pc := 5) hx hb d_Lw_feed_5 rfl (lv_at hl 2 rfl) ?_
  refine lv_iload_n (pc := 6) hx hb d_Lw_feed_6 rfl (lv_at hl 3 rfl) ?_
  refine lv_iload (pc := 7) hx hb d_Lw_feed_7 (lv_at hl 4 rfl) ?_
  refine lv_iload (pc := 9) hx hb d_Lw_feed_9 (lv_at hl 5 rfl) ?_
  obtain ⟨c1, s2, hk1, h⟩ := h
  have X0 := X
  refine u_cX (pc := 11) (As := [.int x1, .int x2, .int x3, .int x4, .int x5]) X V hE s_Lw_17 (X.fix rfl) rfl rfl rfl (c_FF_feed l hfl D cc L A J t16 t32 c1 s2 _ _ x1 x2 x3 x4 x5 _ _ h) ⟨rfl, rfl, (Nat.le_of_ble_eq_true rfl), (Nat.le_of_ble_eq_true rfl)⟩ rfl hl.1 rfl (Nat.le_of_ble_eq_true rfl) d_Lw_feed_11 hk1 (fun k => if k = 1 then 19 else 23) ?_ (fun r7 L3 A4 I5 R6 h hG hE X H locs V => ?_) (fun k a h H locs V => ?_)
  · intro k a T locs cells slots hq St hx
    rcases hq with ⟨rfl, -⟩ | ⟨rfl, -⟩
    · exact x_find1 St X.2.2.2.1 (X.2.2.2.2.1 _ q_Lw_13) (X.2.2.2.2.2.2.2.2.2.1 _ (List.mem_of_getElem? (i := 16) rfl)) hh rfl ⟨Nat.zero_le _, Nat.le_of_ble_eq_true rfl⟩ (by decide) hx
    · exact x_find2 St X.2.2.2.1 (X.2.2.2.2.1 _ q_Lw_13) (X.2.2.2.2.1 _ q_Lw_15) (X.2.2.2.2.2.2.2.2.2.1 _ (List.mem_of_getElem? (i := 17) rfl)) X.2.2.2.2.2.2.2.2.2.2.2.2.2 hh rfl ⟨Nat.zero_le _, Nat.le_of_ble_eq_true rfl⟩ ⟨Nat.zero_le _, Nat.le_of_ble_eq_true rfl⟩ (by decide) (by decide) hx
  · have hk := hk1
    have hl : lv_has ls 8 [] := lv_sub hl [] rfl
    have ea0 := (hG.2.2.1 0 (X0.fix rfl)).2
    try rw [← ea0] at hl
    try rw [← ea0]
    refine lv_i2l (pc := 14) (v := (r7).toInt64) hx hb d_Lw_feed_14 rfl ?_
    refine u_last (pc := 15) X V h.1 d_Lw_feed_15 (fun J8 eJ8 H locs V => ?_)
    have h := h.2 J8 eJ8
    refine lv_goto (pc := 16) (tgt := 27) hx hb d_Lw_feed_16 (by decide) ?_
    refine lv_iconst (pc := 27) (v := 0) hx hb d_Lw_feed_27 (by decide) ?_
    exact u_retH (pc := 28) X V hE hk hr hlk hsz h d_Lw_feed_28
  · have hk := hk1
    rcases h with ⟨rfl, h⟩ | ⟨rfl, h⟩
    · refine W.eq (g2 := F0 m 19 ls [.ref a]) rfl ?_
      refine lv_astore (pc := 19) (lv' := [(7, .ref a), (0, .ref (A 1)), (1, .int x1), (2, .int x2), (3, .int x3), (4, .int x4), (5, .int x5), (6, .ref (A 0))]) hx hb d_Lw_feed_19 hl (by decide) rfl (fun ls hl => ?_)
      refine lv_iconst (pc := 21) (v := 1) hx hb d_Lw_feed_21 (by decide) ?_
      exact u_retH (pc := 22) X V hE hk hr hlk hsz h d_Lw_feed_22
    · refine W.eq (g2 := F0 m 23 ls [.ref a]) rfl ?_
      refine lv_astore (pc := 23) (lv' := [(7, .ref a), (0, .ref (A 1)), (1, .int x1), (2, .int x2), (3, .int x3), (4, .int x4), (5, .int x5), (6, .ref (A 0))]) hx hb d_Lw_feed_23 hl (by decide) rfl (fun ls hl => ?_)
      refine lv_iconst (pc := 25) (v := 2) hx hb d_Lw_feed_25 (by decide) ?_
      exact u_retH (pc := 26) X V hE hk hr hlk hsz h d_Lw_feed_26
-- FrameFerryLaw.clear (LFrameFerry;[J)I
theorem d_Lw_clear_0 : decode method_5_code 0 = .ok (.aload_n 1, 1) := by decide +kernel
theorem d_Lw_clear_1 : decode method_5_code 1 = .ok (.iconst 0, 1) := by decide +kernel
theorem d_Lw_clear_2 : decode method_5_code 2 = .ok (.aload_n 0, 1) := by decide +kernel
theorem d_Lw_clear_3 : decode method_5_code 3 = .ok (.invokevirtual 21, 3) := by decide +kernel
theorem d_Lw_clear_6 : decode method_5_code 6 = .ok (.i2l, 1) := by decide +kernel
theorem d_Lw_clear_7 : decode method_5_code 7 = .ok (.lastore, 1) := by decide +kernel
theorem d_Lw_clear_8 : decode method_5_code 8 = .ok (.goto 6, 3) := by decide +kernel
theorem d_Lw_clear_11 : decode method_5_code 11 = .ok (.astore_n 2, 1) := by decide +kernel
theorem d_Lw_clear_12 : decode method_5_code 12 = .ok (.iconst 1, 1) := by decide +kernel
theorem d_Lw_clear_13 : decode method_5_code 13 = .ok (.ireturn, 1) := by decide +kernel
theorem d_Lw_clear_14 : decode method_5_code 14 = .ok (.iconst 0, 1) := by decide +kernel
theorem d_Lw_clear_15 : decode method_5_code 15 = .ok (.ireturn, 1) := by decide +kernel
def rm_Lw_clear (mc ms : Nat) : Room := { frames := 7, cells := mc, slots := ms, locals := 130 }
def wp_Lw_clear (mc ms : Nat) (L : List Nat) (J : Nat → Int64) (I : UI) (R : UR) (Q : Int32 → (Nat → Int64) → List Nat → UI → UR → Prop) : Prop :=
  (∃ c1 s2 : Nat, (0 + c1 ≤ mc ∧ 0 + s2 ≤ ms) ∧ wp_FF_clear c1 s2 L I R  (fun r7 L3 I5 R6 => vp_in 0 1 ∧ ∀ J8 : Nat → Int64, J8 = vp_updL J ((0 : Int32).toNatClampNeg) ((r7).toInt64) → Q 0 J8 L3 I5 R6) (fun k => k = 2 ∧ Q 1 J L I R))
set_option maxHeartbeats 4000000 in
set_option maxRecDepth 100000 in
theorem c_Lw_clear (l : Launch) (hfl : l.flags = pinnedFlags ++ [noTraceFlag]) (D : va_G) (cc : Nat → ClassId) (L : List Nat) (A : Nat → Nat) (J : Nat → Int64) (t16 t32 : Nat) (mc ms : Nat) (I : UI) (R : UR) (Q : Int32 → (Nat → Int64) → List Nat → UI → UR → Prop) (h : wp_Lw_clear mc ms L J I R Q) : uMH l y_Lw_clear (.codeWith y_Lw_clear method_5_code 3 (some .int) [(0, 8, 11, 15)]) (rm_Lw_clear mc ms) mc ms [.ref (A 1), .ref (A 0)] D cc L A J t16 t32 I R Q := by
  intro sz
  refine u_entryH (by decide) (Nat.le_of_ble_eq_true rfl) (fun p e s m args below meth c hsz X V hr hlk hh ls hl => ?_)
  have X : uX p s m args c method_5_code 3 "FrameFerryLaw" D cc L A t16 t32 := X
  have hx := X.1
  have hb := X.2.1
  have hl : lv_has ls 3 [(0, .ref (A 1)), (1, .ref (A 0))] := hl
  unfold wp_Lw_clear at h
  have hE : uEx s.heap.size L A L A := uEx.rf X.2.2.2.2.2.2.1 X.2.2.2.2.2.2.2.1
  have hk : 0 ≤ mc ∧ 0 ≤ ms := ⟨Nat.zero_le _, Nat.zero_le _⟩
  generalize hH : s.heap = H at V ⊢
  generalize hlo : ([] : List Loc) = locs at V ⊢
  refine lv_aload_n (pc := 0) hx hb d_Lw_clear_0 rfl (lv_at hl 1 rfl) ?_
  refine lv_iconst (pc := 1) (v := 0) hx hb d_Lw_clear_1 (by decide) ?_
  refine lv_aload_n (pc := 2) hx hb d_Lw_clear_2 rfl (lv_at hl 0 rfl) ?_
  obtain ⟨c1, s2, hk1, h⟩ := h
  have X0 := X
  refine u_cX (pc := 3) (As := []) X V hE s_Lw_21 (X.fix rfl) rfl rfl rfl (c_FF_clear l hfl D cc L A J t16 t32 c1 s2 _ _  _ _ h) ⟨rfl, rfl, (Nat.le_of_ble_eq_true rfl), (Nat.le_of_ble_eq_true rfl)⟩ rfl hl.1 rfl (Nat.le_of_ble_eq_true rfl) d_Lw_clear_3 hk1 (fun _ => 11) ?_ (fun r7 L3 A4 I5 R6 h hG hE X H locs V => ?_) (fun k a h H locs V => ?_)
  · intro k a T locs cells slots hq St hx
    obtain ⟨rfl, -⟩ := hq
    exact x_find1 St X.2.2.2.1 (X.2.2.2.2.1 _ q_Lw_15) (X.2.2.2.2.2.2.2.2.2.1 _ (List.mem_of_getElem? (i := 17) rfl)) hh rfl ⟨Nat.zero_le _, Nat.le_of_ble_eq_true rfl⟩ (by decide) hx
  · have hk := hk1
    have hl : lv_has ls 3 [] := lv_sub hl [] rfl
    have ea0 := (hG.2.2.1 0 (X0.fix rfl)).2
    try rw [← ea0] at hl
    try rw [← ea0]
    refine lv_i2l (pc := 6) (v := (r7).toInt64) hx hb d_Lw_clear_6 rfl ?_
    refine u_last (pc := 7) X V h.1 d_Lw_clear_7 (fun J8 eJ8 H locs V => ?_)
    have h := h.2 J8 eJ8
    refine lv_goto (pc := 8) (tgt := 14) hx hb d_Lw_clear_8 (by decide) ?_
    refine lv_iconst (pc := 14) (v := 0) hx hb d_Lw_clear_14 (by decide) ?_
    exact u_retH (pc := 15) X V hE hk hr hlk hsz h d_Lw_clear_15
  · have hk := hk1
    obtain ⟨rfl, h⟩ := h
    refine lv_astore_n (pc := 11) (lv' := [(2, .ref a), (0, .ref (A 1)), (1, .ref (A 0))]) hx hb d_Lw_clear_11 rfl hl (by decide) rfl (fun ls hl => ?_)
    refine lv_iconst (pc := 12) (v := 1) hx hb d_Lw_clear_12 (by decide) ?_
    exact u_retH (pc := 13) X V hE hk hr hlk hsz h d_Lw_clear_13
-- FrameFerryLaw.start (LFrameFerry;ZI)I
theorem d_Lw_start_0 : decode method_6_code 0 = .ok (.aload_n 0, 1) := by decide +kernel
theorem d_Lw_start_1 : decode method_6_code 1 = .ok (.iload_n 1, 1) := by decide +kernel
theorem d_Lw_start_2 : decode method_6_code 2 = .ok (.iload_n 2, 1) := by decide +kernel
theorem d_Lw_start_3 : decode method_6_code 3 = .ok (.invokevirtual 25, 3) := by decide +kernel
theorem d_Lw_start_6 : decode method_6_code 6 = .ok (.goto 6, 3) := by decide +kernel
theorem d_Lw_start_9 : decode method_6_code 9 = .ok (.astore_n 3, 1) := by decide +kernel
theorem d_Lw_start_10 : decode method_6_code 10 = .ok (.iconst 1, 1) := by decide +kernel
theorem d_Lw_start_11 : decode method_6_code 11 = .ok (.ireturn, 1) := by decide +kernel
theorem d_Lw_start_12 : decode method_6_code 12 = .ok (.iconst 0, 1) := by decide +kernel
theorem d_Lw_start_13 : decode method_6_code 13 = .ok (.ireturn, 1) := by decide +kernel
def rm_Lw_start (mc ms : Nat) : Room := { frames := 7, cells := mc, slots := ms, locals := 132 }
def wp_Lw_start (mc ms : Nat) (L : List Nat) (J : Nat → Int64) (I : UI) (R : UR) (x1 : Int32) (x2 : Int32) (Q : Int32 → (Nat → Int64) → List Nat → UI → UR → Prop) : Prop :=
  (∃ c1 s2 : Nat, (0 + c1 ≤ mc ∧ 0 + s2 ≤ ms) ∧ wp_FF_start c1 s2 L I R x1 x2 (fun L3 I5 R6 => Q 0 J L3 I5 R6) (fun k => k = 1 ∧ Q 1 J L I R))
set_option maxHeartbeats 4000000 in
set_option maxRecDepth 100000 in
theorem c_Lw_start (l : Launch) (hfl : l.flags = pinnedFlags ++ [noTraceFlag]) (D : va_G) (cc : Nat → ClassId) (L : List Nat) (A : Nat → Nat) (J : Nat → Int64) (t16 t32 : Nat) (mc ms : Nat) (I : UI) (R : UR) (x1 : Int32) (x2 : Int32) (Q : Int32 → (Nat → Int64) → List Nat → UI → UR → Prop) (h : wp_Lw_start mc ms L J I R x1 x2 Q) : uMH l y_Lw_start (.codeWith y_Lw_start method_6_code 4 (some .int) [(0, 6, 9, 13)]) (rm_Lw_start mc ms) mc ms [.ref (A 1), .int x1, .int x2] D cc L A J t16 t32 I R Q := by
  intro sz
  refine u_entryH (by decide) (Nat.le_of_ble_eq_true rfl) (fun p e s m args below meth c hsz X V hr hlk hh ls hl => ?_)
  have X : uX p s m args c method_6_code 4 "FrameFerryLaw" D cc L A t16 t32 := X
  have hx := X.1
  have hb := X.2.1
  have hl : lv_has ls 4 [(0, .ref (A 1)), (1, .int x1), (2, .int x2)] := hl
  unfold wp_Lw_start at h
  have hE : uEx s.heap.size L A L A := uEx.rf X.2.2.2.2.2.2.1 X.2.2.2.2.2.2.2.1
  have hk : 0 ≤ mc ∧ 0 ≤ ms := ⟨Nat.zero_le _, Nat.zero_le _⟩
  generalize hH : s.heap = H at V ⊢
  generalize hlo : ([] : List Loc) = locs at V ⊢
  refine lv_aload_n (pc := 0) hx hb d_Lw_start_0 rfl (lv_at hl 0 rfl) ?_
  refine lv_iload_n (pc := 1) hx hb d_Lw_start_1 rfl (lv_at hl 1 rfl) ?_
  refine lv_iload_n (pc := 2) hx hb d_Lw_start_2 rfl (lv_at hl 2 rfl) ?_
  obtain ⟨c1, s2, hk1, h⟩ := h
  have X0 := X
  refine u_cXv (pc := 3) (As := [.int x1, .int x2]) X V hE s_Lw_25 (X.fix rfl) rfl rfl rfl (c_FF_start l hfl D cc L A J t16 t32 c1 s2 _ _ x1 x2 _ _ h) ⟨rfl, rfl, (Nat.le_of_ble_eq_true rfl), (Nat.le_of_ble_eq_true rfl)⟩ rfl hl.1 rfl (Nat.le_of_ble_eq_true rfl) d_Lw_start_3 hk1 (fun _ => 9) ?_ (fun L3 A4 I5 R6 h hG hE X H locs V => ?_) (fun k a h H locs V => ?_)
  · intro k a T locs cells slots hq St hx
    obtain ⟨rfl, -⟩ := hq
    exact x_find1 St X.2.2.2.1 (X.2.2.2.2.1 _ q_Lw_13) (X.2.2.2.2.2.2.2.2.2.1 _ (List.mem_of_getElem? (i := 16) rfl)) hh rfl ⟨Nat.zero_le _, Nat.le_of_ble_eq_true rfl⟩ (by decide) hx
  · have hk := hk1
    have hl : lv_has ls 4 [] := lv_sub hl [] rfl
    refine lv_goto (pc := 6) (tgt := 12) hx hb d_Lw_start_6 (by decide) ?_
    refine lv_iconst (pc := 12) (v := 0) hx hb d_Lw_start_12 (by decide) ?_
    exact u_retH (pc := 13) X V hE hk hr hlk hsz h d_Lw_start_13
  · have hk := hk1
    obtain ⟨rfl, h⟩ := h
    refine lv_astore_n (pc := 9) (lv' := [(3, .ref a), (0, .ref (A 1)), (1, .int x1), (2, .int x2)]) hx hb d_Lw_start_9 rfl hl (by decide) rfl (fun ls hl => ?_)
    refine lv_iconst (pc := 10) (v := 1) hx hb d_Lw_start_10 (by decide) ?_
    exact u_retH (pc := 11) X V hE hk hr hlk hsz h d_Lw_start_11
-- FrameFerryLaw.flip (LFrameFerry;ZII[J)I
theorem d_Lw_flip_0 : decode method_7_code 0 = .ok (.aload 4, 2) := by decide +kernel
theorem d_Lw_flip_2 : decode method_7_code 2 = .ok (.iconst 0, 1) := by decide +kernel
theorem d_Lw_flip_3 : decode method_7_code 3 = .ok (.aload_n 0, 1) := by decide +kernel
theorem d_Lw_flip_4 : decode method_7_code 4 = .ok (.iload_n 1, 1) := by decide +kernel
theorem d_Lw_flip_5 : decode method_7_code 5 = .ok (.iload_n 2, 1) := by decide +kernel
theorem d_Lw_flip_6 : decode method_7_code 6 = .ok (.iload_n 3, 1) := by decide +kernel
theorem d_Lw_flip_7 : decode method_7_code 7 = .ok (.invokevirtual 29, 3) := by decide +kernel
theorem d_Lw_flip_10 : decode method_7_code 10 = .ok (.ifCond .eq 7, 3) := by decide +kernel
theorem d_Lw_flip_13 : decode method_7_code 13 = .ok (.lconst 1, 1) := by decide +kernel
theorem d_Lw_flip_14 : decode method_7_code 14 = .ok (.goto 4, 3) := by decide +kernel
theorem d_Lw_flip_17 : decode method_7_code 17 = .ok (.lconst 0, 1) := by decide +kernel
theorem d_Lw_flip_18 : decode method_7_code 18 = .ok (.lastore, 1) := by decide +kernel
theorem d_Lw_flip_19 : decode method_7_code 19 = .ok (.goto 7, 3) := by decide +kernel
theorem d_Lw_flip_22 : decode method_7_code 22 = .ok (.astore 5, 2) := by decide +kernel
theorem d_Lw_flip_24 : decode method_7_code 24 = .ok (.iconst 1, 1) := by decide +kernel
theorem d_Lw_flip_25 : decode method_7_code 25 = .ok (.ireturn, 1) := by decide +kernel
theorem d_Lw_flip_26 : decode method_7_code 26 = .ok (.iconst 0, 1) := by decide +kernel
theorem d_Lw_flip_27 : decode method_7_code 27 = .ok (.ireturn, 1) := by decide +kernel
def rm_Lw_flip (mc ms : Nat) : Room := { frames := 7, cells := mc, slots := ms, locals := 133 }
def wp_Lw_flip (mc ms : Nat) (L : List Nat) (J : Nat → Int64) (I : UI) (R : UR) (x1 : Int32) (x2 : Int32) (x3 : Int32) (Q : Int32 → (Nat → Int64) → List Nat → UI → UR → Prop) : Prop :=
  (∃ c1 s2 : Nat, (0 + c1 ≤ mc ∧ 0 + s2 ≤ ms) ∧ wp_FF_flip c1 s2 L I R x1 x2 x3 (fun r7 L3 I5 R6 => ((r7 = 0 → vp_in 0 1 ∧ ∀ J8 : Nat → Int64, J8 = vp_updL J ((0 : Int32).toNatClampNeg) 0 → Q 0 J8 L3 I5 R6) ∧ (¬ r7 = 0 → vp_in 0 1 ∧ ∀ J9 : Nat → Int64, J9 = vp_updL J ((0 : Int32).toNatClampNeg) 1 → Q 0 J9 L3 I5 R6))) (fun k => k = 1 ∧ Q 1 J L I R))
set_option maxHeartbeats 4000000 in
set_option maxRecDepth 100000 in
theorem c_Lw_flip (l : Launch) (hfl : l.flags = pinnedFlags ++ [noTraceFlag]) (D : va_G) (cc : Nat → ClassId) (L : List Nat) (A : Nat → Nat) (J : Nat → Int64) (t16 t32 : Nat) (mc ms : Nat) (I : UI) (R : UR) (x1 : Int32) (x2 : Int32) (x3 : Int32) (Q : Int32 → (Nat → Int64) → List Nat → UI → UR → Prop) (h : wp_Lw_flip mc ms L J I R x1 x2 x3 Q) : uMH l y_Lw_flip (.codeWith y_Lw_flip method_7_code 6 (some .int) [(0, 19, 22, 13)]) (rm_Lw_flip mc ms) mc ms [.ref (A 1), .int x1, .int x2, .int x3, .ref (A 0)] D cc L A J t16 t32 I R Q := by
  intro sz
  refine u_entryH (by decide) (Nat.le_of_ble_eq_true rfl) (fun p e s m args below meth c hsz X V hr hlk hh ls hl => ?_)
  have X : uX p s m args c method_7_code 6 "FrameFerryLaw" D cc L A t16 t32 := X
  have hx := X.1
  have hb := X.2.1
  have hl : lv_has ls 6 [(0, .ref (A 1)), (1, .int x1), (2, .int x2), (3, .int x3), (4, .ref (A 0))] := hl
  unfold wp_Lw_flip at h
  have hE : uEx s.heap.size L A L A := uEx.rf X.2.2.2.2.2.2.1 X.2.2.2.2.2.2.2.1
  have hk : 0 ≤ mc ∧ 0 ≤ ms := ⟨Nat.zero_le _, Nat.zero_le _⟩
  generalize hH : s.heap = H at V ⊢
  generalize hlo : ([] : List Loc) = locs at V ⊢
  refine lv_aload (pc := 0) hx hb d_Lw_flip_0 (lv_at hl 4 rfl) ?_
  refine lv_iconst (pc := 2) (v := 0) hx hb d_Lw_flip_2 (by decide) ?_
  refine lv_aload_n (pc := 3) hx hb d_Lw_flip_3 rfl (lv_at hl 0 rfl) ?_
  refine lv_iload_n (pc := 4) hx hb d_Lw_flip_4 rfl (lv_at hl 1 rfl) ?_
  refine lv_iload_n (pc := 5) hx hb d_Lw_flip_5 rfl (lv_at hl 2 rfl) ?_
  refine lv_iload_n (pc := 6) hx hb d_Lw_flip_6 rfl (lv_at hl 3 rfl) ?_
  obtain ⟨c1, s2, hk1, h⟩ := h
  have X0 := X
  refine u_cX (pc := 7) (As := [.int x1, .int x2, .int x3]) X V hE s_Lw_29 (X.fix rfl) rfl rfl rfl (c_FF_flip l hfl D cc L A J t16 t32 c1 s2 _ _ x1 x2 x3 _ _ h) ⟨rfl, rfl, (Nat.le_of_ble_eq_true rfl), (Nat.le_of_ble_eq_true rfl)⟩ rfl hl.1 rfl (Nat.le_of_ble_eq_true rfl) d_Lw_flip_7 hk1 (fun _ => 22) ?_ (fun r7 L3 A4 I5 R6 h hG hE X H locs V => ?_) (fun k a h H locs V => ?_)
  · intro k a T locs cells slots hq St hx
    obtain ⟨rfl, -⟩ := hq
    exact x_find1 St X.2.2.2.1 (X.2.2.2.2.1 _ q_Lw_13) (X.2.2.2.2.2.2.2.2.2.1 _ (List.mem_of_getElem? (i := 16) rfl)) hh rfl ⟨Nat.zero_le _, Nat.le_of_ble_eq_true rfl⟩ (by decide) hx
  · have hk := hk1
    have hl : lv_has ls 6 [] := lv_sub hl [] rfl
    have ea0 := (hG.2.2.1 0 (X0.fix rfl)).2
    try rw [← ea0] at hl
    try rw [← ea0]
    refine lv_if_eq (pc := 10) (tgt := 17) hx hb d_Lw_flip_10 (by decide) (fun hc => ?_) (fun hc => ?_)
    · have h := h.1 hc
      refine lv_lconst (pc := 17) (v := 0) hx hb d_Lw_flip_17 (by decide) ?_
      refine u_last (pc := 18) X V h.1 d_Lw_flip_18 (fun J8 eJ8 H locs V => ?_)
      have h := h.2 J8 eJ8
      refine lv_goto (pc := 19) (tgt := 26) hx hb d_Lw_flip_19 (by decide) ?_
      refine lv_iconst (pc := 26) (v := 0) hx hb d_Lw_flip_26 (by decide) ?_
      exact u_retH (pc := 27) X V hE hk hr hlk hsz h d_Lw_flip_27
    · have h := h.2 hc
      refine lv_lconst (pc := 13) (v := 1) hx hb d_Lw_flip_13 (by decide) ?_
      refine lv_goto (pc := 14) (tgt := 18) hx hb d_Lw_flip_14 (by decide) ?_
      refine u_last (pc := 18) X V h.1 d_Lw_flip_18 (fun J9 eJ9 H locs V => ?_)
      have h := h.2 J9 eJ9
      refine lv_goto (pc := 19) (tgt := 26) hx hb d_Lw_flip_19 (by decide) ?_
      refine lv_iconst (pc := 26) (v := 0) hx hb d_Lw_flip_26 (by decide) ?_
      exact u_retH (pc := 27) X V hE hk hr hlk hsz h d_Lw_flip_27
  · have hk := hk1
    obtain ⟨rfl, h⟩ := h
    refine lv_astore (pc := 22) (lv' := [(5, .ref a), (0, .ref (A 1)), (1, .int x1), (2, .int x2), (3, .int x3), (4, .ref (A 0))]) hx hb d_Lw_flip_22 hl (by decide) rfl (fun ls hl => ?_)
    refine lv_iconst (pc := 24) (v := 1) hx hb d_Lw_flip_24 (by decide) ?_
    exact u_retH (pc := 25) X V hE hk hr hlk hsz h d_Lw_flip_25
-- FrameFerryLaw.lose (LFrameFerry;ZII[J)I
theorem d_Lw_lose_0 : decode method_8_code 0 = .ok (.aload 4, 2) := by decide +kernel
theorem d_Lw_lose_2 : decode method_8_code 2 = .ok (.iconst 0, 1) := by decide +kernel
theorem d_Lw_lose_3 : decode method_8_code 3 = .ok (.aload_n 0, 1) := by decide +kernel
theorem d_Lw_lose_4 : decode method_8_code 4 = .ok (.iload_n 1, 1) := by decide +kernel
theorem d_Lw_lose_5 : decode method_8_code 5 = .ok (.iload_n 2, 1) := by decide +kernel
theorem d_Lw_lose_6 : decode method_8_code 6 = .ok (.iload_n 3, 1) := by decide +kernel
theorem d_Lw_lose_7 : decode method_8_code 7 = .ok (.invokevirtual 33, 3) := by decide +kernel
theorem d_Lw_lose_10 : decode method_8_code 10 = .ok (.i2l, 1) := by decide +kernel
theorem d_Lw_lose_11 : decode method_8_code 11 = .ok (.lastore, 1) := by decide +kernel
theorem d_Lw_lose_12 : decode method_8_code 12 = .ok (.goto 7, 3) := by decide +kernel
theorem d_Lw_lose_15 : decode method_8_code 15 = .ok (.astore 5, 2) := by decide +kernel
theorem d_Lw_lose_17 : decode method_8_code 17 = .ok (.iconst 1, 1) := by decide +kernel
theorem d_Lw_lose_18 : decode method_8_code 18 = .ok (.ireturn, 1) := by decide +kernel
theorem d_Lw_lose_19 : decode method_8_code 19 = .ok (.iconst 0, 1) := by decide +kernel
theorem d_Lw_lose_20 : decode method_8_code 20 = .ok (.ireturn, 1) := by decide +kernel
def rm_Lw_lose (mc ms : Nat) : Room := { frames := 7, cells := mc, slots := ms, locals := 133 }
def wp_Lw_lose (mc ms : Nat) (L : List Nat) (J : Nat → Int64) (I : UI) (R : UR) (x1 : Int32) (x2 : Int32) (x3 : Int32) (Q : Int32 → (Nat → Int64) → List Nat → UI → UR → Prop) : Prop :=
  (∃ c1 s2 : Nat, (0 + c1 ≤ mc ∧ 0 + s2 ≤ ms) ∧ wp_FF_lose c1 s2 L I R x1 x2 x3 (fun r7 L3 I5 R6 => vp_in 0 1 ∧ ∀ J8 : Nat → Int64, J8 = vp_updL J ((0 : Int32).toNatClampNeg) ((r7).toInt64) → Q 0 J8 L3 I5 R6) (fun k => k = 1 ∧ Q 1 J L I R))
set_option maxHeartbeats 4000000 in
set_option maxRecDepth 100000 in
theorem c_Lw_lose (l : Launch) (hfl : l.flags = pinnedFlags ++ [noTraceFlag]) (D : va_G) (cc : Nat → ClassId) (L : List Nat) (A : Nat → Nat) (J : Nat → Int64) (t16 t32 : Nat) (mc ms : Nat) (I : UI) (R : UR) (x1 : Int32) (x2 : Int32) (x3 : Int32) (Q : Int32 → (Nat → Int64) → List Nat → UI → UR → Prop) (h : wp_Lw_lose mc ms L J I R x1 x2 x3 Q) : uMH l y_Lw_lose (.codeWith y_Lw_lose method_8_code 6 (some .int) [(0, 12, 15, 13)]) (rm_Lw_lose mc ms) mc ms [.ref (A 1), .int x1, .int x2, .int x3, .ref (A 0)] D cc L A J t16 t32 I R Q := by
  intro sz
  refine u_entryH (by decide) (Nat.le_of_ble_eq_true rfl) (fun p e s m args below meth c hsz X V hr hlk hh ls hl => ?_)
  have X : uX p s m args c method_8_code 6 "FrameFerryLaw" D cc L A t16 t32 := X
  have hx := X.1
  have hb := X.2.1
  have hl : lv_has ls 6 [(0, .ref (A 1)), (1, .int x1), (2, .int x2), (3, .int x3), (4, .ref (A 0))] := hl
  unfold wp_Lw_lose at h
  have hE : uEx s.heap.size L A L A := uEx.rf X.2.2.2.2.2.2.1 X.2.2.2.2.2.2.2.1
  have hk : 0 ≤ mc ∧ 0 ≤ ms := ⟨Nat.zero_le _, Nat.zero_le _⟩
  generalize hH : s.heap = H at V ⊢
  generalize hlo : ([] : List Loc) = locs at V ⊢
  refine lv_aload (pc := 0) hx hb d_Lw_lose_0 (lv_at hl 4 rfl) ?_
  refine lv_iconst (pc := 2) (v := 0) hx hb d_Lw_lose_2 (by decide) ?_
  refine lv_aload_n (pc := 3) hx hb d_Lw_lose_3 rfl (lv_at hl 0 rfl) ?_
  refine lv_iload_n (pc := 4) hx hb d_Lw_lose_4 rfl (lv_at hl 1 rfl) ?_
  refine lv_iload_n (pc := 5) hx hb d_Lw_lose_5 rfl (lv_at hl 2 rfl) ?_
  refine lv_iload_n (pc := 6) hx hb d_Lw_lose_6 rfl (lv_at hl 3 rfl) ?_
  obtain ⟨c1, s2, hk1, h⟩ := h
  have X0 := X
  refine u_cX (pc := 7) (As := [.int x1, .int x2, .int x3]) X V hE s_Lw_33 (X.fix rfl) rfl rfl rfl (c_FF_lose l hfl D cc L A J t16 t32 c1 s2 _ _ x1 x2 x3 _ _ h) ⟨rfl, rfl, (Nat.le_of_ble_eq_true rfl), (Nat.le_of_ble_eq_true rfl)⟩ rfl hl.1 rfl (Nat.le_of_ble_eq_true rfl) d_Lw_lose_7 hk1 (fun _ => 15) ?_ (fun r7 L3 A4 I5 R6 h hG hE X H locs V => ?_) (fun k a h H locs V => ?_)
  · intro k a T locs cells slots hq St hx
    obtain ⟨rfl, -⟩ := hq
    exact x_find1 St X.2.2.2.1 (X.2.2.2.2.1 _ q_Lw_13) (X.2.2.2.2.2.2.2.2.2.1 _ (List.mem_of_getElem? (i := 16) rfl)) hh rfl ⟨Nat.zero_le _, Nat.le_of_ble_eq_true rfl⟩ (by decide) hx
  · have hk := hk1
    have hl : lv_has ls 6 [] := lv_sub hl [] rfl
    have ea0 := (hG.2.2.1 0 (X0.fix rfl)).2
    try rw [← ea0] at hl
    try rw [← ea0]
    refine lv_i2l (pc := 10) (v := (r7).toInt64) hx hb d_Lw_lose_10 rfl ?_
    refine u_last (pc := 11) X V h.1 d_Lw_lose_11 (fun J8 eJ8 H locs V => ?_)
    have h := h.2 J8 eJ8
    refine lv_goto (pc := 12) (tgt := 19) hx hb d_Lw_lose_12 (by decide) ?_
    refine lv_iconst (pc := 19) (v := 0) hx hb d_Lw_lose_19 (by decide) ?_
    exact u_retH (pc := 20) X V hE hk hr hlk hsz h d_Lw_lose_20
  · have hk := hk1
    obtain ⟨rfl, h⟩ := h
    refine lv_astore (pc := 15) (lv' := [(5, .ref a), (0, .ref (A 1)), (1, .int x1), (2, .int x2), (3, .int x3), (4, .ref (A 0))]) hx hb d_Lw_lose_15 hl (by decide) rfl (fun ls hl => ?_)
    refine lv_iconst (pc := 17) (v := 1) hx hb d_Lw_lose_17 (by decide) ?_
    exact u_retH (pc := 18) X V hE hk hr hlk hsz h d_Lw_lose_18
-- FrameFerryLaw.got (LFrameFerry;II[J)I
theorem d_Lw_got_0 : decode method_9_code 0 = .ok (.aload_n 3, 1) := by decide +kernel
theorem d_Lw_got_1 : decode method_9_code 1 = .ok (.iconst 0, 1) := by decide +kernel
theorem d_Lw_got_2 : decode method_9_code 2 = .ok (.aload_n 0, 1) := by decide +kernel
theorem d_Lw_got_3 : decode method_9_code 3 = .ok (.iload_n 1, 1) := by decide +kernel
theorem d_Lw_got_4 : decode method_9_code 4 = .ok (.iload_n 2, 1) := by decide +kernel
theorem d_Lw_got_5 : decode method_9_code 5 = .ok (.invokevirtual 37, 3) := by decide +kernel
theorem d_Lw_got_8 : decode method_9_code 8 = .ok (.i2l, 1) := by decide +kernel
theorem d_Lw_got_9 : decode method_9_code 9 = .ok (.lastore, 1) := by decide +kernel
theorem d_Lw_got_10 : decode method_9_code 10 = .ok (.goto 7, 3) := by decide +kernel
theorem d_Lw_got_13 : decode method_9_code 13 = .ok (.astore 4, 2) := by decide +kernel
theorem d_Lw_got_15 : decode method_9_code 15 = .ok (.iconst 1, 1) := by decide +kernel
theorem d_Lw_got_16 : decode method_9_code 16 = .ok (.ireturn, 1) := by decide +kernel
theorem d_Lw_got_17 : decode method_9_code 17 = .ok (.iconst 0, 1) := by decide +kernel
theorem d_Lw_got_18 : decode method_9_code 18 = .ok (.ireturn, 1) := by decide +kernel
def rm_Lw_got (mc ms : Nat) : Room := { frames := 7, cells := mc, slots := ms, locals := 133 }
def wp_Lw_got (mc ms : Nat) (L : List Nat) (J : Nat → Int64) (I : UI) (R : UR) (x1 : Int32) (x2 : Int32) (Q : Int32 → (Nat → Int64) → List Nat → UI → UR → Prop) : Prop :=
  (∃ c1 s2 : Nat, (0 + c1 ≤ mc ∧ 0 + s2 ≤ ms) ∧ wp_FF_got c1 s2 L I R x1 x2 (fun r7 L3 I5 R6 => vp_in 0 1 ∧ ∀ J8 : Nat → Int64, J8 = vp_updL J ((0 : Int32).toNatClampNeg) ((r7).toInt64) → Q 0 J8 L3 I5 R6) (fun k => k = 1 ∧ Q 1 J L I R))
set_option maxHeartbeats 4000000 in
set_option maxRecDepth 100000 in
theorem c_Lw_got (l : Launch) (hfl : l.flags = pinnedFlags ++ [noTraceFlag]) (D : va_G) (cc : Nat → ClassId) (L : List Nat) (A : Nat → Nat) (J : Nat → Int64) (t16 t32 : Nat) (mc ms : Nat) (I : UI) (R : UR) (x1 : Int32) (x2 : Int32) (Q : Int32 → (Nat → Int64) → List Nat → UI → UR → Prop) (h : wp_Lw_got mc ms L J I R x1 x2 Q) : uMH l y_Lw_got (.codeWith y_Lw_got method_9_code 5 (some .int) [(0, 10, 13, 13)]) (rm_Lw_got mc ms) mc ms [.ref (A 1), .int x1, .int x2, .ref (A 0)] D cc L A J t16 t32 I R Q := by
  intro sz
  refine u_entryH (by decide) (Nat.le_of_ble_eq_true rfl) (fun p e s m args below meth c hsz X V hr hlk hh ls hl => ?_)
  have X : uX p s m args c method_9_code 5 "FrameFerryLaw" D cc L A t16 t32 := X
  have hx := X.1
  have hb := X.2.1
  have hl : lv_has ls 5 [(0, .ref (A 1)), (1, .int x1), (2, .int x2), (3, .ref (A 0))] := hl
  unfold wp_Lw_got at h
  have hE : uEx s.heap.size L A L A := uEx.rf X.2.2.2.2.2.2.1 X.2.2.2.2.2.2.2.1
  have hk : 0 ≤ mc ∧ 0 ≤ ms := ⟨Nat.zero_le _, Nat.zero_le _⟩
  generalize hH : s.heap = H at V ⊢
  generalize hlo : ([] : List Loc) = locs at V ⊢
  refine lv_aload_n (pc := 0) hx hb d_Lw_got_0 rfl (lv_at hl 3 rfl) ?_
  refine lv_iconst (pc := 1) (v := 0) hx hb d_Lw_got_1 (by decide) ?_
  refine lv_aload_n (pc := 2) hx hb d_Lw_got_2 rfl (lv_at hl 0 rfl) ?_
  refine lv_iload_n (pc := 3) hx hb d_Lw_got_3 rfl (lv_at hl 1 rfl) ?_
  refine lv_iload_n (pc := 4) hx hb d_Lw_got_4 rfl (lv_at hl 2 rfl) ?_
  obtain ⟨c1, s2, hk1, h⟩ := h
  have X0 := X
  refine u_cX (pc := 5) (As := [.int x1, .int x2]) X V hE s_Lw_37 (X.fix rfl) rfl rfl rfl (c_FF_got l hfl D cc L A J t16 t32 c1 s2 _ _ x1 x2 _ _ h) ⟨rfl, rfl, (Nat.le_of_ble_eq_true rfl), (Nat.le_of_ble_eq_true rfl)⟩ rfl hl.1 rfl (Nat.le_of_ble_eq_true rfl) d_Lw_got_5 hk1 (fun _ => 13) ?_ (fun r7 L3 A4 I5 R6 h hG hE X H locs V => ?_) (fun k a h H locs V => ?_)
  · intro k a T locs cells slots hq St hx
    obtain ⟨rfl, -⟩ := hq
    exact x_find1 St X.2.2.2.1 (X.2.2.2.2.1 _ q_Lw_13) (X.2.2.2.2.2.2.2.2.2.1 _ (List.mem_of_getElem? (i := 16) rfl)) hh rfl ⟨Nat.zero_le _, Nat.le_of_ble_eq_true rfl⟩ (by decide) hx
  · have hk := hk1
    have hl : lv_has ls 5 [] := lv_sub hl [] rfl
    have ea0 := (hG.2.2.1 0 (X0.fix rfl)).2
    try rw [← ea0] at hl
    try rw [← ea0]
    refine lv_i2l (pc := 8) (v := (r7).toInt64) hx hb d_Lw_got_8 rfl ?_
    refine u_last (pc := 9) X V h.1 d_Lw_got_9 (fun J8 eJ8 H locs V => ?_)
    have h := h.2 J8 eJ8
    refine lv_goto (pc := 10) (tgt := 17) hx hb d_Lw_got_10 (by decide) ?_
    refine lv_iconst (pc := 17) (v := 0) hx hb d_Lw_got_17 (by decide) ?_
    exact u_retH (pc := 18) X V hE hk hr hlk hsz h d_Lw_got_18
  · have hk := hk1
    obtain ⟨rfl, h⟩ := h
    refine lv_astore (pc := 13) (lv' := [(4, .ref a), (0, .ref (A 1)), (1, .int x1), (2, .int x2), (3, .ref (A 0))]) hx hb d_Lw_got_13 hl (by decide) rfl (fun ls hl => ?_)
    refine lv_iconst (pc := 15) (v := 1) hx hb d_Lw_got_15 (by decide) ?_
    exact u_retH (pc := 16) X V hE hk hr hlk hsz h d_Lw_got_16
-- FrameFerryLaw.count (LFrameFerry;I[J)I
theorem d_Lw_count_0 : decode method_10_code 0 = .ok (.aload_n 2, 1) := by decide +kernel
theorem d_Lw_count_1 : decode method_10_code 1 = .ok (.iconst 0, 1) := by decide +kernel
theorem d_Lw_count_2 : decode method_10_code 2 = .ok (.aload_n 0, 1) := by decide +kernel
theorem d_Lw_count_3 : decode method_10_code 3 = .ok (.iload_n 1, 1) := by decide +kernel
theorem d_Lw_count_4 : decode method_10_code 4 = .ok (.invokevirtual 41, 3) := by decide +kernel
theorem d_Lw_count_7 : decode method_10_code 7 = .ok (.i2l, 1) := by decide +kernel
theorem d_Lw_count_8 : decode method_10_code 8 = .ok (.lastore, 1) := by decide +kernel
theorem d_Lw_count_9 : decode method_10_code 9 = .ok (.goto 6, 3) := by decide +kernel
theorem d_Lw_count_12 : decode method_10_code 12 = .ok (.astore_n 3, 1) := by decide +kernel
theorem d_Lw_count_13 : decode method_10_code 13 = .ok (.iconst 1, 1) := by decide +kernel
theorem d_Lw_count_14 : decode method_10_code 14 = .ok (.ireturn, 1) := by decide +kernel
theorem d_Lw_count_15 : decode method_10_code 15 = .ok (.iconst 0, 1) := by decide +kernel
theorem d_Lw_count_16 : decode method_10_code 16 = .ok (.ireturn, 1) := by decide +kernel
def rm_Lw_count (mc ms : Nat) : Room := { frames := 7, cells := mc, slots := ms, locals := 131 }
def wp_Lw_count (mc ms : Nat) (L : List Nat) (J : Nat → Int64) (I : UI) (R : UR) (x1 : Int32) (Q : Int32 → (Nat → Int64) → List Nat → UI → UR → Prop) : Prop :=
  (∃ c1 s2 : Nat, (0 + c1 ≤ mc ∧ 0 + s2 ≤ ms) ∧ wp_FF_count c1 s2 L I R x1 (fun r7 L3 I5 R6 => vp_in 0 1 ∧ ∀ J8 : Nat → Int64, J8 = vp_updL J ((0 : Int32).toNatClampNeg) ((r7).toInt64) → Q 0 J8 L3 I5 R6) (fun k => k = 1 ∧ Q 1 J L I R))
set_option maxHeartbeats 4000000 in
set_option maxRecDepth 100000 in
theorem c_Lw_count (l : Launch) (hfl : l.flags = pinnedFlags ++ [noTraceFlag]) (D : va_G) (cc : Nat → ClassId) (L : List Nat) (A : Nat → Nat) (J : Nat → Int64) (t16 t32 : Nat) (mc ms : Nat) (I : UI) (R : UR) (x1 : Int32) (Q : Int32 → (Nat → Int64) → List Nat → UI → UR → Prop) (h : wp_Lw_count mc ms L J I R x1 Q) : uMH l y_Lw_count (.codeWith y_Lw_count method_10_code 4 (some .int) [(0, 9, 12, 13)]) (rm_Lw_count mc ms) mc ms [.ref (A 1), .int x1, .ref (A 0)] D cc L A J t16 t32 I R Q := by
  intro sz
  refine u_entryH (by decide) (Nat.le_of_ble_eq_true rfl) (fun p e s m args below meth c hsz X V hr hlk hh ls hl => ?_)
  have X : uX p s m args c method_10_code 4 "FrameFerryLaw" D cc L A t16 t32 := X
  have hx := X.1
  have hb := X.2.1
  have hl : lv_has ls 4 [(0, .ref (A 1)), (1, .int x1), (2, .ref (A 0))] := hl
  unfold wp_Lw_count at h
  have hE : uEx s.heap.size L A L A := uEx.rf X.2.2.2.2.2.2.1 X.2.2.2.2.2.2.2.1
  have hk : 0 ≤ mc ∧ 0 ≤ ms := ⟨Nat.zero_le _, Nat.zero_le _⟩
  generalize hH : s.heap = H at V ⊢
  generalize hlo : ([] : List Loc) = locs at V ⊢
  refine lv_aload_n (pc := 0) hx hb d_Lw_count_0 rfl (lv_at hl 2 rfl) ?_
  refine lv_iconst (pc := 1) (v := 0) hx hb d_Lw_count_1 (by decide) ?_
  refine lv_aload_n (pc := 2) hx hb d_Lw_count_2 rfl (lv_at hl 0 rfl) ?_
  refine lv_iload_n (pc := 3) hx hb d_Lw_count_3 rfl (lv_at hl 1 rfl) ?_
  obtain ⟨c1, s2, hk1, h⟩ := h
  have X0 := X
  refine u_cX (pc := 4) (As := [.int x1]) X V hE s_Lw_41 (X.fix rfl) rfl rfl rfl (c_FF_count l hfl D cc L A J t16 t32 c1 s2 _ _ x1 _ _ h) ⟨rfl, rfl, (Nat.le_of_ble_eq_true rfl), (Nat.le_of_ble_eq_true rfl)⟩ rfl hl.1 rfl (Nat.le_of_ble_eq_true rfl) d_Lw_count_4 hk1 (fun _ => 12) ?_ (fun r7 L3 A4 I5 R6 h hG hE X H locs V => ?_) (fun k a h H locs V => ?_)
  · intro k a T locs cells slots hq St hx
    obtain ⟨rfl, -⟩ := hq
    exact x_find1 St X.2.2.2.1 (X.2.2.2.2.1 _ q_Lw_13) (X.2.2.2.2.2.2.2.2.2.1 _ (List.mem_of_getElem? (i := 16) rfl)) hh rfl ⟨Nat.zero_le _, Nat.le_of_ble_eq_true rfl⟩ (by decide) hx
  · have hk := hk1
    have hl : lv_has ls 4 [] := lv_sub hl [] rfl
    have ea0 := (hG.2.2.1 0 (X0.fix rfl)).2
    try rw [← ea0] at hl
    try rw [← ea0]
    refine lv_i2l (pc := 7) (v := (r7).toInt64) hx hb d_Lw_count_7 rfl ?_
    refine u_last (pc := 8) X V h.1 d_Lw_count_8 (fun J8 eJ8 H locs V => ?_)
    have h := h.2 J8 eJ8
    refine lv_goto (pc := 9) (tgt := 15) hx hb d_Lw_count_9 (by decide) ?_
    refine lv_iconst (pc := 15) (v := 0) hx hb d_Lw_count_15 (by decide) ?_
    exact u_retH (pc := 16) X V hE hk hr hlk hsz h d_Lw_count_16
  · have hk := hk1
    obtain ⟨rfl, h⟩ := h
    refine lv_astore_n (pc := 12) (lv' := [(3, .ref a), (0, .ref (A 1)), (1, .int x1), (2, .ref (A 0))]) hx hb d_Lw_count_12 rfl hl (by decide) rfl (fun ls hl => ?_)
    refine lv_iconst (pc := 13) (v := 1) hx hb d_Lw_count_13 (by decide) ?_
    exact u_retH (pc := 14) X V hE hk hr hlk hsz h d_Lw_count_14
end G
