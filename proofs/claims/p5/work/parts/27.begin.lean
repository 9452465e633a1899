/-! The law's beginning, written by wip/gen/begin.py. -/
def L00 : List Nat := [1, 2, 4, 5, 8, 9, 12, 13, 14, 18, 3, 6, 7, 19, 10, 11, 15, 16, 17, 80, 81, 82, 83, 84, 85, 86, 87, 88, 89, 90, 91, 94, 95, 96, 102, 103, 104, 108, 110, 0]
def ix00 (o : Nat) : Nat := match o with
  | 1 => 0
  | 2 => 1
  | 4 => 2
  | 5 => 3
  | 8 => 4
  | 9 => 5
  | 12 => 6
  | 13 => 7
  | 14 => 8
  | 18 => 9
  | 3 => 10
  | 6 => 11
  | 7 => 12
  | 19 => 13
  | 10 => 14
  | 11 => 15
  | 15 => 16
  | 16 => 17
  | 17 => 18
  | 80 => 19
  | 81 => 20
  | 82 => 21
  | 83 => 22
  | 84 => 23
  | 85 => 24
  | 86 => 25
  | 87 => 26
  | 88 => 27
  | 89 => 28
  | 90 => 29
  | 91 => 30
  | 94 => 31
  | 95 => 32
  | 96 => 33
  | 102 => 34
  | 103 => 35
  | 104 => 36
  | 108 => 37
  | 110 => 38
  | _ => 39
def A00 (q : List Nat) : Nat → Nat := fun o => q.getD (ix00 o) 0
def I00 : UI := fun o => match o with
  | 2 => fun k => match k with | 2 => 5 | 8 => 32 | _ => 0
  | 3 => fun k => match k with | 3 => 1 | _ => 0
  | 80 => fun k => match k with | 12 => 32 | 17 => 5 | 25 => -1 | 27 => 1 | _ => 0
  | _ => fun _ => 0
def R00 : UR := fun _ _ => none
theorem fix00 : uFix L00 := ⟨by decide +kernel, fun o h => by
  by_cases hb : o < 112
  · have key : ∀ o, o < 112 → fixd o = true → o ∈ L00 := by decide +kernel
    exact key o hb h
  · have : fixd o = false := by simp [fixd, show ¬ o < 20 by omega, show ¬ o < 112 by omega]
    rw [this] at h; cases h⟩
set_option maxRecDepth 100000 in
set_option maxHeartbeats 4000000 in
theorem w00 (cc : Nat → ClassId) (q0 q1 q2 q3 q4 q5 q6 q7 q8 q9 q10 q11 q12 q13 q14 q15 q16 q17 q18 q19 q20 q21 q22 q23 q24 q25 q26 q27 q28 q29 q30 q31 q32 q33 q34 q35 q36 q37 q38 q39 : Nat) : uW cc L00 (A00 [q0, q1, q2, q3, q4, q5, q6, q7, q8, q9, q10, q11, q12, q13, q14, q15, q16, q17, q18, q19, q20, q21, q22, q23, q24, q25, q26, q27, q28, q29, q30, q31, q32, q33, q34, q35, q36, q37, q38, q39]) (fun _ => 0) I00 R00 = [(q0, .inr (7, [.ref q1, .ref q10])), (q1, .inr (4, [.ref q2, .int 0, .int 5, .int 0, .ref q4, .ref q6, .ref q9, .int 0, .int 32, .int 0, .int 0])), (q2, .inr (1, [.ref q3, .int 0, .int 0])), (q3, .inl (cc 0, 3000, .inl (fun _ => 0))), (q4, .inr (6, [.ref q5, .int 0])), (q5, .inr (0, [.int 0, .int 0])), (q6, .inr (2, [.ref q7, .int 0, .int 0, .int 0, .int 0, .int 0, .ref q8, .int 0, .int 0, .int 0, .int 0, .int 0, .int 0, .int 0])), (q7, .inl (cc 0, 64, .inl (fun _ => 0))), (q8, .inr (0, [.int 0, .int 0])), (q9, .inl (cc 3, 4, .inr (.inr (.inr (.inr (fun _ => none)))))), (q10, .inr (3, [.ref q11, .ref q13, .null, .int 1, .int 0, .int 0, .int 0, .int 0, .ref q14, .ref q16, .int 0, .int 0])), (q11, .inr (1, [.ref q12, .int 0, .int 0])), (q12, .inl (cc 0, 3000, .inl (fun _ => 0))), (q13, .inl (cc 3, 26, .inr (.inr (.inr (.inr (fun _ => none)))))), (q14, .inr (6, [.ref q15, .int 0])), (q15, .inr (0, [.int 0, .int 0])), (q16, .inr (2, [.ref q17, .int 0, .int 0, .int 0, .int 0, .int 0, .ref q18, .int 0, .int 0, .int 0, .int 0, .int 0, .int 0, .int 0])), (q17, .inl (cc 0, 64, .inl (fun _ => 0))), (q18, .inr (0, [.int 0, .int 0])), (q19, .inr (8, [.int 0, .ref q20, .ref q21, .ref q22, .ref q23, .ref q24, .ref q25, .ref q26, .ref q27, .ref q28, .ref q29, .ref q30, .int 32, .int 0, .ref q31, .ref q32, .ref q33, .int 5, .int 0, .int 0, .int 0, .int 0, .ref q34, .ref q35, .ref q36, .int (-1), .int 0, .int 1, .ref q37, .int 0, .ref q38, .int 0])), (q20, .inl (cc 1, 6000, .inl (fun _ => 0))), (q21, .inl (cc 1, 2, .inl (fun _ => 0))), (q22, .inl (cc 1, 2, .inl (fun _ => 0))), (q23, .inl (cc 1, 2, .inl (fun _ => 0))), (q24, .inl (cc 1, 2, .inl (fun _ => 0))), (q25, .inl (cc 2, 2, .inl (fun _ => 0))), (q26, .inl (cc 1, 2, .inl (fun _ => 0))), (q27, .inl (cc 1, 160, .inl (fun _ => 0))), (q28, .inl (cc 1, 2, .inl (fun _ => 0))), (q29, .inl (cc 1, 2, .inl (fun _ => 0))), (q30, .inl (cc 1, 2, .inl (fun _ => 0))), (q31, .inl (cc 1, 4, .inl (fun _ => 0))), (q32, .inl (cc 1, 4, .inl (fun _ => 0))), (q33, .inl (cc 1, 1200, .inl (fun _ => 0))), (q34, .inl (cc 2, 26, .inl (fun _ => 0))), (q35, .inl (cc 1, 26, .inl (fun _ => 0))), (q36, .inl (cc 1, 7800, .inl (fun _ => 0))), (q37, .inl (cc 1, 4, .inl (fun _ => 0))), (q38, .inl (cc 1, 160, .inl (fun _ => 0))), (q39, .inl (cc 4, 1, .inr (.inl (fun _ => 0))))] := rfl
theorem uD_of {P : Nat → Prop} {L : List Nat} {A : Nat → Nat} {E : Nat → va_E} (h : va_D P (gW L A E)) : uD L A := fun o ho o' ho' e => by
  obtain ⟨i, hi, hw⟩ := gW_at (A := A) (E := E) ho
  obtain ⟨j, hj, hw'⟩ := gW_at (A := A) (E := E) ho'
  have := h.1 i j _ _ hw hw' e
  subst this
  exact Option.some.inj (hi.symm.trans hj)
theorem uY_of {sz : Nat} {L : List Nat} {A : Nat → Nat} {E : Nat → va_E} (h : va_D (va_A [] sz) (gW L A E)) : ∀ o, o ∈ L → sz ≤ A o := fun o ho => by
  obtain ⟨i, hi, hw⟩ := gW_at (A := A) (E := E) ho
  rcases h.2 i _ hw with ⟨k, e, hk⟩ | h1
  · simp at hk
  · exact h1
theorem uZ_of {C n d : String} {P : Nat → Prop} {s : State} {args : Array Value} (hl : (Cond.laysStatic C n d).before args s = true) (hr : (Cond.isRef (.static C n d)).before args s = true) (hA : ∀ a : Nat, a < s.heap.size → ¬ P a) : uZ C n d P s s.heap := by
  obtain ⟨c, k, i, f, a, cell, hc, hi, hst, ha, hcell, hs, hcls, hlt, hty⟩ := Cond.laysStatic_spec hl
  obtain ⟨v, hv, hvr⟩ := Cond.isRef_spec hr
  obtain ⟨hst', a', cell', ha', hcell', -, hslot⟩ := Term.static_spec hi hv
  cases ha.symm.trans ha'
  cases hcell.symm.trans hcell'
  refine ⟨c, k, i, f, a, cell, v, hc, hi, hst, ha, hcell, hs, hcls, hlt, hty, ⟨hslot, ?_⟩, hA a (Array.getElem?_eq_some_iff.mp hcell).1⟩
  cases v <;> first | (exact Or.inl rfl) | (exact Or.inr ⟨_, rfl⟩) | (cases hvr)
set_option maxRecDepth 100000 in
theorem nw_in : ∀ w ∈ nw, w ∈ lw_tbl := List.forall_mem_cons.mpr ⟨List.mem_append_right _ (List.mem_of_getElem? (i := 27) (by decide +kernel)), List.forall_mem_cons.mpr ⟨List.mem_append_right _ (List.mem_of_getElem? (i := 33) (by decide +kernel)), List.forall_mem_cons.mpr ⟨List.mem_append_right _ (List.mem_of_getElem? (i := 54) (by decide +kernel)), List.forall_mem_cons.mpr ⟨List.mem_append_right _ (List.mem_of_getElem? (i := 60) (by decide +kernel)), List.forall_mem_cons.mpr ⟨List.mem_append_right _ (List.mem_of_getElem? (i := 80) (by decide +kernel)), List.forall_mem_cons.mpr ⟨List.mem_append_right _ (List.mem_of_getElem? (i := 85) (by decide +kernel)), List.forall_mem_cons.mpr ⟨List.mem_append_right _ (List.mem_of_getElem? (i := 179) (by decide +kernel)), List.forall_mem_cons.mpr ⟨List.mem_append_right _ (List.mem_of_getElem? (i := 184) (by decide +kernel)), List.forall_mem_cons.mpr ⟨List.mem_append_right _ (List.mem_of_getElem? (i := 187) (by decide +kernel)), List.forall_mem_cons.mpr ⟨List.mem_append_right _ (List.mem_of_getElem? (i := 189) (by decide +kernel)), List.forall_mem_cons.mpr ⟨List.mem_append_right _ (List.mem_of_getElem? (i := 452) (by decide +kernel)), List.forall_mem_cons.mpr ⟨List.mem_append_right _ (List.mem_of_getElem? (i := 456) (by decide +kernel)), List.forall_mem_cons.mpr ⟨List.mem_append_right _ (List.mem_of_getElem? (i := 618) (by decide +kernel)), List.forall_mem_cons.mpr ⟨List.mem_append_right _ (List.mem_of_getElem? (i := 540) (by decide +kernel)), List.forall_mem_cons.mpr ⟨List.mem_append_right _ (List.mem_of_getElem? (i := 542) (by decide +kernel)), List.forall_mem_cons.mpr ⟨List.mem_append_right _ (List.mem_of_getElem? (i := 544) (by decide +kernel)), List.forall_mem_cons.mpr ⟨List.mem_append_right _ (List.mem_of_getElem? (i := 539) (by decide +kernel)), List.forall_mem_cons.mpr ⟨List.mem_append_right _ (List.mem_of_getElem? (i := 601) (by decide +kernel)), fun _ h => absurd h List.not_mem_nil⟩⟩⟩⟩⟩⟩⟩⟩⟩⟩⟩⟩⟩⟩⟩⟩⟩⟩
set_option maxRecDepth 100000 in
theorem tw_16 : Cond.laysStatic "FrameFerry$Check" "STEPS_16" "[I" ∈ lw_tbl := List.mem_append_right _ (List.mem_of_getElem? (i := 301) (by decide +kernel))
set_option maxRecDepth 100000 in
theorem tw_32 : Cond.laysStatic "FrameFerry$Check" "STEPS_32" "[I" ∈ lw_tbl := List.mem_append_right _ (List.mem_of_getElem? (i := 298) (by decide +kernel))
set_option maxRecDepth 100000 in
theorem tw_ck : Cond.initialized "FrameFerry$Check" ∈ lw_tbl := List.mem_append_right _ (List.mem_of_getElem? (i := 5) (by decide +kernel))
set_option maxRecDepth 100000 in
theorem tw_us : Cond.laysStatic "java/lang/Throwable" "UNASSIGNED_STACK" "[Ljava/lang/StackTraceElement;" ∈ lw_tbl := List.mem_append_right _ (List.mem_of_getElem? (i := 564) (by decide +kernel))
set_option maxRecDepth 100000 in
theorem tw_ss : Cond.laysStatic "java/lang/Throwable" "SUPPRESSED_SENTINEL" "Ljava/util/List;" ∈ lw_tbl := List.mem_append_right _ (List.mem_of_getElem? (i := 566) (by decide +kernel))
set_option maxRecDepth 100000 in
theorem tw_b : Cond.arrayClass .byte ∈ lw_tbl := List.mem_append_right _ (List.mem_of_getElem? (i := 51) (by decide +kernel))
set_option maxRecDepth 100000 in
theorem tw_i : Cond.arrayClass .int ∈ lw_tbl := List.mem_append_right _ (List.mem_of_getElem? (i := 797) (by decide +kernel))
set_option maxRecDepth 100000 in
theorem tw_z : Cond.arrayClass .boolean ∈ lw_tbl := List.mem_append_right _ (List.mem_of_getElem? (i := 798) (by decide +kernel))
set_option maxRecDepth 100000 in
theorem tw_j : Cond.arrayClass .long ∈ lw_tbl := List.mem_append_right _ (List.mem_of_getElem? (i := 984) (by decide +kernel))
set_option maxRecDepth 100000 in
theorem tw_o : Cond.arrayOver (.object "FrameFerry$StoredFile") ∈ lw_tbl := List.mem_append_right _ (List.mem_of_getElem? (i := 138) (by decide +kernel))
set_option maxRecDepth 100000 in
theorem tw_nCk : Cond.instantiable "FrameFerry$Check" 2 ∈ lw_tbl := List.mem_append_right _ (List.mem_of_getElem? (i := 59) (by decide +kernel))
set_option maxRecDepth 100000 in
theorem tw_nPi : Cond.instantiable "FrameFerry$Pipe" 3 ∈ lw_tbl := List.mem_append_right _ (List.mem_of_getElem? (i := 32) (by decide +kernel))
set_option maxRecDepth 100000 in
theorem tw_nRd : Cond.instantiable "FrameFerry$Reader" 14 ∈ lw_tbl := List.mem_append_right _ (List.mem_of_getElem? (i := 79) (by decide +kernel))
set_option maxRecDepth 100000 in
theorem tw_nRc : Cond.instantiable "FrameFerry$Receiver" 12 ∈ lw_tbl := List.mem_append_right _ (List.mem_of_getElem? (i := 178) (by decide +kernel))
set_option maxRecDepth 100000 in
theorem tw_nSe : Cond.instantiable "FrameFerry$Sender" 11 ∈ lw_tbl := List.mem_append_right _ (List.mem_of_getElem? (i := 26) (by decide +kernel))
set_option maxRecDepth 100000 in
theorem tw_nSf : Cond.instantiable "FrameFerry$StoredFile" 3 ∈ lw_tbl := List.mem_append_right _ (List.mem_of_getElem? (i := 455) (by decide +kernel))
set_option maxRecDepth 100000 in
theorem tw_nWr : Cond.instantiable "FrameFerry$Writer" 2 ∈ lw_tbl := List.mem_append_right _ (List.mem_of_getElem? (i := 53) (by decide +kernel))
set_option maxRecDepth 100000 in
theorem tw_nFF : Cond.instantiable "FrameFerry" 2 ∈ lw_tbl := List.mem_append_right _ (List.mem_of_getElem? (i := 18) (by decide +kernel))
set_option maxRecDepth 100000 in
theorem tw_nMo : Cond.instantiable "FrameFerryModel" 32 ∈ lw_tbl := List.mem_append_right _ (List.mem_of_getElem? (i := 695) (by decide +kernel))
theorem tb_hts {s : State} {args : Array Value} (h : ∀ w ∈ lw_tbl, w.before args s = true) : ∀ w ∈ tb, w.before args s = true := fun w hw => h w (List.mem_filter.mp hw).1
theorem begin_D {s : State} {args : Array Value} (h : ∀ w ∈ lw_tbl, w.before args s = true) : ∃ D : va_G, ∀ (c : Nat) (q : vw_C), cls[c]? = some q → u_Kn s q.1 q.2.1 q.2.2 (D.1 c) (D.2 c) := by
  have ht := tb_hts h
  have hD : ∀ c : Nat, ∃ r : ClassId × (Nat → Nat), ∀ q : vw_C, cls[c]? = some q → u_Kn s q.1 q.2.1 q.2.2 r.1 r.2 := by
    intro c
    rcases c with _ | _ | _ | _ | _ | _ | _ | _ | _ | c
    · obtain ⟨cC, iS, h1⟩ := u_known (ws := tb) ht l_Ck (h _ tw_nCk)
      exact ⟨(cC, iS), fun q hq => by cases hq; exact h1⟩
    · obtain ⟨cC, iS, h1⟩ := u_known (ws := tb) ht l_Pi (h _ tw_nPi)
      exact ⟨(cC, iS), fun q hq => by cases hq; exact h1⟩
    · obtain ⟨cC, iS, h1⟩ := u_known (ws := tb) ht l_Rd (h _ tw_nRd)
      exact ⟨(cC, iS), fun q hq => by cases hq; exact h1⟩
    · obtain ⟨cC, iS, h1⟩ := u_known (ws := tb) ht l_Rc (h _ tw_nRc)
      exact ⟨(cC, iS), fun q hq => by cases hq; exact h1⟩
    · obtain ⟨cC, iS, h1⟩ := u_known (ws := tb) ht l_Se (h _ tw_nSe)
      exact ⟨(cC, iS), fun q hq => by cases hq; exact h1⟩
    · obtain ⟨cC, iS, h1⟩ := u_known (ws := tb) ht l_Sf (h _ tw_nSf)
      exact ⟨(cC, iS), fun q hq => by cases hq; exact h1⟩
    · obtain ⟨cC, iS, h1⟩ := u_known (ws := tb) ht l_Wr (h _ tw_nWr)
      exact ⟨(cC, iS), fun q hq => by cases hq; exact h1⟩
    · obtain ⟨cC, iS, h1⟩ := u_known (ws := tb) ht l_FF (h _ tw_nFF)
      exact ⟨(cC, iS), fun q hq => by cases hq; exact h1⟩
    · obtain ⟨cC, iS, h1⟩ := u_known (ws := tb) ht l_Mo (h _ tw_nMo)
      exact ⟨(cC, iS), fun q hq => by cases hq; exact h1⟩
    · exact ⟨(default, fun _ => 0), fun q hq => by cases hq⟩
  exact ⟨(fun c => (Classical.choose (hD c)).1, fun c => (Classical.choose (hD c)).2), fun c q hq => Classical.choose_spec (hD c) q hq⟩
theorem begin_a {s : State} {args : Array Value} {ty : FieldType} (h : (Cond.arrayClass ty).before args s = true) : ∃ cA : ClassId, ArrOfT s cA ty ∧ s.vm.findClass ("[" ++ ty.toString) = some cA := by
  obtain ⟨cA, kA, comp, h1, h2, h3⟩ := Cond.arrayClass_spec h
  exact ⟨cA, fun n z => ⟨fun k h => (by cases h), kA, h2, comp, h3⟩, h1⟩
theorem begin_cc {s : State} {args : Array Value} (h : ∀ w ∈ lw_tbl, w.before args s = true) : ∃ cc : Nat → ClassId, ∀ (k : Nat) (q : ClassId × FieldType), (tys cc)[k]? = some q → ArrOfT s q.1 q.2 ∧ va_RA s q.1 q.2 := by
  obtain ⟨cB, b1, b2⟩ := begin_a (h _ tw_b)
  obtain ⟨cI, i1, i2⟩ := begin_a (h _ tw_i)
  obtain ⟨cZ, z1, z2⟩ := begin_a (h _ tw_z)
  obtain ⟨cJ, j1, j2⟩ := begin_a (h _ tw_j)
  obtain ⟨comp, cO, kO, o1, -, o3, o4, o5⟩ := Cond.arrayOver_spec (h _ tw_o)
  refine ⟨fun k => match k with | 0 => cB | 1 => cI | 2 => cZ | 3 => cO | _ => cJ, fun k q hq => ?_⟩
  rcases k with _ | _ | _ | _ | _ | k
  · cases hq; exact ⟨b1, b2⟩
  · cases hq; exact ⟨i1, i2⟩
  · cases hq; exact ⟨z1, z2⟩
  · cases hq; exact ⟨fun n z => ⟨fun k h => (by cases h), kO, o3, comp, o4⟩, kO, comp, o3, o4, o1, o5⟩
  · cases hq; exact ⟨j1, j2⟩
  · cases hq
set_option maxRecDepth 100000 in
theorem begin_16 {s : State} {args : Array Value} {P : Nat → Prop} (h : ∀ w ∈ lw_tbl, w.before args s = true) (hq : (Jvm.Cond.and given_1 narrow_1).before args s = true) (hA : ∀ a : Nat, a < s.heap.size → ¬ P a) : ∃ t : Nat, va_Z "FrameFerry$Check" "STEPS_16" "[I" (.ref t) P s s.heap ∧ va_T .int t 16 (fun j => .int (s16 j)) P s s.heap := by
  have hs := flat_of_before _ hq
  have hel : ∀ j : Nat, j < 16 → (Term.elem (.static "FrameFerry$Check" "STEPS_16" "[I") (.int (Int32.ofNat j))).eval args s none [] s = some (.int (s16 j)) := by
    intro j hj
    rcases (show j = 0 ∨ j = 1 ∨ j = 2 ∨ j = 3 ∨ j = 4 ∨ j = 5 ∨ j = 6 ∨ j = 7 ∨ j = 8 ∨ j = 9 ∨ j = 10 ∨ j = 11 ∨ j = 12 ∨ j = 13 ∨ j = 14 ∨ j = 15 by omega) with rfl | rfl | rfl | rfl | rfl | rfl | rfl | rfl | rfl | rfl | rfl | rfl | rfl | rfl | rfl | rfl
    · exact va_eqt (hs (Cond.eq (.elem (.static "FrameFerry$Check" "STEPS_16" "[I") (.int 0)) (.int 0)) (by decide +kernel))
    · exact va_eqt (hs (Cond.eq (.elem (.static "FrameFerry$Check" "STEPS_16" "[I") (.int 1)) (.int 4129)) (by decide +kernel))
    · exact va_eqt (hs (Cond.eq (.elem (.static "FrameFerry$Check" "STEPS_16" "[I") (.int 2)) (.int 8258)) (by decide +kernel))
    · exact va_eqt (hs (Cond.eq (.elem (.static "FrameFerry$Check" "STEPS_16" "[I") (.int 3)) (.int 12387)) (by decide +kernel))
    · exact va_eqt (hs (Cond.eq (.elem (.static "FrameFerry$Check" "STEPS_16" "[I") (.int 4)) (.int 16516)) (by decide +kernel))
    · exact va_eqt (hs (Cond.eq (.elem (.static "FrameFerry$Check" "STEPS_16" "[I") (.int 5)) (.int 20645)) (by decide +kernel))
    · exact va_eqt (hs (Cond.eq (.elem (.static "FrameFerry$Check" "STEPS_16" "[I") (.int 6)) (.int 24774)) (by decide +kernel))
    · exact va_eqt (hs (Cond.eq (.elem (.static "FrameFerry$Check" "STEPS_16" "[I") (.int 7)) (.int 28903)) (by decide +kernel))
    · exact va_eqt (hs (Cond.eq (.elem (.static "FrameFerry$Check" "STEPS_16" "[I") (.int 8)) (.int 33032)) (by decide +kernel))
    · exact va_eqt (hs (Cond.eq (.elem (.static "FrameFerry$Check" "STEPS_16" "[I") (.int 9)) (.int 37161)) (by decide +kernel))
    · exact va_eqt (hs (Cond.eq (.elem (.static "FrameFerry$Check" "STEPS_16" "[I") (.int 10)) (.int 41290)) (by decide +kernel))
    · exact va_eqt (hs (Cond.eq (.elem (.static "FrameFerry$Check" "STEPS_16" "[I") (.int 11)) (.int 45419)) (by decide +kernel))
    · exact va_eqt (hs (Cond.eq (.elem (.static "FrameFerry$Check" "STEPS_16" "[I") (.int 12)) (.int 49548)) (by decide +kernel))
    · exact va_eqt (hs (Cond.eq (.elem (.static "FrameFerry$Check" "STEPS_16" "[I") (.int 13)) (.int 53677)) (by decide +kernel))
    · exact va_eqt (hs (Cond.eq (.elem (.static "FrameFerry$Check" "STEPS_16" "[I") (.int 14)) (.int 57806)) (by decide +kernel))
    · exact va_eqt (hs (Cond.eq (.elem (.static "FrameFerry$Check" "STEPS_16" "[I") (.int 15)) (.int 61935)) (by decide +kernel))
  obtain ⟨t, ht, hT⟩ := va_Tof (tm := (.static "FrameFerry$Check" "STEPS_16" "[I")) (N := 16) (f := fun j => .int (s16 j)) (A := P) (by decide) (hs (Cond.arrayOf (.static "FrameFerry$Check" "STEPS_16" "[I") .int) (by decide +kernel)) (va_eqt (hs (Cond.eq (.length (.static "FrameFerry$Check" "STEPS_16" "[I")) (.int 16)) (by decide +kernel))) hel hA
  exact ⟨t, va_Zref (h _ tw_16) (h _ tw_ck) ht hA, hT⟩
set_option maxRecDepth 100000 in
theorem begin_32 {s : State} {args : Array Value} {P : Nat → Prop} (h : ∀ w ∈ lw_tbl, w.before args s = true) (hq : (Jvm.Cond.and given_1 narrow_1).before args s = true) (hA : ∀ a : Nat, a < s.heap.size → ¬ P a) : ∃ t : Nat, va_Z "FrameFerry$Check" "STEPS_32" "[I" (.ref t) P s s.heap ∧ va_T .int t 16 (fun j => .int (s32 j)) P s s.heap := by
  have hs := flat_of_before _ hq
  have hel : ∀ j : Nat, j < 16 → (Term.elem (.static "FrameFerry$Check" "STEPS_32" "[I") (.int (Int32.ofNat j))).eval args s none [] s = some (.int (s32 j)) := by
    intro j hj
    rcases (show j = 0 ∨ j = 1 ∨ j = 2 ∨ j = 3 ∨ j = 4 ∨ j = 5 ∨ j = 6 ∨ j = 7 ∨ j = 8 ∨ j = 9 ∨ j = 10 ∨ j = 11 ∨ j = 12 ∨ j = 13 ∨ j = 14 ∨ j = 15 by omega) with rfl | rfl | rfl | rfl | rfl | rfl | rfl | rfl | rfl | rfl | rfl | rfl | rfl | rfl | rfl | rfl
    · exact va_eqt (hs (Cond.eq (.elem (.static "FrameFerry$Check" "STEPS_32" "[I") (.int 0)) (.int 0)) (by decide +kernel))
    · exact va_eqt (hs (Cond.eq (.elem (.static "FrameFerry$Check" "STEPS_32" "[I") (.int 1)) (.int 498536548)) (by decide +kernel))
    · exact va_eqt (hs (Cond.eq (.elem (.static "FrameFerry$Check" "STEPS_32" "[I") (.int 2)) (.int 997073096)) (by decide +kernel))
    · exact va_eqt (hs (Cond.eq (.elem (.static "FrameFerry$Check" "STEPS_32" "[I") (.int 3)) (.int 651767980)) (by decide +kernel))
    · exact va_eqt (hs (Cond.eq (.elem (.static "FrameFerry$Check" "STEPS_32" "[I") (.int 4)) (.int 1994146192)) (by decide +kernel))
    · exact va_eqt (hs (Cond.eq (.elem (.static "FrameFerry$Check" "STEPS_32" "[I") (.int 5)) (.int 1802195444)) (by decide +kernel))
    · exact va_eqt (hs (Cond.eq (.elem (.static "FrameFerry$Check" "STEPS_32" "[I") (.int 6)) (.int 1303535960)) (by decide +kernel))
    · exact va_eqt (hs (Cond.eq (.elem (.static "FrameFerry$Check" "STEPS_32" "[I") (.int 7)) (.int 1342533948)) (by decide +kernel))
    · exact va_eqt (hs (Cond.eq (.elem (.static "FrameFerry$Check" "STEPS_32" "[I") (.int 8)) (.int (-306674912))) (by decide +kernel))
    · exact va_eqt (hs (Cond.eq (.elem (.static "FrameFerry$Check" "STEPS_32" "[I") (.int 9)) (.int (-267414716))) (by decide +kernel))
    · exact va_eqt (hs (Cond.eq (.elem (.static "FrameFerry$Check" "STEPS_32" "[I") (.int 10)) (.int (-690576408))) (by decide +kernel))
    · exact va_eqt (hs (Cond.eq (.elem (.static "FrameFerry$Check" "STEPS_32" "[I") (.int 11)) (.int (-882789492))) (by decide +kernel))
    · exact va_eqt (hs (Cond.eq (.elem (.static "FrameFerry$Check" "STEPS_32" "[I") (.int 12)) (.int (-1687895376))) (by decide +kernel))
    · exact va_eqt (hs (Cond.eq (.elem (.static "FrameFerry$Check" "STEPS_32" "[I") (.int 13)) (.int (-2032938284))) (by decide +kernel))
    · exact va_eqt (hs (Cond.eq (.elem (.static "FrameFerry$Check" "STEPS_32" "[I") (.int 14)) (.int (-1609899400))) (by decide +kernel))
    · exact va_eqt (hs (Cond.eq (.elem (.static "FrameFerry$Check" "STEPS_32" "[I") (.int 15)) (.int (-1111625188))) (by decide +kernel))
  obtain ⟨t, ht, hT⟩ := va_Tof (tm := (.static "FrameFerry$Check" "STEPS_32" "[I")) (N := 16) (f := fun j => .int (s32 j)) (A := P) (by decide) (hs (Cond.arrayOf (.static "FrameFerry$Check" "STEPS_32" "[I") .int) (by decide +kernel)) (va_eqt (hs (Cond.eq (.length (.static "FrameFerry$Check" "STEPS_32" "[I")) (.int 16)) (by decide +kernel))) hel hA
  exact ⟨t, va_Zref (h _ tw_32) (h _ tw_ck) ht hA, hT⟩
set_option maxRecDepth 100000 in
theorem begin_T {s : State} {args : Array Value} {P : Nat → Prop} (h : ∀ w ∈ lw_tbl, w.before args s = true) (hq : (Jvm.Cond.and given_1 narrow_1).before args s = true) (hA : ∀ a : Nat, a < s.heap.size → ¬ P a) : ∃ t16 t32 : Nat, uT t16 t32 P s s.heap := by
  have hs := flat_of_before _ hq
  obtain ⟨t16, a1, a2⟩ := begin_16 (P := P) h hq hA
  obtain ⟨t32, b1, b2⟩ := begin_32 (P := P) h hq hA
  refine ⟨t16, t32, ⟨⟨a1, a2⟩, b1, b2⟩, fun w hw => ?_, uZ_of (h _ tw_us) (hs _ (by decide +kernel)) hA, uZ_of (h _ tw_ss) (hs _ (by decide +kernel)) hA, va_AO.of (h _ tw_o), va_Nc.of (hs (Cond.not (.castable "java/lang/IllegalStateException" "java/lang/IllegalArgumentException")) (by decide +kernel))⟩
  have h2 := nw_all w hw
  have h3 := h w (nw_in w hw)
  cases w <;> first | (exact va_Nw.of rfl h3) | (exact absurd h2 id)
section K
variable {p : Program} {l : Launch} {e : Env} {Rm : Room} {s : State} {m : MethodId} {args : Array Value} {below : List Frame} {meth : Method} {c : Code} {H : Heap} {locs : List Loc} {cells slots : Nat} {Q : State → Prop}
variable {cb : ByteArray} {pc nL : Nat} {ls : Array Slot} {rest st : List Value} {own : String} {D : va_G} {cc : Nat → ClassId} {ws0 ws : va_W}
theorem k_initP (X : kX p s m args c cb nL own D cc) {wr : va_W} {q : Nat} {e0 : va_E} (V : kV s D ws0 (wr ++ [(q, e0)]) H locs) {index maxL mc ms : Nat} {y : MethodName} {bytes : ByteArray} {rm : Room} {Q0 : va_W → Prop} (S : uCs own index y 0 (.code y bytes maxL none) ∧ Cond.instanceMethod y ∈ tb ∧ y.name = "<init>")
    (hM : kMv l y (.code y bytes maxL none) rm mc ms q D cc [(q, e0)] Q0) (hrm : rm.cells = mc ∧ rm.slots = ms ∧ rm.frames + 1 ≤ Rm.frames ∧ 8 + (maxL + 11) + rm.locals ≤ Rm.locals) (hls : ls.size = nL) (hw : (rest.map fun v => v.category).sum ≤ 8) (hdg : decode cb pc = .ok (.invokespecial index, 3)) (hcs : cells + mc ≤ Rm.cells ∧ slots + ms ≤ Rm.slots)
    (kk : ∀ u : va_W, Q0 u → ∀ (H : Heap) (locs : List Loc), kV s D ws0 (wr ++ u) H locs → W p l e Rm s m args below meth c H locs (cells + mc) (slots + ms) Q (F0 m (pc + 3) ls rest)) : W p l e Rm s m args below meth c H locs cells slots Q (F0 m pc ls (.ref q :: rest)) := by
  obtain ⟨hx, hb, hml, hown, hts, hK, hN, hO⟩ := X
  obtain ⟨s1, s2, s5⟩ := S
  have hC : [wr.length].map (fun i => (wr ++ [(q, e0)])[i]?) = [(q, e0)].map some := by simp
  have hPc : va_P D cls [(q, e0)] H := V.1.sub [wr.length] (by simp)
  have hDc : va_D (fun _ => True) [(q, e0)] := (V.2.1.sub [wr.length] rfl hC).weaken (fun _ _ _ _ => trivial)
  have hFc := va_free (wc := [(q, e0)]) V.2.1 V.2.2 va_A_ge [wr.length] hC
  have hB0 : CallB Rm s args own index y bytes maxL none (wS (.code y bytes maxL none)) rm mc ms 0 := by
    refine callB_of (Ts := tb) 0 hts (fun w hw => ?_) rfl hrm.1 hrm.2.1 (hts _ s1.2.1) (hts _ s1.1) s1.2.2.2 ⟨hrm.2.2.1, hrm.2.2.2⟩
    rcases List.mem_cons.mp hw with rfl | hw
    · exact ⟨s1.2.2.1, tb_good s1.2.2.1⟩
    · exact ⟨hw, tb_good hw⟩
  refine va_callv (va_runI (Ts := tb) (As := []) (rest := rest) ⟨hx, hb, hml, hown, hts⟩ (hM H.size) ⟨hB0, s5, hts _ s2⟩ ⟨kPre_blind, fun U hU hW => ⟨rfl, by rw [hU], by rw [hU]; exact hPc, va_K.moved hW.alike hK, hDc, fun w hw => ?_, va_AO.moved hW.alike hO⟩⟩ rfl rfl hls rfl (lv_room hw) hdg hcs) V.2.2 (fun q _ h => hFc q h) hFc (fun u t H1 locs1 ht hvm hq hB hz hke hS1 => ?_)
  · exact nw_warm hW hw (hN w hw)
  · obtain ⟨hP1, hD1⟩ := hB
    rw [ht] at hP1
    obtain ⟨hP2, hD2⟩ := va_join V.1 V.2.1 [wr.length] (List.range wr.length) hC va_rng (va_nd_range _) (fun i hi h2 => by have := List.mem_range.mp hi; simp at h2; omega) hke hFc hP1 hD1
    exact kk u hq H1 locs1 ⟨hP2, hD2, hS1⟩
end K
theorem n_Lw_8 : Cond.classLink "FrameFerryLaw" 8 "FrameFerry" ∈ tb ∧ Cond.instantiable "FrameFerry" 2 ∈ tb ∧ Cond.initialized "FrameFerry" ∈ tb := ⟨tb_of 17 (by decide +kernel) rfl, tb_of 18 (by decide +kernel) rfl, tb_of 1 (by decide +kernel) rfl⟩
theorem n_Lw_45 : Cond.classLink "FrameFerryLaw" 45 "FrameFerryModel" ∈ tb ∧ Cond.instantiable "FrameFerryModel" 32 ∈ tb ∧ Cond.initialized "FrameFerryModel" ∈ tb := ⟨tb_of 694 (by decide +kernel) rfl, tb_of 695 (by decide +kernel) rfl, tb_of 8 (by decide +kernel) rfl⟩
theorem ar_long : Cond.arrayClass (newarray.typeOf .long) ∈ tb := tb_of 984 (by decide +kernel) rfl
theorem i_Lw_44 : uCs "FrameFerryLaw" 44 y_FF_init 0 (.code y_FF_init prog_1_method_1_code 1 none) ∧ Cond.instanceMethod y_FF_init ∈ tb ∧ y_FF_init.name = "<init>" := ⟨⟨tb_of 19 (by decide +kernel) rfl, tb_of 1 (by decide +kernel) rfl, tb_of 21 (by decide +kernel) rfl, by decide +kernel⟩, tb_of 20 (by decide +kernel) rfl, rfl⟩
theorem i_Lw_47 : uCs "FrameFerryLaw" 47 y_Mo_init 0 (.code y_Mo_init prog_10_method_1_code 1 none) ∧ Cond.instanceMethod y_Mo_init ∈ tb ∧ y_Mo_init.name = "<init>" := ⟨⟨tb_of 696 (by decide +kernel) rfl, tb_of 8 (by decide +kernel) rfl, tb_of 698 (by decide +kernel) rfl, by decide +kernel⟩, tb_of 697 (by decide +kernel) rfl, rfl⟩
set_option maxHeartbeats 8000000 in
set_option maxRecDepth 100000 in
theorem law_begin {p : Program} {e : Env} {s : State} {m : MethodId} {below : List Frame} {meth : Method} {c : Code} (l : Launch) (hfl : l.flags = pinnedFlags ++ [noTraceFlag]) {b n : Nat} {xs : Nat → Int32} (hL : n ≤ 3072) (C0 : lw_At p s m meth c b n xs)
    {Inv : Nat → Nat → Nat → List Nat → (Nat → Int64) → UI → UR → Prop} (hstep : ∀ (k kc ks : Nat) (L : List Nat) (J : Nat → Int64) (I : UI) (R : UR) (y0 y1 y2 y3 y4 y5 : Int32), Inv (k + 1) kc ks L J I R → wp_cases kc ks L J I R y0 y1 y2 y3 y4 y5 (Inv k)) (h0 : Inv 512 40 21664 L00 (fun _ => 0) I00 R00) :
    W p l e room_1 s m #[Value.ref b] below meth c s.heap [] 0 0 (lw_Z below #[Value.ref b] s) (entryFrame m ([Value.ref b] : List Value).toArray 7) := by
  obtain ⟨hx, hb, hr, hml, hown, hts, hXs, hbl, hlk, hgv⟩ := C0
  obtain ⟨D, hD⟩ := begin_D hts
  obtain ⟨cc, hcc⟩ := begin_cc hts
  obtain ⟨t16, t32, hT⟩ := begin_T (P := fun q => s.heap.size ≤ q) hts hgv (fun a h => Nat.not_le.mpr h)
  have X : kX p s m #[Value.ref b] c code 7 "FrameFerryLaw" D cc := ⟨hx, hb, hml, hown, tb_hts hts, ⟨hD, hcc⟩, hT.2.1, hT.2.2.2.2.1⟩
  have V : kV s D [] [] s.heap [] := ⟨fun k q h => by simp at h, ⟨fun i j p q h => by simp at h, fun k q h => by simp at h⟩, va_S.rf⟩
  have hl := lv_entry [Value.ref b] (n := 7) (Nat.le_of_ble_eq_true rfl)
  rw [lg_entry_eq]
  generalize ((lg_sl [Value.ref b] ++ List.replicate (7 - (lg_sl [Value.ref b]).length) Slot.unset).toArray) = ls at hl ⊢
  have hl : lv_has ls 7 [(0, .ref b)] := hl
  generalize hH : s.heap = H at V ⊢
  generalize hlo : ([] : List Loc) = locs at V ⊢
  refine k_new (pc := 0) (ci := 7) (fs := [.null, .null]) (C := R_FF) (T := T_FF) (N := 2) X V l_FF ty_FF ty_FF_ok n_Lw_8 rfl (fun j hj => by rcases (show j = 0 ∨ j = 1 by omega) with rfl | rfl <;> rfl) (Nat.le_of_ble_eq_true rfl) (Nat.le_of_ble_eq_true rfl) d_Lw_law_0 (fun q0 H V => ?_)
  refine W.widen (k := 1) (n := 2) (Nat.le_of_ble_eq_true rfl) (Nat.le_of_ble_eq_true rfl) ?_
  have V : kV s D [] [(q0, .inr (7, [.null, .null]))] H locs := V
  refine lv_dup (pc := 3) hx hb d_Lw_law_3 rfl ?_
  refine k_initP (pc := 4) (wr := []) (q := q0) X V i_Lw_44 (c_FF_init l D cc q0) ⟨rfl, rfl, (Nat.le_of_ble_eq_true rfl), (Nat.le_of_ble_eq_true rfl)⟩ hl.1 (Nat.le_of_ble_eq_true rfl) d_Lw_law_4 ⟨(Nat.le_of_ble_eq_true rfl), (Nat.le_of_ble_eq_true rfl)⟩ (fun u hu H locs V => ?_)
  obtain ⟨q1, q2, q3, q4, q5, q6, q7, q8, q9, q10, q11, q12, q13, q14, q15, q16, q17, q18, rfl⟩ := hu
  refine W.widen (k := 19) (n := 6229) (Nat.le_of_ble_eq_true rfl) (Nat.le_of_ble_eq_true rfl) ?_
  have V : kV s D [] [(q0, .inr (7, [.ref q1, .ref q10])), (q1, .inr (4, [.ref q2, .int 0, .int 5, .int 0, .ref q4, .ref q6, .ref q9, .int 0, .int 32, .int 0, .int 0])), (q2, .inr (1, [.ref q3, .int 0, .int 0])), (q3, .inl (cc 0, 3000, .inl (fun _ => 0))), (q4, .inr (6, [.ref q5, .int 0])), (q5, .inr (0, [.int 0, .int 0])), (q6, .inr (2, [.ref q7, .int 0, .int 0, .int 0, .int 0, .int 0, .ref q8, .int 0, .int 0, .int 0, .int 0, .int 0, .int 0, .int 0])), (q7, .inl (cc 0, 64, .inl (fun _ => 0))), (q8, .inr (0, [.int 0, .int 0])), (q9, .inl (cc 3, 4, .inr (.inr (.inr (.inr (fun _ => none)))))), (q10, .inr (3, [.ref q11, .ref q13, .null, .int 1, .int 0, .int 0, .int 0, .int 0, .ref q14, .ref q16, .int 0, .int 0])), (q11, .inr (1, [.ref q12, .int 0, .int 0])), (q12, .inl (cc 0, 3000, .inl (fun _ => 0))), (q13, .inl (cc 3, 26, .inr (.inr (.inr (.inr (fun _ => none)))))), (q14, .inr (6, [.ref q15, .int 0])), (q15, .inr (0, [.int 0, .int 0])), (q16, .inr (2, [.ref q17, .int 0, .int 0, .int 0, .int 0, .int 0, .ref q18, .int 0, .int 0, .int 0, .int 0, .int 0, .int 0, .int 0])), (q17, .inl (cc 0, 64, .inl (fun _ => 0))), (q18, .inr (0, [.int 0, .int 0]))] H locs := V
  refine lv_astore_n (pc := 7) (lv' := [(1, .ref q0), (0, .ref b)]) hx hb d_Lw_law_7 rfl hl (by decide) rfl (fun ls hl => ?_)
  refine k_new (pc := 8) (ci := 8) (fs := [.int 0, .null, .null, .null, .null, .null, .null, .null, .null, .null, .null, .null, .int 0, .int 0, .null, .null, .null, .int 0, .int 0, .int 0, .int 0, .int 0, .null, .null, .null, .int 0, .int 0, .int 0, .null, .int 0, .null, .int 0]) (C := R_Mo) (T := T_Mo) (N := 32) X V l_Mo ty_Mo ty_Mo_ok n_Lw_45 rfl (fun j hj => by rcases (show j = 0 ∨ j = 1 ∨ j = 2 ∨ j = 3 ∨ j = 4 ∨ j = 5 ∨ j = 6 ∨ j = 7 ∨ j = 8 ∨ j = 9 ∨ j = 10 ∨ j = 11 ∨ j = 12 ∨ j = 13 ∨ j = 14 ∨ j = 15 ∨ j = 16 ∨ j = 17 ∨ j = 18 ∨ j = 19 ∨ j = 20 ∨ j = 21 ∨ j = 22 ∨ j = 23 ∨ j = 24 ∨ j = 25 ∨ j = 26 ∨ j = 27 ∨ j = 28 ∨ j = 29 ∨ j = 30 ∨ j = 31 by omega) with rfl | rfl | rfl | rfl | rfl | rfl | rfl | rfl | rfl | rfl | rfl | rfl | rfl | rfl | rfl | rfl | rfl | rfl | rfl | rfl | rfl | rfl | rfl | rfl | rfl | rfl | rfl | rfl | rfl | rfl | rfl | rfl <;> rfl) (Nat.le_of_ble_eq_true rfl) (Nat.le_of_ble_eq_true rfl) d_Lw_law_8 (fun q19 H V => ?_)
  refine W.widen (k := 20) (n := 6261) (Nat.le_of_ble_eq_true rfl) (Nat.le_of_ble_eq_true rfl) ?_
  refine lv_dup (pc := 11) hx hb d_Lw_law_11 rfl ?_
  refine k_initP (pc := 12) (wr := [(q0, .inr (7, [.ref q1, .ref q10])), (q1, .inr (4, [.ref q2, .int 0, .int 5, .int 0, .ref q4, .ref q6, .ref q9, .int 0, .int 32, .int 0, .int 0])), (q2, .inr (1, [.ref q3, .int 0, .int 0])), (q3, .inl (cc 0, 3000, .inl (fun _ => 0))), (q4, .inr (6, [.ref q5, .int 0])), (q5, .inr (0, [.int 0, .int 0])), (q6, .inr (2, [.ref q7, .int 0, .int 0, .int 0, .int 0, .int 0, .ref q8, .int 0, .int 0, .int 0, .int 0, .int 0, .int 0, .int 0])), (q7, .inl (cc 0, 64, .inl (fun _ => 0))), (q8, .inr (0, [.int 0, .int 0])), (q9, .inl (cc 3, 4, .inr (.inr (.inr (.inr (fun _ => none)))))), (q10, .inr (3, [.ref q11, .ref q13, .null, .int 1, .int 0, .int 0, .int 0, .int 0, .ref q14, .ref q16, .int 0, .int 0])), (q11, .inr (1, [.ref q12, .int 0, .int 0])), (q12, .inl (cc 0, 3000, .inl (fun _ => 0))), (q13, .inl (cc 3, 26, .inr (.inr (.inr (.inr (fun _ => none)))))), (q14, .inr (6, [.ref q15, .int 0])), (q15, .inr (0, [.int 0, .int 0])), (q16, .inr (2, [.ref q17, .int 0, .int 0, .int 0, .int 0, .int 0, .ref q18, .int 0, .int 0, .int 0, .int 0, .int 0, .int 0, .int 0])), (q17, .inl (cc 0, 64, .inl (fun _ => 0))), (q18, .inr (0, [.int 0, .int 0]))]) (q := q19) X V i_Lw_47 (c_Mo_init l D cc q19) ⟨rfl, rfl, (Nat.le_of_ble_eq_true rfl), (Nat.le_of_ble_eq_true rfl)⟩ hl.1 (Nat.le_of_ble_eq_true rfl) d_Lw_law_12 ⟨(Nat.le_of_ble_eq_true rfl), (Nat.le_of_ble_eq_true rfl)⟩ (fun u hu H locs V => ?_)
  obtain ⟨q20, q21, q22, q23, q24, q25, q26, q27, q28, q29, q30, q31, q32, q33, q34, q35, q36, q37, q38, rfl⟩ := hu
  refine W.widen (k := 39) (n := 21663) (Nat.le_of_ble_eq_true rfl) (Nat.le_of_ble_eq_true rfl) ?_
  have V : kV s D [] [(q0, .inr (7, [.ref q1, .ref q10])), (q1, .inr (4, [.ref q2, .int 0, .int 5, .int 0, .ref q4, .ref q6, .ref q9, .int 0, .int 32, .int 0, .int 0])), (q2, .inr (1, [.ref q3, .int 0, .int 0])), (q3, .inl (cc 0, 3000, .inl (fun _ => 0))), (q4, .inr (6, [.ref q5, .int 0])), (q5, .inr (0, [.int 0, .int 0])), (q6, .inr (2, [.ref q7, .int 0, .int 0, .int 0, .int 0, .int 0, .ref q8, .int 0, .int 0, .int 0, .int 0, .int 0, .int 0, .int 0])), (q7, .inl (cc 0, 64, .inl (fun _ => 0))), (q8, .inr (0, [.int 0, .int 0])), (q9, .inl (cc 3, 4, .inr (.inr (.inr (.inr (fun _ => none)))))), (q10, .inr (3, [.ref q11, .ref q13, .null, .int 1, .int 0, .int 0, .int 0, .int 0, .ref q14, .ref q16, .int 0, .int 0])), (q11, .inr (1, [.ref q12, .int 0, .int 0])), (q12, .inl (cc 0, 3000, .inl (fun _ => 0))), (q13, .inl (cc 3, 26, .inr (.inr (.inr (.inr (fun _ => none)))))), (q14, .inr (6, [.ref q15, .int 0])), (q15, .inr (0, [.int 0, .int 0])), (q16, .inr (2, [.ref q17, .int 0, .int 0, .int 0, .int 0, .int 0, .ref q18, .int 0, .int 0, .int 0, .int 0, .int 0, .int 0, .int 0])), (q17, .inl (cc 0, 64, .inl (fun _ => 0))), (q18, .inr (0, [.int 0, .int 0])), (q19, .inr (8, [.int 0, .ref q20, .ref q21, .ref q22, .ref q23, .ref q24, .ref q25, .ref q26, .ref q27, .ref q28, .ref q29, .ref q30, .int 32, .int 0, .ref q31, .ref q32, .ref q33, .int 5, .int 0, .int 0, .int 0, .int 0, .ref q34, .ref q35, .ref q36, .int (-1), .int 0, .int 1, .ref q37, .int 0, .ref q38, .int 0])), (q20, .inl (cc 1, 6000, .inl (fun _ => 0))), (q21, .inl (cc 1, 2, .inl (fun _ => 0))), (q22, .inl (cc 1, 2, .inl (fun _ => 0))), (q23, .inl (cc 1, 2, .inl (fun _ => 0))), (q24, .inl (cc 1, 2, .inl (fun _ => 0))), (q25, .inl (cc 2, 2, .inl (fun _ => 0))), (q26, .inl (cc 1, 2, .inl (fun _ => 0))), (q27, .inl (cc 1, 160, .inl (fun _ => 0))), (q28, .inl (cc 1, 2, .inl (fun _ => 0))), (q29, .inl (cc 1, 2, .inl (fun _ => 0))), (q30, .inl (cc 1, 2, .inl (fun _ => 0))), (q31, .inl (cc 1, 4, .inl (fun _ => 0))), (q32, .inl (cc 1, 4, .inl (fun _ => 0))), (q33, .inl (cc 1, 1200, .inl (fun _ => 0))), (q34, .inl (cc 2, 26, .inl (fun _ => 0))), (q35, .inl (cc 1, 26, .inl (fun _ => 0))), (q36, .inl (cc 1, 7800, .inl (fun _ => 0))), (q37, .inl (cc 1, 4, .inl (fun _ => 0))), (q38, .inl (cc 1, 160, .inl (fun _ => 0)))] H locs := V
  refine lv_astore_n (pc := 15) (lv' := [(2, .ref q19), (1, .ref q0), (0, .ref b)]) hx hb d_Lw_law_15 rfl hl (by decide) rfl (fun ls hl => ?_)
  refine lv_iconst (pc := 16) (v := 1) hx hb d_Lw_law_16 (by decide) ?_
  refine k_newa (pc := 17) (a0 := (1, .inr (.inl (fun _ => 0)))) X V 4 rfl (by intro C h; cases h) rfl ar_long (fun _ => rfl) (by decide) rfl (by decide) (Nat.le_of_ble_eq_true rfl) (Nat.le_of_ble_eq_true rfl) d_Lw_law_17 (fun q39 H V => ?_)
  refine W.widen (k := 40) (n := 21664) (Nat.le_of_ble_eq_true rfl) (Nat.le_of_ble_eq_true rfl) ?_
  have V : kV s D [] [(q0, .inr (7, [.ref q1, .ref q10])), (q1, .inr (4, [.ref q2, .int 0, .int 5, .int 0, .ref q4, .ref q6, .ref q9, .int 0, .int 32, .int 0, .int 0])), (q2, .inr (1, [.ref q3, .int 0, .int 0])), (q3, .inl (cc 0, 3000, .inl (fun _ => 0))), (q4, .inr (6, [.ref q5, .int 0])), (q5, .inr (0, [.int 0, .int 0])), (q6, .inr (2, [.ref q7, .int 0, .int 0, .int 0, .int 0, .int 0, .ref q8, .int 0, .int 0, .int 0, .int 0, .int 0, .int 0, .int 0])), (q7, .inl (cc 0, 64, .inl (fun _ => 0))), (q8, .inr (0, [.int 0, .int 0])), (q9, .inl (cc 3, 4, .inr (.inr (.inr (.inr (fun _ => none)))))), (q10, .inr (3, [.ref q11, .ref q13, .null, .int 1, .int 0, .int 0, .int 0, .int 0, .ref q14, .ref q16, .int 0, .int 0])), (q11, .inr (1, [.ref q12, .int 0, .int 0])), (q12, .inl (cc 0, 3000, .inl (fun _ => 0))), (q13, .inl (cc 3, 26, .inr (.inr (.inr (.inr (fun _ => none)))))), (q14, .inr (6, [.ref q15, .int 0])), (q15, .inr (0, [.int 0, .int 0])), (q16, .inr (2, [.ref q17, .int 0, .int 0, .int 0, .int 0, .int 0, .ref q18, .int 0, .int 0, .int 0, .int 0, .int 0, .int 0, .int 0])), (q17, .inl (cc 0, 64, .inl (fun _ => 0))), (q18, .inr (0, [.int 0, .int 0])), (q19, .inr (8, [.int 0, .ref q20, .ref q21, .ref q22, .ref q23, .ref q24, .ref q25, .ref q26, .ref q27, .ref q28, .ref q29, .ref q30, .int 32, .int 0, .ref q31, .ref q32, .ref q33, .int 5, .int 0, .int 0, .int 0, .int 0, .ref q34, .ref q35, .ref q36, .int (-1), .int 0, .int 1, .ref q37, .int 0, .ref q38, .int 0])), (q20, .inl (cc 1, 6000, .inl (fun _ => 0))), (q21, .inl (cc 1, 2, .inl (fun _ => 0))), (q22, .inl (cc 1, 2, .inl (fun _ => 0))), (q23, .inl (cc 1, 2, .inl (fun _ => 0))), (q24, .inl (cc 1, 2, .inl (fun _ => 0))), (q25, .inl (cc 2, 2, .inl (fun _ => 0))), (q26, .inl (cc 1, 2, .inl (fun _ => 0))), (q27, .inl (cc 1, 160, .inl (fun _ => 0))), (q28, .inl (cc 1, 2, .inl (fun _ => 0))), (q29, .inl (cc 1, 2, .inl (fun _ => 0))), (q30, .inl (cc 1, 2, .inl (fun _ => 0))), (q31, .inl (cc 1, 4, .inl (fun _ => 0))), (q32, .inl (cc 1, 4, .inl (fun _ => 0))), (q33, .inl (cc 1, 1200, .inl (fun _ => 0))), (q34, .inl (cc 2, 26, .inl (fun _ => 0))), (q35, .inl (cc 1, 26, .inl (fun _ => 0))), (q36, .inl (cc 1, 7800, .inl (fun _ => 0))), (q37, .inl (cc 1, 4, .inl (fun _ => 0))), (q38, .inl (cc 1, 160, .inl (fun _ => 0))), (q39, .inl (cc 4, 1, .inr (.inl (fun _ => 0))))] H locs := V
  refine lv_astore_n (pc := 19) (lv' := [(3, .ref q39), (2, .ref q19), (1, .ref q0), (0, .ref b)]) hx hb d_Lw_law_19 rfl hl (by decide) rfl (fun ls hl => ?_)
  refine lv_iconst (pc := 20) (v := 0) hx hb d_Lw_law_20 (by decide) ?_
  refine lv_istore (pc := 21) (lv' := [(4, .int 0), (3, .ref q39), (2, .ref q19), (1, .ref q0), (0, .ref b)]) hx hb d_Lw_law_21 hl (by decide) rfl (fun ls hl => ?_)
  obtain ⟨hP, hDi, hS⟩ := V
  rw [← w00 cc q0 q1 q2 q3 q4 q5 q6 q7 q8 q9 q10 q11 q12 q13 q14 q15 q16 q17 q18 q19 q20 q21 q22 q23 q24 q25 q26 q27 q28 q29 q30 q31 q32 q33 q34 q35 q36 q37 q38 q39] at hP hDi
  have hY := uY_of hDi
  have hUD := uD_of hDi
  have hsub : ∀ q, uA L00 (A00 [q0, q1, q2, q3, q4, q5, q6, q7, q8, q9, q10, q11, q12, q13, q14, q15, q16, q17, q18, q19, q20, q21, q22, q23, q24, q25, q26, q27, q28, q29, q30, q31, q32, q33, q34, q35, q36, q37, q38, q39]) s.heap.size q → s.heap.size ≤ q := fun q h => by
    rcases h with ⟨o, ho, rfl⟩ | h
    · exact hY o ho
    · exact h
  have X1 : uX p s m #[Value.ref b] c code 7 "FrameFerryLaw" D cc L00 (A00 [q0, q1, q2, q3, q4, q5, q6, q7, q8, q9, q10, q11, q12, q13, q14, q15, q16, q17, q18, q19, q20, q21, q22, q23, q24, q25, q26, q27, q28, q29, q30, q31, q32, q33, q34, q35, q36, q37, q38, q39]) t16 t32 := ⟨hx, hb, hml, hown, tb_hts hts, ⟨hD, hcc⟩, hUD, fix00, hT.narrow hsub⟩
  have V1 : uV s D cc L00 (A00 [q0, q1, q2, q3, q4, q5, q6, q7, q8, q9, q10, q11, q12, q13, q14, q15, q16, q17, q18, q19, q20, q21, q22, q23, q24, q25, q26, q27, q28, q29, q30, q31, q32, q33, q34, q35, q36, q37, q38, q39]) (fun _ => 0) I00 R00 H locs := ⟨hP, hS.mono (fun q h => by
    rcases h with ⟨k, e, hk⟩ | h
    · simp at hk
    · exact Or.inr h)⟩
  exact law_loop hfl hY hXs hbl hL hr hlk hstep 512 0 40 21664 L00 (A00 [q0, q1, q2, q3, q4, q5, q6, q7, q8, q9, q10, q11, q12, q13, q14, q15, q16, q17, q18, q19, q20, q21, q22, q23, q24, q25, q26, q27, q28, q29, q30, q31, q32, q33, q34, q35, q36, q37, q38, q39]) (fun _ => 0) I00 R00 H locs ls (by decide) (by omega) ⟨by decide, by decide⟩ (uEx.rf hUD fix00) X1 V1 (lv_sub hl [4, 3, 2, 1, 0] rfl) h0
