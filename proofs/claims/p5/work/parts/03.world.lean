/-! The world of the whole system: things by numbers (0 the law's long[], 1 .. 79 the class's, 80 .. 111 the reference's), kinds by numbers, contents by a table of ints and a table of references. -/
abbrev UI : Type := Nat → Nat → Int32
abbrev UR : Type := Nat → Nat → Option Nat
def u2 (I : UI) (o k : Nat) (x : Int32) : UI := va_up I o (upd (I o) k x)
def r2 (R : UR) (o k : Nat) (x : Option Nat) : UR := va_up R o (va_up (R o) k x)
def kd (o : Nat) : Nat :=
  if o < 20 then (match o with
    | 0 => 0 | 1 => 1 | 2 => 2 | 3 => 3 | 4 => 4 | 5 => 5 | 6 => 4 | 7 => 5 | 8 => 6 | 9 => 7 | 10 => 6 | 11 => 7
    | 12 => 8 | 13 => 9 | 14 => 7 | 15 => 8 | 16 => 9 | 17 => 7 | 18 => 10 | _ => 11)
  else if o < 80 then (if o % 2 = 0 then 12 else 13)
  else (match o with
    | 80 => 14 | 86 => 16 | 102 => 16 | _ => 15)
def ln (o : Nat) : Nat := match o with
  | 81 => 6000 | 88 => 160 | 94 => 4 | 95 => 4 | 96 => 1200 | 102 => 26 | 103 => 26 | 104 => 7800 | 108 => 4 | 110 => 160 | _ => 2
/-- the fields of an object: 0 an int, 1 a reference that may change, n + 2 the thing n + 1 places behind -/
def fv (I : Nat → Int32) (R : Nat → Option Nat) (A : Nat → Nat) (o : Nat) : Nat → List Nat → List Value
  | _, [] => []
  | k, e :: l => (match e with | 0 => .int (I k) | 1 => va_rf ((R k).map A) | n + 2 => .ref (A (o + (n + 1)))) :: fv I R A o (k + 1) l
/-- a kind's class (its place in cls) and fields -/
def lay (κ : Nat) : Nat × List Nat := match κ with
  | 1 => (7, [2, 3])
  | 2 => (4, [3, 0, 0, 0, 7, 11, 17, 0, 0, 0, 0])
  | 3 => (3, [4, 17, 1, 0, 0, 0, 0, 0, 8, 13, 0, 0])
  | 4 => (1, [2, 0, 0])
  | 6 => (6, [2, 0])
  | 7 => (0, [0, 0])
  | 8 => (2, [2, 0, 0, 0, 0, 0, 3, 0, 0, 0, 0, 0, 0, 0])
  | 12 => (5, [2, 0, 0])
  | 14 => (8, [0, 2, 3, 4, 5, 6, 7, 8, 9, 10, 11, 12, 0, 0, 15, 16, 17, 0, 0, 0, 0, 0, 23, 24, 25, 0, 0, 0, 29, 0, 31, 0])
  | _ => (9, [])
def isO (κ : Nat) : Bool := κ == 1 || κ == 2 || κ == 3 || κ == 4 || κ == 6 || κ == 7 || κ == 8 || κ == 12 || κ == 14
/-- an array of bytes: how long -/
def lnB (κ : Nat) : Nat := match κ with | 5 => 3000 | 9 => 64 | _ => 300
def isB (κ : Nat) : Bool := κ == 5 || κ == 9 || κ == 13
def lnR (κ : Nat) : Nat := match κ with | 10 => 4 | _ => 26
def uE (cc : Nat → ClassId) (A : Nat → Nat) (J : Nat → Int64) (I : UI) (R : UR) (o : Nat) : va_E :=
  if isO (kd o) = true then .inr ((lay (kd o)).1, fv (I o) (R o) A o 0 (lay (kd o)).2)
  else if isB (kd o) = true then .inl (cc 0, lnB (kd o), .inl (I o))
  else if kd o = 15 then .inl (cc 1, ln o, .inl (I o))
  else if kd o = 16 then .inl (cc 2, ln o, .inl (I o))
  else if kd o = 0 then .inl (cc 4, 1, .inr (.inl J))
  else .inl (cc 3, lnR (kd o), .inr (.inr (.inr (.inr (fun k => (R o k).map A)))))
def gW (L : List Nat) (A : Nat → Nat) (E : Nat → va_E) : va_W := L.map (fun o => (A o, E o))
abbrev uW (cc : Nat → ClassId) (L : List Nat) (A : Nat → Nat) (J : Nat → Int64) (I : UI) (R : UR) : va_W := gW L A (uE cc A J I R)
abbrev tys (cc : Nat → ClassId) : List (ClassId × FieldType) := [(cc 0, .byte), (cc 1, .int), (cc 2, .boolean), (cc 3, .object "FrameFerry$StoredFile"), (cc 4, .long)]
def uA (L : List Nat) (A : Nat → Nat) (sz : Nat) : Nat → Prop := fun q => (∃ o, o ∈ L ∧ A o = q) ∨ sz ≤ q
def uD (L : List Nat) (A : Nat → Nat) : Prop := ∀ o, o ∈ L → ∀ o', o' ∈ L → A o = A o' → o = o'
def zb (x : Int32) : Prop := x = 0 ∨ x = 1
theorem zb.nar {x : Int32} (h : zb x) : narrow .boolean (.int x) = .int x := by rcases h with rfl | rfl <;> rfl
theorem zb.fit {x : Int32} (h : zb x) : fits .boolean (.int x) = true := by rcases h with rfl | rfl <;> rfl
theorem zb.vnar {x : Int32} (h : zb x) : vp_nar .boolean x = x := by rcases h with rfl | rfl <;> rfl
/-- the ids that stand from the start on -/
def fixd (o : Nat) : Bool := decide (o < 20) || (decide (80 ≤ o) && decide (o < 112) && !([92, 93, 97, 98, 99, 100, 101, 105, 106, 107, 109, 111].contains o))
def uFix (L : List Nat) : Prop := L.Nodup ∧ ∀ o, fixd o = true → o ∈ L
theorem gW_at {L : List Nat} {A : Nat → Nat} {E : Nat → va_E} {o : Nat} (h : o ∈ L) : ∃ q : Nat, L[q]? = some o ∧ (gW L A E)[q]? = some (A o, E o) := by
  obtain ⟨q, hq⟩ := List.getElem?_of_mem h
  exact ⟨q, hq, by simp [gW, hq]⟩
theorem gW_of {L : List Nat} {A : Nat → Nat} {E : Nat → va_E} {k : Nat} {q : Nat × va_E} (h : (gW L A E)[k]? = some q) : ∃ o, L[k]? = some o ∧ o ∈ L ∧ q = (A o, E o) := by
  simp only [gW, List.getElem?_map] at h
  cases ho : L[k]? with
  | none => rw [ho] at h; cases h
  | some o => rw [ho] at h; exact ⟨o, rfl, List.mem_of_getElem? ho, (Option.some.inj h).symm⟩
theorem gW_D {L : List Nat} {A : Nat → Nat} {E : Nat → va_E} {P : Nat → Prop} (hn : L.Nodup) (h : uD L A) (hP : ∀ o, o ∈ L → P (A o)) : va_D P (gW L A E) := by
  refine ⟨fun i j p q hi hj e => ?_, fun k q hk => ?_⟩
  · obtain ⟨o, ho, hm, rfl⟩ := gW_of hi
    obtain ⟨o', ho', hm', rfl⟩ := gW_of hj
    have he := h o hm o' hm' e
    subst he
    exact (List.getElem?_inj (List.getElem?_eq_some_iff.mp ho).1 hn).mp (ho.trans ho'.symm)
  · obtain ⟨o, ho, hm, rfl⟩ := gW_of hk
    exact hP o hm
theorem gW_set {L : List Nat} {A : Nat → Nat} {E : Nat → va_E} {o q : Nat} {e : va_E} (hn : L.Nodup) (hq : L[q]? = some o) : (gW L A E).set q (A o, e) = gW L A (va_up E o e) := by
  apply List.ext_getElem?
  intro j
  by_cases hj : j = q
  · subst hj
    rw [List.getElem?_set_self (by simp only [gW, List.length_map]; exact (List.getElem?_eq_some_iff.mp hq).1)]
    simp [gW, hq, va_up]
  · rw [List.getElem?_set_ne (Ne.symm hj)]
    simp only [gW, List.getElem?_map]
    cases hb : L[j]? with
    | none => rfl
    | some b =>
      have hne : b ≠ o := fun h => hj ((List.getElem?_inj (List.getElem?_eq_some_iff.mp hb).1 hn).mp (by rw [hb, hq, h]))
      simp [va_up, hne]
theorem gW_congr {L : List Nat} {A : Nat → Nat} {E E' : Nat → va_E} (h : ∀ o, o ∈ L → E o = E' o) : gW L A E = gW L A E' := List.map_congr_left fun o ho => by rw [h o ho]
theorem u2_same (I : UI) (o k : Nat) (x : Int32) : u2 I o k x o k = x := by simp [u2, va_up, upd]
theorem u2_row (I : UI) (o k : Nat) (x : Int32) : u2 I o k x o = upd (I o) k x := by simp [u2, va_up]
theorem u2_ne (I : UI) {o o' : Nat} (k : Nat) (x : Int32) (h : o' ≠ o) : u2 I o k x o' = I o' := by simp [u2, va_up, h]
theorem u2_nk (I : UI) (o : Nat) {k k' : Nat} (x : Int32) (h : k' ≠ k) : u2 I o k x o k' = I o k' := by simp [u2, va_up, upd, h]
theorem u2_at (I : UI) (o k : Nat) (x : Int32) (o' k' : Nat) : u2 I o k x o' k' = if o' = o ∧ k' = k then x else I o' k' := by
  by_cases h : o' = o
  · subst h
    by_cases h2 : k' = k
    · subst h2; simp [u2, va_up, upd]
    · simp [u2, va_up, upd, h2]
  · simp [u2, va_up, h]
theorem uE_congr {cc : Nat → ClassId} {A : Nat → Nat} {J : Nat → Int64} {I I' : UI} {R R' : UR} {o : Nat} (h : I o = I' o) (h2 : R o = R' o) : uE cc A J I R o = uE cc A J I' R' o := by
  simp only [uE, h, h2]
theorem fv_len (I : Nat → Int32) (R : Nat → Option Nat) (A : Nat → Nat) (o : Nat) : ∀ (l : List Nat) (j : Nat), (fv I R A o j l).length = l.length
  | [], _ => rfl
  | e :: l, j => by simp [fv, fv_len I R A o l (j + 1)]
theorem fv_int (I : Nat → Int32) (R : Nat → Option Nat) (A : Nat → Nat) (o : Nat) : ∀ (l : List Nat) (j k : Nat), l[k]? = some 0 → (fv I R A o j l)[k]? = some (.int (I (j + k)))
  | [], j, k, h => by simp at h
  | e :: l, j, 0, h => by
    simp only [List.getElem?_cons_zero, Option.some.injEq] at h
    subst h
    simp [fv]
  | e :: l, j, k + 1, h => by
    simp only [List.getElem?_cons_succ] at h
    simp only [fv, List.getElem?_cons_succ]
    rw [fv_int I R A o l (j + 1) k h]
    simp [Nat.add_comm, Nat.add_left_comm]
theorem fv_dyn (I : Nat → Int32) (R : Nat → Option Nat) (A : Nat → Nat) (o : Nat) : ∀ (l : List Nat) (j k : Nat), l[k]? = some 1 → (fv I R A o j l)[k]? = some (va_rf ((R (j + k)).map A))
  | [], j, k, h => by simp at h
  | e :: l, j, 0, h => by
    simp only [List.getElem?_cons_zero, Option.some.injEq] at h
    subst h
    simp [fv]
  | e :: l, j, k + 1, h => by
    simp only [List.getElem?_cons_succ] at h
    simp only [fv, List.getElem?_cons_succ]
    rw [fv_dyn I R A o l (j + 1) k h]
    simp [Nat.add_comm, Nat.add_left_comm]
theorem fv_fix (I : Nat → Int32) (R : Nat → Option Nat) (A : Nat → Nat) (o n : Nat) : ∀ (l : List Nat) (j k : Nat), l[k]? = some (n + 2) → (fv I R A o j l)[k]? = some (.ref (A (o + (n + 1))))
  | [], j, k, h => by simp at h
  | e :: l, j, 0, h => by
    simp only [List.getElem?_cons_zero, Option.some.injEq] at h
    subst h
    simp [fv]
  | e :: l, j, k + 1, h => by
    simp only [List.getElem?_cons_succ] at h
    simp only [fv, List.getElem?_cons_succ]
    exact fv_fix I R A o n l (j + 1) k h
theorem fv_ext (I I' : Nat → Int32) (R R' : Nat → Option Nat) (A : Nat → Nat) (o : Nat) : ∀ (l : List Nat) (j : Nat), (∀ k, j ≤ k → I k = I' k) → (∀ k, j ≤ k → R k = R' k) → fv I R A o j l = fv I' R' A o j l
  | [], _, _, _ => rfl
  | e :: l, j, h, h' => by
    simp only [fv]
    rw [fv_ext I I' R R' A o l (j + 1) (fun k hk => h k (by omega)) (fun k hk => h' k (by omega)), h j (Nat.le_refl _), h' j (Nat.le_refl _)]
theorem fv_set (I : Nat → Int32) (R : Nat → Option Nat) (A : Nat → Nat) (o : Nat) (x : Int32) : ∀ (l : List Nat) (j k : Nat), l[k]? = some 0 → (fv I R A o j l).set k (.int x) = fv (upd I (j + k) x) R A o j l
  | [], j, k, h => by simp at h
  | e :: l, j, 0, h => by
    simp only [List.getElem?_cons_zero, Option.some.injEq] at h
    subst h
    simp only [fv, List.set_cons_zero, Nat.add_zero]
    rw [fv_ext I (upd I j x) R R A o l (j + 1) (fun k hk => by simp [upd, show k ≠ j by omega]) (fun _ _ => rfl)]
    simp [upd]
  | e :: l, j, k + 1, h => by
    simp only [List.getElem?_cons_succ] at h
    simp only [fv, List.set_cons_succ]
    rw [fv_set I R A o x l (j + 1) k h, show j + 1 + k = j + (k + 1) by omega]
    simp [upd, show j ≠ j + (k + 1) by omega]
theorem fv_setR (I : Nat → Int32) (R : Nat → Option Nat) (A : Nat → Nat) (o : Nat) (x : Option Nat) : ∀ (l : List Nat) (j k : Nat), l[k]? = some 1 → (fv I R A o j l).set k (va_rf (x.map A)) = fv I (va_up R (j + k) x) A o j l
  | [], j, k, h => by simp at h
  | e :: l, j, 0, h => by
    simp only [List.getElem?_cons_zero, Option.some.injEq] at h
    subst h
    simp only [fv, List.set_cons_zero, Nat.add_zero]
    rw [fv_ext I I R (va_up R j x) A o l (j + 1) (fun _ _ => rfl) (fun k hk => by simp [va_up, show k ≠ j by omega])]
    simp [va_up]
  | e :: l, j, k + 1, h => by
    simp only [List.getElem?_cons_succ] at h
    simp only [fv, List.set_cons_succ]
    rw [fv_setR I R A o x l (j + 1) k h, show j + 1 + k = j + (k + 1) by omega]
    simp [va_up, show j ≠ j + (k + 1) by omega]
/-- a write of an int -/
theorem uW_set {cc : Nat → ClassId} {L : List Nat} {A : Nat → Nat} {J : Nat → Int64} {I : UI} {R : UR} {o q k : Nat} {x : Int32} {e : va_E} (hn : L.Nodup) (hq : L[q]? = some o) (he : uE cc A J (u2 I o k x) R o = e) : (uW cc L A J I R).set q (A o, e) = uW cc L A J (u2 I o k x) R := by
  rw [gW_set hn hq]
  refine gW_congr fun o' _ => ?_
  by_cases h : o' = o
  · subst h; rw [va_up_self]; exact he.symm
  · rw [va_up_ne _ _ h]; exact uE_congr (u2_ne I k x h).symm rfl
theorem uW_setR {cc : Nat → ClassId} {L : List Nat} {A : Nat → Nat} {J : Nat → Int64} {I : UI} {R : UR} {o q k : Nat} {x : Option Nat} {e : va_E} (hn : L.Nodup) (hq : L[q]? = some o) (he : uE cc A J I (r2 R o k x) o = e) : (uW cc L A J I R).set q (A o, e) = uW cc L A J I (r2 R o k x) := by
  rw [gW_set hn hq]
  refine gW_congr fun o' _ => ?_
  by_cases h : o' = o
  · subst h; rw [va_up_self]; exact he.symm
  · rw [va_up_ne _ _ h]; exact uE_congr rfl (by simp [r2, va_up, h])
theorem uE_obj {cc : Nat → ClassId} {A : Nat → Nat} {J : Nat → Int64} {I : UI} {R : UR} {o κ : Nat} (hk : kd o = κ) (h : isO κ = true) : uE cc A J I R o = .inr ((lay κ).1, fv (I o) (R o) A o 0 (lay κ).2) := by
  simp [uE, hk, h]
theorem uE_byt {cc : Nat → ClassId} {A : Nat → Nat} {J : Nat → Int64} {I : UI} {R : UR} {o κ : Nat} (hk : kd o = κ) (h : isB κ = true) : uE cc A J I R o = .inl (cc 0, lnB κ, .inl (I o)) := by
  have h2 : isO κ = false := by
    cases hz : isO κ with
    | false => rfl
    | true => simp only [isO, isB, Bool.or_eq_true, beq_iff_eq] at h hz; omega
  simp [uE, hk, h, h2]
theorem uE_int {cc : Nat → ClassId} {A : Nat → Nat} {J : Nat → Int64} {I : UI} {R : UR} {o : Nat} (hk : kd o = 15) : uE cc A J I R o = .inl (cc 1, ln o, .inl (I o)) := by
  simp [uE, hk, isO, isB]
theorem uE_boo {cc : Nat → ClassId} {A : Nat → Nat} {J : Nat → Int64} {I : UI} {R : UR} {o : Nat} (hk : kd o = 16) : uE cc A J I R o = .inl (cc 2, ln o, .inl (I o)) := by
  simp [uE, hk, isO, isB]
theorem uE_rar {cc : Nat → ClassId} {A : Nat → Nat} {J : Nat → Int64} {I : UI} {R : UR} {o κ : Nat} (hk : kd o = κ) (h : κ = 10 ∨ κ = 11) : uE cc A J I R o = .inl (cc 3, lnR κ, .inr (.inr (.inr (.inr (fun k => (R o k).map A))))) := by
  rcases h with rfl | rfl <;> simp [uE, hk, isO, isB]
theorem uE_out {cc : Nat → ClassId} {A : Nat → Nat} {J : Nat → Int64} {I : UI} {R : UR} : uE cc A J I R 0 = .inl (cc 4, 1, .inr (.inl J)) := by
  simp [uE, kd, isO, isB]
def tb : List Cond := lw_tbl.filter goodWord
theorem tb_good {w : Cond} (hw : w ∈ tb) : (w.onTables && w.keeps) = true ∨ ∃ ty, w = .arrayClass ty := good_of_word (List.mem_filter.mp hw).2
theorem tb_of {w : Cond} (i : Nat) (h : tables_1[i]? = some w) (hg : goodWord w = true) : w ∈ tb := List.mem_filter.mpr ⟨List.mem_append_right _ (List.mem_of_getElem? h), hg⟩
theorem tb_sel {w : Cond} (i : Nat) (h : (k2_sels lw_privs)[i]? = some w) (hg : goodWord w = true) : w ∈ tb := List.mem_filter.mpr ⟨List.mem_append_left _ (List.mem_of_getElem? h), hg⟩
abbrev wS (c : Cond) : List Cond := c :: tb
theorem wS_good {c c' : Cond} (h : c' ∈ tb) : GoodIn (wS c) (wS c') := fun w hw => by
  rcases List.mem_cons.mp hw with rfl | hw
  · exact ⟨List.mem_cons_of_mem _ h, tb_good h⟩
  · exact ⟨List.mem_cons_of_mem _ hw, tb_good hw⟩
