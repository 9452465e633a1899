/-! Rows of the world: what a method knows (uX), what the heap holds (uV), a row for each instruction that reads or writes the heap, calls, ends. -/
def s16 : Nat → Int32 := fun j => ([0, 4129, 8258, 12387, 16516, 20645, 24774, 28903, 33032, 37161, 41290, 45419, 49548, 53677, 57806, 61935] : List Int32).getD j 0
def s32 : Nat → Int32 := fun j => ([0, 498536548, 997073096, 651767980, 1994146192, 1802195444, 1303535960, 1342533948, -306674912, -267414716, -690576408, -882789492, -1687895376, -2032938284, -1609899400, -1111625188] : List Int32).getD j 0
def uTs (t16 t32 : Nat) (P : Nat → Prop) (U : State) (H : Heap) : Prop :=
  (va_Z "FrameFerry$Check" "STEPS_16" "[I" (.ref t16) P U H ∧ va_T .int t16 16 (fun j => .int (s16 j)) P U H) ∧
  (va_Z "FrameFerry$Check" "STEPS_32" "[I" (.ref t32) P U H ∧ va_T .int t32 16 (fun j => .int (s32 j)) P U H)
/-- the links of private members of nest mates -/
def nw : List Cond := [.methodLinkNest "FrameFerry" 9 ⟨"FrameFerry$Sender", "<init>", "()V"⟩ "FrameFerry", .methodLinkNest "FrameFerry$Sender" 11 ⟨"FrameFerry$Pipe", "<init>", "()V"⟩ "FrameFerry", .methodLinkNest "FrameFerry$Sender" 24 ⟨"FrameFerry$Writer", "<init>", "()V"⟩ "FrameFerry", .methodLinkNest "FrameFerry$Writer" 11 ⟨"FrameFerry$Check", "<init>", "()V"⟩ "FrameFerry", .methodLinkNest "FrameFerry$Sender" 31 ⟨"FrameFerry$Reader", "<init>", "()V"⟩ "FrameFerry", .methodLinkNest "FrameFerry$Reader" 17 ⟨"FrameFerry$Check", "<init>", "()V"⟩ "FrameFerry", .methodLinkNest "FrameFerry" 18 ⟨"FrameFerry$Receiver", "<init>", "()V"⟩ "FrameFerry", .methodLinkNest "FrameFerry$Receiver" 11 ⟨"FrameFerry$Pipe", "<init>", "()V"⟩ "FrameFerry", .methodLinkNest "FrameFerry$Receiver" 30 ⟨"FrameFerry$Writer", "<init>", "()V"⟩ "FrameFerry", .methodLinkNest "FrameFerry$Receiver" 37 ⟨"FrameFerry$Reader", "<init>", "()V"⟩ "FrameFerry", .methodLinkNest "FrameFerry$Receiver" 124 ⟨"FrameFerry", "isLetter", "(I)Z"⟩ "FrameFerry", .methodLinkNest "FrameFerry$Receiver" 128 ⟨"FrameFerry$StoredFile", "<init>", "()V"⟩ "FrameFerry", .methodLinkNest "FrameFerry$Sender" 51 ⟨"FrameFerry$StoredFile", "<init>", "()V"⟩ "FrameFerry", .declares ⟨"java/lang/RuntimeException", "<init>", "()V"⟩, .declares ⟨"java/lang/Exception", "<init>", "()V"⟩, .declares ⟨"java/lang/Throwable", "<init>", "()V"⟩, .castable "java/lang/IllegalArgumentException" "java/lang/IllegalArgumentException", .castable "java/lang/IllegalStateException" "java/lang/IllegalStateException"]
def isNw : Cond → Prop
  | .methodLinkNest .. => True
  | .declares _ => True
  | .castable .. => True
  | _ => False
theorem nw_all : ∀ w ∈ nw, isNw w := by
  intro w hw
  simp only [nw, List.mem_cons, List.not_mem_nil, or_false] at hw
  rcases hw with h | h | h | h | h | h | h | h | h | h | h | h | h | h | h | h | h | h <;> rw [h] <;> trivial
theorem nw_warm {s U : State} (hW : s.WarmedH U.vm) {w : Cond} (hw : w ∈ nw) (h1 : va_Nw w s) : va_Nw w U := by
  have h2 := nw_all w hw
  cases w <;> first | (exact va_Nw.warmM hW h1) | (exact va_Nw.warmD hW h1) | (exact va_Nw.warmC hW h1) | (exact absurd h2 id)
/-- a static field of a class that lies in the tables, and holds a reference -/
def uZ (C n d : String) (P : Nat → Prop) (U : State) (H : Heap) : Prop := ∃ (c : ClassId) (k : Class) (i : Nat) (f : Field) (a : Nat) (cell : Cell) (u : Value), U.vm.findClass C = some c ∧ U.fieldFound? C n d = some (c, k, i, f) ∧ f.isStatic = true ∧ k.statics = some a ∧ H[a]? = some cell ∧ cell.vm.isStatics = true ∧ cell.cls = c ∧ f.slot < cell.slots.size ∧ k.staticTypes[f.slot]? = some f.type ∧ (cell.slots[f.slot]? = some u ∧ (u = .null ∨ ∃ r, u = .ref r)) ∧ ¬ P a
theorem uZ.moved {C n d : String} {P : Nat → Prop} {u U : State} {H : Heap} (hvm : u.vm.Alike U.vm) (h : uZ C n d P u H) : uZ C n d P U H := by
  obtain ⟨c, k, i, f, a, cell, r, h1, h2, h3, h4, h5, h6, h7, h8, h9, h10, h11⟩ := h
  obtain ⟨k', hi', he⟩ := State.fieldFound?_setVm hvm h2
  exact ⟨c, k', i, f, a, cell, r, by rw [hvm.findClass]; exact h1, hi', h3, by rw [he]; exact h4, h5, h6, h7, h8, by rw [he]; exact h9, h10, h11⟩
theorem uZ.kept {C n d : String} {P : Nat → Prop} {U : State} {H H1 : Heap} (h : uZ C n d P U H) (hq : ∀ a : Nat, a < H.size → ¬ P a → H1[a]? = H[a]?) : uZ C n d P U H1 := by
  obtain ⟨c, k, i, f, a, cell, r, h1, h2, h3, h4, h5, h6, h7, h8, h9, h10, h11⟩ := h
  exact ⟨c, k, i, f, a, cell, r, h1, h2, h3, h4, by rw [hq a (Array.getElem?_eq_some_iff.mp h5).1 h11]; exact h5, h6, h7, h8, h9, h10, h11⟩
theorem uZ.narrow {C n d : String} {P B : Nat → Prop} {U : State} {H : Heap} (h : uZ C n d P U H) (hAB : ∀ q, B q → P q) : uZ C n d B U H := by
  obtain ⟨c, k, i, f, a, cell, r, h1, h2, h3, h4, h5, h6, h7, h8, h9, h10, h11⟩ := h
  exact ⟨c, k, i, f, a, cell, r, h1, h2, h3, h4, h5, h6, h7, h8, h9, h10, fun z => h11 (hAB a z)⟩
def uT (t16 t32 : Nat) (P : Nat → Prop) (U : State) (H : Heap) : Prop :=
  uTs t16 t32 P U H ∧ (∀ w ∈ nw, va_Nw w U) ∧ uZ "java/lang/Throwable" "UNASSIGNED_STACK" "[Ljava/lang/StackTraceElement;" P U H ∧ uZ "java/lang/Throwable" "SUPPRESSED_SENTINEL" "Ljava/util/List;" P U H ∧ va_AO "FrameFerry$StoredFile" U ∧ va_Nc "java/lang/IllegalStateException" "java/lang/IllegalArgumentException" U
theorem uTs.moved {t16 t32 : Nat} {P : Nat → Prop} {u U : State} {H : Heap} (hvm : u.vm.Alike U.vm) (h : uTs t16 t32 P u H) : uTs t16 t32 P U H := ⟨⟨h.1.1.moved hvm, h.1.2.moved hvm⟩, ⟨h.2.1.moved hvm, h.2.2.moved hvm⟩⟩
theorem uTs.kept {t16 t32 : Nat} {P : Nat → Prop} {U : State} {H H1 : Heap} (h : uTs t16 t32 P U H) (hq : ∀ a : Nat, a < H.size → ¬ P a → H1[a]? = H[a]?) : uTs t16 t32 P U H1 := ⟨⟨h.1.1.kept hq, h.1.2.kept hq⟩, ⟨h.2.1.kept hq, h.2.2.kept hq⟩⟩
theorem uTs.narrow {t16 t32 : Nat} {P B : Nat → Prop} {U : State} {H : Heap} (h : uTs t16 t32 P U H) (hAB : ∀ q, B q → P q) : uTs t16 t32 B U H := ⟨⟨h.1.1.narrow hAB, h.1.2.narrow hAB⟩, ⟨h.2.1.narrow hAB, h.2.2.narrow hAB⟩⟩
theorem uT.moved {t16 t32 : Nat} {P : Nat → Prop} {u U : State} {H : Heap} (hW : u.WarmedH U.vm) (h : uT t16 t32 P u H) : uT t16 t32 P U H := by
  refine ⟨h.1.moved hW.alike, fun w hw => nw_warm hW hw (h.2.1 w hw), h.2.2.1.moved hW.alike, h.2.2.2.1.moved hW.alike, va_AO.moved hW.alike h.2.2.2.2.1, va_Nc.moved hW.alike h.2.2.2.2.2⟩
theorem uT.kept {t16 t32 : Nat} {P : Nat → Prop} {U : State} {H H1 : Heap} (h : uT t16 t32 P U H) (hq : ∀ a : Nat, a < H.size → ¬ P a → H1[a]? = H[a]?) : uT t16 t32 P U H1 := ⟨h.1.kept hq, h.2.1, h.2.2.1.kept hq, h.2.2.2.1.kept hq, h.2.2.2.2⟩
theorem uT.narrow {t16 t32 : Nat} {P B : Nat → Prop} {U : State} {H : Heap} (h : uT t16 t32 P U H) (hAB : ∀ q, B q → P q) : uT t16 t32 B U H := ⟨h.1.narrow hAB, h.2.1, h.2.2.1.narrow hAB, h.2.2.2.1.narrow hAB, h.2.2.2.2⟩
def uX (p : Program) (s : State) (m : MethodId) (args : Array Value) (c : Code) (cb : ByteArray) (nL : Nat) (own : String) (D : va_G) (cc : Nat → ClassId) (L : List Nat) (A : Nat → Nat) (t16 t32 : Nat) : Prop :=
  p.tables.exec = Jvm.exec ∧ c.code = cb ∧ c.maxLocals = nL ∧ s.vm.findClass own = some m.cls ∧ (∀ w ∈ tb, w.before args s = true) ∧ va_K D cls (tys cc) s ∧ uD L A ∧ uFix L ∧ uT t16 t32 (uA L A s.heap.size) s s.heap
def uV (s : State) (D : va_G) (cc : Nat → ClassId) (L : List Nat) (A : Nat → Nat) (J : Nat → Int64) (I : UI) (R : UR) (H : Heap) (locs : List Loc) : Prop :=
  va_P D cls (uW cc L A J I R) H ∧ va_S (uA L A s.heap.size) s.heap H locs
def uPre (D : va_G) (cc : Nat → ClassId) (L : List Nat) (A : Nat → Nat) (J : Nat → Int64) (t16 t32 : Nat) (I : UI) (R : UR) (sz : Nat) (U : State) : Prop :=
  U.heap.size = sz ∧ va_P D cls (uW cc L A J I R) U.heap ∧ va_K D cls (tys cc) U ∧ uD L A ∧ uFix L ∧ uT t16 t32 (uA L A sz) U U.heap
abbrev uBv (D : va_G) (cc : Nat → ClassId) (L : List Nat) (A : Nat → Nat) (J : Nat → Int64) (u : UI × UR) (t : State) : Prop := va_P D cls (uW cc L A J u.1 u.2) t.heap
/-- contracts: nothing is made; the ends: nothing, an int, a thing or null -/
def uMv (l : Launch) (y : MethodName) (cd : Cond) (rm : Room) (as : List Value) (D : va_G) (cc : Nat → ClassId) (L : List Nat) (A : Nat → Nat) (J : Nat → Int64) (t16 t32 : Nat) (I : UI) (R : UR) (Q : UI → UR → Prop) : Prop :=
  ∀ sz, Met l y (wS cd) rm (va_Pc as (uPre D cc L A J t16 t32 I R sz)) (va_Qv (fun u : UI × UR => Q u.1 u.2) (uBv D cc L A J) (uA L A sz)) 0 0 (uA L A sz)
def uMi (l : Launch) (y : MethodName) (cd : Cond) (rm : Room) (as : List Value) (D : va_G) (cc : Nat → ClassId) (L : List Nat) (A : Nat → Nat) (J : Nat → Int64) (t16 t32 : Nat) (I : UI) (R : UR) (Q : Int32 → UI → UR → Prop) : Prop :=
  ∀ sz, Met l y (wS cd) rm (va_Pc as (uPre D cc L A J t16 t32 I R sz)) (va_Qi (fun (r : Int32) (u : UI × UR) => Q r u.1 u.2) (uBv D cc L A J) (uA L A sz)) 0 0 (uA L A sz)
def uMr (l : Launch) (y : MethodName) (cd : Cond) (rm : Room) (as : List Value) (D : va_G) (cc : Nat → ClassId) (L : List Nat) (A : Nat → Nat) (J : Nat → Int64) (t16 t32 : Nat) (I : UI) (R : UR) (Q : Option Nat → UI → UR → Prop) : Prop :=
  ∀ sz, Met l y (wS cd) rm (va_Pc as (uPre D cc L A J t16 t32 I R sz)) (va_Qq (fun (r : Option Nat) (u : UI × UR) => ∃ i : Option Nat, r = i.map A ∧ Q i u.1 u.2) (uBv D cc L A J) (uA L A sz)) 0 0 (uA L A sz)
def uF (own : String) (index ci k : Nat) (fin : Bool) (ty : FieldType) : Prop := ∃ (C : String) (T : u_T) (N : Nat) (ty0 : Nat → FieldType), cls[ci]? = some (C, T, N) ∧ k < N ∧ Cond.fieldLink own index (T k).1 (T k).2.1 (T k).2.2.1 ∈ tb ∧ (∀ w ∈ u_ws C T N, w ∈ tb) ∧ (∀ k, k < N → parseFieldDescriptor (T k).2.2.1 = some (ty0 k)) ∧ (∀ a, a < N → ∀ b, b < N → a ≠ b → (T a).2.1 ≠ (T b).2.1) ∧ (T k).2.2.2 = fin ∧ ty0 k = ty
/-- what a call site needs of the tables -/
def uCs (own : String) (index : Nat) (y : MethodName) (n : Nat) (cd : Cond) : Prop :=
  Cond.methodLink own index y ∈ tb ∧ Cond.initialized y.cls ∈ tb ∧ cd ∈ tb ∧ (y.cls ≠ "java/lang/invoke/MethodHandle" ∧ y.cls ≠ "java/lang/invoke/VarHandle" ∧ (parseMethodDescriptor y.desc).map (fun d => d.parameters.length) = some n)
section U
variable {p : Program} {l : Launch} {e : Env} {Rm : Room} {s : State} {m : MethodId} {args : Array Value} {below : List Frame} {meth : Method} {c : Code} {H : Heap} {locs : List Loc} {cells slots : Nat} {Q : State → Prop}
variable {cb : ByteArray} {pc nL : Nat} {ls : Array Slot} {rest : List Value} {own : String} {D : va_G} {cc : Nat → ClassId} {L : List Nat} {A : Nat → Nat} {J : Nat → Int64} {t16 t32 : Nat} {I : UI} {R : UR}
theorem uX.dd {P : Nat → Prop} (X : uX p s m args c cb nL own D cc L A t16 t32) (hP : ∀ o, o ∈ L → P (A o)) {E : Nat → va_E} : va_D P (gW L A E) := gW_D X.2.2.2.2.2.2.2.1.1 X.2.2.2.2.2.2.1 hP
theorem uX.fix (X : uX p s m args c cb nL own D cc L A t16 t32) {o : Nat} (h : fixd o = true) : o ∈ L := X.2.2.2.2.2.2.2.1.2 o h
theorem uA_in {L : List Nat} {A : Nat → Nat} {sz : Nat} : ∀ o, o ∈ L → uA L A sz (A o) := fun o h => Or.inl ⟨o, h, rfl⟩
theorem uA_le {L : List Nat} {A : Nat → Nat} {sz sz' : Nat} (h : sz ≤ sz') : ∀ q, uA L A sz' q → uA L A sz q := fun q hq => by
  rcases hq with h1 | h1
  · exact Or.inl h1
  · exact Or.inr (Nat.le_trans h h1)
theorem u_geti (X : uX p s m args c cb nL own D cc L A t16 t32) (V : uV s D cc L A J I R H locs) {o κ k index : Nat} {fin : Bool} {ty : FieldType} (ho : o ∈ L) (hk : kd o = κ) (hO : isO κ = true) (F : uF own index (lay κ).1 k fin ty) (h0 : (lay κ).2[k]? = some 0) (hdg : decode cb pc = .ok (.getfield index, 3))
    (kk : W p l e Rm s m args below meth c H locs cells slots Q (F0 m (pc + 3) ls (.int (I o k) :: rest))) : W p l e Rm s m args below meth c H locs cells slots Q (F0 m pc ls (.ref (A o) :: rest)) := by
  obtain ⟨hx, hb, -, hown, hts, hK, -⟩ := X
  obtain ⟨C, T, N, ty0, f1, f2, f3, f4, f5, f6, f7, f8⟩ := F
  obtain ⟨q, -, hq⟩ := gW_at (A := A) (E := uE cc A J I R) ho
  rw [uE_obj hk hO] at hq
  refine va_get hx hb hts f4 hown hK V.1 q hq f1 k f2 (hts _ f3) (fun _ h => h) ?_ hdg kk
  have := fv_int (I o) (R o) A o (lay κ).2 0 k h0
  rwa [Nat.zero_add] at this
theorem u_getr (X : uX p s m args c cb nL own D cc L A t16 t32) (V : uV s D cc L A J I R H locs) {o κ k index n o' : Nat} {fin : Bool} {ty : FieldType} (ho : o ∈ L) (hk : kd o = κ) (hO : isO κ = true) (F : uF own index (lay κ).1 k fin ty) (h0 : (lay κ).2[k]? = some (n + 2)) (ho' : o + (n + 1) = o') (hdg : decode cb pc = .ok (.getfield index, 3))
    (kk : W p l e Rm s m args below meth c H locs cells slots Q (F0 m (pc + 3) ls (.ref (A o') :: rest))) : W p l e Rm s m args below meth c H locs cells slots Q (F0 m pc ls (.ref (A o) :: rest)) := by
  obtain ⟨hx, hb, -, hown, hts, hK, -⟩ := X
  obtain ⟨C, T, N, ty0, f1, f2, f3, f4, f5, f6, f7, f8⟩ := F
  obtain ⟨q, -, hq⟩ := gW_at (A := A) (E := uE cc A J I R) ho
  rw [uE_obj hk hO] at hq
  subst ho'
  exact va_get hx hb hts f4 hown hK V.1 q hq f1 k f2 (hts _ f3) (fun _ h => h) (fv_fix (I o) (R o) A o n (lay κ).2 0 k h0) hdg kk
theorem u_getd (X : uX p s m args c cb nL own D cc L A t16 t32) (V : uV s D cc L A J I R H locs) {o κ k index : Nat} {fin : Bool} {ty : FieldType} (ho : o ∈ L) (hk : kd o = κ) (hO : isO κ = true) (F : uF own index (lay κ).1 k fin ty) (h0 : (lay κ).2[k]? = some 1) (hdg : decode cb pc = .ok (.getfield index, 3))
    (kk : W p l e Rm s m args below meth c H locs cells slots Q (F0 m (pc + 3) ls (va_rf ((R o k).map A) :: rest))) : W p l e Rm s m args below meth c H locs cells slots Q (F0 m pc ls (.ref (A o) :: rest)) := by
  obtain ⟨hx, hb, -, hown, hts, hK, -⟩ := X
  obtain ⟨C, T, N, ty0, f1, f2, f3, f4, f5, f6, f7, f8⟩ := F
  obtain ⟨q, -, hq⟩ := gW_at (A := A) (E := uE cc A J I R) ho
  rw [uE_obj hk hO] at hq
  refine va_get hx hb hts f4 hown hK V.1 q hq f1 k f2 (hts _ f3) (fun _ h => h) ?_ hdg kk
  have := fv_dyn (I o) (R o) A o (lay κ).2 0 k h0
  rwa [Nat.zero_add] at this
theorem u_put (X : uX p s m args c cb nL own D cc L A t16 t32) (V : uV s D cc L A J I R H locs) {o κ k index : Nat} {ty : FieldType} (ho : o ∈ L) (hk : kd o = κ) (hO : isO κ = true) (F : uF own index (lay κ).1 k false ty) (h0 : (lay κ).2[k]? = some 0) {x : Int32} (hn : narrow ty (.int x) = .int x) (hf : fits ty (.int x) = true) (hdg : decode cb pc = .ok (.putfield index, 3))
    (kk : ∀ I1 : UI, I1 = u2 I o k x → ∀ (H : Heap) (locs : List Loc), uV s D cc L A J I1 R H locs → W p l e Rm s m args below meth c H locs cells slots Q (F0 m (pc + 3) ls rest)) : W p l e Rm s m args below meth c H locs cells slots Q (F0 m pc ls (.int x :: .ref (A o) :: rest)) := by
  have hD := X.dd (P := uA L A s.heap.size) uA_in (E := uE cc A J I R)
  obtain ⟨hx, hb, -, hown, hts, hK, -, hFx, -⟩ := X
  obtain ⟨C, T, N, ty0, f1, f2, f3, f4, f5, f6, f7, f8⟩ := F
  obtain ⟨q, hq0, hq⟩ := gW_at (A := A) (E := uE cc A J I R) ho
  rw [uE_obj hk hO] at hq
  have hl : k < (fv (I o) (R o) A o 0 (lay κ).2).length := by rw [fv_len]; exact (List.getElem?_eq_some_iff.mp h0).1
  refine va_put hx hb hts f4 ty0 f5 f6 hown hK V.1 hD V.2 q hq f1 k f2 (hts _ f3) (fun _ h => h) f7 (f5 k f2) (by rw [f8]; exact hn) (by rw [f8]; exact hf) hl hdg (fun H1 locs1 hP1 _ hS1 => ?_)
  refine kk _ rfl H1 locs1 ⟨?_, hS1⟩
  have he : uE cc A J (u2 I o k x) R o = .inr ((lay κ).1, (fv (I o) (R o) A o 0 (lay κ).2).set k (.int x)) := by
    rw [uE_obj hk hO, u2_row, fv_set (I o) (R o) A o x (lay κ).2 0 k h0, Nat.zero_add]
  rw [← uW_set hFx.1 hq0 he]
  exact hP1
theorem u_puti (X : uX p s m args c cb nL own D cc L A t16 t32) (V : uV s D cc L A J I R H locs) {o κ k index : Nat} (ho : o ∈ L) (hk : kd o = κ) (hO : isO κ = true) (F : uF own index (lay κ).1 k false .int) (h0 : (lay κ).2[k]? = some 0) {x : Int32} (hdg : decode cb pc = .ok (.putfield index, 3))
    (kk : ∀ I1 : UI, I1 = u2 I o k x → ∀ (H : Heap) (locs : List Loc), uV s D cc L A J I1 R H locs → W p l e Rm s m args below meth c H locs cells slots Q (F0 m (pc + 3) ls rest)) : W p l e Rm s m args below meth c H locs cells slots Q (F0 m pc ls (.int x :: .ref (A o) :: rest)) :=
  u_put X V ho hk hO F h0 rfl rfl hdg kk
theorem u_putz (X : uX p s m args c cb nL own D cc L A t16 t32) (V : uV s D cc L A J I R H locs) {o κ k index : Nat} (ho : o ∈ L) (hk : kd o = κ) (hO : isO κ = true) (F : uF own index (lay κ).1 k false .boolean) (h0 : (lay κ).2[k]? = some 0) {x : Int32} (hz : zb x) (hdg : decode cb pc = .ok (.putfield index, 3))
    (kk : ∀ I1 : UI, I1 = u2 I o k x → ∀ (H : Heap) (locs : List Loc), uV s D cc L A J I1 R H locs → W p l e Rm s m args below meth c H locs cells slots Q (F0 m (pc + 3) ls rest)) : W p l e Rm s m args below meth c H locs cells slots Q (F0 m pc ls (.int x :: .ref (A o) :: rest)) :=
  u_put X V ho hk hO F h0 hz.nar hz.fit hdg kk
theorem u_putd (X : uX p s m args c cb nL own D cc L A t16 t32) (V : uV s D cc L A J I R H locs) {o κ k index : Nat} {C0 : String} (ho : o ∈ L) (hk : kd o = κ) (hO : isO κ = true) (F : uF own index (lay κ).1 k false (.object C0)) (h0 : (lay κ).2[k]? = some 1) {x : Option Nat} {v : Value} (hv : v = va_rf (x.map A)) (hdg : decode cb pc = .ok (.putfield index, 3))
    (kk : ∀ R1 : UR, R1 = r2 R o k x → ∀ (H : Heap) (locs : List Loc), uV s D cc L A J I R1 H locs → W p l e Rm s m args below meth c H locs cells slots Q (F0 m (pc + 3) ls rest)) : W p l e Rm s m args below meth c H locs cells slots Q (F0 m pc ls (v :: .ref (A o) :: rest)) := by
  have hD := X.dd (P := uA L A s.heap.size) uA_in (E := uE cc A J I R)
  obtain ⟨hx, hb, -, hown, hts, hK, -, hFx, -⟩ := X
  obtain ⟨C, T, N, ty0, f1, f2, f3, f4, f5, f6, f7, f8⟩ := F
  obtain ⟨q, hq0, hq⟩ := gW_at (A := A) (E := uE cc A J I R) ho
  rw [uE_obj hk hO] at hq
  subst hv
  have hl : k < (fv (I o) (R o) A o 0 (lay κ).2).length := by rw [fv_len]; exact (List.getElem?_eq_some_iff.mp h0).1
  refine va_put hx hb hts f4 ty0 f5 f6 hown hK V.1 hD V.2 q hq f1 k f2 (hts _ f3) (fun _ h => h) f7 (f5 k f2) (by rw [f8]; cases x <;> rfl) (by rw [f8]; cases x <;> rfl) hl hdg (fun H1 locs1 hP1 _ hS1 => ?_)
  refine kk _ rfl H1 locs1 ⟨?_, hS1⟩
  have he : uE cc A J I (r2 R o k x) o = .inr ((lay κ).1, (fv (I o) (R o) A o 0 (lay κ).2).set k (va_rf (x.map A))) := by
    rw [uE_obj hk hO, fv_setR (I o) (R o) A o x (lay κ).2 0 k h0, Nat.zero_add]
    simp [r2, va_up]
  rw [← uW_setR hFx.1 hq0 he]
  exact hP1
theorem u_iald (X : uX p s m args c cb nL own D cc L A t16 t32) (V : uV s D cc L A J I R H locs) {o n : Nat} (ho : o ∈ L) (hk : kd o = 15) (hn : ln o = n) {i : Int32} (hin : vp_in i n) (hdg : decode cb pc = .ok (.iaload, 1))
    (kk : W p l e Rm s m args below meth c H locs cells slots Q (F0 m (pc + 1) ls (.int (I o i.toNatClampNeg) :: rest))) : W p l e Rm s m args below meth c H locs cells slots Q (F0 m pc ls (.int i :: .ref (A o) :: rest)) := by
  obtain ⟨hx, hb, -, hown, hts, hK, -⟩ := X
  obtain ⟨q, -, hq⟩ := gW_at (A := A) (E := uE cc A J I R) ho
  rw [uE_int hk, hn] at hq
  exact va_iald hx hb hK V.1 q 1 hq rfl hin hdg kk
theorem u_zald (X : uX p s m args c cb nL own D cc L A t16 t32) (V : uV s D cc L A J I R H locs) {o n : Nat} (ho : o ∈ L) (hk : kd o = 16) (hn : ln o = n) {i : Int32} (hin : vp_in i n) (hdg : decode cb pc = .ok (.baload, 1))
    (kk : W p l e Rm s m args below meth c H locs cells slots Q (F0 m (pc + 1) ls (.int (I o i.toNatClampNeg) :: rest))) : W p l e Rm s m args below meth c H locs cells slots Q (F0 m pc ls (.int i :: .ref (A o) :: rest)) := by
  obtain ⟨hx, hb, -, hown, hts, hK, -⟩ := X
  obtain ⟨q, -, hq⟩ := gW_at (A := A) (E := uE cc A J I R) ho
  rw [uE_boo hk, hn] at hq
  exact va_zald hx hb hK V.1 q 2 hq rfl hin hdg kk
theorem u_bald (X : uX p s m args c cb nL own D cc L A t16 t32) (V : uV s D cc L A J I R H locs) {o κ n : Nat} (ho : o ∈ L) (hk : kd o = κ) (hB : isB κ = true) (hn : lnB κ = n) {i : Int32} (hin : vp_in i n) (hdg : decode cb pc = .ok (.baload, 1))
    (kk : W p l e Rm s m args below meth c H locs cells slots Q (F0 m (pc + 1) ls (.int (I o i.toNatClampNeg) :: rest))) : W p l e Rm s m args below meth c H locs cells slots Q (F0 m pc ls (.int i :: .ref (A o) :: rest)) := by
  obtain ⟨hx, hb, -, hown, hts, hK, -⟩ := X
  obtain ⟨q, -, hq⟩ := gW_at (A := A) (E := uE cc A J I R) ho
  rw [uE_byt hk hB, hn] at hq
  exact va_bald hx hb hK V.1 q 0 hq rfl hin hdg kk
theorem u_iast (X : uX p s m args c cb nL own D cc L A t16 t32) (V : uV s D cc L A J I R H locs) {o n : Nat} (ho : o ∈ L) (hk : kd o = 15) (hn : ln o = n) {i x : Int32} (hin : vp_in i n) (hdg : decode cb pc = .ok (.iastore, 1))
    (kk : ∀ I1 : UI, I1 = u2 I o i.toNatClampNeg x → ∀ (H : Heap) (locs : List Loc), uV s D cc L A J I1 R H locs → W p l e Rm s m args below meth c H locs cells slots Q (F0 m (pc + 1) ls rest)) : W p l e Rm s m args below meth c H locs cells slots Q (F0 m pc ls (.int x :: .int i :: .ref (A o) :: rest)) := by
  have hD := X.dd (P := uA L A s.heap.size) uA_in (E := uE cc A J I R)
  obtain ⟨hx, hb, -, hown, hts, hK, -, hFx, -⟩ := X
  obtain ⟨q, hq0, hq⟩ := gW_at (A := A) (E := uE cc A J I R) ho
  rw [uE_int hk, hn] at hq
  refine va_iast hx hb hK V.1 hD V.2 q 1 hq rfl hin hdg (fun H1 locs1 hP1 _ hS1 => kk _ rfl H1 locs1 ⟨?_, hS1⟩)
  rw [← uW_set (k := i.toNatClampNeg) (x := x) hFx.1 hq0 (by rw [uE_int hk, hn, u2_row])]
  exact hP1
theorem u_bast (X : uX p s m args c cb nL own D cc L A t16 t32) (V : uV s D cc L A J I R H locs) {o κ n : Nat} (ho : o ∈ L) (hk : kd o = κ) (hB : isB κ = true) (hn : lnB κ = n) {i x : Int32} (hin : vp_in i n) (hdg : decode cb pc = .ok (.bastore, 1))
    (kk : ∀ I1 : UI, I1 = u2 I o i.toNatClampNeg x.toInt8.toInt32 → ∀ (H : Heap) (locs : List Loc), uV s D cc L A J I1 R H locs → W p l e Rm s m args below meth c H locs cells slots Q (F0 m (pc + 1) ls rest)) : W p l e Rm s m args below meth c H locs cells slots Q (F0 m pc ls (.int x :: .int i :: .ref (A o) :: rest)) := by
  have hD := X.dd (P := uA L A s.heap.size) uA_in (E := uE cc A J I R)
  obtain ⟨hx, hb, -, hown, hts, hK, -, hFx, -⟩ := X
  obtain ⟨q, hq0, hq⟩ := gW_at (A := A) (E := uE cc A J I R) ho
  rw [uE_byt hk hB, hn] at hq
  refine va_bast hx hb hK V.1 hD V.2 q 0 hq rfl hin hdg (fun H1 locs1 hP1 _ hS1 => kk _ rfl H1 locs1 ⟨?_, hS1⟩)
  rw [← uW_set (k := i.toNatClampNeg) (x := x.toInt8.toInt32) hFx.1 hq0 (by rw [uE_byt hk hB, hn, u2_row])]
  rw [vp_nar_byte] at hP1
  exact hP1
theorem u_zast (X : uX p s m args c cb nL own D cc L A t16 t32) (V : uV s D cc L A J I R H locs) {o n : Nat} (ho : o ∈ L) (hk : kd o = 16) (hn : ln o = n) {i x : Int32} (hin : vp_in i n) (hz : zb x) (hdg : decode cb pc = .ok (.bastore, 1))
    (kk : ∀ I1 : UI, I1 = u2 I o i.toNatClampNeg x → ∀ (H : Heap) (locs : List Loc), uV s D cc L A J I1 R H locs → W p l e Rm s m args below meth c H locs cells slots Q (F0 m (pc + 1) ls rest)) : W p l e Rm s m args below meth c H locs cells slots Q (F0 m pc ls (.int x :: .int i :: .ref (A o) :: rest)) := by
  have hD := X.dd (P := uA L A s.heap.size) uA_in (E := uE cc A J I R)
  obtain ⟨hx, hb, -, hown, hts, hK, -, hFx, -⟩ := X
  obtain ⟨q, hq0, hq⟩ := gW_at (A := A) (E := uE cc A J I R) ho
  rw [uE_boo hk, hn] at hq
  refine va_zast hx hb hK V.1 hD V.2 q 2 hq rfl hin hdg (fun H1 locs1 hP1 _ hS1 => kk _ rfl H1 locs1 ⟨?_, hS1⟩)
  rw [← uW_set (k := i.toNatClampNeg) (x := x) hFx.1 hq0 (by rw [uE_boo hk, hn, u2_row])]
  rw [hz.vnar] at hP1
  exact hP1
theorem u_get16 (X : uX p s m args c cb nL own D cc L A t16 t32) (V : uV s D cc L A J I R H locs) {index : Nat} (hl : Cond.fieldLink own index "FrameFerry$Check" "STEPS_16" "[I" ∈ tb) (hdg : decode cb pc = .ok (.getstatic index, 3))
    (kk : W p l e Rm s m args below meth c H locs cells slots Q (F0 m (pc + 3) ls (.ref t16 :: rest))) : W p l e Rm s m args below meth c H locs cells slots Q (F0 m pc ls rest) := by
  obtain ⟨hx, hb, -, hown, hts, hK, -, hFx, hT⟩ := X
  exact va_gets hx hb hT.1.1.1 V.2 hown (hts _ hl) (fun _ h => h) hdg kk
theorem u_get32 (X : uX p s m args c cb nL own D cc L A t16 t32) (V : uV s D cc L A J I R H locs) {index : Nat} (hl : Cond.fieldLink own index "FrameFerry$Check" "STEPS_32" "[I" ∈ tb) (hdg : decode cb pc = .ok (.getstatic index, 3))
    (kk : W p l e Rm s m args below meth c H locs cells slots Q (F0 m (pc + 3) ls (.ref t32 :: rest))) : W p l e Rm s m args below meth c H locs cells slots Q (F0 m pc ls rest) := by
  obtain ⟨hx, hb, -, hown, hts, hK, -, hFx, hT⟩ := X
  exact va_gets hx hb hT.1.2.1 V.2 hown (hts _ hl) (fun _ h => h) hdg kk
theorem u_ald16 (X : uX p s m args c cb nL own D cc L A t16 t32) (V : uV s D cc L A J I R H locs) {i : Int32} (hin : vp_in i 16) (hdg : decode cb pc = .ok (.iaload, 1))
    (kk : W p l e Rm s m args below meth c H locs cells slots Q (F0 m (pc + 1) ls (.int (s16 i.toNatClampNeg) :: rest))) : W p l e Rm s m args below meth c H locs cells slots Q (F0 m pc ls (.int i :: .ref t16 :: rest)) := by
  obtain ⟨hx, hb, -, hown, hts, hK, -, hFx, hT⟩ := X
  exact va_ti hx hb hT.1.1.2 V.2 hin rfl hdg kk
theorem u_ald32 (X : uX p s m args c cb nL own D cc L A t16 t32) (V : uV s D cc L A J I R H locs) {i : Int32} (hin : vp_in i 16) (hdg : decode cb pc = .ok (.iaload, 1))
    (kk : W p l e Rm s m args below meth c H locs cells slots Q (F0 m (pc + 1) ls (.int (s32 i.toNatClampNeg) :: rest))) : W p l e Rm s m args below meth c H locs cells slots Q (F0 m pc ls (.int i :: .ref t32 :: rest)) := by
  obtain ⟨hx, hb, -, hown, hts, hK, -, hFx, hT⟩ := X
  exact va_ti hx hb hT.1.2.2 V.2 hin rfl hdg kk
end U
