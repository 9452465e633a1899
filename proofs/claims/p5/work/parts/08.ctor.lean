/-! Constructors: rows over worlds that are plain lists. -/
def kPre (D : va_G) (cc : Nat → ClassId) (ws : va_W) (sz : Nat) (U : State) : Prop :=
  U.heap.size = sz ∧ va_P D cls ws U.heap ∧ va_K D cls (tys cc) U ∧ va_D (fun _ => True) ws ∧ (∀ w ∈ nw, va_Nw w U) ∧ va_AO "FrameFerry$StoredFile" U
def kMv (l : Launch) (y : MethodName) (cd : Cond) (rm : Room) (mc ms h0 : Nat) (D : va_G) (cc : Nat → ClassId) (ws : va_W) (Q : va_W → Prop) : Prop :=
  ∀ sz, Met l y (wS cd) rm (va_Pc [.ref h0] (kPre D cc ws sz)) (va_Qv Q (fun u t => va_P D cls u t.heap ∧ va_D (va_A ws sz) u) (va_A ws sz)) mc ms (va_A ws sz)
def kX (p : Program) (s : State) (m : MethodId) (args : Array Value) (c : Code) (cb : ByteArray) (nL : Nat) (own : String) (D : va_G) (cc : Nat → ClassId) : Prop :=
  p.tables.exec = Jvm.exec ∧ c.code = cb ∧ c.maxLocals = nL ∧ s.vm.findClass own = some m.cls ∧ (∀ w ∈ tb, w.before args s = true) ∧ va_K D cls (tys cc) s ∧ (∀ w ∈ nw, va_Nw w s) ∧ va_AO "FrameFerry$StoredFile" s
def kV (s : State) (D : va_G) (ws0 ws : va_W) (H : Heap) (locs : List Loc) : Prop :=
  va_P D cls ws H ∧ va_D (va_A ws0 s.heap.size) ws ∧ va_S (va_A ws0 s.heap.size) s.heap H locs
section K
variable {p : Program} {l : Launch} {e : Env} {Rm : Room} {s : State} {m : MethodId} {args : Array Value} {below : List Frame} {meth : Method} {c : Code} {H : Heap} {locs : List Loc} {cells slots : Nat} {Q : State → Prop}
variable {cb : ByteArray} {pc nL : Nat} {ls : Array Slot} {rest st : List Value} {own : String} {D : va_G} {cc : Nat → ClassId} {ws0 ws : va_W}
theorem k_entry {y : MethodName} {n sz mc ms h0 : Nat} {rm : Room} {Q0 : va_W → Prop} (hy : plainName y.cls = true) (hn : (lg_sl [.ref h0]).length ≤ n) (hin : y.name = "<init>")
    (body : ∀ (p : Program) (e : Env) (s : State) (m : MethodId) (args : Array Value) (below : List Frame) (meth : Method) (c : Code), sz = s.heap.size → kX p s m args c cb n y.cls D cc → kV s D ws ws s.heap [] → meth.sig.returnType = none → meth.locks = false → meth.name = "<init>" → ∀ ls : Array Slot, lv_has ls n [(0, .ref h0)] →
      W p l e rm s m args below meth c s.heap [] 0 0 (MQ below (va_Qv Q0 (fun u t => va_P D cls u t.heap ∧ va_D (va_A ws sz) u) (va_A ws sz)) args s mc ms (va_A ws sz)) (F0 m 0 ls [])) :
    Met l y (wS (.code y cb n none)) rm (va_Pc [.ref h0] (kPre D cc ws sz)) (va_Qv Q0 (fun u t => va_P D cls u t.heap ∧ va_D (va_A ws sz) u) (va_A ws sz)) mc ms (va_A ws sz) := by
  refine Met.ofW (cc := cb) (maxL := n) (ret := none) hy rfl ?_
  intro p e s m args below meth c s₁ B hml hv
  obtain ⟨rfl, hsz, hP, hK, hD, hN, hO⟩ := hv
  have hts := atoms_spec (ws := wS (.code y cb n none)) B.pre
  have hown : s.vm.findClass y.cls = some m.cls := findClass_of_methodNamed B.named
  have hnm : meth.name = "<init>" := (name_of_methodNamed B.named B.method).1.trans hin
  have hl := lv_entry [.ref h0] (n := n) hn
  rw [lg_entry_eq]
  refine body p e s m _ below meth c hsz.symm ⟨B.exec, B.bytes, hml, hown, fun w hw => hts w (List.mem_cons_of_mem _ hw), hK, hN, hO⟩ ⟨hP, ?_, va_S.rf⟩ B.returns B.notSynchronized hnm _ hl
  exact hD.self
theorem k_ret (X : kX p s m args c cb nL own D cc) (V : kV s D ws0 ws H locs) (hr : meth.sig.returnType = none) (hlk : meth.locks = false) {sz : Nat} (hsz : sz = s.heap.size) {Q0 : va_W → Prop} (hQ : Q0 ws) (hdg : decode cb pc = .ok (.return_, 1)) :
    W p l e Rm s m args below meth c H locs cells slots (MQ below (va_Qv Q0 (fun u t => va_P D cls u t.heap ∧ va_D (va_A ws0 sz) u) (va_A ws0 sz)) args s cells slots (va_A ws0 sz)) (F0 m pc ls []) := by
  subst hsz
  exact W.vret X.1 X.2.1 hr (fun t ht hW => ⟨⟨ws, rfl, hQ, by show va_P _ _ _ _; rw [ht]; exact V.1, V.2.1⟩, V.2.2.F ht⟩) V.2.2.2.2 hdg
theorem va_A_ge {ws0 : va_W} {sz : Nat} : ∀ q, sz ≤ q → va_A ws0 sz q := fun _ h => Or.inr h
theorem k_obj (X : kX p s m args c cb nL own D cc) {idx : Nat} (S : Cond.methodLink own idx Lib.objectInit ∈ tb ∧ Cond.instanceMethod Lib.objectInit ∈ tb ∧ Cond.code Lib.objectInit ⟨#[0xb1]⟩ 1 none ∈ tb) {a : Nat} (hls : ls.size = nL) (hf : 1 ≤ Rm.frames) (hlo : (rest.map fun v => v.category).sum + 12 ≤ Rm.locals) (hdg : decode cb pc = .ok (.invokespecial idx, 3))
    (kk : W p l e Rm s m args below meth c H locs cells slots Q (F0 m (pc + 3) ls rest)) : W p l e Rm s m args below meth c H locs cells slots Q (F0 m pc ls (.ref a :: rest)) := by
  obtain ⟨hx, hb, hml, hown, hts, hK, -⟩ := X
  exact W.objInit hx hb hown (hts _ S.1) (hts _ S.2.1) (hts _ S.2.2) rfl (hls.trans hml.symm) rfl hdg hf (by show 2 * 0 + _ + 12 ≤ _; omega) kk
theorem tys_uniq {ty : FieldType} {cA : ClassId} (j : Nat) {c0 : ClassId} (hK : va_K D cls (tys cc ++ [(cA, ty)]) s) (hj : (tys cc)[j]? = some (c0, ty)) (hno : ∀ C, ty ≠ .object C) : cA = c0 := by
  have h1 := (hK.2 5 (cA, ty) rfl).2
  have hj' : (tys cc ++ [(cA, ty)])[j]? = some (c0, ty) := by rw [List.getElem?_append_left (List.getElem?_eq_some_iff.mp hj).1]; exact hj
  have h2 := (hK.2 j (c0, ty) hj').2
  cases ty <;> first | (exact absurd rfl (hno _)) | (exact Option.some.inj (Eq.trans (Eq.symm h1) h2))
theorem tys_uniqO {C : String} {cA : ClassId} (j : Nat) {c0 : ClassId} (hK : va_K D cls (tys cc ++ [(cA, .object C)]) s) (hj : (tys cc)[j]? = some (c0, .object C)) : cA = c0 := by
  have h1 := (hK.2 5 (cA, .object C) rfl).2
  have hj' : (tys cc ++ [(cA, .object C)])[j]? = some (c0, .object C) := by rw [List.getElem?_append_left (List.getElem?_eq_some_iff.mp hj).1]; exact hj
  have h2 := (hK.2 j (c0, .object C) hj').2
  obtain ⟨_, _, _, _, _, e1⟩ := h1
  obtain ⟨_, _, _, _, _, e2⟩ := h2
  exact Option.some.inj (e1.symm.trans e2)
theorem k_newa (X : kX p s m args c cb nL own D cc) (V : kV s D ws0 ws H locs) {atype : ArrayType} {ty : FieldType} (j : Nat) {c0 : ClassId} (hj : (tys cc)[j]? = some (c0, ty)) (hno : ∀ C, ty ≠ .object C) (hty : newarray.typeOf atype = ty) (hw : Cond.arrayClass (newarray.typeOf atype) ∈ tb) {n : Int32} {N' : Nat} {a0 : vp_A} (ha : ∀ cA : ClassId, vp_cell cA a0 = arrV cA N' (fun _ => defaultValue ty)) (hn : ¬ n < 0) (hN : n.toNatClampNeg = N') (hbytes : N' * componentBytes ty ≤ 536870912) (hcells : cells + 1 ≤ Rm.cells) (hslots : slots + N' ≤ Rm.slots) (hdg : decode cb pc = .ok (.newarray atype, 2))
    (kk : ∀ (q : Nat) (H : Heap), kV s D ws0 (ws ++ [(q, .inl (c0, a0))]) H locs → W p l e Rm s m args below meth c H locs (cells + 1) (slots + N') Q (F0 m (pc + 2) ls (.ref q :: rest))) : W p l e Rm s m args below meth c H locs cells slots Q (F0 m pc ls (.int n :: rest)) := by
  obtain ⟨hx, hb, hml, hown, hts, hK, -⟩ := X
  refine va_newa hx hb (hts _ hw) hty hK V.1 V.2.1 V.2.2 va_A_ge ha hn hN hbytes hcells hslots hdg (fun q cA H1 hK1 hP1 hD1 hS1 => ?_)
  have e0 := tys_uniq j hK1 hj hno
  subst e0
  exact kk q H1 ⟨hP1, hD1, hS1⟩
theorem k_newq (X : kX p s m args c cb nL own D cc) (V : kV s D ws0 ws H locs) {index : Nat} (hw : Cond.classLink own index "FrameFerry$StoredFile" ∈ tb) {n : Int32} {N' : Nat} (hn : ¬ n < 0) (hN : n.toNatClampNeg = N') (hbytes : N' * 4 ≤ 536870912) (hcells : cells + 1 ≤ Rm.cells) (hslots : slots + N' ≤ Rm.slots) (hdg : decode cb pc = .ok (.anewarray index, 3))
    (kk : ∀ (q : Nat) (H : Heap), kV s D ws0 (ws ++ [(q, .inl (cc 3, N', .inr (.inr (.inr (.inr (fun _ => none))))))]) H locs → W p l e Rm s m args below meth c H locs (cells + 1) (slots + N') Q (F0 m (pc + 3) ls (.ref q :: rest))) : W p l e Rm s m args below meth c H locs cells slots Q (F0 m pc ls (.int n :: rest)) := by
  obtain ⟨hx, hb, hml, hown, hts, hK, hN0, hO⟩ := X
  refine va_newq hx hb hown (hts _ hw) hO hK V.1 V.2.1 V.2.2 va_A_ge hn hN hbytes hcells hslots hdg (fun q cA H1 hK1 hP1 hD1 hS1 => ?_)
  have e0 := tys_uniqO 3 hK1 rfl
  subst e0
  exact kk q H1 ⟨hP1, hD1, hS1⟩
theorem k_new (X : kX p s m args c cb nL own D cc) (V : kV s D ws0 ws H locs) {C : String} {T : u_T} {N ci index : Nat} (hin : ∀ w ∈ u_ws C T N, w ∈ tb) (ty : Nat → FieldType) (hty : ∀ k, k < N → parseFieldDescriptor (T k).2.2.1 = some (ty k)) (S : Cond.classLink own index C ∈ tb ∧ Cond.instantiable C N ∈ tb ∧ Cond.initialized C ∈ tb) (hc : cls[ci]? = some (C, T, N)) {fs : List Value} (hfs : ∀ j, j < N → defaultValue (ty j) = vp_V fs j) (hcells : cells + 1 ≤ Rm.cells) (hslots : slots + N ≤ Rm.slots) (hdg : decode cb pc = .ok (.new index, 3))
    (kk : ∀ (q : Nat) (H : Heap), kV s D ws0 (ws ++ [(q, .inr (ci, fs))]) H locs → W p l e Rm s m args below meth c H locs (cells + 1) (slots + N) Q (F0 m (pc + 3) ls (.ref q :: rest))) : W p l e Rm s m args below meth c H locs cells slots Q (F0 m pc ls rest) := by
  obtain ⟨hx, hb, hml, hown, hts, hK, -⟩ := X
  exact va_new hx hb hts hin ty hty hown (hts _ S.1) (hts _ S.2.1) (hts _ S.2.2) hK V.1 V.2.1 V.2.2 va_A_ge hc hfs hcells hslots hdg (fun q H1 hP1 hD1 hS1 => kk q H1 ⟨hP1, hD1, hS1⟩)
theorem k_putF (X : kX p s m args c cb nL own D cc) (V : kV s D ws0 ws H locs) {index ci k q0 a : Nat} {ty : FieldType} (F : uF own index ci k true ty) (hin2 : meth.name = "<init>") (hdecl : ∀ C T N, cls[ci]? = some (C, T, N) → (T k).1 = own) {fs : List Value} (he : ws[q0]? = some (a, .inr (ci, fs))) {v : Value} (hn : narrow ty v = v) (hfit : fits ty v = true) (hl : k < fs.length) {ws' : va_W} (hw : ws.set q0 (a, .inr (ci, fs.set k v)) = ws') (hdg : decode cb pc = .ok (.putfield index, 3))
    (kk : ∀ (H : Heap) (locs : List Loc), kV s D ws0 ws' H locs → W p l e Rm s m args below meth c H locs cells slots Q (F0 m (pc + 3) ls rest)) : W p l e Rm s m args below meth c H locs cells slots Q (F0 m pc ls (v :: .ref a :: rest)) := by
  obtain ⟨hx, hb, hml, hown, hts, hK, -⟩ := X
  obtain ⟨C, T, N, ty0, f1, f2, f3, f4, f5, f6, f7, f8⟩ := F
  subst hw
  exact va_putF hx hb hts f4 ty0 f5 f6 hown hK V.1 V.2.1 V.2.2 q0 he f1 k f2 (hts _ f3) (fun _ h => h) f7 hin2 (hdecl C T N f1) (f5 k f2) (by rw [f8]; exact hn) (by rw [f8]; exact hfit) hl hdg (fun H1 locs1 hP1 hD1 hS1 => kk H1 locs1 ⟨hP1, hD1, hS1⟩)
theorem k_put (X : kX p s m args c cb nL own D cc) (V : kV s D ws0 ws H locs) {index ci k q0 a : Nat} {ty : FieldType} (F : uF own index ci k false ty) {fs : List Value} (he : ws[q0]? = some (a, .inr (ci, fs))) {v : Value} (hn : narrow ty v = v) (hfit : fits ty v = true) (hl : k < fs.length) {ws' : va_W} (hw : ws.set q0 (a, .inr (ci, fs.set k v)) = ws') (hdg : decode cb pc = .ok (.putfield index, 3))
    (kk : ∀ (H : Heap) (locs : List Loc), kV s D ws0 ws' H locs → W p l e Rm s m args below meth c H locs cells slots Q (F0 m (pc + 3) ls rest)) : W p l e Rm s m args below meth c H locs cells slots Q (F0 m pc ls (v :: .ref a :: rest)) := by
  obtain ⟨hx, hb, hml, hown, hts, hK, -⟩ := X
  obtain ⟨C, T, N, ty0, f1, f2, f3, f4, f5, f6, f7, f8⟩ := F
  subst hw
  exact va_put hx hb hts f4 ty0 f5 f6 hown hK V.1 V.2.1 V.2.2 q0 he f1 k f2 (hts _ f3) (fun _ h => h) f7 (f5 k f2) (by rw [f8]; exact hn) (by rw [f8]; exact hfit) hl hdg (fun H1 locs1 hP1 hD1 hS1 => kk H1 locs1 ⟨hP1, hD1, hS1⟩)
theorem kPre_blind {as : List Value} {sz : Nat} : FrameBlind (va_Pc as (kPre D cc ws sz)) := fun a U g mk q => by
  obtain ⟨q0, q1, qP, qK, qD, qN, qO⟩ := q
  exact ⟨q0, q1, qP, va_K.moved (u := U) (U := U.calling g mk a) (Vm.Alike.refl U.vm) qK, qD, fun w hw => nw_warm (s := U) (U := U.calling g mk a) (State.WarmedH.refl U) hw (qN w hw), va_AO.moved (u := U) (U := U.calling g mk a) (Vm.Alike.refl U.vm) qO⟩
theorem va_rng {wr : va_W} {x : Nat × va_E} : (List.range wr.length).map (fun i => (wr ++ [x])[i]?) = wr.map some := by
  apply List.ext_getElem?
  intro j
  rw [List.getElem?_map, List.getElem?_map]
  by_cases h : j < wr.length
  · rw [List.getElem?_range h, Option.map_some, List.getElem?_append_left h, List.getElem?_eq_getElem h]
    rfl
  · rw [List.getElem?_eq_none (by simpa using h), List.getElem?_eq_none (by simpa using h)]
    rfl
theorem va_nd_range : ∀ n, va_nd (List.range n) = true := by
  have key : ∀ l : List Nat, l.Nodup → va_nd l = true := by
    intro l
    induction l with
    | nil => intro _; rfl
    | cons a l ih =>
      intro h
      have h' := List.nodup_cons.mp h
      simp [va_nd, h'.1, ih h'.2]
  intro n
  exact key _ List.nodup_range
/-- a constructor of a nest mate, called on the thing made last -/
theorem k_init (X : kX p s m args c cb nL own D cc) {wr : va_W} {q : Nat} {e0 : va_E} (V : kV s D ws0 (wr ++ [(q, e0)]) H locs) {index maxL mc ms : Nat} {y : MethodName} {host : String} {bytes : ByteArray} {rm : Room} {Q0 : va_W → Prop} (S : (Cond.initialized y.cls ∈ tb ∧ Cond.instanceMethod y ∈ tb ∧ Cond.code y bytes maxL none ∈ tb) ∧ Cond.methodLinkNest own index y host ∈ nw ∧ y.name = "<init>" ∧ (y.cls ≠ "java/lang/invoke/MethodHandle" ∧ y.cls ≠ "java/lang/invoke/VarHandle" ∧ (parseMethodDescriptor y.desc).map (fun d => d.parameters.length) = some 0))
    (hM : kMv l y (.code y bytes maxL none) rm mc ms q D cc [(q, e0)] Q0) (hrm : rm.cells = mc ∧ rm.slots = ms ∧ rm.frames + 1 ≤ Rm.frames ∧ 8 + (maxL + 11) + rm.locals ≤ Rm.locals) (hls : ls.size = nL) (hw : (rest.map fun v => v.category).sum ≤ 8) (hdg : decode cb pc = .ok (.invokespecial index, 3)) (hcs : cells + mc ≤ Rm.cells ∧ slots + ms ≤ Rm.slots)
    (kk : ∀ u : va_W, Q0 u → ∀ (H : Heap) (locs : List Loc), kV s D ws0 (wr ++ u) H locs → W p l e Rm s m args below meth c H locs (cells + mc) (slots + ms) Q (F0 m (pc + 3) ls rest)) : W p l e Rm s m args below meth c H locs cells slots Q (F0 m pc ls (.ref q :: rest)) := by
  obtain ⟨hx, hb, hml, hown, hts, hK, hN, hO⟩ := X
  obtain ⟨⟨s1, s2, s3⟩, s4, s5, s6⟩ := S
  have hC : [wr.length].map (fun i => (wr ++ [(q, e0)])[i]?) = [(q, e0)].map some := by simp
  have hPc : va_P D cls [(q, e0)] H := V.1.sub [wr.length] (by simp)
  have hDc : va_D (fun _ => True) [(q, e0)] := (V.2.1.sub [wr.length] rfl hC).weaken (fun _ _ _ _ => trivial)
  have hFc := va_free (wc := [(q, e0)]) V.2.1 V.2.2 va_A_ge [wr.length] hC
  refine va_callv (va_runIN (Ts := tb) (As := []) (rest := rest) ⟨hx, hb, hml, hown, hts⟩ (hM H.size) ⟨va_cnB 0 hts (fun w hw => ?_) rfl hrm.1 hrm.2.1 (hN _ s4) (hts _ s1) s6 ⟨hrm.2.2.1, hrm.2.2.2⟩, s5, hts _ s2⟩ ⟨kPre_blind, fun U hU hW => ⟨rfl, by rw [hU], by rw [hU]; exact hPc, va_K.moved hW.alike hK, hDc, fun w hw => ?_, va_AO.moved hW.alike hO⟩⟩ rfl rfl hls rfl (lv_room hw) hdg hcs) V.2.2 (fun q _ h => hFc q h) hFc (fun u t H1 locs1 ht hvm hq hB hz hke hS1 => ?_)
  · rcases List.mem_cons.mp hw with rfl | hw
    · exact ⟨s3, tb_good s3⟩
    · exact ⟨hw, tb_good hw⟩
  · exact nw_warm hW hw (hN w hw)
  · obtain ⟨hP1, hD1⟩ := hB
    rw [ht] at hP1
    obtain ⟨hP2, hD2⟩ := va_join V.1 V.2.1 [wr.length] (List.range wr.length) hC va_rng (va_nd_range _) (fun i hi h2 => by have := List.mem_range.mp hi; simp at h2; omega) hke hFc hP1 hD1
    exact kk u hq H1 locs1 ⟨hP2, hD2, hS1⟩
end K
