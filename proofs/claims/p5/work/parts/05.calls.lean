/-! Entry, ends and calls in the world of the system. -/
section U
variable {p : Program} {l : Launch} {e : Env} {Rm : Room} {s : State} {m : MethodId} {args : Array Value} {below : List Frame} {meth : Method} {c : Code} {H : Heap} {locs : List Loc} {cells slots : Nat} {Q : State → Prop}
variable {cb : ByteArray} {pc nL : Nat} {ls : Array Slot} {rest st : List Value} {own : String} {D : va_G} {cc : Nat → ClassId} {L : List Nat} {A : Nat → Nat} {J : Nat → Int64} {t16 t32 : Nat} {I : UI} {R : UR}
theorem u_entry {y : MethodName} {n sz mc ms : Nat} {ret : Option FieldType} {rm : Room} {as : List Value} {Qc : Array Value → State → Outcome → State → Prop} (hy : plainName y.cls = true) (hn : (lg_sl as).length ≤ n)
    (body : ∀ (p : Program) (e : Env) (s : State) (m : MethodId) (args : Array Value) (below : List Frame) (meth : Method) (c : Code), sz = s.heap.size → uX p s m args c cb n y.cls D cc L A t16 t32 → uV s D cc L A J I R s.heap [] → meth.sig.returnType = ret → meth.locks = false → ∀ ls : Array Slot, lv_has ls n (lv_args 0 as) →
      W p l e rm s m args below meth c s.heap [] 0 0 (MQ below Qc args s mc ms (uA L A sz)) (F0 m 0 ls [])) :
    Met l y (wS (.code y cb n ret)) rm (va_Pc as (uPre D cc L A J t16 t32 I R sz)) Qc mc ms (uA L A sz) := by
  refine Met.ofW (cc := cb) (maxL := n) (ret := ret) hy rfl ?_
  intro p e s m args below meth c s₁ B hml hv
  obtain ⟨rfl, hsz, hP, hK, hD, hFx, hT⟩ := hv
  have hts := atoms_spec (ws := wS (.code y cb n ret)) B.pre
  have hown : s.vm.findClass y.cls = some m.cls := findClass_of_methodNamed B.named
  have hl := lv_entry as (n := n) hn
  rw [lg_entry_eq]
  refine body p e s m _ below meth c hsz.symm ⟨B.exec, B.bytes, hml, hown, fun w hw => hts w (List.mem_cons_of_mem _ hw), hK, hD, hFx, ?_⟩ ⟨hP, va_S.rf⟩ B.returns B.notSynchronized _ hl
  rw [hsz]; exact hT
theorem u_retv (X : uX p s m args c cb nL own D cc L A t16 t32) (V : uV s D cc L A J I R H locs) (hr : meth.sig.returnType = none) (hlk : meth.locks = false) {sz : Nat} (hsz : sz = s.heap.size) {Q : UI → UR → Prop} (hQ : Q I R) (hdg : decode cb pc = .ok (.return_, 1)) :
    W p l e Rm s m args below meth c H locs cells slots (MQ below (va_Qv (fun u : UI × UR => Q u.1 u.2) (uBv D cc L A J) (uA L A sz)) args s cells slots (uA L A sz)) (F0 m pc ls []) := by
  subst hsz
  exact W.vret X.1 X.2.1 hr (fun t ht hW => ⟨⟨(I, R), rfl, hQ, by show va_P _ _ _ _; rw [ht]; exact V.1⟩, V.2.F ht⟩) V.2.2.2 hdg
theorem u_reti (X : uX p s m args c cb nL own D cc L A t16 t32) (V : uV s D cc L A J I R H locs) (hr : meth.sig.returnType = some .int) (hlk : meth.locks = false) {sz : Nat} (hsz : sz = s.heap.size) {v : Int32} {Q : Int32 → UI → UR → Prop} (hQ : Q v I R) (hdg : decode cb pc = .ok (.ireturn, 1)) :
    W p l e Rm s m args below meth c H locs cells slots (MQ below (va_Qi (fun (r : Int32) (u : UI × UR) => Q r u.1 u.2) (uBv D cc L A J) (uA L A sz)) args s cells slots (uA L A sz)) (F0 m pc ls [.int v]) := by
  subst hsz
  exact W.iret X.1 X.2.1 hr (fun t ht hW => ⟨⟨v, (I, R), rfl, hQ, by show va_P _ _ _ _; rw [ht]; exact V.1⟩, V.2.F ht⟩) V.2.2.2 hdg
theorem u_retz (X : uX p s m args c cb nL own D cc L A t16 t32) (V : uV s D cc L A J I R H locs) (hr : meth.sig.returnType = some .boolean) (hlk : meth.locks = false) {sz : Nat} (hsz : sz = s.heap.size) {v : Int32} {Q : Int32 → UI → UR → Prop} (hz : zb v) (hQ : Q v I R) (hdg : decode cb pc = .ok (.ireturn, 1)) :
    W p l e Rm s m args below meth c H locs cells slots (MQ below (va_Qi (fun (r : Int32) (u : UI × UR) => Q r u.1 u.2) (uBv D cc L A J) (uA L A sz)) args s cells slots (uA L A sz)) (F0 m pc ls [.int v]) := by
  subst hsz
  exact W.zret X.1 X.2.1 hr hz.nar (fun t ht hW => ⟨⟨v, (I, R), rfl, hQ, by show va_P _ _ _ _; rw [ht]; exact V.1⟩, V.2.F ht⟩) V.2.2.2 hdg
theorem u_retr (X : uX p s m args c cb nL own D cc L A t16 t32) (V : uV s D cc L A J I R H locs) {C0 : String} (hr : meth.sig.returnType = some (.object C0)) (hlk : meth.locks = false) {sz : Nat} (hsz : sz = s.heap.size) {i : Option Nat} {v : Value} (hv : v = va_rf (i.map A)) {Q : Option Nat → UI → UR → Prop} (hQ : Q i I R) (hdg : decode cb pc = .ok (.areturn, 1)) :
    W p l e Rm s m args below meth c H locs cells slots (MQ below (va_Qq (fun (r : Option Nat) (u : UI × UR) => ∃ i : Option Nat, r = i.map A ∧ Q i u.1 u.2) (uBv D cc L A J) (uA L A sz)) args s cells slots (uA L A sz)) (F0 m pc ls [v]) := by
  subst hsz; subst hv
  exact W.aret X.1 X.2.1 hr (Or.inl ⟨_, rfl⟩) (by cases i with | none => exact Or.inl rfl | some a => exact Or.inr ⟨A a, rfl⟩) (fun t ht hW => ⟨⟨i.map A, (I, R), rfl, ⟨i, rfl, hQ⟩, by show va_P _ _ _ _; rw [ht]; exact V.1⟩, V.2.F ht⟩) V.2.2.2 hdg
theorem uPre_blind {as : List Value} {sz : Nat} : FrameBlind (va_Pc as (uPre D cc L A J t16 t32 I R sz)) := fun a U g mk q => by
  obtain ⟨q0, q1, qP, qK, qD, qF, qT⟩ := q
  exact ⟨q0, q1, qP, va_K.moved (u := U) (U := U.calling g mk a) (Vm.Alike.refl U.vm) qK, qD, qF, uT.moved (u := U) (U := U.calling g mk a) (State.WarmedH.refl U) qT⟩
theorem uPre_of (X : uX p s m args c cb nL own D cc L A t16 t32) (V : uV s D cc L A J I R H locs) (as : List Value) : ∀ U : State, U.heap = H → s.WarmedH U.vm → va_Pc as (uPre D cc L A J t16 t32 I R H.size) as.toArray U := fun U hU hW => by
  obtain ⟨hx, hb, hml, hown, hts, hK, hD, hFx, hT⟩ := X
  refine ⟨rfl, by rw [hU], by rw [hU]; exact V.1, va_K.moved hW.alike hK, hD, hFx, ?_⟩
  rw [hU]
  exact uT.moved hW ((hT.kept V.2.2.1).narrow (uA_le V.2.1))
theorem uX.recv (X : uX p s m args c cb nL own D cc L A t16 t32) (V : uV s D cc L A J I R H locs) {o κ : Nat} {C : String} (ho : o ∈ L) (hk : kd o = κ) (hO : isO κ = true) (hc : (cls[(lay κ).1]?).map (fun q => q.1) = some C) : ∃ cellB : Cell, H[A o]? = some cellB ∧ cellB.vm.isStatics = false ∧ s.vm.findClass C = some cellB.cls := by
  obtain ⟨hx, hb, hml, hown, hts, hK, hD, hFx, hT⟩ := X
  obtain ⟨q, -, hq⟩ := gW_at (A := A) (E := uE cc A J I R) ho
  rw [uE_obj hk hO] at hq
  cases hz : cls[(lay κ).1]? with
  | none => rw [hz] at hc; cases hc
  | some r =>
    rw [hz] at hc
    have h1 := va_recv hK V.1 hz hq
    have e1 : r.1 = C := Option.some.inj hc
    rw [e1] at h1
    exact h1
/-- a call's words -/
def uCv (own : String) (index : Nat) (y : MethodName) (n : Nat) (cd : Cond) : Prop := uCs own index y n cd ∧ Cond.instanceMethod y ∈ tb ∧ Cond.selects y.cls y y ∈ tb
def uCt (own : String) (index : Nat) (y : MethodName) (n : Nat) (cd : Cond) : Prop := uCs own index y n cd ∧ Cond.static y ∈ tb
def rOk (rm Rm : Room) (maxL : Nat) : Prop := rm.cells = 0 ∧ rm.slots = 0 ∧ rm.frames + 1 ≤ Rm.frames ∧ 8 + (maxL + 11) + rm.locals ≤ Rm.locals
theorem u_cb (X : uX p s m args c cb nL own D cc L A t16 t32) {index n maxL : Nat} {y : MethodName} {bytes : ByteArray} {ret : Option FieldType} {rm : Room} (S : uCs own index y n (.code y bytes maxL ret)) (hrm : rOk rm Rm maxL) :
    CallB Rm s args own index y bytes maxL ret (wS (.code y bytes maxL ret)) rm 0 0 n := by
  obtain ⟨hx, hb, hml, hown, hts, hK, hD, hFx, hT⟩ := X
  refine callB_of (Ts := tb) n hts (fun w hw => ?_) rfl hrm.1 hrm.2.1 (hts _ S.2.1) (hts _ S.1) S.2.2.2 ⟨hrm.2.2.1, hrm.2.2.2⟩
  rcases List.mem_cons.mp hw with rfl | hw
  · exact ⟨S.2.2.1, tb_good S.2.2.1⟩
  · exact ⟨hw, tb_good hw⟩
theorem u_cVv (X : uX p s m args c cb nL own D cc L A t16 t32) (V : uV s D cc L A J I R H locs) {index n maxL o κ : Nat} {y : MethodName} {bytes : ByteArray} {rm : Room} {As : List Value} {Q0 : UI → UR → Prop} (S : uCv own index y n (.code y bytes maxL none)) (ho : o ∈ L) (hk : kd o = κ) (hO : isO κ = true) (hc : (cls[(lay κ).1]?).map (fun q => q.1) = some y.cls)
    (hM : uMv l y (.code y bytes maxL none) rm (.ref (A o) :: As) D cc L A J t16 t32 I R Q0) (hrm : rOk rm Rm maxL) (hn : As.length = n) (hls : ls.size = nL) (hst : st = As.reverse ++ .ref (A o) :: rest) (hw : (rest.map fun v => v.category).sum ≤ 8) (hdg : decode cb pc = .ok (.invokevirtual index, 3)) (hcs : cells ≤ Rm.cells ∧ slots ≤ Rm.slots)
    (kk : ∀ (I1 : UI) (R1 : UR), Q0 I1 R1 → ∀ (H : Heap) (locs : List Loc), uV s D cc L A J I1 R1 H locs → W p l e Rm s m args below meth c H locs cells slots Q (F0 m (pc + 3) ls rest)) : W p l e Rm s m args below meth c H locs cells slots Q (F0 m pc ls st) := by
  have X0 := X
  obtain ⟨hx, hb, hml, hown, hts, hK, hD, hFx, hT⟩ := X
  refine va_callv (va_runV (Ts := tb) (C := y.cls) ⟨hx, hb, hml, hown, hts⟩ (hM H.size) ⟨u_cb X0 S.1 hrm, hts _ S.2.1, hts _ S.2.2⟩ ⟨uPre_blind, X0.recv V ho hk hO hc, uPre_of X0 V _⟩ rfl hn hls hst (lv_room hw) hdg hcs) V.2 (fun q _ h => uA_le V.2.1 q h) (fun q h => uA_le V.2.1 q h) (fun u t H1 locs1 ht hvm hq hB hz hke hS1 => ?_)
  exact kk u.1 u.2 hq H1 locs1 ⟨by rw [← ht]; exact hB, hS1⟩
theorem u_cVi (X : uX p s m args c cb nL own D cc L A t16 t32) (V : uV s D cc L A J I R H locs) {index n maxL o κ : Nat} {y : MethodName} {bytes : ByteArray} {ty : FieldType} {rm : Room} {As : List Value} {Q0 : Int32 → UI → UR → Prop} (S : uCv own index y n (.code y bytes maxL (some ty))) (ho : o ∈ L) (hk : kd o = κ) (hO : isO κ = true) (hc : (cls[(lay κ).1]?).map (fun q => q.1) = some y.cls)
    (hM : uMi l y (.code y bytes maxL (some ty)) rm (.ref (A o) :: As) D cc L A J t16 t32 I R Q0) (hrm : rOk rm Rm maxL) (hn : As.length = n) (hls : ls.size = nL) (hst : st = As.reverse ++ .ref (A o) :: rest) (hw : (rest.map fun v => v.category).sum ≤ 8) (hdg : decode cb pc = .ok (.invokevirtual index, 3)) (hcs : cells ≤ Rm.cells ∧ slots ≤ Rm.slots)
    (kk : ∀ (r : Int32) (I1 : UI) (R1 : UR), Q0 r I1 R1 → ∀ (H : Heap) (locs : List Loc), uV s D cc L A J I1 R1 H locs → W p l e Rm s m args below meth c H locs cells slots Q (F0 m (pc + 3) ls (.int r :: rest))) : W p l e Rm s m args below meth c H locs cells slots Q (F0 m pc ls st) := by
  have X0 := X
  obtain ⟨hx, hb, hml, hown, hts, hK, hD, hFx, hT⟩ := X
  refine va_calli (va_runV (Ts := tb) (C := y.cls) ⟨hx, hb, hml, hown, hts⟩ (hM H.size) ⟨u_cb X0 S.1 hrm, hts _ S.2.1, hts _ S.2.2⟩ ⟨uPre_blind, X0.recv V ho hk hO hc, uPre_of X0 V _⟩ rfl hn hls hst (lv_room hw) hdg hcs) V.2 (fun q _ h => uA_le V.2.1 q h) (fun q h => uA_le V.2.1 q h) (fun r u t H1 locs1 ht hvm hq hB hz hke hS1 => ?_)
  exact kk r u.1 u.2 hq H1 locs1 ⟨by rw [← ht]; exact hB, hS1⟩
theorem u_cVr (X : uX p s m args c cb nL own D cc L A t16 t32) (V : uV s D cc L A J I R H locs) {index n maxL o κ : Nat} {y : MethodName} {bytes : ByteArray} {ty : FieldType} {rm : Room} {As : List Value} {Q0 : Option Nat → UI → UR → Prop} (S : uCv own index y n (.code y bytes maxL (some ty))) (ho : o ∈ L) (hk : kd o = κ) (hO : isO κ = true) (hc : (cls[(lay κ).1]?).map (fun q => q.1) = some y.cls)
    (hM : uMr l y (.code y bytes maxL (some ty)) rm (.ref (A o) :: As) D cc L A J t16 t32 I R Q0) (hrm : rOk rm Rm maxL) (hn : As.length = n) (hls : ls.size = nL) (hst : st = As.reverse ++ .ref (A o) :: rest) (hw : (rest.map fun v => v.category).sum ≤ 8) (hdg : decode cb pc = .ok (.invokevirtual index, 3)) (hcs : cells ≤ Rm.cells ∧ slots ≤ Rm.slots)
    (kk : ∀ (i : Option Nat) (I1 : UI) (R1 : UR), Q0 i I1 R1 → ∀ (H : Heap) (locs : List Loc), uV s D cc L A J I1 R1 H locs → W p l e Rm s m args below meth c H locs cells slots Q (F0 m (pc + 3) ls (va_rf (i.map A) :: rest))) : W p l e Rm s m args below meth c H locs cells slots Q (F0 m pc ls st) := by
  have X0 := X
  obtain ⟨hx, hb, hml, hown, hts, hK, hD, hFx, hT⟩ := X
  refine va_callq (va_runV (Ts := tb) (C := y.cls) ⟨hx, hb, hml, hown, hts⟩ (hM H.size) ⟨u_cb X0 S.1 hrm, hts _ S.2.1, hts _ S.2.2⟩ ⟨uPre_blind, X0.recv V ho hk hO hc, uPre_of X0 V _⟩ rfl hn hls hst (lv_room hw) hdg hcs) V.2 (fun q _ h => uA_le V.2.1 q h) (fun q h => uA_le V.2.1 q h) (fun r u t H1 locs1 ht hvm hq hB hz hke hS1 => ?_)
  obtain ⟨i, rfl, hq⟩ := hq
  exact kk i u.1 u.2 hq H1 locs1 ⟨by rw [← ht]; exact hB, hS1⟩
theorem u_cSv (X : uX p s m args c cb nL own D cc L A t16 t32) (V : uV s D cc L A J I R H locs) {index n maxL : Nat} {y : MethodName} {bytes : ByteArray} {rm : Room} {As : List Value} {Q0 : UI → UR → Prop} (S : uCt own index y n (.code y bytes maxL none))
    (hM : uMv l y (.code y bytes maxL none) rm As D cc L A J t16 t32 I R Q0) (hrm : rOk rm Rm maxL) (hn : As.length = n) (hls : ls.size = nL) (hst : st = As.reverse ++ rest) (hw : (rest.map fun v => v.category).sum ≤ 8) (hdg : decode cb pc = .ok (.invokestatic index, 3)) (hcs : cells ≤ Rm.cells ∧ slots ≤ Rm.slots)
    (kk : ∀ (I1 : UI) (R1 : UR), Q0 I1 R1 → ∀ (H : Heap) (locs : List Loc), uV s D cc L A J I1 R1 H locs → W p l e Rm s m args below meth c H locs cells slots Q (F0 m (pc + 3) ls rest)) : W p l e Rm s m args below meth c H locs cells slots Q (F0 m pc ls st) := by
  have X0 := X
  obtain ⟨hx, hb, hml, hown, hts, hK, hD, hFx, hT⟩ := X
  refine va_callv (va_runS (Ts := tb) ⟨hx, hb, hml, hown, hts⟩ (hM H.size) ⟨u_cb X0 S.1 hrm, hts _ S.2⟩ ⟨uPre_blind, uPre_of X0 V _⟩ rfl hn hls hst (lv_room hw) hdg hcs) V.2 (fun q _ h => uA_le V.2.1 q h) (fun q h => uA_le V.2.1 q h) (fun u t H1 locs1 ht hvm hq hB hz hke hS1 => ?_)
  exact kk u.1 u.2 hq H1 locs1 ⟨by rw [← ht]; exact hB, hS1⟩
theorem u_cSi (X : uX p s m args c cb nL own D cc L A t16 t32) (V : uV s D cc L A J I R H locs) {index n maxL : Nat} {y : MethodName} {bytes : ByteArray} {ty : FieldType} {rm : Room} {As : List Value} {Q0 : Int32 → UI → UR → Prop} (S : uCt own index y n (.code y bytes maxL (some ty)))
    (hM : uMi l y (.code y bytes maxL (some ty)) rm As D cc L A J t16 t32 I R Q0) (hrm : rOk rm Rm maxL) (hn : As.length = n) (hls : ls.size = nL) (hst : st = As.reverse ++ rest) (hw : (rest.map fun v => v.category).sum ≤ 8) (hdg : decode cb pc = .ok (.invokestatic index, 3)) (hcs : cells ≤ Rm.cells ∧ slots ≤ Rm.slots)
    (kk : ∀ (r : Int32) (I1 : UI) (R1 : UR), Q0 r I1 R1 → ∀ (H : Heap) (locs : List Loc), uV s D cc L A J I1 R1 H locs → W p l e Rm s m args below meth c H locs cells slots Q (F0 m (pc + 3) ls (.int r :: rest))) : W p l e Rm s m args below meth c H locs cells slots Q (F0 m pc ls st) := by
  have X0 := X
  obtain ⟨hx, hb, hml, hown, hts, hK, hD, hFx, hT⟩ := X
  refine va_calli (va_runS (Ts := tb) ⟨hx, hb, hml, hown, hts⟩ (hM H.size) ⟨u_cb X0 S.1 hrm, hts _ S.2⟩ ⟨uPre_blind, uPre_of X0 V _⟩ rfl hn hls hst (lv_room hw) hdg hcs) V.2 (fun q _ h => uA_le V.2.1 q h) (fun q h => uA_le V.2.1 q h) (fun r u t H1 locs1 ht hvm hq hB hz hke hS1 => ?_)
  exact kk r u.1 u.2 hq H1 locs1 ⟨by rw [← ht]; exact hB, hS1⟩
end U
def isCk (L : List Nat) (o : Nat) : Prop := o ∈ L ∧ kd o = 7
def isPi (L : List Nat) (o : Nat) : Prop := o ∈ L ∧ kd o = 4 ∧ o + 1 ∈ L ∧ kd (o + 1) = 5
def isSf (L : List Nat) (o : Nat) : Prop := o ∈ L ∧ kd o = 12 ∧ o + 1 ∈ L ∧ kd (o + 1) = 13
def isWr (L : List Nat) (o : Nat) : Prop := o ∈ L ∧ kd o = 6 ∧ o + 1 ∈ L ∧ kd (o + 1) = 7
def isRd (L : List Nat) (o : Nat) : Prop := o ∈ L ∧ kd o = 8 ∧ o + 1 ∈ L ∧ kd (o + 1) = 9 ∧ o + 2 ∈ L ∧ kd (o + 2) = 7
theorem nr_ok {x k : Int32} {a : Int} (h : ¬ x = k) (hk : k.toInt = a) : ¬ x.toInt = a := lv_neT h hk
